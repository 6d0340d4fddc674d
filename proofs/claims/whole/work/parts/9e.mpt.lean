/-! ===== the model: a script, what stands behind a word ===== -/
def nuK (T : Nat → Int32) (n kd p : Nat) : Bool := q_nu T n (decide (kd = 2)) (q_sp T n p)
abbrev rgK (T : Nat → Int32) (n kd : Nat) (w0 : Int32) (p : Nat) : Prop := q_v T n (q_sp T n p) < q_lo kd w0 ∨ q_hi kd < q_v T n (q_sp T n p)
def xvK (T : Nat → Int32) (n p : Nat) : Int32 := Int32.ofInt (q_v T n (q_sp T n p))
def peK (T : Nat → Int32) (n p : Nat) : Nat := q_e T n (q_sp T n p)
/-- what a part of a statement does: R says what was read, C what is called then -/
def PTs (R : Nat × Nat × Nat × (Nat → Int32)) (v v1 : Nat → Int32) (S1 : am_S) (A C : am_R) : Prop := VK v v1 ∧ (R.1 ≠ 0 → (∃ z, A = some (.inl (some (.int z)), S1)) ∧ v1 12 = nI R.1 ∧ v1 13 = nI R.2.1) ∧ (R.1 = 0 → v1 12 = 0 ∧ v1 10 = nI R.2.1 ∧ A = C)
theorem q_sp_id {T : Nat → Int32} {n p : Nat} (hp : p ≤ n) : q_sp T n (q_sp T n p) = q_sp T n p := by
  have h1 := q_sp_le (T := T) hp
  unfold q_sp at *
  refine fi_is (Nat.le_refl _) (by omega) (fun j a b => absurd b (Nat.not_lt.mpr a)) fun hlt => ?_
  exact fi_yes (fun j => !decide (T j = 32)) (n - p) p (by omega)
theorem nuK_f {T : Nat → Int32} {n kd p : Nat} (h : kd ≠ 2) : nuK T n kd p = dgB (byt T n (q_sp T n p)) := by
  unfold nuK q_nu
  rw [decide_eq_false h, Bool.false_and, Bool.or_false]
theorem peK_le {T : Nat → Int32} {n p : Nat} (hp : p ≤ n) : p ≤ peK T n p ∧ peK T n p ≤ n := by
  have h1 := q_sp_le (T := T) hp
  have h2 := q_e_le (T := T) (n := n) (i := q_sp T n p) h1.2
  unfold peK
  omega
section Pt
variable {s s' : am_S} {B m i j n p q e b c kd : Nat} {v v' : Nat → Int32} {F F' : mrT} {T : Nat → Int32} {x y lo hi w0 : Int32} {l : List Int32} {W : Nat → Int32}
theorem xvK_sp (hp : p ≤ n) : xvK T n (q_sp T n p) = xvK T n p := by
  unfold xvK
  rw [q_sp_id hp]
theorem peK_sp (hp : p ≤ n) : peK T n (q_sp T n p) = peK T n p := by
  unfold peK
  rw [q_sp_id hp]
theorem rgK_sp (hp : p ≤ n) : rgK T n kd w0 (q_sp T n p) = rgK T n kd w0 p := by
  unfold rgK
  rw [q_sp_id hp]
theorem lo_b (h : kd ≠ 6) : -1000000 ≤ q_lo kd w0 ∧ q_lo kd w0 ≤ 1000000 := by
  unfold q_lo
  repeat' split
  all_goals omega
theorem q_rn_s {kk : Nat → Nat} {nd k : Nat} : q_rn T n kk nd (k + 1) i p W = if kk i = 0 then (0, p, i, W) else if ¬ nuK T n (kk i) p = true then (if nd ≤ i then (0, q_sp T n p, i, W) else (1, q_sp T n p, i, W)) else if rgK T n (kk i) (if 0 < i then W 0 else 0) p then (2, q_sp T n p, i, W) else q_rn T n kk nd k (i + 1) (peK T n p) (upd W i (xvK T n p)) := rfl
theorem mk_numK (hC : CT F T n) (hB : B ≤ m) (h9 : v 9 = nI n) (h10 : v 10 = nI p) (hp : p ≤ n) (h12 : v 12 = 0) (hlo : lo.toInt = q_lo kd w0) (hhi : hi.toInt = q_hi kd) (hb : -1000000 ≤ q_lo kd w0 ∧ q_lo kd w0 ≤ 1000000) (hng : decide (kd = 2) = decide (lo < 0)) : ∃ v' x, cl_ tb_ct tb_mt B K_X13_number [.ref m, .int lo, .int hi] (moS s m v F) = some (.inl (some (.int x)), moS s m v' F) ∧ VK v v' ∧ (nuK T n kd p = false → v' 12 = nI 1 ∧ v' 13 = nI (q_sp T n p)) ∧ (nuK T n kd p = true → rgK T n kd w0 p → v' 12 = nI 2 ∧ v' 13 = nI (q_sp T n p)) ∧ (nuK T n kd p = true → ¬ rgK T n kd w0 p → x = xvK T n p ∧ v' 12 = 0 ∧ v' 10 = nI (peK T n p)) := by
  have hh : -1000000 ≤ q_hi kd ∧ q_hi kd ≤ 1000000 := by
    unfold q_hi
    repeat' split
    all_goals omega
  obtain ⟨v', x, a1, a2, a3, a4, a5⟩ := mk_number (s := s) (lo := lo) (hi := hi) hC hB h9 h10 hp h12 (by omega) (by omega) (by omega) (by omega) hng
  rw [hlo, hhi] at a4 a5
  exact ⟨v', x, a1, a2, fun h => a3 (by rw [show q_nu T n (decide (kd = 2)) (q_sp T n p) = false from h]; exact Bool.false_ne_true), fun h => a4 h, fun h => a5 h⟩
/-- a number of a kind that may be there -/
theorem mk_toldK (hC : CT F T n) (hB : B ≤ m) (h9 : v 9 = nI n) (h10 : v 10 = nI p) (hp : p ≤ n) (h12 : v 12 = 0) : ∃ v' x, cl_ tb_ct tb_mt B K_X13_told [.ref m, .int 0, .int 9999] (moS s m v F) = some (.inl (some (.int x)), moS s m v' F) ∧ VK v v' ∧ (nuK T n 5 p = false → x = 0 ∧ v' 12 = 0 ∧ v' 10 = nI (q_sp T n p)) ∧ (nuK T n 5 p = true → rgK T n 5 w0 p → v' 12 = nI 2 ∧ v' 13 = nI (q_sp T n p)) ∧ (nuK T n 5 p = true → ¬ rgK T n 5 w0 p → x = xvK T n p ∧ v' 12 = 0 ∧ v' 10 = nI (peK T n p)) := by
  obtain ⟨v1, a1, a2, a3, a4⟩ := mk_isNumber (s := s) hC hB h9 h10 hp h12
  have hq := q_sp_le (T := T) hp
  have ei := q_sp_id (T := T) hp
  rw [nuK_f (by omega), in_X13_told, dc_X13_told_0, mo_cs, eC_s, a1, cI_s, if_b]
  cases hd : dgB (byt T n (q_sp T n p)) with
  | false => exact ⟨v1, 0, rfl, a4, fun _ => ⟨rfl, a3, a2⟩, fun h => absurd h Bool.false_ne_true, fun h => absurd h Bool.false_ne_true⟩
  | true =>
    obtain ⟨v2, x, b1, b2, b3, b4, b5⟩ := mk_numK (s := s) (kd := 5) (w0 := w0) (lo := 0) (hi := 9999) hC hB ((a4 9 (by omega)).trans h9) a2 hq.2 a3 rfl rfl (lo_b (by omega)) rfl
    unfold rgK at b4
    unfold rgK xvK peK at b5
    rw [nuK_f (by omega), ei] at b4 b5
    refine ⟨v2, x, ?_, a4.tr b2, fun h => absurd h (by decide), fun _ h => b4 hd h, fun _ h => b5 hd h⟩
    rw [if_pos rfl, mo_cs, eC_s, b1, cI_s]
theorem err_ne {k : Nat} (h : k = 1 ∨ k = 2) : nI k ≠ 0 := by
  rcases h with rfl | rfl
  · decide
  · decide
/-- what is called with what was read -/
noncomputable abbrev CL1 (B : Nat) (K : Nat) (as : List Value) (S : am_S) : am_R := cI (cl_ tb_ct tb_mt B K as S) (fun x_1 s_1 => some (.inl (some (.int x_1)), s_1)) xo
theorem put_s0 : q_rn T n (vb_k 0) 2 3 0 p W = if ¬ nuK T n 1 p = true then (1, q_sp T n p, 0, W) else if rgK T n 1 0 p then (2, q_sp T n p, 0, W) else q_rn T n (vb_k 0) 2 2 1 (peK T n p) (upd W 0 (xvK T n p)) := rfl
theorem put_s1 : q_rn T n (vb_k 0) 2 2 1 p W = if ¬ nuK T n 2 p = true then (1, q_sp T n p, 1, W) else if rgK T n 2 (W 0) p then (2, q_sp T n p, 1, W) else q_rn T n (vb_k 0) 2 1 2 (peK T n p) (upd W 1 (xvK T n p)) := rfl
theorem put_s2 : q_rn T n (vb_k 0) 2 1 2 p W = if ¬ nuK T n 5 p = true then (0, q_sp T n p, 2, W) else if rgK T n 5 (W 0) p then (2, q_sp T n p, 2, W) else (0, peK T n p, 3, upd W 2 (xvK T n p)) := rfl
theorem wat_s0 : q_rn T n (vb_k 5) 2 3 0 p W = if ¬ nuK T n 1 p = true then (1, q_sp T n p, 0, W) else if rgK T n 1 0 p then (2, q_sp T n p, 0, W) else q_rn T n (vb_k 5) 2 2 1 (peK T n p) (upd W 0 (xvK T n p)) := rfl
theorem wat_s1 : q_rn T n (vb_k 5) 2 2 1 p W = if ¬ nuK T n 6 p = true then (1, q_sp T n p, 1, W) else if rgK T n 6 (W 0) p then (2, q_sp T n p, 1, W) else q_rn T n (vb_k 5) 2 1 2 (peK T n p) (upd W 1 (xvK T n p)) := rfl
theorem wat_s2 : q_rn T n (vb_k 5) 2 1 2 p W = if ¬ nuK T n 5 p = true then (0, q_sp T n p, 2, W) else if rgK T n 5 (W 0) p then (2, q_sp T n p, 2, W) else (0, peK T n p, 3, upd W 2 (xvK T n p)) := rfl
theorem att_s0 : q_rn T n (vb_k 9) 2 3 0 p W = if ¬ nuK T n 1 p = true then (1, q_sp T n p, 0, W) else if rgK T n 1 0 p then (2, q_sp T n p, 0, W) else q_rn T n (vb_k 9) 2 2 1 (peK T n p) (upd W 0 (xvK T n p)) := rfl
theorem att_s1 : q_rn T n (vb_k 9) 2 2 1 p W = if ¬ nuK T n 5 p = true then (1, q_sp T n p, 1, W) else if rgK T n 5 (W 0) p then (2, q_sp T n p, 1, W) else (0, peK T n p, 2, upd W 1 (xvK T n p)) := rfl
theorem del_s0 : q_rn T n (vb_k 1) 1 3 0 p W = if ¬ nuK T n 1 p = true then (1, q_sp T n p, 0, W) else if rgK T n 1 0 p then (2, q_sp T n p, 0, W) else q_rn T n (vb_k 1) 1 2 1 (peK T n p) (upd W 0 (xvK T n p)) := rfl
theorem del_s1 : q_rn T n (vb_k 1) 1 2 1 p W = if ¬ nuK T n 6 p = true then (0, q_sp T n p, 1, W) else if rgK T n 6 (W 0) p then (2, q_sp T n p, 1, W) else (0, peK T n p, 2, upd W 1 (xvK T n p)) := rfl
theorem key_0 : q_lo 1 w0 = 0 ∧ q_hi 1 = 999 := ⟨rfl, rfl⟩
theorem key_x (h : ¬ rgK T n 1 w0 p) : (xvK T n p).toInt = q_v T n (q_sp T n p) ∧ 0 ≤ q_v T n (q_sp T n p) ∧ q_v T n (q_sp T n p) ≤ 999 := by
  have h0 : ¬ (q_v T n (q_sp T n p) < 0 ∨ 999 < q_v T n (q_sp T n p)) := h
  have h1 : 0 ≤ q_v T n (q_sp T n p) := by omega
  have h2 : q_v T n (q_sp T n p) ≤ 999 := by omega
  exact ⟨oI_toInt (by omega) (by omega), h1, h2⟩
theorem mk_putPart (hC : CT F T n) (hB : B ≤ m) (h9 : v 9 = nI n) (h10 : v 10 = nI p) (hp : p ≤ n) (h12 : v 12 = 0) {R : Nat × Nat × Nat × (Nat → Int32)} (hR : R = q_rn T n (vb_k 0) 2 3 0 p fun _ => 0) : ∃ v1, PTs R v v1 (moS s m v1 F) (cl_ tb_ct tb_mt B K_X13_putPart [.ref m] (moS s m v F)) (CL1 B K_X13_put [.ref m, .int (nm R.2.2.1 R.2.2.2 0), .int (nm R.2.2.1 R.2.2.2 1), .int (nm R.2.2.1 R.2.2.2 2)] (moS s m v1 F)) := by
  subst hR
  obtain ⟨v1, x1, a1, a2, a3, a4, a5⟩ := mk_numK (s := s) (kd := 1) (w0 := 0) (lo := 0) (hi := 999) hC hB h9 h10 hp h12 rfl rfl (lo_b (by omega)) rfl
  have p1 := peK_le (T := T) hp
  have err1 : v1 12 ≠ 0 → cl_ tb_ct tb_mt B K_X13_putPart [.ref m] (moS s m v F) = some (.inl (some (.int 0)), moS s m v1 F) := by
    intro e12
    rw [in_X13_putPart, dc_X13_putPart_0, mo_cs, eC_s, a1, cI_s, mo_cs, eC_s, mk_number_err e12, cI_s, mo_cs, eC_s, mk_told_err e12, cI_s, mo_12s, eI_s, if_neg e12]
  rw [put_s0]
  cases n1 : nuK T n 1 p with
  | false =>
    obtain ⟨b1, b2⟩ := a3 n1
    rw [if_pos Bool.false_ne_true]
    exact ⟨v1, a2, fun _ => ⟨⟨0, err1 (by rw [b1]; exact err_ne (Or.inl rfl))⟩, b1, b2⟩, fun h => absurd h (by decide : (1 : Nat) ≠ 0)⟩
  | true =>
    rw [if_neg (fun h => h rfl)]
    by_cases g1 : rgK T n 1 0 p
    · obtain ⟨b1, b2⟩ := a4 n1 g1
      rw [if_pos g1]
      exact ⟨v1, a2, fun _ => ⟨⟨0, err1 (by rw [b1]; exact err_ne (Or.inr rfl))⟩, b1, b2⟩, fun h => absurd h (by decide : (2 : Nat) ≠ 0)⟩
    · obtain ⟨rfl, b2, b3⟩ := a5 n1 g1
      rw [if_neg g1]
      obtain ⟨v2, x2, c1, c2, c3, c4, c5⟩ := mk_numK (s := s) (kd := 2) (w0 := (upd (fun _ => (0 : Int32)) 0 (xvK T n p)) 0) (lo := -(1000000 : Int32)) (hi := 1000000) hC hB ((a2 9 (by omega)).trans h9) b3 p1.2 b2 rfl rfl (lo_b (by omega)) rfl
      have p2 := peK_le (T := T) p1.2
      have err2 : v2 12 ≠ 0 → cl_ tb_ct tb_mt B K_X13_putPart [.ref m] (moS s m v F) = some (.inl (some (.int 0)), moS s m v2 F) := by
        intro e12
        rw [in_X13_putPart, dc_X13_putPart_0, mo_cs, eC_s, a1, cI_s, mo_cs, eC_s, c1, cI_s, mo_cs, eC_s, mk_told_err e12, cI_s, mo_12s, eI_s, if_neg e12]
      rw [put_s1]
      cases n2 : nuK T n 2 (peK T n p) with
      | false =>
        obtain ⟨d1, d2⟩ := c3 n2
        rw [if_pos Bool.false_ne_true]
        exact ⟨v2, a2.tr c2, fun _ => ⟨⟨0, err2 (by rw [d1]; exact err_ne (Or.inl rfl))⟩, d1, d2⟩, fun h => absurd h (by decide : (1 : Nat) ≠ 0)⟩
      | true =>
        rw [if_neg (fun h => h rfl)]
        by_cases g2 : rgK T n 2 ((upd (fun _ => (0 : Int32)) 0 (xvK T n p)) 0) (peK T n p)
        · obtain ⟨d1, d2⟩ := c4 n2 g2
          rw [if_pos g2]
          exact ⟨v2, a2.tr c2, fun _ => ⟨⟨0, err2 (by rw [d1]; exact err_ne (Or.inr rfl))⟩, d1, d2⟩, fun h => absurd h (by decide : (2 : Nat) ≠ 0)⟩
        · obtain ⟨rfl, d2, d3⟩ := c5 n2 g2
          rw [if_neg g2]
          obtain ⟨v3, x3, e1, e2, e3, e4, e5⟩ := mk_toldK (s := s) (w0 := (upd (upd (fun _ => (0 : Int32)) 0 (xvK T n p)) 1 (xvK T n (peK T n p))) 0) hC hB ((c2 9 (by omega)).trans ((a2 9 (by omega)).trans h9)) d3 p2.2 d2
          have run : cl_ tb_ct tb_mt B K_X13_putPart [.ref m] (moS s m v F) = if v3 12 = 0 then CL1 B K_X13_put [.ref m, .int (xvK T n p), .int (xvK T n (peK T n p)), .int x3] (moS s m v3 F) else some (.inl (some (.int 0)), moS s m v3 F) := by
            rw [in_X13_putPart, dc_X13_putPart_0, mo_cs, eC_s, a1, cI_s, mo_cs, eC_s, c1, cI_s, mo_cs, eC_s, e1, cI_s, mo_12s, eI_s, mo_cs, eC_s]
          rw [put_s2]
          cases n3 : nuK T n 5 (peK T n (peK T n p)) with
          | false =>
            obtain ⟨rfl, f2, f3⟩ := e3 n3
            rw [if_pos Bool.false_ne_true]
            refine ⟨v3, (a2.tr c2).tr e2, fun h => absurd rfl h, fun _ => ⟨f2, f3, ?_⟩⟩
            rw [run, if_pos f2]
            rfl
          | true =>
            rw [if_neg (fun h => h rfl)]
            by_cases g3 : rgK T n 5 ((upd (upd (fun _ => (0 : Int32)) 0 (xvK T n p)) 1 (xvK T n (peK T n p))) 0) (peK T n (peK T n p))
            · obtain ⟨f1, f2⟩ := e4 n3 g3
              rw [if_pos g3]
              refine ⟨v3, (a2.tr c2).tr e2, fun _ => ⟨⟨0, ?_⟩, f1, f2⟩, fun h => absurd h (by decide : (2 : Nat) ≠ 0)⟩
              rw [run, if_neg (by rw [f1]; exact err_ne (Or.inr rfl))]
            · obtain ⟨rfl, f2, f3⟩ := e5 n3 g3
              rw [if_neg g3]
              refine ⟨v3, (a2.tr c2).tr e2, fun h => absurd rfl h, fun _ => ⟨f2, f3, ?_⟩⟩
              rw [run, if_pos f2]
              rfl
theorem mk_watchPart (hC : CT F T n) (hB : B ≤ m) (h9 : v 9 = nI n) (h10 : v 10 = nI p) (hp : p ≤ n) (h12 : v 12 = 0) {R : Nat × Nat × Nat × (Nat → Int32)} (hR : R = q_rn T n (vb_k 5) 2 3 0 p fun _ => 0) : ∃ v1, PTs R v v1 (moS s m v1 F) (cl_ tb_ct tb_mt B K_X13_watchPart [.ref m] (moS s m v F)) (CL1 B K_X13_watch [.ref m, .int (nm R.2.2.1 R.2.2.2 0), .int (nm R.2.2.1 R.2.2.2 1), .int (nm R.2.2.1 R.2.2.2 2), .int 0] (moS s m v1 F)) := by
  subst hR
  obtain ⟨v1, x1, a1, a2, a3, a4, a5⟩ := mk_numK (s := s) (kd := 1) (w0 := 0) (lo := 0) (hi := 999) hC hB h9 h10 hp h12 rfl rfl (lo_b (by omega)) rfl
  have p1 := peK_le (T := T) hp
  have err1 : v1 12 ≠ 0 → cl_ tb_ct tb_mt B K_X13_watchPart [.ref m] (moS s m v F) = some (.inl (some (.int 0)), moS s m v1 F) := by
    intro e12
    rw [in_X13_watchPart, dc_X13_watchPart_0, mo_cs, eC_s, a1, cI_s, mo_cs, eC_s, mk_number_err e12, cI_s, mo_cs, eC_s, mk_told_err e12, cI_s, mo_12s, eI_s, if_neg e12]
  rw [wat_s0]
  cases n1 : nuK T n 1 p with
  | false =>
    obtain ⟨b1, b2⟩ := a3 n1
    rw [if_pos Bool.false_ne_true]
    exact ⟨v1, a2, fun _ => ⟨⟨0, err1 (by rw [b1]; exact err_ne (Or.inl rfl))⟩, b1, b2⟩, fun h => absurd h (by decide : (1 : Nat) ≠ 0)⟩
  | true =>
    rw [if_neg (fun h => h rfl)]
    by_cases g1 : rgK T n 1 0 p
    · obtain ⟨b1, b2⟩ := a4 n1 g1
      rw [if_pos g1]
      exact ⟨v1, a2, fun _ => ⟨⟨0, err1 (by rw [b1]; exact err_ne (Or.inr rfl))⟩, b1, b2⟩, fun h => absurd h (by decide : (2 : Nat) ≠ 0)⟩
    · obtain ⟨rfl, b2, b3⟩ := a5 n1 g1
      obtain ⟨k1, k2, k3⟩ := key_x g1
      rw [if_neg g1]
      obtain ⟨v2, x2, c1, c2, c3, c4, c5⟩ := mk_numK (s := s) (kd := 6) (w0 := (upd (fun _ => (0 : Int32)) 0 (xvK T n p)) 0) (lo := xvK T n p) (hi := 999) hC hB ((a2 9 (by omega)).trans h9) b3 p1.2 b2 rfl rfl (show -1000000 ≤ (xvK T n p).toInt ∧ (xvK T n p).toInt ≤ 1000000 by omega) (by
        rw [decide_eq_false (show ¬ xvK T n p < 0 from fun h => by
          have : (xvK T n p).toInt < 0 := Int32.lt_iff_toInt_lt.mp h
          omega)]
        rfl)
      have p2 := peK_le (T := T) p1.2
      have err2 : v2 12 ≠ 0 → cl_ tb_ct tb_mt B K_X13_watchPart [.ref m] (moS s m v F) = some (.inl (some (.int 0)), moS s m v2 F) := by
        intro e12
        rw [in_X13_watchPart, dc_X13_watchPart_0, mo_cs, eC_s, a1, cI_s, mo_cs, eC_s, c1, cI_s, mo_cs, eC_s, mk_told_err e12, cI_s, mo_12s, eI_s, if_neg e12]
      rw [wat_s1]
      cases n2 : nuK T n 6 (peK T n p) with
      | false =>
        obtain ⟨d1, d2⟩ := c3 n2
        rw [if_pos Bool.false_ne_true]
        exact ⟨v2, a2.tr c2, fun _ => ⟨⟨0, err2 (by rw [d1]; exact err_ne (Or.inl rfl))⟩, d1, d2⟩, fun h => absurd h (by decide : (1 : Nat) ≠ 0)⟩
      | true =>
        rw [if_neg (fun h => h rfl)]
        by_cases g2 : rgK T n 6 ((upd (fun _ => (0 : Int32)) 0 (xvK T n p)) 0) (peK T n p)
        · obtain ⟨d1, d2⟩ := c4 n2 g2
          rw [if_pos g2]
          exact ⟨v2, a2.tr c2, fun _ => ⟨⟨0, err2 (by rw [d1]; exact err_ne (Or.inr rfl))⟩, d1, d2⟩, fun h => absurd h (by decide : (2 : Nat) ≠ 0)⟩
        · obtain ⟨rfl, d2, d3⟩ := c5 n2 g2
          rw [if_neg g2]
          obtain ⟨v3, x3, e1, e2, e3, e4, e5⟩ := mk_toldK (s := s) (w0 := (upd (upd (fun _ => (0 : Int32)) 0 (xvK T n p)) 1 (xvK T n (peK T n p))) 0) hC hB ((c2 9 (by omega)).trans ((a2 9 (by omega)).trans h9)) d3 p2.2 d2
          have run : cl_ tb_ct tb_mt B K_X13_watchPart [.ref m] (moS s m v F) = if v3 12 = 0 then CL1 B K_X13_watch [.ref m, .int (xvK T n p), .int (xvK T n (peK T n p)), .int x3, .int 0] (moS s m v3 F) else some (.inl (some (.int 0)), moS s m v3 F) := by
            rw [in_X13_watchPart, dc_X13_watchPart_0, mo_cs, eC_s, a1, cI_s, mo_cs, eC_s, c1, cI_s, mo_cs, eC_s, e1, cI_s, mo_12s, eI_s, mo_cs, eC_s]
          rw [wat_s2]
          cases n3 : nuK T n 5 (peK T n (peK T n p)) with
          | false =>
            obtain ⟨rfl, f2, f3⟩ := e3 n3
            rw [if_pos Bool.false_ne_true]
            refine ⟨v3, (a2.tr c2).tr e2, fun h => absurd rfl h, fun _ => ⟨f2, f3, ?_⟩⟩
            rw [run, if_pos f2]
            rfl
          | true =>
            rw [if_neg (fun h => h rfl)]
            by_cases g3 : rgK T n 5 ((upd (upd (fun _ => (0 : Int32)) 0 (xvK T n p)) 1 (xvK T n (peK T n p))) 0) (peK T n (peK T n p))
            · obtain ⟨f1, f2⟩ := e4 n3 g3
              rw [if_pos g3]
              refine ⟨v3, (a2.tr c2).tr e2, fun _ => ⟨⟨0, ?_⟩, f1, f2⟩, fun h => absurd h (by decide : (2 : Nat) ≠ 0)⟩
              rw [run, if_neg (by rw [f1]; exact err_ne (Or.inr rfl))]
            · obtain ⟨rfl, f2, f3⟩ := e5 n3 g3
              rw [if_neg g3]
              refine ⟨v3, (a2.tr c2).tr e2, fun h => absurd rfl h, fun _ => ⟨f2, f3, ?_⟩⟩
              rw [run, if_pos f2]
              rfl
theorem mk_attachPart (hC : CT F T n) (hB : B ≤ m) (h9 : v 9 = nI n) (h10 : v 10 = nI p) (hp : p ≤ n) (h12 : v 12 = 0) {R : Nat × Nat × Nat × (Nat → Int32)} (hR : R = q_rn T n (vb_k 9) 2 3 0 p fun _ => 0) : ∃ v1, PTs R v v1 (moS s m v1 F) (cl_ tb_ct tb_mt B K_X13_attachPart [.ref m] (moS s m v F)) (cI (cl_ tb_ct tb_mt B K_X13_attach [.ref m, .int (nm R.2.2.1 R.2.2.2 0), .int (nm R.2.2.1 R.2.2.2 1)] (moS s m v1 F)) (fun x_1 s_1 => some (.inl (some (.int (if x_1 = -1 then -2 else x_1))), s_1)) xo) := by
  subst hR
  obtain ⟨v1, x1, a1, a2, a3, a4, a5⟩ := mk_numK (s := s) (kd := 1) (w0 := 0) (lo := 0) (hi := 999) hC hB h9 h10 hp h12 rfl rfl (lo_b (by omega)) rfl
  have p1 := peK_le (T := T) hp
  have e35 : ∀ w0 w1 w2 (z : Int32) (S : am_S), rn_ tb_ct tb_mt B mm_X13_attachPart 35 [w0, w1, w2, am_un] [.int z] S = some (.inl (some (.int (if z = -1 then -2 else z))), S) := by
    intro w0 w1 w2 z S
    rw [dc_X13_attachPart_35]
    by_cases c : z = -(1 : Int32)
    · rw [if_pos c, if_pos c]
    · rw [if_neg c, if_neg c]
  have err1 : v1 12 ≠ 0 → cl_ tb_ct tb_mt B K_X13_attachPart [.ref m] (moS s m v F) = some (.inl (some (.int 0)), moS s m v1 F) := by
    intro e12
    rw [in_X13_attachPart, dc_X13_attachPart_0, mo_cs, eC_s, a1, cI_s, mo_cs, eC_s, mk_number_err e12, cI_s, mo_12s, eI_s, if_neg e12, e35]
    rfl
  rw [att_s0]
  cases n1 : nuK T n 1 p with
  | false =>
    obtain ⟨b1, b2⟩ := a3 n1
    rw [if_pos Bool.false_ne_true]
    exact ⟨v1, a2, fun _ => ⟨⟨0, err1 (by rw [b1]; exact err_ne (Or.inl rfl))⟩, b1, b2⟩, fun h => absurd h (by decide : (1 : Nat) ≠ 0)⟩
  | true =>
    rw [if_neg (fun h => h rfl)]
    by_cases g1 : rgK T n 1 0 p
    · obtain ⟨b1, b2⟩ := a4 n1 g1
      rw [if_pos g1]
      exact ⟨v1, a2, fun _ => ⟨⟨0, err1 (by rw [b1]; exact err_ne (Or.inr rfl))⟩, b1, b2⟩, fun h => absurd h (by decide : (2 : Nat) ≠ 0)⟩
    · obtain ⟨rfl, b2, b3⟩ := a5 n1 g1
      rw [if_neg g1]
      obtain ⟨v2, x2, c1, c2, c3, c4, c5⟩ := mk_numK (s := s) (kd := 5) (w0 := (upd (fun _ => (0 : Int32)) 0 (xvK T n p)) 0) (lo := 0) (hi := 9999) hC hB ((a2 9 (by omega)).trans h9) b3 p1.2 b2 rfl rfl (lo_b (by omega)) rfl
      have run : cl_ tb_ct tb_mt B K_X13_attachPart [.ref m] (moS s m v F) = if v2 12 = 0 then cI (cl_ tb_ct tb_mt B K_X13_attach [.ref m, .int (xvK T n p), .int x2] (moS s m v2 F)) (fun x_1 s_1 => some (.inl (some (.int (if x_1 = -1 then -2 else x_1))), s_1)) xo else some (.inl (some (.int 0)), moS s m v2 F) := by
        rw [in_X13_attachPart, dc_X13_attachPart_0, mo_cs, eC_s, a1, cI_s, mo_cs, eC_s, c1, cI_s, mo_12s, eI_s, mo_cs, eC_s]
        simp only [e35]
        rfl
      rw [att_s1]
      cases n2 : nuK T n 5 (peK T n p) with
      | false =>
        obtain ⟨d1, d2⟩ := c3 n2
        rw [if_pos Bool.false_ne_true]
        refine ⟨v2, a2.tr c2, fun _ => ⟨⟨0, ?_⟩, d1, d2⟩, fun h => absurd h (by decide : (1 : Nat) ≠ 0)⟩
        rw [run, if_neg (by rw [d1]; exact err_ne (Or.inl rfl))]
      | true =>
        rw [if_neg (fun h => h rfl)]
        by_cases g2 : rgK T n 5 ((upd (fun _ => (0 : Int32)) 0 (xvK T n p)) 0) (peK T n p)
        · obtain ⟨d1, d2⟩ := c4 n2 g2
          rw [if_pos g2]
          refine ⟨v2, a2.tr c2, fun _ => ⟨⟨0, ?_⟩, d1, d2⟩, fun h => absurd h (by decide : (2 : Nat) ≠ 0)⟩
          rw [run, if_neg (by rw [d1]; exact err_ne (Or.inr rfl))]
        · obtain ⟨rfl, d2, d3⟩ := c5 n2 g2
          rw [if_neg g2]
          refine ⟨v2, a2.tr c2, fun h => absurd rfl h, fun _ => ⟨d2, d3, ?_⟩⟩
          rw [run, if_pos d2]
          rfl
theorem mk_deletePart (hC : CT F T n) (hB : B ≤ m) (h9 : v 9 = nI n) (h10 : v 10 = nI p) (hp : p ≤ n) (h12 : v 12 = 0) {R : Nat × Nat × Nat × (Nat → Int32)} (hR : R = q_rn T n (vb_k 1) 1 3 0 p fun _ => 0) : ∃ v1, PTs R v v1 (moS s m v1 F) (cl_ tb_ct tb_mt B K_X13_deletePart [.ref m] (moS s m v F)) (CL1 B K_X13_delete [.ref m, .int (nm R.2.2.1 R.2.2.2 0), .int (q_to R.2.2.1 R.2.2.2)] (moS s m v1 F)) := by
  subst hR
  obtain ⟨v1, x1, a1, a2, a3, a4, a5⟩ := mk_numK (s := s) (kd := 1) (w0 := 0) (lo := 0) (hi := 999) hC hB h9 h10 hp h12 rfl rfl (lo_b (by omega)) rfl
  have p1 := peK_le (T := T) hp
  have err1 : v1 12 ≠ 0 → cl_ tb_ct tb_mt B K_X13_deletePart [.ref m] (moS s m v F) = some (.inl (some (.int 0)), moS s m v1 F) := by
    intro e12
    rw [in_X13_deletePart, dc_X13_deletePart_0, mo_cs, eC_s, a1, cI_s, mo_cs, eC_s, mk_isNumber_err e12, cI_s, if_pos rfl, dc_X13_deletePart_28, mo_12s, eI_s, if_neg e12]
  rw [del_s0]
  cases n1 : nuK T n 1 p with
  | false =>
    obtain ⟨b1, b2⟩ := a3 n1
    rw [if_pos Bool.false_ne_true]
    exact ⟨v1, a2, fun _ => ⟨⟨0, err1 (by rw [b1]; exact err_ne (Or.inl rfl))⟩, b1, b2⟩, fun h => absurd h (by decide : (1 : Nat) ≠ 0)⟩
  | true =>
    rw [if_neg (fun h => h rfl)]
    by_cases g1 : rgK T n 1 0 p
    · obtain ⟨b1, b2⟩ := a4 n1 g1
      rw [if_pos g1]
      exact ⟨v1, a2, fun _ => ⟨⟨0, err1 (by rw [b1]; exact err_ne (Or.inr rfl))⟩, b1, b2⟩, fun h => absurd h (by decide : (2 : Nat) ≠ 0)⟩
    · obtain ⟨rfl, b2, b3⟩ := a5 n1 g1
      obtain ⟨k1, k2, k3⟩ := key_x g1
      rw [if_neg g1]
      obtain ⟨v2, c1, c2, c3, c4⟩ := mk_isNumber (s := s) hC hB ((a2 9 (by omega)).trans h9) b3 p1.2 b2
      have hq := q_sp_le (T := T) p1.2
      have ei := q_sp_id (T := T) p1.2
      have run0 : cl_ tb_ct tb_mt B K_X13_deletePart [.ref m] (moS s m v F) = (if dgB (byt T n (q_sp T n (peK T n p))) = true then eC (am_cls (moS s m v2 F) m) 11 (cI (cl_ tb_ct tb_mt B K_X13_number [.ref m, .int (xvK T n p), .int 999] (moS s m v2 F)) (fun x_6 s_5 => rn_ tb_ct tb_mt B mm_X13_deletePart 28 [.ref m, .int (xvK T n p), am_un] [.int x_6] s_5) xo) else rn_ tb_ct tb_mt B mm_X13_deletePart 28 [.ref m, .int (xvK T n p), am_un] [.int (xvK T n p)] (moS s m v2 F)) := by
        rw [in_X13_deletePart, dc_X13_deletePart_0, mo_cs, eC_s, a1, cI_s, mo_cs, eC_s, c1, cI_s, if_b]
      rw [del_s1, run0, ← nuK_f (kd := 6) (by omega)]
      cases n2 : nuK T n 6 (peK T n p) with
      | false =>
        rw [if_pos Bool.false_ne_true, if_neg Bool.false_ne_true]
        refine ⟨v2, a2.tr c4, fun h => absurd rfl h, fun _ => ⟨c3, c2, ?_⟩⟩
        rw [dc_X13_deletePart_28, mo_12s, eI_s, if_pos c3, mo_cs, eC_s]
        rfl
      | true =>
        rw [if_neg (fun h => h rfl), if_pos rfl]
        obtain ⟨v3, x3, e1, e2, e3, e4, e5⟩ := mk_numK (s := s) (kd := 6) (w0 := (upd (fun _ => (0 : Int32)) 0 (xvK T n p)) 0) (lo := xvK T n p) (hi := 999) hC hB ((c4 9 (by omega)).trans ((a2 9 (by omega)).trans h9)) c2 hq.2 c3 rfl rfl (show -1000000 ≤ (xvK T n p).toInt ∧ (xvK T n p).toInt ≤ 1000000 by omega) (by
          rw [decide_eq_false (show ¬ xvK T n p < 0 from fun h => by
            have : (xvK T n p).toInt < 0 := Int32.lt_iff_toInt_lt.mp h
            omega)]
          rfl)
        have n2' : nuK T n 6 (q_sp T n (peK T n p)) = true := by
          unfold nuK at n2 ⊢
          rw [ei]
          exact n2
        rw [rgK_sp p1.2, ei] at e4
        rw [rgK_sp p1.2, xvK_sp p1.2, peK_sp p1.2] at e5
        have run : eC (am_cls (moS s m v2 F) m) 11 (cI (cl_ tb_ct tb_mt B K_X13_number [.ref m, .int (xvK T n p), .int 999] (moS s m v2 F)) (fun x_6 s_5 => rn_ tb_ct tb_mt B mm_X13_deletePart 28 [.ref m, .int (xvK T n p), am_un] [.int x_6] s_5) xo) = if v3 12 = 0 then CL1 B K_X13_delete [.ref m, .int (xvK T n p), .int x3] (moS s m v3 F) else some (.inl (some (.int 0)), moS s m v3 F) := by
          rw [mo_cs, eC_s, e1, cI_s, dc_X13_deletePart_28, mo_12s, eI_s, mo_cs, eC_s]
        rw [run]
        by_cases g2 : rgK T n 6 ((upd (fun _ => (0 : Int32)) 0 (xvK T n p)) 0) (peK T n p)
        · obtain ⟨f1, f2⟩ := e4 n2' g2
          rw [if_pos g2]
          refine ⟨v3, (a2.tr c4).tr e2, fun _ => ⟨⟨0, ?_⟩, f1, f2⟩, fun h => absurd h (by decide : (2 : Nat) ≠ 0)⟩
          rw [if_neg (by rw [f1]; exact err_ne (Or.inr rfl))]
        · obtain ⟨f1, f2, f3⟩ := e5 n2' g2
          rw [if_neg g2]
          refine ⟨v3, (a2.tr c4).tr e2, fun h => absurd rfl h, fun _ => ⟨f2, f3, ?_⟩⟩
          rw [if_pos f2, f1]
          rfl
/-- a statement of one number -/
theorem mk_one {vb : Nat} (hC : CT F T n) (hB : B ≤ m) (h9 : v 9 = nI n) (h10 : v 10 = nI p) (hp : p ≤ n) (h12 : v 12 = 0) (hk : vb_k vb 0 = kd) (k0 : kd ≠ 0) (k2 : kd ≠ 2) (hk1 : vb_k vb 1 = 0) (hn1 : vb_n vb = 1) (hlo : lo.toInt = q_lo kd 0) (hhi : hi.toInt = q_hi kd) (hb : -1000000 ≤ q_lo kd 0 ∧ q_lo kd 0 ≤ 1000000) (hng : ¬ lo < 0) {R : Nat × Nat × Nat × (Nat → Int32)} (hR : R = q_rn T n (vb_k vb) (vb_n vb) 3 0 p fun _ => 0) : ∃ v1 x, cl_ tb_ct tb_mt B K_X13_number [.ref m, .int lo, .int hi] (moS s m v F) = some (.inl (some (.int x)), moS s m v1 F) ∧ VK v v1 ∧ (R.1 ≠ 0 → v1 12 ≠ 0 ∧ v1 12 = nI R.1 ∧ v1 13 = nI R.2.1) ∧ (R.1 = 0 → v1 12 = 0 ∧ v1 10 = nI R.2.1 ∧ x = nm R.2.2.1 R.2.2.2 0) := by
  subst hR
  obtain ⟨v1, x1, a1, a2, a3, a4, a5⟩ := mk_numK (s := s) (kd := kd) (w0 := 0) (lo := lo) (hi := hi) hC hB h9 h10 hp h12 hlo hhi hb (by rw [decide_eq_false k2, decide_eq_false hng])
  refine ⟨v1, x1, a1, a2, ?_⟩
  rw [q_rn_s, hk, if_neg k0, hn1]
  cases n1 : nuK T n kd p with
  | false =>
    obtain ⟨b1, b2⟩ := a3 n1
    rw [if_pos Bool.false_ne_true, if_neg (by omega)]
    exact ⟨fun _ => ⟨by rw [b1]; exact err_ne (Or.inl rfl), b1, b2⟩, fun h => absurd h (by decide : (1 : Nat) ≠ 0)⟩
  | true =>
    rw [if_neg (fun h => h rfl)]
    by_cases g1 : rgK T n kd 0 p
    · obtain ⟨b1, b2⟩ := a4 n1 g1
      rw [if_pos (show rgK T n kd (if 0 < 0 then (0 : Int32) else 0) p from g1)]
      exact ⟨fun _ => ⟨by rw [b1]; exact err_ne (Or.inr rfl), b1, b2⟩, fun h => absurd h (by decide : (2 : Nat) ≠ 0)⟩
    · obtain ⟨b1, b2, b3⟩ := a5 n1 g1
      rw [if_neg (show ¬ rgK T n kd (if 0 < 0 then (0 : Int32) else 0) p from g1), q_rn_s, hk1, if_pos rfl]
      exact ⟨fun h => absurd rfl h, fun _ => ⟨b2, b3, b1⟩⟩
end Pt
