/-! ===== Script: numbers, statements ===== -/
/-- what the class has read of a number, and the number -/
def nvI (c v : Nat) : Prop := (v < 100000000 → c = v) ∧ (100000000 ≤ v → 100000000 ≤ c) ∧ c < 1000000000
def xsOK (F F' : Nat → Int32) (r : Nat × Nat × Nat × (Nat → Int32)) : Prop := F' 2 = F 2 ∧ F' 5 = F 5 ∧ F' 6 = F 6 ∧ (r.1 = 0 → F' 3 = nI r.2.1 ∧ F' 4 = nI r.2.2.1 ∧ F' 7 = F 7 ∧ F' 8 = F 8) ∧ (r.1 ≠ 0 → F' 7 = nI r.1 ∧ F' 8 = nI r.2.1)
theorem oI_toInt {z : Int} (h1 : -2000000000 ≤ z) (h2 : z ≤ 2000000000) : (Int32.ofInt z).toInt = z := by
  have e : Int32.size = 4294967296 := rfl
  rw [Int32.toInt_ofInt, e]
  exact Int.bmod_eq_of_le (by omega) (by omega)
theorem xs_idem {s : am_S} {a : Nat} {F T W F' T' W' : Nat → Int32} : xsS (xsS s a F T W) a F' T' W' = xsS s a F' T' W' := ov_idem
theorem nv_cmp {c v : Nat} {ng : Bool} {L M : Int32} {lo hi : Int} (h : nvI c v) (hL : L.toInt = lo) (hM : M.toInt = hi) (h1 : -1000000 ≤ lo) (h2 : lo ≤ 1000000) (h3 : -1000000 ≤ hi) (h4 : hi ≤ 1000000) : (((if ng = true then -(nI c) else nI c) < L ∨ ¬ (if ng = true then -(nI c) else nI c) ≤ M) ↔ ((if ng = true then -(v : Int) else v) < lo ∨ hi < (if ng = true then -(v : Int) else v))) ∧ (¬ ((if ng = true then -(v : Int) else v) < lo ∨ hi < (if ng = true then -(v : Int) else v)) → (if ng = true then -(nI c) else nI c) = Int32.ofInt (if ng = true then -(v : Int) else v)) := by
  obtain ⟨a1, a2, a3⟩ := h
  cases ng with
  | true =>
    simp only [if_true]
    have e : (-(nI c)).toInt = -(c : Int) := ng_i (by omega)
    rw [Int32.lt_iff_toInt_lt, Int32.le_iff_toInt_le, e, hL, hM]
    refine ⟨by omega, fun hr => ?_⟩
    rw [a1 (by omega)]
    apply Int32.toInt_inj.mp
    rw [ng_i (by omega), oI_toInt (by omega) (by omega)]
  | false =>
    simp only [Bool.false_eq_true, if_false]
    have e : (nI c).toInt = (c : Int) := nI_toInt (by omega)
    rw [Int32.lt_iff_toInt_lt, Int32.le_iff_toInt_le, e, hL, hM]
    refine ⟨by omega, fun hr => ?_⟩
    rw [a1 (by omega)]
    apply Int32.toInt_inj.mp
    rw [nI_toInt (by omega), oI_toInt (by omega) (by omega)]
theorem q_lo_le {kd : Nat} {w : Int32} (h : kd = 6 → -1000000 ≤ w.toInt ∧ w.toInt ≤ 1000000) : -1000000 ≤ q_lo kd w ∧ q_lo kd w ≤ 1000000 := by
  unfold q_lo
  repeat' split
  all_goals first | omega | exact h (by assumption)
theorem q_hi_le {kd : Nat} : -1000000 ≤ q_hi kd ∧ q_hi kd ≤ 1000000 := by
  unfold q_hi
  repeat' split
  all_goals omega
section Xn
variable {s : am_S} {B a n p i q v kd nd : Nat} {F T W : Nat → Int32} {x y : Int32} {l : List Int32} {V : Nat → Nat}
theorem xs_kind {q : Nat} (h : s.1 (V v) = some (.inr (14, [.ref q, .int (nI (vb_n v)), .int (nI (vb_k v 0)), .int (nI (vb_k v 1)), .int (nI (vb_k v 2)), .int (nI v)]))) (hi : i < 3) : cl_ tb_ct tb_mt B K_X10_numberKind [.ref (V v), .int (nI i)] s = some (.inl (some (.int (nI (vb_k v i)))), s) := by
  have g2 : gI tb_ct s (V v) 14 2 = some (nI (vb_k v 0)) := gI_o h rfl rfl rfl
  have g3 : gI tb_ct s (V v) 14 3 = some (nI (vb_k v 1)) := gI_o h rfl rfl rfl
  have g4 : gI tb_ct s (V v) 14 4 = some (nI (vb_k v 2)) := gI_o h rfl rfl rfl
  rw [in_X10_numberKind, dc_X10_numberKind_0, nI_toInt (by omega), g2, g3, g4]
  match i, hi with
  | 0, _ => rfl
  | 1, _ => rfl
  | 2, _ => rfl
theorem xs_fail (h : XSc s a F T W) (hB : B ≤ a) : cl_ tb_ct tb_mt B K_X6_fail [.ref a, .int x, .int y] s = some (.inl (some (.int 0)), xsS s a (upd (upd F 7 x) 8 y) T W) := by
  rw [in_X6_fail, dc_X6_fail_0, xs_p7 h hB, eS_s, xs_p8 OV.of hB, eS_s, xs_idem]
theorem xs_starts (h : XSc s a F T W) (h2 : F 2 = nI n) (h3 : F 3 = nI p) (hn : n ≤ 500) (hp : p ≤ n) (hk : kd ≤ 6) : cl_ tb_ct tb_mt B K_X6_startsNumber [.ref a, .int (nI kd)] s = some (.inl (some (.int (if q_nu T n (decide (kd = 2)) p = true then 1 else 0))), s) := by
  rw [in_X6_startsNumber, dc_X6_startsNumber_0, xs_3 h, eI_s, h3, xs_cls h, eC_s, xs_digit h h2 hn (by omega), cI_s]
  unfold q_nu
  by_cases d : dgB (byt T n p) = true
  · rw [if_pos d, if_neg (by decide), dc_X6_startsNumber_42, d]
    rfl
  · rw [if_neg d, if_pos rfl, Bool.eq_false_iff.mpr d, Bool.false_or]
    by_cases c : kd = 2
    · rw [if_pos (show nI kd = (2 : Int32) from (nI_eq (b := 2) (by omega) (by omega)).mpr c), xs_3 h, eI_s, h3, xs_cls h, eC_s, xs_byte h h2 hn (by omega), cI_s, decide_eq_true c, Bool.true_and]
      unfold q_ng
      by_cases m : byt T n p = 45
      · rw [if_pos m, xs_3 h, eI_s, h3, nI_1, xs_cls h, eC_s, xs_digit h h2 hn (by omega), cI_s, decide_eq_true m, Bool.true_and]
        by_cases d2 : dgB (byt T n (p + 1)) = true
        · rw [if_pos d2, if_neg (by decide), dc_X6_startsNumber_42]
        · rw [if_neg d2, if_pos rfl]
      · rw [if_neg m, decide_eq_false m]
        rfl
    · rw [if_neg (show ¬ nI kd = (2 : Int32) from fun hc => c ((nI_eq (b := 2) (by omega) (by omega)).mp hc)), decide_eq_false c]
      rfl
theorem xs_num_lp (hB : B ≤ a) (hn : n ≤ 500) {ng : Int32} : ∀ k p v c s F, p + k = n → XSc s a F T W → F 2 = nI n → F 3 = nI p → nvI c v → ∃ s' c', rn_ tb_ct tb_mt B mm_X6_readNumber 35 [.ref a, .int ng, .int (nI c)] [] s = rn_ tb_ct tb_mt B mm_X6_readNumber 93 [.ref a, .int ng, .int (nI c')] [] s' ∧ so s s' a (a + 3) ∧ XSc s' a (upd F 3 (nI (q_de T n p))) T W ∧ nvI c' (q_va T (q_de T n p - p) p v) := by
  intro k
  induction k with
  | zero =>
    intro p v c s F hp h h2 h3 hv
    have e : q_de T n p = p := by
      unfold q_de
      rw [show n - p = 0 by omega]
      rfl
    refine ⟨s, c, ?_, so_rfl, ?_, ?_⟩
    · rw [dc_X6_readNumber_35]
      simp only [xs_3 h, xs_2 h, eI_s, h2, h3]
      rw [if_pos (nI_le (by omega) (by omega))]
    · rw [e, upd_e h3]
      exact h
    · rw [e, Nat.sub_self]
      exact hv
  | succ k ih =>
    intro p v c s F hp h h2 h3 hv
    have hb := xs_byte (B := B) h h2 hn (show p < 2 ^ 31 by omega)
    have hd := xs_digit (B := B) h h2 hn (show p < 2 ^ 31 by omega)
    rw [show byt T n p = T p from if_pos (by omega)] at hb hd
    have eq : q_de T n p = if dgB (T p) = true then q_de T n (p + 1) else p := by
      unfold q_de
      rw [show n - p = (n - (p + 1)) + 1 by omega, fi_s]
      cases dgB (T p) <;> rfl
    have head : rn_ tb_ct tb_mt B mm_X6_readNumber 35 [.ref a, .int ng, .int (nI c)] [] s = if dgB (T p) = true then (if (100000000 : Int32) ≤ nI c then rn_ tb_ct tb_mt B mm_X6_readNumber 80 [.ref a, .int ng, .int (nI c)] [] s else rn_ tb_ct tb_mt B mm_X6_readNumber 80 [.ref a, .int ng, .int (((nI c * (10 : Int32)) + T p) - (48 : Int32))] [] s) else rn_ tb_ct tb_mt B mm_X6_readNumber 93 [.ref a, .int ng, .int (nI c)] [] s := by
      rw [dc_X6_readNumber_35]
      simp only [xs_3 h, xs_2 h, eI_s, h2, h3]
      rw [if_neg (nI_ge (by omega) (by omega)), xs_cls h, eC_s, hd, cI_s]
      by_cases hdg : dgB (T p) = true
      · rw [if_pos hdg, if_pos hdg, if_neg (by decide), xs_3 h, eI_s, h3, xs_cls h, eC_s, hb, cI_s]
      · rw [if_neg hdg, if_neg hdg, if_pos rfl]
    obtain ⟨i1, i2, i3⟩ := id hv
    by_cases c0 : dgB (T p) = true
    · obtain ⟨d, hd9, hdT⟩ := dgB_of c0
      have ed : nN (T p - 48) = d := by
        rw [hdT]
        exact dgB_v hd9
      have hle : p + 1 ≤ q_de T n (p + 1) := (q_de_le (T := T) (show p + 1 ≤ n by omega)).1
      have fin : ∀ c2, nvI c2 (10 * v + d) → ∃ s' c', rn_ tb_ct tb_mt B mm_X6_readNumber 80 [.ref a, .int ng, .int (nI c2)] [] s = rn_ tb_ct tb_mt B mm_X6_readNumber 93 [.ref a, .int ng, .int (nI c')] [] s' ∧ so s s' a (a + 3) ∧ XSc s' a (upd F 3 (nI (q_de T n p))) T W ∧ nvI c' (q_va T (q_de T n p - p) p v) := by
        intro c2 hc2
        obtain ⟨s', c', e1, e2, e3, e4⟩ := ih (p + 1) (10 * v + d) c2 (xsS s a (upd F 3 (nI (p + 1))) T W) (upd F 3 (nI (p + 1))) (by omega) OV.of ((upd_n (by omega)).trans h2) upd_k hc2
        refine ⟨s', c', ?_, so_tr so_ov e2, ?_, ?_⟩
        · rw [dc_X6_readNumber_80, xs_3 h, eI_s, h3, nI_1, xs_p3 h hB, eS_s]
          exact e1
        · rw [eq, if_pos c0]
          rw [upd_s] at e3
          exact e3
        · rw [eq, if_pos c0, show q_de T n (p + 1) - p = (q_de T n (p + 1) - (p + 1)) + 1 by omega]
          unfold q_va
          rw [ed]
          exact e4
      by_cases c1 : (100000000 : Int32) ≤ nI c
      · have c2 : 100000000 ≤ c := (nI_leI (a := 100000000) (by omega) (by omega)).mp c1
        obtain ⟨s', c', r⟩ := fin c ⟨by omega, fun _ => c2, i3⟩
        refine ⟨s', c', ?_, r.2⟩
        rw [head, if_pos c0, if_pos c1]
        exact r.1
      · have c2 : ¬ 100000000 ≤ c := fun hc => c1 ((nI_leI (a := 100000000) (by omega) (by omega)).mpr hc)
        obtain ⟨s', c', r⟩ := fin (10 * c + d) ⟨by omega, by omega, by omega⟩
        refine ⟨s', c', ?_, r.2⟩
        rw [head, if_pos c0, if_neg c1, hdT, show nI c * (10 : Int32) + nI (48 + d) - (48 : Int32) = nI (10 * c + d) from by
          rw [show (10 : Int32) = nI 10 from rfl, show (48 : Int32) = nI 48 from rfl, nI_mul, nI_add, nI_2 (by omega), show c * 10 + (48 + d) - 48 = 10 * c + d by omega]]
        exact r.1
    · refine ⟨s, c, ?_, so_rfl, ?_, ?_⟩
      · rw [head, if_neg c0]
      · rw [eq, if_neg c0, upd_e h3]
        exact h
      · rw [eq, if_neg c0, Nat.sub_self]
        exact hv
theorem nvI_0 : nvI 0 0 := ⟨fun _ => rfl, fun h => absurd h (by decide), by decide⟩
theorem xs_num (hB : B ≤ a) (hn : n ≤ 500) (h : XSc s a F T W) (h2 : F 2 = nI n) (h3 : F 3 = nI p) (hp : p ≤ n) : ∃ s' c, cl_ tb_ct tb_mt B K_X6_readNumber [.ref a] s = some (.inl (some (.int (if q_ng T n p = true then -(nI c) else nI c))), s') ∧ so s s' a (a + 3) ∧ XSc s' a (upd F 3 (nI (q_e T n p))) T W ∧ nvI c (q_va0 T n p) := by
  have hl := q_i0_le (T := T) hp
  have he : ∀ x, q_e T n x = q_de T n (q_i0 T n x) := fun _ => rfl
  have hv : ∀ x, q_va0 T n x = q_va T (q_de T n (q_i0 T n x) - q_i0 T n x) (q_i0 T n x) 0 := fun _ => rfl
  rw [in_X6_readNumber, dc_X6_readNumber_0, xs_3 h, eI_s, h3, xs_cls h, eC_s, xs_byte h h2 hn (by omega), cI_s, he, hv]
  by_cases m : byt T n p = 45
  · have en : q_ng T n p = true := decide_eq_true m
    have ei : q_i0 T n p = p + 1 := if_pos en
    rw [ei] at hl ⊢
    rw [en]
    obtain ⟨s', c, e1, e2, e3, e4⟩ := xs_num_lp (B := B) (ng := 1) hB hn (n - (p + 1)) (p + 1) 0 0 (xsS s a (upd F 3 (nI (p + 1))) T W) (upd F 3 (nI (p + 1))) (by omega) OV.of ((upd_n (by omega)).trans h2) upd_k nvI_0
    refine ⟨s', c, ?_, so_tr so_ov e2, by rw [upd_s] at e3; exact e3, e4⟩
    rw [if_pos m, dc_X6_readNumber_18, if_neg (by decide), xs_3 h, eI_s, h3, nI_1, xs_p3 h hB, eS_s, dc_X6_readNumber_33]
    refine Eq.trans e1 ?_
    rw [dc_X6_readNumber_93, if_neg (by decide)]
    rfl
  · have en : q_ng T n p = false := decide_eq_false m
    have ei : q_i0 T n p = p := if_neg (by rw [en]; decide)
    rw [ei, en]
    obtain ⟨s', c, e1, e2, e3, e4⟩ := xs_num_lp (B := B) (ng := 0) hB hn (n - p) p 0 0 s F (by omega) h h2 h3 nvI_0
    refine ⟨s', c, ?_, e2, e3, e4⟩
    rw [if_neg m, dc_X6_readNumber_18, if_pos rfl, dc_X6_readNumber_33]
    refine Eq.trans e1 ?_
    rw [dc_X6_readNumber_93, if_pos rfl]
    rfl
theorem xs_numAt {j : Nat} (h : XSc s a F T W) (h4 : F 4 = nI i) (hi : i ≤ 3) (hj : j < 3) : cl_ tb_ct tb_mt B K_X6_numberAt [.ref a, .int (nI j)] s = some (.inl (some (.int (if j < i then W j else 0))), s) := by
  rw [in_X6_numberAt, dc_X6_numberAt_0, if_neg (nI_pos (by omega)), xs_4 h, eI_s, h4]
  by_cases c : j < i
  · rw [if_neg (nI_ge c (by omega)), if_neg (show ¬ (3 : Int32) ≤ nI j from nI_ge (b := 3) hj (by omega)), xs_1 h, eA_s, aI_o (xs_w h) hj (by omega), eI_s, if_pos c]
  · rw [if_pos (nI_le (by omega) (by omega)), if_neg c]
theorem xs_least (h : XSc s a F T W) (h4 : F 4 = nI i) (hi : i ≤ 3) (hk : kd ≤ 6) : ∃ L, cl_ tb_ct tb_mt B K_X6_least [.ref a, .int (nI kd)] s = some (.inl (some (.int L)), s) ∧ L.toInt = q_lo kd (if 0 < i then W 0 else 0) := by
  rw [in_X6_least, dc_X6_least_0, nI_toInt (by omega)]
  match kd, hk with
  | 0, _ => exact ⟨0, rfl, rfl⟩
  | 1, _ => exact ⟨0, rfl, rfl⟩
  | 2, _ => exact ⟨-1000000, rfl, rfl⟩
  | 3, _ => exact ⟨1, rfl, rfl⟩
  | 4, _ => exact ⟨1, rfl, rfl⟩
  | 5, _ => exact ⟨0, rfl, rfl⟩
  | 6, _ =>
    refine ⟨if 0 < i then W 0 else 0, ?_, rfl⟩
    have e := xs_numAt (B := B) (j := 0) h h4 hi (by omega)
    show eC (am_cls s a) 5 (cI (cl_ tb_ct tb_mt B K_X6_numberAt [.ref a, .int (nI 0)] s) (fun x_2 s_1 => some (.inl (some (.int x_2)), s_1)) xo) = _
    rw [xs_cls h, eC_s, e, cI_s]
theorem xs_most (hk : kd ≤ 6) : ∃ M, cl_ tb_ct tb_mt B K_X6_most [.int (nI kd)] s = some (.inl (some (.int M)), s) ∧ M.toInt = q_hi kd := by
  rw [in_X6_most, dc_X6_most_0, nI_toInt (by omega)]
  match kd, hk with
  | 0, _ => exact ⟨999, rfl, rfl⟩
  | 1, _ => exact ⟨999, rfl, rfl⟩
  | 2, _ => exact ⟨1000000, rfl, rfl⟩
  | 3, _ => exact ⟨1000, rfl, rfl⟩
  | 4, _ => exact ⟨9999, rfl, rfl⟩
  | 5, _ => exact ⟨9999, rfl, rfl⟩
  | 6, _ => exact ⟨999, rfl, rfl⟩
theorem xs_nums_lp (hB : B ≤ a) (hn : n ≤ 500) (hv : V v < B) : ∀ k i p s F W w3 w4 w5, i + k = 3 → s.1 (V v) = some (.inr (14, [.ref q, .int (nI (vb_n v)), .int (nI (vb_k v 0)), .int (nI (vb_k v 1)), .int (nI (vb_k v 2)), .int (nI v)])) → XSc s a F T W → F 2 = nI n → F 3 = nI p → F 4 = nI i → p ≤ n → (0 < i → -1000000 ≤ (W 0).toInt ∧ (W 0).toInt ≤ 1000000) → ∃ s' F', rn_ tb_ct tb_mt B mm_X6_readNumbers 7 [.ref a, .ref (V v), .int (nI i), w3, w4, w5] [] s = some (.inl (some (.int (if (q_rn T n (vb_k v) (vb_n v) k i p W).1 = 0 then 1 else 0))), s') ∧ so s s' a (a + 3) ∧ XSc s' a F' T (q_rn T n (vb_k v) (vb_n v) k i p W).2.2.2 ∧ xsOK F F' (q_rn T n (vb_k v) (vb_n v) k i p W) := by
  intro k
  induction k with
  | zero =>
    intro i p s F W w3 w4 w5 hi ho h h2 h3 h4 hp hw
    refine ⟨s, F, ?_, so_rfl, h, rfl, rfl, rfl, fun _ => ⟨h3, h4, rfl, rfl⟩, fun hc => absurd rfl hc⟩
    rw [dc_X6_readNumbers_7, if_pos (show (3 : Int32) ≤ nI i from nI_le (a := 3) (by omega) (by omega))]
    rfl
  | succ k ih =>
    intro i p s F W w3 w4 w5 hi ho h h2 h3 h4 hp hw
    have hk := vb_k_le v i
    have hj := q_sp_le (T := T) hp
    have he := q_e_le (T := T) hj.2
    rw [dc_X6_readNumbers_7, if_neg (show ¬ (3 : Int32) ≤ nI i from nI_ge (b := 3) (by omega) (by omega)), cls_o ho, eC_s, xs_kind ho (by omega), cI_s]
    unfold q_rn
    by_cases c0 : vb_k v i = 0
    · rw [if_pos c0, if_pos (by rw [c0]; rfl)]
      exact ⟨s, F, rfl, so_rfl, h, rfl, rfl, rfl, fun _ => ⟨h3, h4, rfl, rfl⟩, fun hc => absurd rfl hc⟩
    · rw [if_neg c0, if_neg (nI_ne0 (Nat.pos_of_ne_zero c0) (by omega))]
      obtain ⟨s1, e1, o1, x1⟩ := xs_skip (B := B) hB hn h h2 h3 hp
      have f2 : (upd F 3 (nI (q_sp T n p))) 2 = nI n := (upd_n (by omega)).trans h2
      have f4 : (upd F 3 (nI (q_sp T n p))) 4 = nI i := (upd_n (by omega)).trans h4
      have ho1 := (o1.1 (V v) (by omega)).trans ho
      rw [xs_cls h, eC_s, e1, cV_s, xs_cls x1, eC_s, xs_starts x1 f2 upd_k hn hj.2 hk, cI_s]
      by_cases c1 : q_nu T n (decide (vb_k v i = 2)) (q_sp T n p) = true
      · rw [if_pos c1, if_neg (by decide), if_neg (show ¬ ¬ q_nu T n (decide (vb_k v i = 2)) (q_sp T n p) = true from fun hc => hc c1), xs_3 x1, eI_s, upd_k]
        obtain ⟨s2, c, e2, o2, x2, n2⟩ := xs_num (B := B) hB hn x1 f2 upd_k hj.2
        rw [upd_s] at x2
        have g2 : (upd F 3 (nI (q_e T n (q_sp T n p)))) 2 = nI n := (upd_n (by omega)).trans h2
        have g4 : (upd F 3 (nI (q_e T n (q_sp T n p)))) 4 = nI i := (upd_n (by omega)).trans h4
        have ho2 := (o2.1 (V v) (by omega)).trans ho1
        obtain ⟨L, e3, hL⟩ := xs_least (B := B) x2 g4 (by omega) hk
        obtain ⟨M, e4, hM⟩ := xs_most (B := B) (s := s2) hk
        obtain ⟨l1, l2⟩ := q_lo_le (kd := vb_k v i) (w := if 0 < i then W 0 else 0) fun _ => by
          split
          · exact hw (by assumption)
          · decide
        obtain ⟨l3, l4⟩ := q_hi_le (kd := vb_k v i)
        obtain ⟨cm, cr⟩ := nv_cmp (ng := q_ng T n (q_sp T n p)) n2 hL hM l1 l2 l3 l4
        have ev : q_v T n (q_sp T n p) = if q_ng T n (q_sp T n p) = true then -(q_va0 T n (q_sp T n p) : Int) else q_va0 T n (q_sp T n p) := rfl
        rw [← ev] at cm cr
        rw [xs_cls x1, eC_s, e2, cI_s, xs_cls x2, eC_s, e3, cI_s]
        generalize hy : (if q_ng T n (q_sp T n p) = true then -(nI c) else nI c) = y at *
        have bad : ∀ w, ∃ s' F', rn_ tb_ct tb_mt B mm_X6_readNumbers 93 [.ref a, .ref (V v), .int (nI i), .int (nI (vb_k v i)), .int (nI (q_sp T n p)), w] [] s2 = some (.inl (some (.int 0)), s') ∧ so s s' a (a + 3) ∧ XSc s' a F' T W ∧ xsOK F F' (2, q_sp T n p, i, W) := by
          intro w
          refine ⟨xsS s2 a (upd (upd (upd F 3 (nI (q_e T n (q_sp T n p)))) 7 2) 8 (nI (q_sp T n p))) T W, upd (upd (upd F 3 (nI (q_e T n (q_sp T n p)))) 7 2) 8 (nI (q_sp T n p)), ?_, so_tr o1 (so_tr o2 so_ov), OV.of, ?_⟩
          · rw [dc_X6_readNumbers_93, xs_cls x2, eC_s, xs_fail x2 hB, cI_s]
            rfl
          · exact ⟨rfl, rfl, rfl, fun hc => absurd (show (2 : Nat) = 0 from hc) (by decide), fun _ => ⟨rfl, rfl⟩⟩
        by_cases c2 : q_v T n (q_sp T n p) < q_lo (vb_k v i) (if 0 < i then W 0 else 0) ∨ q_hi (vb_k v i) < q_v T n (q_sp T n p)
        · rw [if_pos c2]
          obtain ⟨s', F', r1, r2⟩ := bad (.int y)
          refine ⟨s', F', ?_, r2⟩
          rcases Classical.em (y < L) with c3 | c3
          · rw [if_pos c3, r1]
            rfl
          · rw [if_neg c3, e4, cI_s, if_neg ((cm.mpr c2).resolve_left c3), r1]
            rfl
        · rw [if_neg c2]
          have c3 : ¬ (y < L ∨ ¬ y ≤ M) := fun hc => c2 (cm.mp hc)
          have hyv := cr c2
          rw [if_neg (fun hc => c3 (Or.inl hc)), e4, cI_s, if_pos (Classical.byContradiction fun hc => c3 (Or.inr hc)), xs_1 x2, eA_s, xs_ww x2 hB (by omega), eS_s, nI_1, xs_p4 OV.of hB, eS_s, xs_idem]
          obtain ⟨s', F', r1, r2, r3, r4⟩ := ih (i + 1) (q_e T n (q_sp T n p)) (xsS s2 a (upd (upd F 3 (nI (q_e T n (q_sp T n p)))) 4 (nI (i + 1))) T (upd W i y)) (upd (upd F 3 (nI (q_e T n (q_sp T n p)))) 4 (nI (i + 1))) (upd W i y) (.int (nI (vb_k v i))) (.int (nI (q_sp T n p))) (.int y) (by omega) ((ov_o (by omega)).trans ho2) OV.of g2 rfl rfl he.2 (fun _ => by
            by_cases ci : i = 0
            · subst ci
              rw [upd_k, hyv, oI_toInt (by omega) (by omega)]
              omega
            · rw [upd_n (fun hc => ci hc.symm)]
              exact hw (by omega))
          rw [hyv] at r1 r2 r3 r4 ⊢
          refine ⟨s', F', r1, so_tr o1 (so_tr o2 (so_tr so_ov r2)), r3, ?_⟩
          obtain ⟨k1, k2, k3, k4, k5⟩ := r4
          exact ⟨k1, k2, k3, k4, k5⟩
      · rw [if_neg c1, if_pos rfl, if_pos c1, show gI tb_ct s1 (V v) 14 1 = some (nI (vb_n v)) from gI_o ho1 rfl rfl rfl, eI_s]
        have hnd : vb_n v ≤ 2 := by
          unfold vb_n
          split <;> omega
        by_cases c2 : vb_n v ≤ i
        · rw [if_pos c2, if_pos (nI_le c2 (by omega)), dc_X6_readNumbers_56]
          exact ⟨s1, _, rfl, o1, x1, rfl, rfl, rfl, fun _ => ⟨rfl, h4, rfl, rfl⟩, fun hc => absurd rfl hc⟩
        · rw [if_neg c2, if_neg (nI_ge (by omega) (by omega)), xs_3 x1, eI_s, upd_k, xs_cls x1, eC_s, xs_fail x1 hB, cI_s, if_pos rfl]
          exact ⟨_, _, rfl, so_tr o1 so_ov, OV.of, rfl, rfl, rfl, fun hc => absurd (show (1 : Nat) = 0 from hc) (by decide), fun _ => ⟨rfl, rfl⟩⟩
theorem xs_stmt (hB : B ≤ a) (hE : EVd B s) (hV : EVv B s V) (h : XSc s a F T W) (h2 : F 2 = nI n) (h3 : F 3 = nI p) (hn : n ≤ 500) (hp : p ≤ n) : ∃ s' F', cl_ tb_ct tb_mt B K_X6_readStatement [.ref a] s = some (.inl (some (if (q_sm T n p W).1 = 0 then .ref (V (q_sm T n p W).2.2.1) else .null)), s') ∧ so s s' a (a + 3) ∧ XSc s' a F' T (q_sm T n p W).2.2.2.2 ∧ F' 2 = nI n ∧ F' 5 = F 5 + 1 ∧ F' 6 = nI (q_sp T n p) ∧ ((q_sm T n p W).1 = 0 → F' 3 = nI (q_sm T n p W).2.1 ∧ F' 4 = nI (q_sm T n p W).2.2.2.1 ∧ F' 7 = F 7 ∧ F' 8 = F 8) ∧ ((q_sm T n p W).1 ≠ 0 → F' 7 = nI (q_sm T n p W).1 ∧ F' 8 = nI (q_sm T n p W).2.1) := by
  have hj := q_sp_le (T := T) hp
  have hl := q_le_le (T := T) hj.2
  obtain ⟨s1, e1, o1, x1⟩ := xs_skip (B := B) (F := upd F 5 (F 5 + 1)) (s := xsS s a (upd F 5 (F 5 + 1)) T W) hB hn OV.of ((upd_n (by omega)).trans h2) ((upd_n (by omega)).trans h3) hp
  have oo1 : so s s1 a (a + 3) := so_tr so_ov o1
  obtain ⟨F1, hF1⟩ : ∃ F1, F1 = upd (upd F 5 (F 5 + 1)) 3 (nI (q_sp T n p)) := ⟨_, rfl⟩
  rw [← hF1] at x1
  obtain ⟨s2, hs2⟩ : ∃ s2, s2 = xsS s1 a (upd F1 6 (nI (q_sp T n p))) T W := ⟨_, rfl⟩
  have x2 : XSc s2 a (upd F1 6 (nI (q_sp T n p))) T W := hs2 ▸ OV.of
  have oo2 : so s s2 a (a + 3) := so_tr oo1 (hs2 ▸ so_ov)
  have g2 : (upd F1 6 (nI (q_sp T n p))) 2 = nI n := by
    rw [upd_n (by omega), hF1, upd_n (by omega), upd_n (by omega)]
    exact h2
  have g3 : (upd F1 6 (nI (q_sp T n p))) 3 = nI (q_sp T n p) := by
    rw [upd_n (by omega), hF1, upd_k]
  have g5 : (upd F1 6 (nI (q_sp T n p))) 5 = F 5 + 1 := by
    rw [upd_n (by omega), hF1, upd_n (by omega), upd_k]
  have g7 : (upd F1 6 (nI (q_sp T n p))) 7 = F 7 := by
    rw [upd_n (by omega), hF1, upd_n (by omega), upd_n (by omega)]
  have g8 : (upd F1 6 (nI (q_sp T n p))) 8 = F 8 := by
    rw [upd_n (by omega), hF1, upd_n (by omega), upd_n (by omega)]
  have g6 : (upd F1 6 (nI (q_sp T n p))) 6 = nI (q_sp T n p) := upd_k
  have f3 : F1 3 = nI (q_sp T n p) := by rw [hF1, upd_k]
  have hb2 : ∀ q, q < B → s2.1 q = s.1 q := fun q hq => oo2.1 q (by omega)
  have t2 : s2.2.2.2 = s.2.2.2 := by rw [oo2.2]
  have hV2 := hV.at hb2 t2
  have ev := xs_verb (B := B) hB (hE.at hb2 t2) hV2 x2 g2 g3 hn hj.2
  have start : cl_ tb_ct tb_mt B K_X6_readStatement [.ref a] s = eC (am_cls s2 a) 5 (cA (cl_ tb_ct tb_mt B K_X6_readVerb [.ref a] s2) (fun s_6 => eI (gI tb_ct s_6 a 5 6) (fun x_8 => eC (am_cls s_6 a) 5 (cI (cl_ tb_ct tb_mt B K_X6_fail [.ref a, .int (1 : Int32), .int x_8] s_6) (fun x_10 s_9 => some (.inl (some .null), s_9)) xo))) (fun b_7 s_6 => eC (am_cls s_6 a) 5 (cI (cl_ tb_ct tb_mt B K_X6_readNumbers [.ref a, .ref b_7] s_6) (fun x_12 s_11 => if x_12 = 0 then some (.inl (some .null), s_11) else some (.inl (some (.ref b_7)), s_11)) xo)) xo) := by
    rw [in_X6_readStatement, dc_X6_readStatement_0, xs_5 h, eI_s, xs_p5 h hB, eS_s, xs_cls (OV.of : XSc (xsS s a (upd F 5 (F 5 + 1)) T W) a _ T W), eC_s, e1, cV_s, xs_3 x1, eI_s, f3, xs_p6 x1 hB, eS_s, ← hs2]
  rw [start, xs_cls x2, eC_s, ev]
  unfold q_sm
  by_cases c : q_vb T (q_sp T n p) (q_le T n (q_sp T n p)) < 10
  · rw [if_pos c, if_pos c, cA_s]
    generalize q_vb T (q_sp T n p) (q_le T n (q_sp T n p)) = v at *
    obtain ⟨w1, q, w2, w3⟩ := hV2.2.1 v c
    obtain ⟨s4, hs4⟩ : ∃ s4, s4 = xsS s2 a (upd (upd (upd F1 6 (nI (q_sp T n p))) 3 (nI (q_le T n (q_sp T n p)))) 4 0) T W := ⟨_, rfl⟩
    have x4 : XSc s4 a (upd (upd (upd F1 6 (nI (q_sp T n p))) 3 (nI (q_le T n (q_sp T n p)))) 4 0) T W := hs4 ▸ OV.of
    obtain ⟨s', F', r1, r2, r3, r4⟩ := xs_nums_lp (B := B) (V := V) (v := v) (q := q) (T := T) hB hn w1 3 0 (q_le T n (q_sp T n p)) s4 _ W am_un am_un am_un (by omega) (by rw [hs4]; exact (ov_o (by omega)).trans w2) x4 ((upd_n (by omega)).trans ((upd_n (by omega)).trans g2)) ((upd_n (by omega)).trans upd_k) rfl hl.2 (fun hc => absurd hc (by decide))
    obtain ⟨k1, k2, k3, k4, k5⟩ := r4
    refine ⟨s', F', ?_, so_tr oo2 (so_tr (hs4 ▸ so_ov) r2), r3, k1.trans ((upd_n (by omega)).trans ((upd_n (by omega)).trans g2)), k2.trans ((upd_n (by omega)).trans ((upd_n (by omega)).trans g5)), k3.trans ((upd_n (by omega)).trans ((upd_n (by omega)).trans g6)), fun hc => ?_, k5⟩
    · rw [xs_cls (OV.of : XSc (xsS s2 a _ T W) a _ T W), eC_s, in_X6_readNumbers, dc_X6_readNumbers_0, xs_p4 OV.of hB, eS_s, xs_idem, ← hs4]
      rw [nI_0] at r1
      rw [r1, cI_s]
      by_cases hz : (q_rn T n (vb_k v) (vb_n v) 3 0 (q_le T n (q_sp T n p)) W).1 = 0
      · rw [if_pos hz, if_neg (by decide), if_pos hz]
      · rw [if_neg hz, if_pos rfl, if_neg hz]
    · obtain ⟨m1, m2, m3, m4⟩ := k4 hc
      exact ⟨m1, m2, m3.trans ((upd_n (by omega)).trans ((upd_n (by omega)).trans g7)), m4.trans ((upd_n (by omega)).trans ((upd_n (by omega)).trans g8))⟩
  · rw [if_neg c, if_neg c, cA_n, xs_6 x2, eI_s, xs_cls x2, eC_s, g6, xs_fail x2 hB, cI_s]
    exact ⟨_, _, rfl, so_tr oo2 so_ov, OV.of, g2, g5, g6, fun hc => absurd (show (1 : Nat) = 0 from hc) (by decide), fun _ => ⟨rfl, rfl⟩⟩
end Xn
