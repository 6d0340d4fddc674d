/-! ===== the model: a statement ===== -/
def LI (v : Nat) : Nat := match v with
  | 0 => 108
  | 1 => 109
  | 2 => 102
  | 3 => 104
  | 4 => 105
  | 5 => 110
  | 6 => 106
  | 7 => 107
  | 8 => 103
  | _ => 111
/-- the words of the model -/
def ELt (B : Nat) (s : am_S) (Q : Nat → Nat) : Prop := ∀ i, i < 10 → stR s (LI i) = some (Q i) ∧ STR B s (Q i) (vb_w i)
theorem ELt.at {B : Nat} {s s' : am_S} {Q : Nat → Nat} (h : ELt B s Q) (hs : ∀ q, q < B → s'.1 q = s.1 q) (ht : s'.2.2.2 = s.2.2.2) : ELt B s' Q := fun i hi => ⟨(st_cg ht _).2.1.trans (h i hi).1, (h i hi).2.at hs⟩
theorem wd_len {T : Nat → Int32} {p e : Nat} {l : List Int32} (h : q_wd T p e l = true) : e = p + l.length ∧ ∀ j, j < l.length → T (p + j) = l.getD j 0 := by
  unfold q_wd at h
  rw [Bool.and_eq_true, decide_eq_true_iff, decide_eq_true_iff] at h
  exact h
theorem vb_inj : ∀ a, a < 10 → ∀ b, b < 10 → (vb_w a).length = (vb_w b).length → (∀ j, j < (vb_w a).length → (vb_w a).getD j 0 = (vb_w b).getD j 0) → a = b := by decide +kernel
theorem wd_uq {T : Nat → Int32} {p e a b : Nat} (ha : a < 10) (hb : b < 10) (h : q_wd T p e (vb_w a) = true) (h' : q_wd T p e (vb_w b) = true) : a = b := by
  obtain ⟨h1, h2⟩ := wd_len h
  obtain ⟨h3, h4⟩ := wd_len h'
  refine vb_inj a ha b hb (by omega) fun j hj => ?_
  rw [← h2 j hj, h4 j (by omega)]
theorem wd_vb {T : Nat → Int32} {p e w : Nat} (hw : w < 10) : q_wd T p e (vb_w w) = decide (w = q_vb T p e) := by
  have hle : q_vb T p e ≤ 10 := fi_le0 _ _
  by_cases c : w = q_vb T p e
  · rw [decide_eq_true c]
    have := fi_yes (fun v => q_wd T p e (vb_w v)) 10 0 (show q_vb T p e < 0 + 10 by omega)
    rw [c]
    exact this
  · rw [decide_eq_false c]
    apply Bool.eq_false_iff.mpr
    intro h
    by_cases d : q_vb T p e < 10
    · have := fi_yes (fun v => q_wd T p e (vb_w v)) 10 0 (show q_vb T p e < 0 + 10 by omega)
      exact c (wd_uq hw d h this)
    · have := fi_no (fun v => q_wd T p e (vb_w v)) 10 0 w (Nat.zero_le _) (show w < q_vb T p e by omega)
      have h2 : q_wd T p e (vb_w w) = false := this
      rw [h] at h2
      cases h2
/-! what was read passes the checks -/
theorem kOk_of {x : Int32} (h1 : 0 ≤ x.toInt) (h2 : x.toInt ≤ 999) : kOk x := ⟨fun hc => by
  have : x.toInt < 0 := Int32.lt_iff_toInt_lt.mp hc
  omega, Int32.le_iff_toInt_le.mpr h2⟩
theorem bKey_of {x : Int32} (h : kOk x) : bKey x = true := by
  unfold bKey bIn
  rw [decide_eq_false h.1, decide_eq_false (Int32.not_lt.mpr h.2)]
  rfl
theorem bVal_of {x : Int32} (h : vOk x) : bVal x = true := by
  unfold bVal bIn
  rw [decide_eq_false (Int32.not_lt.mpr h.1), decide_eq_false (Int32.not_lt.mpr h.2)]
  rfl
theorem bTck_of {j : Nat} (h1 : 1 ≤ j) (h2 : j ≤ 1000) : bTck (nI j) = true := by
  unfold bTck bIn
  rw [decide_eq_false (show ¬ nI j < (1 : Int32) from nI_nlt (b := 1) h1 (by omega)), decide_eq_false (show ¬ (1000 : Int32) < nI j from nI_nlt (a := 1000) h2 (by omega))]
  rfl
theorem bRange_of {f t : Int32} (h1 : 0 ≤ f.toInt) (h2 : f.toInt ≤ t.toInt) (h3 : t.toInt ≤ 999) : bRange f t = true := by
  unfold bRange
  rw [bKey_of (kOk_of (by omega) h3)]
  unfold bIn
  rw [decide_eq_false (kOk_of h1 (by omega)).1, decide_eq_false (show ¬ t < f from fun h => by
    have := Int32.lt_iff_toInt_lt.mp h
    omega)]
  rfl
section Sq
variable {s s' : am_S} {B m i j n p q e b c kd u r vb : Nat} {v v1 v2 v' : Nat → Int32} {F F' : mrT} {T W : Nat → Int32} {x y a lo hi w0 : Int32} {σ σ' σ1 : stT} {Q : Nat → Nat} {A C : am_R} {R : Nat × Nat × Nat × (Nat → Int32)}
theorem NOK.num (h : NOK vb r W) (hj : j < r) : q_lo (vb_k vb j) (if 0 < j then W 0 else 0) ≤ (nm r W j).toInt ∧ (nm r W j).toInt ≤ q_hi (vb_k vb j) := by
  obtain ⟨-, a1, a2⟩ := h.2.2 j hj
  unfold nm
  rw [if_pos hj]
  exact ⟨a1, a2⟩
theorem nm_0 (h : ¬ j < r) : (nm r W j).toInt = 0 := by
  unfold nm
  rw [if_neg h]
  rfl
theorem nm_at (h : j < r) : nm r W j = W j := if_pos h
theorem NOK.opt (h : NOK vb r W) (hk : vb_k vb j = 5) : ¬ nm r W j < 0 := by
  intro hc
  have h1 : (nm r W j).toInt < 0 := Int32.lt_iff_toInt_lt.mp hc
  by_cases d : j < r
  · have := (h.num d).1
    rw [hk] at this
    have h2 : (0 : Int) ≤ (nm r W j).toInt := this
    omega
  · rw [nm_0 d] at h1
    omega
theorem NOK.rng1 (h : NOK 1 r W) : bRange (nm r W 0) (q_to r W) = true := by
  have hr : 1 ≤ r := h.1
  obtain ⟨a1, a2⟩ := h.num (j := 0) (by omega)
  have a1 : (0 : Int) ≤ (nm r W 0).toInt := a1
  have a2 : (nm r W 0).toInt ≤ 999 := a2
  unfold q_to
  by_cases d : 1 < r
  · obtain ⟨b1, b2⟩ := h.num (j := 1) d
    have b1 : (W 0).toInt ≤ (nm r W 1).toInt := b1
    have b2 : (nm r W 1).toInt ≤ 999 := b2
    rw [← nm_at (W := W) (j := 0) (r := r) (by omega)] at b1
    rw [if_pos d]
    exact bRange_of a1 b1 b2
  · rw [if_neg d]
    exact bRange_of a1 (Int.le_refl _) a2
theorem NOK.rng5 (h : NOK 5 r W) : bRange (nm r W 0) (nm r W 1) = true := by
  have hr : 2 ≤ r := h.1
  obtain ⟨a1, a2⟩ := h.num (j := 0) (by omega)
  have a1 : (0 : Int) ≤ (nm r W 0).toInt := a1
  obtain ⟨b1, b2⟩ := h.num (j := 1) (by omega)
  have b1 : (W 0).toInt ≤ (nm r W 1).toInt := b1
  have b2 : (nm r W 1).toInt ≤ 999 := b2
  rw [← nm_at (W := W) (j := 0) (r := r) (by omega)] at b1
  exact bRange_of a1 b1 b2
theorem NOK.key9 (h : NOK 9 r W) : bKey (nm r W 0) = true := by
  have hr : 2 ≤ r := h.1
  obtain ⟨a1, a2⟩ := h.num (j := 0) (by omega)
  exact bKey_of (kOk_of a1 a2)
theorem MR.cl1 {K : Nat} {as : List Value} {cc : Int32} (h : MR s m v F (cl_ tb_ct tb_mt B K as s) cc (.int a) σ') : MR s m v F (CL1 B K as s) cc (.int a) σ' := by
  obtain ⟨s', v', F', e, o, h1, h2, h3, h4⟩ := h
  refine ⟨s', v', F', ?_, o, h1, h2, h3, h4⟩
  unfold CL1
  rw [e, cI_s]
theorem ref_0 (h : vb ≠ 9) : q_ref vb a = q_ref 0 a := by
  unfold q_ref
  rw [decide_eq_false h, decide_eq_false (show (0 : Nat) ≠ 9 by decide)]
theorem ref_9 : q_ref 9 a = q_ref 0 (if a = -1 then -2 else a) := by
  by_cases c : a = -1
  · subst c
    rfl
  · rw [if_neg c]
    unfold q_ref
    rw [decide_eq_false c, Bool.and_false, Bool.and_false]
theorem mk_refused : cl_ tb_ct tb_mt B K_X13_isRefused [.int a] s = some (.inl (some (.int (if q_ref 0 a = true then 1 else 0))), s) := by
  rw [in_X13_isRefused, dc_X13_isRefused_0]
  unfold q_ref
  by_cases c1 : a = -(2 : Int32)
  · rw [if_pos c1, dc_X13_isRefused_24, decide_eq_true c1]
    rfl
  · rw [if_neg c1, decide_eq_false c1]
    by_cases c2 : a = -(3 : Int32)
    · rw [if_pos c2, dc_X13_isRefused_24, decide_eq_true c2]
      rfl
    · rw [if_neg c2, decide_eq_false c2]
      by_cases c3 : a = -(2000000001 : Int32)
      · rw [if_pos c3, dc_X13_isRefused_24, decide_eq_true c3]
        rfl
      · rw [if_neg c3, decide_eq_false c3]
        by_cases c4 : a = -(2000000002 : Int32)
        · rw [if_pos c4, dc_X13_isRefused_24, decide_eq_true c4]
          rfl
        · rw [if_neg c4, decide_eq_false c4]
          rfl
theorem st77_err (h12 : v 12 ≠ 0) : rn_ tb_ct tb_mt B mm_X13_statement 77 [.ref m, .int x, am_un] [.int a] (moS s m v F) = some (.inl none, moS s m v F) := by
  rw [dc_X13_statement_77, mo_12s, eI_s, if_neg h12]
theorem st77 (hB : B ≤ m) (h12 : v 12 = 0) : rn_ tb_ct tb_mt B mm_X13_statement 77 [.ref m, .int x, am_un] [.int a] (moS s m v F) = if q_ref 0 a = true then some (.inl none, moS s m (upd (upd (upd v 11 x) 12 3) 13 x) F) else some (.inl none, moS s m v F) := by
  rw [dc_X13_statement_77, mo_12s, eI_s, if_pos h12, mk_refused, cI_s, if_b]
  cases q_ref 0 a with
  | false => rw [if_neg Bool.false_ne_true, if_neg Bool.false_ne_true]
  | true => rw [if_pos rfl, if_pos rfl, mp_11s hB, eS_s, mo_cs, eC_s, mk_fails hB ((upd_n (by omega)).trans h12), cV_s, upd_k]
/-- what is left of the model behind a statement -/
def STO (s : am_S) (m : Nat) (v : Nat → Int32) (F : mrT) (σ σ1 : stT) (e p p' : Nat) (a : Int32) (A : am_R) : Prop := ∃ s' v' F' σ', A = some (.inl none, s') ∧ so s s' m (m + 12) ∧ MO s' m v' F' ∧ FR (F' 1) σ' ∧ (∀ i, (i = 2 ∨ i = 3 ∨ i = 4 ∨ i = 7 ∨ i = 11) → F' i = F i) ∧ (∀ k, (k < 10 ∨ 14 ≤ k) → k ≠ 4 → k ≠ 7 → v' k = v k) ∧ (e ≠ 0 → σ' = σ ∧ v' 12 = nI e ∧ v' 13 = nI p') ∧ (e = 0 → σ' = σ1 ∧ (q_ref 0 a = true → v' 12 = nI 3 ∧ v' 13 = nI p) ∧ (q_ref 0 a = false → v' 12 = 0 ∧ v' 10 = nI p'))
theorem st_tail (hB : B ≤ m) (hPT : PTs R v1 v2 (moS s m v2 F) A C) (hf : FR (F 1) σ) (hR : R.1 ≤ 2) (hc : R.1 = 0 → MR (moS s m v2 F) m v2 F C 0 (.int a) σ1) : STO s m v1 F σ σ1 R.1 p R.2.1 a (cI A (fun x_1 s_1 => rn_ tb_ct tb_mt B mm_X13_statement 77 [.ref m, .int (nI p), am_un] [.int x_1] s_1) xo) := by
  obtain ⟨k1, k2, k3⟩ := hPT
  by_cases d : R.1 = 0
  · obtain ⟨d1, d2, d3⟩ := k3 d
    obtain ⟨s', v', F', e1, o1, h1, f1, m1', c1⟩ := hc d
    have b12 : v' 12 = 0 := (m1'.2 12 (by omega) (by omega)).trans d1
    have b10 : v' 10 = nI R.2.1 := (m1'.2 10 (by omega) (by omega)).trans d2
    have run : rn_ tb_ct tb_mt B mm_X13_statement 77 [.ref m, .int (nI p), am_un] [.int a] s' = if q_ref 0 a = true then some (.inl none, moS s' m (upd (upd (upd v' 11 (nI p)) 12 3) 13 (nI p)) F') else some (.inl none, s') := by
      have := st77 (B := B) (s := s') (F := F') (x := nI p) (a := a) hB b12
      rw [mo_self h1] at this
      exact this
    rw [d3, e1, cI_s, run]
    have kF : ∀ i, (i = 2 ∨ i = 3 ∨ i = 4 ∨ i = 7 ∨ i = 11) → F' i = F i := m1'.1
    have kv : ∀ k, (k < 10 ∨ 14 ≤ k) → k ≠ 4 → k ≠ 7 → v' k = v1 k := fun k hk h4 h7 => (m1'.2 k h4 h7).trans (k1 k hk)
    cases hr : q_ref 0 a with
    | true =>
      rw [if_pos rfl]
      refine ⟨_, _, F', σ1, rfl, so_tr (so_tr so_ov o1) so_ov, OV.of, f1, kF, fun k hk h4 h7 => ?_, fun h => absurd d h, fun _ => ⟨rfl, fun _ => ⟨?_, upd_k⟩, fun h => absurd h (by rw [hr]; decide)⟩⟩
      · rw [upd_n (by omega), upd_n (by omega), upd_n (by omega)]
        exact kv k hk h4 h7
      · rw [upd_n (by omega)]
        exact upd_k
    | false =>
      rw [if_neg Bool.false_ne_true]
      exact ⟨_, v', F', σ1, rfl, so_tr so_ov o1, h1, f1, kF, kv, fun h => absurd d h, fun _ => ⟨rfl, fun h => absurd h (by rw [hr]; decide), fun _ => ⟨b12, b10⟩⟩⟩
  · obtain ⟨⟨z, ez⟩, d1, d2⟩ := k2 d
    have hne : nI R.1 ≠ 0 := err_ne (by omega)
    rw [ez, cI_s, st77_err (by rw [d1]; exact hne)]
    exact ⟨_, v2, F, σ, rfl, so_ov, OV.of, hf, fun _ _ => rfl, fun k hk _ _ => k1 k hk, fun _ => ⟨rfl, d1, d2⟩, fun h => absurd h d⟩
theorem one_PT {K : Nat} (k1 : VK v v1) (k2 : R.1 ≠ 0 → v1 12 ≠ 0 ∧ v1 12 = nI R.1 ∧ v1 13 = nI R.2.1) (k3 : R.1 = 0 → v1 12 = 0 ∧ v1 10 = nI R.2.1 ∧ x = nm R.2.2.1 R.2.2.2 0) (hA : A = if v1 12 = 0 then CL1 B K [.ref m, .int x] (moS s m v1 F) else some (.inl (some (.int 0)), moS s m v1 F)) : PTs R v v1 (moS s m v1 F) A (CL1 B K [.ref m, .int (nm R.2.2.1 R.2.2.2 0)] (moS s m v1 F)) := by
  refine ⟨k1, fun h => ?_, fun h => ?_⟩
  · obtain ⟨a1, a2, a3⟩ := k2 h
    rw [if_neg a1] at hA
    exact ⟨⟨0, hA⟩, a2, a3⟩
  · obtain ⟨a1, a2, a3⟩ := k3 h
    rw [if_pos a1, a3] at hA
    exact ⟨a1, a2, hA⟩
/-- the part that a word begins -/
def KPt (vb : Nat) : Nat := if vb = 0 then K_X13_putPart else if vb = 1 then K_X13_deletePart else if vb = 5 then K_X13_watchPart else if vb = 9 then K_X13_attachPart else K_X13_otherPart
theorem st_head (hQ : ELt B s Q) (hw : ∀ w, w < 10 → cl_ tb_ct tb_mt B K_X13_isWord [.ref m, .ref (Q w)] (moS s m v1 F) = some (.inl (some (.int (if w = vb then 1 else 0))), moS s m v1 F)) (h11 : v1 11 = nI b) (hr : cl_ tb_ct tb_mt B K_X13_reads [.ref m] (moS s m v F) = some (.inl none, moS s m v1 F)) : cl_ tb_ct tb_mt B K_X13_statement [.ref m] (moS s m v F) = cI (cl_ tb_ct tb_mt B (KPt vb) [.ref m] (moS s m v1 F)) (fun x_1 s_1 => rn_ tb_ct tb_mt B mm_X13_statement 77 [.ref m, .int (nI b), am_un] [.int x_1] s_1) xo := by
  have q0 : stR (moS s m v1 F) 108 = some (Q 0) := (hQ 0 (by omega)).1
  have q1 : stR (moS s m v1 F) 109 = some (Q 1) := (hQ 1 (by omega)).1
  have q5 : stR (moS s m v1 F) 110 = some (Q 5) := (hQ 5 (by omega)).1
  have q9 : stR (moS s m v1 F) 111 = some (Q 9) := (hQ 9 (by omega)).1
  rw [in_X13_statement, dc_X13_statement_0, mo_cs, eC_s, hr, cV_s, mo_11s, eI_s, h11, q0, eK_s, mo_cs, eC_s, hw 0 (by omega), cI_s, if_p]
  unfold KPt
  by_cases c0 : vb = 0
  · rw [if_pos c0.symm, if_pos c0, mo_cs, eC_s]
  · rw [if_neg (fun h => c0 h.symm), if_neg c0, q1, eK_s, mo_cs, eC_s, hw 1 (by omega), cI_s, if_p]
    by_cases c1 : vb = 1
    · rw [if_pos c1.symm, if_pos c1, mo_cs, eC_s]
    · rw [if_neg (fun h => c1 h.symm), if_neg c1, q5, eK_s, mo_cs, eC_s, hw 5 (by omega), cI_s, if_p]
      by_cases c5 : vb = 5
      · rw [if_pos c5.symm, if_pos c5, mo_cs, eC_s]
      · rw [if_neg (fun h => c5 h.symm), if_neg c5, q9, eK_s, mo_cs, eC_s, hw 9 (by omega), cI_s, if_p]
        by_cases c9 : vb = 9
        · rw [if_pos c9.symm, if_pos c9, mo_cs, eC_s]
        · rw [if_neg (fun h => c9 h.symm), if_neg c9, mo_cs, eC_s]
/-! the other words -/
theorem ot_head (hQ : ELt B s Q) (hw : ∀ w, w < 10 → cl_ tb_ct tb_mt B K_X13_isWord [.ref m, .ref (Q w)] (moS s m v F) = some (.inl (some (.int (if w = vb then 1 else 0))), moS s m v F)) : cl_ tb_ct tb_mt B K_X13_otherPart [.ref m] (moS s m v F) = if vb = 2 then cI (cl_ tb_ct tb_mt B K_X13_number [.ref m, .int 1, .int 1000] (moS s m v F)) (fun x_36 s_35 => eI (gI tb_ct s_35 m 11 12) (fun x_37 => if x_37 = 0 then eC (am_cls s_35 m) 11 (CL1 B K_X13_grant [.ref m, .int x_36] s_35) else some (.inl (some (.int 0)), s_35))) xo else if vb = 8 then cI (cl_ tb_ct tb_mt B K_X13_number [.ref m, .int 1, .int 1000] (moS s m v F)) (fun x_36 s_35 => eI (gI tb_ct s_35 m 11 12) (fun x_37 => if x_37 = 0 then eC (am_cls s_35 m) 11 (CL1 B K_X13_tick [.ref m, .int x_36] s_35) else some (.inl (some (.int 0)), s_35))) xo else if vb = 3 then cI (cl_ tb_ct tb_mt B K_X13_number [.ref m, .int 0, .int 9999] (moS s m v F)) (fun x_36 s_35 => eI (gI tb_ct s_35 m 11 12) (fun x_37 => if x_37 = 0 then eC (am_cls s_35 m) 11 (CL1 B K_X13_keepAlive [.ref m, .int x_36] s_35) else some (.inl (some (.int 0)), s_35))) xo else if vb = 4 then cI (cl_ tb_ct tb_mt B K_X13_number [.ref m, .int 0, .int 9999] (moS s m v F)) (fun x_36 s_35 => eI (gI tb_ct s_35 m 11 12) (fun x_37 => if x_37 = 0 then eC (am_cls s_35 m) 11 (CL1 B K_X13_revoke [.ref m, .int x_36] s_35) else some (.inl (some (.int 0)), s_35))) xo else if vb = 6 then rn_ tb_ct tb_mt B mm_X13_otherPart 165 [.ref m, .int 1, am_un] [] (moS s m v F) else if vb = 7 then rn_ tb_ct tb_mt B mm_X13_otherPart 165 [.ref m, .int 0, am_un] [] (moS s m v F) else cV (cl_ tb_ct tb_mt B K_X13_fails [.ref m, .int 1] (moS s m v F)) (fun s_19 => rn_ tb_ct tb_mt B mm_X13_otherPart 165 [.ref m, .int 0, am_un] [] s_19) xo := by
  have q2 : stR (moS s m v F) 102 = some (Q 2) := (hQ 2 (by omega)).1
  have q8 : stR (moS s m v F) 103 = some (Q 8) := (hQ 8 (by omega)).1
  have q3 : stR (moS s m v F) 104 = some (Q 3) := (hQ 3 (by omega)).1
  have q4 : stR (moS s m v F) 105 = some (Q 4) := (hQ 4 (by omega)).1
  have q6 : stR (moS s m v F) 106 = some (Q 6) := (hQ 6 (by omega)).1
  have q7 : stR (moS s m v F) 107 = some (Q 7) := (hQ 7 (by omega)).1
  rw [in_X13_otherPart, dc_X13_otherPart_0, q2, eK_s, mo_cs, eC_s, hw 2 (by omega), cI_s, if_p]
  by_cases c2 : vb = 2
  · rw [if_pos c2.symm, if_pos c2, mo_cs, eC_s]
  · rw [if_neg (fun h => c2 h.symm), if_neg c2, q8, eK_s, mo_cs, eC_s, hw 8 (by omega), cI_s, if_p]
    by_cases c8 : vb = 8
    · rw [if_pos c8.symm, if_pos c8, mo_cs, eC_s]
    · rw [if_neg (fun h => c8 h.symm), if_neg c8, q3, eK_s, mo_cs, eC_s, hw 3 (by omega), cI_s, if_p]
      by_cases c3 : vb = 3
      · rw [if_pos c3.symm, if_pos c3, mo_cs, eC_s]
      · rw [if_neg (fun h => c3 h.symm), if_neg c3, q4, eK_s, mo_cs, eC_s, hw 4 (by omega), cI_s, if_p]
        by_cases c4 : vb = 4
        · rw [if_pos c4.symm, if_pos c4, mo_cs, eC_s]
        · rw [if_neg (fun h => c4 h.symm), if_neg c4, q6, eK_s, mo_cs, eC_s, hw 6 (by omega), cI_s, if_p]
          by_cases c6 : vb = 6
          · rw [if_pos c6.symm, if_pos c6, if_pos c6.symm]
          · rw [if_neg (fun h => c6 h.symm), if_neg c6, if_neg (fun h => c6 h.symm), q7, eK_s, mo_cs, eC_s, hw 7 (by omega), cI_s, if_p]
            by_cases c7 : vb = 7
            · rw [if_pos c7.symm, if_pos c7]
            · rw [if_neg (fun h => c7 h.symm), if_neg c7, mo_cs, eC_s]
end Sq
