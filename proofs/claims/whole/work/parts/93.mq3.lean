/-! ===== the model: what is asked (3) ===== -/
def oI (r : Option Nat) : Int32 := match r with
  | none => -1
  | some j => nI j
theorem cbB_ir {k : Nat → Int32} : cbB k k = false := by
  unfold cbB
  rw [decide_eq_false Int32.lt_irrefl, decide_eq_false Int32.lt_irrefl, Bool.and_false]
  rfl
section Mk
variable {s s' : am_S} {B m i j n e c u q : Nat} {v v' v'' : Nat → Int32} {F F' F'' : mrT} {g g' : Nat → Int32} {x y z l t f key : Int32} {σ σ' : stT} {R : am_R} {a z0 : Value} {P P' : Nat × rowT} {r : Option Nat}
theorem m_ex_lp (h : MM B s m v F σ) : ∀ k i f l, i + k = σ.1 4 → (f = -1 ∨ ∃ b, b < σ.1 4 ∧ f = nI b ∧ l = σ.2 3 b 2) → rn_ tb_ct tb_mt B mm_X13_expiry 21 [.ref m, .int y, .int f, .int (nI i)] [] s = rn_ tb_ct tb_mt B mm_X13_expiry 21 [.ref m, .int y, .int (feG (σ.2 3) i k f l), .int (nI (σ.1 4))] [] s := by
  have h4 := h.2.2.1.2.2.2.1
  intro k
  induction k with
  | zero => intro i f l hi hf; rw [show i = σ.1 4 by omega]; rfl
  | succ k ih =>
    intro i f l hi hf
    rw [dc_X13_expiry_21, mo_0 h.1, eA_s, show (4 : Int32) = nI 4 from rfl, h.gz (by omega), eI_s, if_neg (nI_ge (by omega) (by omega))]
    have e6 : rn_ tb_ct tb_mt B mm_X13_expiry 67 [.ref m, .int y, .int f, .int (nI i)] [] s = rn_ tb_ct tb_mt B mm_X13_expiry 21 [.ref m, .int y, .int (feG (σ.2 3) (i + 1) k (nI i) (σ.2 3 i 2)), .int (nI (σ.1 4))] [] s := by
      rw [dc_X13_expiry_67, dc_X13_expiry_69, nI_1]
      exact ih (i + 1) _ _ (by omega) (Or.inr ⟨i, by omega, rfl, rfl⟩)
    show _ = rn_ tb_ct tb_mt B mm_X13_expiry 21 [.ref m, .int y, .int (if f = -1 ∨ σ.2 3 i 2 < l then feG (σ.2 3) (i + 1) k (nI i) (σ.2 3 i 2) else feG (σ.2 3) (i + 1) k f l), .int (nI (σ.1 4))] [] s
    by_cases c : f = -1
    · rw [if_pos (show f = -(1 : Int32) from c), if_pos (Or.inl c)]
      exact e6
    · obtain ⟨b, hb, rfl, rfl⟩ := hf.resolve_left c
      have e1 : aI s (m + 1) ((1149 + 3 * nI i) + 2) = some (σ.2 3 i 2) := by
        simp only [nn0, nn1, nn2, nn3, nn4, nn5, nn6, nn7, nn8, nn9, nn10, nn11, nn12, nn13, nn15, nn16, nn18, nn28, nn45, nn48, nn57, nn58, nn59, nn97, nn120, nn122, nn157, nn189, nn500, nn999, nn1000, nn1149, nn1173, nn1269, nn1293, nn1311, nn1329, nn9999, nI_add, nI_mul]
        exact h.gl (i := i) (w := 2) (by omega) (by omega)
      have e2 : aI s (m + 1) ((1149 + 3 * nI b) + 2) = some (σ.2 3 b 2) := by
        simp only [nn0, nn1, nn2, nn3, nn4, nn5, nn6, nn7, nn8, nn9, nn10, nn11, nn12, nn13, nn15, nn16, nn18, nn28, nn45, nn48, nn57, nn58, nn59, nn97, nn120, nn122, nn157, nn189, nn500, nn999, nn1000, nn1149, nn1173, nn1269, nn1293, nn1311, nn1329, nn9999, nI_add, nI_mul]
        exact h.gl (i := b) (w := 2) hb (by omega)
      rw [if_neg (show ¬ nI b = -(1 : Int32) from c), eA_s, e1, eI_s, eA_s, e2, eI_s]
      by_cases d : σ.2 3 i 2 < σ.2 3 b 2
      · rw [if_neg (Int32.not_le.mpr d), if_pos (Or.inr d)]
        exact e6
      · rw [if_pos (Int32.not_lt.mp d), if_neg (show ¬ (nI b = -1 ∨ σ.2 3 i 2 < σ.2 3 b 2) from fun hc => hc.elim c d), dc_X13_expiry_69, nI_1]
        exact ih (i + 1) _ _ (by omega) (Or.inr ⟨b, hb, rfl, rfl⟩)
theorem m_expiry (h : MM B s m v F σ) : MR s m v F (cl_ tb_ct tb_mt B K_X13_expiry [.ref m, .int y] s) (if bIn y 0 1 = true then 0 else 1) (if bIn y 0 1 = true then .int (q_expiry σ y) else .int 0) (if bIn y 0 1 = true then σ else σ) := by
  have h4 := h.2.2.1.2.2.2.1
  rw [in_X13_expiry, dc_X13_expiry_0, mi_in y 0 1 (j2 := 0) (j4 := 1) rfl rfl, cI_s, mo_cls h.1, eC_s]
  refine mi_call h (fun ok => MR.in OV.of h.2.1 upd_k ?_) fun _ => rfl
  have h' := h.p4 (x := 0)
  have e := m_ex_lp (y := y) h' (σ.1 4) 0 (-1) 0 (by omega) (Or.inl rfl)
  show rn_ tb_ct tb_mt B mm_X13_expiry 21 [.ref m, .int y, .int (-1), .int (nI 0)] [] _ = _
  rw [e, dc_X13_expiry_21, mo_0 h'.1, eA_s, show (4 : Int32) = nI 4 from rfl, h'.gz (by omega), eI_s, if_pos (nI_le (by omega) (by omega))]
  unfold q_expiry
  by_cases c : σ.1 4 = 0
  · rw [if_pos c, show feG (σ.2 3) 0 (σ.1 4) (-1) 0 = -1 from by rw [c]; rfl]
    rfl
  · obtain ⟨f1, f2, f3, f4⟩ := p_fe_spec (σ := σ) (by omega) h4
    rw [if_neg c, f2, if_neg (show ¬ nI (p_fe σ) = -(1 : Int32) from nI_m1 (by omega))]
    have e0 : aI (moS s m (upd v 4 0) F) (m + 1) (nI (1149 + 3 * p_fe σ) + 0) = some (σ.2 3 (p_fe σ) 0) := by
      rw [nn0, nI_add]
      exact h'.gl (i := p_fe σ) (w := 0) f1 (by omega)
    have e2 : aI (moS s m (upd v 4 0) F) (m + 1) (nI (1149 + 3 * p_fe σ) + 2) = some (σ.2 3 (p_fe σ) 2) := by
      rw [nn2, nI_add]
      exact h'.gl (i := p_fe σ) (w := 2) f1 (by omega)
    have e1 : (1149 : Int32) + 3 * nI (p_fe σ) = nI (1149 + 3 * p_fe σ) := by
      simp only [nn0, nn1, nn2, nn3, nn4, nn5, nn6, nn7, nn8, nn9, nn10, nn11, nn12, nn13, nn15, nn16, nn18, nn28, nn45, nn48, nn57, nn58, nn59, nn97, nn120, nn122, nn157, nn189, nn500, nn999, nn1000, nn1149, nn1173, nn1269, nn1293, nn1311, nn1329, nn9999, nI_add, nI_mul]
    rw [e1]
    by_cases d : y = 0
    · rw [eA_s, if_pos d, if_pos d, dc_X13_expiry_104, eA_s, e0, eI_s]
    · rw [eA_s, if_neg d, if_neg d, dc_X13_expiry_104, eA_s, e2, eI_s]
/-! keys still there some ticks later -/
def dzB (L : rowT) (t : Int32) (i k : Nat) (κ : Nat → Int32) : Bool := match k with
  | 0 => false
  | k + 1 => (decide (κ 5 = L i 0) && !decide (t < L i 2)) || dzB L t (i + 1) k κ
theorem dzB_no {L : rowT} {κ : Nat → Int32} : ∀ k i, (∀ j, i ≤ j → j < i + k → κ 5 = L j 0 → t < L j 2) → dzB L t i k κ = false := by
  intro k
  induction k with
  | zero => intro i _; rfl
  | succ k ih =>
    intro i h
    show ((decide (κ 5 = L i 0) && !decide (t < L i 2)) || dzB L t (i + 1) k κ) = false
    rw [ih (i + 1) fun j a b => h j (by omega) (by omega), Bool.or_false]
    by_cases c : κ 5 = L i 0
    · rw [decide_eq_true (h i (by omega) (by omega) c), Bool.not_true, Bool.and_false]
    · rw [decide_eq_false c, Bool.false_and]
theorem dzB_yes {L : rowT} {κ : Nat → Int32} : ∀ k i j, i ≤ j → j < i + k → κ 5 = L j 0 → ¬ t < L j 2 → dzB L t i k κ = true := by
  intro k
  induction k with
  | zero => intro i j a b; omega
  | succ k ih =>
    intro i j a b e hn
    show ((decide (κ 5 = L i 0) && !decide (t < L i 2)) || dzB L t (i + 1) k κ) = true
    by_cases c : j = i
    · subst c
      rw [decide_eq_true e, decide_eq_false hn]
      rfl
    · rw [ih (i + 1) j (by omega) (by omega) e hn, Bool.or_true]
theorem kin_dz (hs : srt (σ.2 3) (σ.1 4)) : ∀ k i (w : Int32), i + k = σ.1 4 → q_kin σ t i k w = w - nI (cn (fun j => dzB (σ.2 3) t i k (σ.2 0 j)) 0 (σ.1 3)) := by
  intro k
  induction k with
  | zero =>
    intro i w hi
    show w = w - nI (cn (fun _ => false) 0 (σ.1 3))
    rw [cn_0 _ _ fun _ _ _ => rfl]
    exact (Int32.sub_zero ..).symm
  | succ k ih =>
    intro i w hi
    show q_kin σ t (i + 1) k (if t < σ.2 3 i 2 then w else w - nI (cn (fun j => decide (σ.2 0 j 5 = σ.2 3 i 0)) 0 (σ.1 3))) = _
    rw [ih (i + 1) _ (by omega)]
    by_cases c : t < σ.2 3 i 2
    · rw [if_pos c, cn_cg (q := fun j => dzB (σ.2 3) t (i + 1) k (σ.2 0 j)) (p := fun j => dzB (σ.2 3) t i (k + 1) (σ.2 0 j)) _ _ fun j _ _ => ?_]
      show ((decide (σ.2 0 j 5 = σ.2 3 i 0) && !decide (t < σ.2 3 i 2)) || dzB (σ.2 3) t (i + 1) k (σ.2 0 j)) = _
      rw [decide_eq_true c, Bool.not_true, Bool.and_false, Bool.false_or]
    · rw [if_neg c, cn_cg (q := fun j => decide (σ.2 0 j 5 = σ.2 3 i 0) || dzB (σ.2 3) t (i + 1) k (σ.2 0 j)) (p := fun j => dzB (σ.2 3) t i (k + 1) (σ.2 0 j)) _ _ fun j _ _ => ?_, cn_or _ _ fun j _ _ e => ?_, ← nI_add]
      · simp only [Int32.sub_eq_add_neg, Int32.neg_add]
        rw [Int32.add_assoc]
      · refine dzB_no _ _ fun q a b e2 => ?_
        exact absurd (srt_inj hs (show i < σ.1 4 by omega) (show q < σ.1 4 by omega) ((of_decide_eq_true e).symm.trans e2)) (by omega)
      · show ((decide (σ.2 0 j 5 = σ.2 3 i 0) && !decide (t < σ.2 3 i 2)) || dzB (σ.2 3) t (i + 1) k (σ.2 0 j)) = _
        rw [decide_eq_false c, Bool.not_false, Bool.and_true]
theorem m_kin_lp (h : MM B s m v F σ) (hs : srt (σ.2 3) (σ.1 4)) (h1 : ∀ i, i < σ.1 4 → σ.2 3 i 0 ≠ 0) : ∀ k i c, i + k = σ.1 3 → rn_ tb_ct tb_mt B mm_X13_keysIn 23 [.ref m, .int t, .int (nI c), .int (nI i), am_un] [] s = some (.inl (some (.int (nI (c + cn (fun j => !dzB (σ.2 3) t 0 (σ.1 4) (σ.2 0 j)) i k)))), s) := by
  have h3 := h.2.2.1.1
  have h4 := h.2.2.1.2.2.2.1
  intro k
  induction k with
  | zero =>
    intro i c hi
    rw [dc_X13_keysIn_23, mo_0 h.1, eA_s, show (3 : Int32) = nI 3 from rfl, h.gz (by omega), eI_s, if_pos (nI_le (by omega) (by omega))]
    rfl
  | succ k ih =>
    intro i c hi
    have k1 : ∀ (d : Nat) (w2 w4 : Value), (if (!dzB (σ.2 3) t 0 (σ.1 4) (σ.2 0 i)) = true then 1 else 0) = d → rn_ tb_ct tb_mt B mm_X13_keysIn 89 [.ref m, .int t, w2, .int (nI i), w4] [.int (nI d), .int (nI c)] s = some (.inl (some (.int (nI (c + cn (fun j => !dzB (σ.2 3) t 0 (σ.1 4) (σ.2 0 j)) i (k + 1))))), s) := by
      intro d w2 w4 e
      rw [dc_X13_keysIn_89, nI_add, nI_1, ih (i + 1) _ (by omega), cn_s, e, Nat.add_assoc]
    have k2 : ∀ (w2 w4 : Value), dzB (σ.2 3) t 0 (σ.1 4) (σ.2 0 i) = false → rn_ tb_ct tb_mt B mm_X13_keysIn 84 [.ref m, .int t, w2, .int (nI i), w4] [.int (nI c)] s = some (.inl (some (.int (nI (c + cn (fun j => !dzB (σ.2 3) t 0 (σ.1 4) (σ.2 0 j)) i (k + 1))))), s) := by
      intro w2 w4 e
      rw [dc_X13_keysIn_84]
      exact k1 1 _ _ (by rw [e]; rfl)
    rw [dc_X13_keysIn_23, mo_0 h.1, eA_s, show (3 : Int32) = nI 3 from rfl, h.gz (by omega), eI_s, if_neg (nI_ge (by omega) (by omega)), mo_cls h.1, eC_s, show (5 : Int32) = nI 5 from rfl, mk_keyAt h (by omega) (by omega), cI_s]
    by_cases c0 : σ.2 0 i 5 = 0
    · rw [if_pos c0, dc_X13_keysIn_56, if_pos rfl]
      refine k2 _ _ (dzB_no _ _ fun j _ hj e => absurd (e.symm.trans c0) (h1 j (by omega)))
    · rw [if_neg c0, mo_cls h.1, eC_s, mk_keyAt h (by omega) (by omega), cI_s, mo_cls h.1, eC_s, mk_leaseOf h, cI_s]
      by_cases c1 : pF (σ.2 3) (σ.1 4) (σ.2 0 i 5) < σ.1 4
      · rw [if_pos c1, dc_X13_keysIn_56, if_neg (show ¬ nI (pF (σ.2 3) (σ.1 4) (σ.2 0 i 5)) = -(1 : Int32) from nI_m1 (by omega)), mo_0 h.1, eA_s]
        simp only [nn0, nn1, nn2, nn3, nn4, nn5, nn6, nn7, nn8, nn9, nn10, nn11, nn12, nn13, nn15, nn16, nn18, nn28, nn45, nn48, nn57, nn58, nn59, nn97, nn120, nn122, nn157, nn189, nn500, nn999, nn1000, nn1149, nn1173, nn1269, nn1293, nn1311, nn1329, nn9999, nI_add, nI_mul]
        rw [h.gl (i := pF (σ.2 3) (σ.1 4) (σ.2 0 i 5)) (w := 2) c1 (by omega), eI_s]
        have e1 := pF_eq c1
        by_cases d : t < σ.2 3 (pF (σ.2 3) (σ.1 4) (σ.2 0 i 5)) 2
        · rw [if_neg (Int32.not_le.mpr d)]
          refine k2 _ _ (dzB_no _ _ fun j _ hj e => ?_)
          rw [srt_inj hs (show j < σ.1 4 by omega) c1 (e.symm.trans e1.symm)]
          exact d
        · rw [if_pos (Int32.not_lt.mp d)]
          exact k1 0 _ _ (by rw [dzB_yes _ _ _ (Nat.zero_le _) (show pF (σ.2 3) (σ.1 4) (σ.2 0 i 5) < 0 + σ.1 4 by omega) e1.symm d]; rfl)
      · rw [if_neg c1, dc_X13_keysIn_56, if_pos rfl]
        refine k2 _ _ (dzB_no _ _ fun j _ hj e => ?_)
        refine absurd ?_ c1
        rw [e, pF_of hs (show j < σ.1 4 by omega) rfl]
        omega
theorem m_keysIn (h : MM B s m v F σ) (hI : IL σ) (h8 : σ.1 8 < 2 ^ 31) : MR s m v F (cl_ tb_ct tb_mt B K_X13_keysIn [.ref m, .int y] s) (if bTck y = true then 0 else 1) (if bTck y = true then .int (q_kin σ y 0 (σ.1 4) (nI (σ.1 3))) else .int 0) (if bTck y = true then σ else σ) := by
  have h3 := h.2.2.1.1
  rw [in_X13_keysIn, dc_X13_keysIn_0, mi_in y 1 1000 (j2 := 1) (j4 := 1000) rfl rfl, cI_s, mo_cls h.1, eC_s]
  refine mi_call (ok := bTck y) h (fun ok => MR.in OV.of h.2.1 upd_k ?_) fun _ => rfl
  have h' := h.p4 (x := 0)
  have e := m_kin_lp (t := y) h' hI.2.2 (fun i hi e => by
    obtain ⟨q, _, _, e1, e2, e3, _⟩ := hI.2.1 i hi
    have := (nI_eq (a := q) (b := 0) (by omega) (by omega)).mp (e1.symm.trans e)
    omega) (σ.1 3) 0 0 (by omega)
  show rn_ tb_ct tb_mt B mm_X13_keysIn 23 [.ref m, .int y, .int (nI 0), .int (nI 0), am_un] [] _ = _
  rw [e, kin_dz hI.2.2 _ _ _ (by omega), Nat.zero_add]
  have := cn_not (p := fun j => dzB (σ.2 3) y 0 (σ.1 4) (σ.2 0 j)) (σ.1 3) 0
  rw [nI_2 (by omega), show σ.1 3 - cn (fun j => dzB (σ.2 3) y 0 (σ.1 4) (σ.2 0 j)) 0 (σ.1 3) = cn (fun j => !dzB (σ.2 3) y 0 (σ.1 4) (σ.2 0 j)) 0 (σ.1 3) by omega]
/-! who came ahead -/
theorem mk_came (h : MM B s m v F σ) (hs : srt (σ.2 0) (σ.1 3)) (hi : i < σ.1 3) (hj : j < σ.1 3) : cl_ tb_ct tb_mt B K_X13_cameAhead [.ref m, .int (nI i), .int (nI j)] s = some (.inl (some (.int (if cbB (σ.2 0 i) (σ.2 0 j) = true then 1 else 0))), s) := by
  have h3 := h.2.2.1.1
  rw [in_X13_cameAhead, dc_X13_cameAhead_0, mo_cls h.1, eC_s, show (2 : Int32) = nI 2 from rfl, mk_keyAt h hi (by omega), cI_s, mo_cls h.1, eC_s, mk_keyAt h hj (by omega), cI_s]
  unfold cbB
  by_cases c : σ.2 0 i 2 = σ.2 0 j 2
  · rw [if_pos c, decide_eq_true c, c, decide_eq_false Int32.lt_irrefl, Bool.false_or, Bool.true_and]
    by_cases d : i < j
    · rw [if_neg (nI_ge d (by omega)), decide_eq_true (hs i j d hj)]
      rfl
    · rw [if_pos (nI_le (by omega) (by omega)), decide_eq_false]
      · rfl
      · intro hc
        rcases Nat.lt_or_ge j i with d2 | d2
        · exact absurd (hs j i d2 hi) (Int32.lt_asymm hc)
        · rw [show i = j by omega] at hc
          exact Int32.lt_irrefl hc
  · rw [if_neg c, decide_eq_false c, Bool.false_and, Bool.or_false]
    by_cases d : σ.2 0 i 2 < σ.2 0 j 2
    · rw [if_neg (Int32.not_le.mpr d), decide_eq_true d]
      rfl
    · rw [if_pos (Int32.not_lt.mp d), decide_eq_false d]
      rfl
theorem oI_m1 (hr : ∀ j, r = some j → j < σ.1 3) (h3 : σ.1 3 ≤ 22) : (oI r = -(1 : Int32)) ↔ r = none := by
  cases r with
  | none => exact ⟨fun _ => rfl, fun _ => rfl⟩
  | some j =>
    have := hr j rfl
    exact ⟨fun e => absurd e (nI_m1 (by omega)), fun e => by cases e⟩
theorem m_ko (h : MM B s m v F σ) (hr : ∀ j, r = some j → j < σ.1 3) {g : am_R} (hg : g = some (.inl (some (.int (-(1 : Int32)))), s)) : (if oI r = -(1 : Int32) then g else eC (am_cls s m) 11 (cI (cl_ tb_ct tb_mt B K_X13_keyAt [.ref m, .int (oI r), .int 0] s) (fun x_4 s_3 => some (.inl (some (.int x_4)), s_3)) xo)) = some (.inl (some (.int (q_ko σ r))), s) := by
  cases r with
  | none =>
    rw [if_pos (show oI none = -(1 : Int32) from rfl), hg]
    rfl
  | some j =>
    have := hr j rfl
    have h3 := h.2.2.1.1
    rw [if_neg (show ¬ oI (some j) = -(1 : Int32) from nI_m1 (by omega)), mo_cls h.1, eC_s, show (0 : Int32) = nI 0 from rfl]
    show (cI (cl_ tb_ct tb_mt B K_X13_keyAt [.ref m, .int (nI j), .int (nI 0)] s) _ _) = _
    rw [mk_keyAt h this (by omega), cI_s]
    rfl
theorem m_ld_lp (h : MM B s m v F σ) (hs : srt (σ.2 0) (σ.1 3)) : ∀ k i r, i + k = σ.1 3 → (∀ j, r = some j → j < σ.1 3) → rn_ tb_ct tb_mt B mm_X13_leader 20 [.ref m, .int f, .int t, .int (oI r), .int (nI i)] [] s = some (.inl (some (.int (q_ko σ (q_ld σ f t i k r)))), s) := by
  have h3 := h.2.2.1.1
  intro k
  induction k with
  | zero =>
    intro i r hi hr
    rw [dc_X13_leader_20, mo_0 h.1, eA_s, show (3 : Int32) = nI 3 from rfl, h.gz (by omega), eI_s, if_pos (nI_le (by omega) (by omega))]
    exact m_ko h hr rfl
  | succ k ih =>
    intro i r hi hr
    rw [dc_X13_leader_20, mo_0 h.1, eA_s, show (3 : Int32) = nI 3 from rfl, h.gz (by omega), eI_s, if_neg (nI_ge (by omega) (by omega)), mo_cls h.1, eC_s, mk_isIn h (by omega), cI_s, if_b]
    have e1 : rn_ tb_ct tb_mt B mm_X13_leader 60 [.ref m, .int f, .int t, .int (oI r), .int (nI i)] [] s = some (.inl (some (.int (q_ko σ (q_ld σ f t (i + 1) k r)))), s) := by
      rw [dc_X13_leader_60, nI_1]
      exact ih (i + 1) r (by omega) hr
    have e2 : rn_ tb_ct tb_mt B mm_X13_leader 57 [.ref m, .int f, .int t, .int (oI r), .int (nI i)] [] s = some (.inl (some (.int (q_ko σ (q_ld σ f t (i + 1) k (some i))))), s) := by
      rw [dc_X13_leader_57, dc_X13_leader_60, nI_1]
      exact ih (i + 1) (some i) (by omega) fun j e => by cases e; omega
    show _ = some (Sum.inl (some (Value.int (q_ko σ (q_ld σ f t (i + 1) k (if inR f t (σ.2 0 i) = true ∧ (∀ j, r = some j → cbB (σ.2 0 i) (σ.2 0 j) = true) then some i else r))))), s)
    by_cases c : inR f t (σ.2 0 i) = true
    · rw [if_pos c]
      cases r with
      | none =>
        rw [if_pos (show oI none = -(1 : Int32) from rfl), if_pos ⟨c, fun j e => by cases e⟩]
        exact e2
      | some j =>
        have hj := hr j rfl
        rw [if_neg (show ¬ oI (some j) = -(1 : Int32) from nI_m1 (by omega)), mo_cls h.1, eC_s]
        show (cI (cl_ tb_ct tb_mt B K_X13_cameAhead [.ref m, .int (nI i), .int (nI j)] s) _ _) = _
        rw [mk_came h hs (by omega) hj, cI_s, if_b]
        by_cases d : cbB (σ.2 0 i) (σ.2 0 j) = true
        · rw [if_pos d, if_pos ⟨c, fun j' e => by cases e; exact d⟩]
          exact e2
        · rw [if_neg d, if_neg fun hc => d (hc.2 j rfl)]
          exact e1
    · rw [if_neg c, if_neg fun hc => c hc.1]
      exact e1
theorem m_leader (h : MM B s m v F σ) (hs : srt (σ.2 0) (σ.1 3)) : MR s m v F (cl_ tb_ct tb_mt B K_X13_leader [.ref m, .int f, .int t] s) (if bRange f t = true then 0 else 1) (if bRange f t = true then .int (q_lead σ f t) else .int 0) (if bRange f t = true then σ else σ) := by
  rw [in_X13_leader, dc_X13_leader_0, mi_isRange, cI_s, mo_cls h.1, eC_s]
  refine mi_call h (fun ok => MR.in OV.of h.2.1 upd_k ?_) fun _ => rfl
  exact m_ld_lp (h.p4 (x := 0)) hs (σ.1 3) 0 none (by omega) fun j e => by cases e
theorem mk_stands (h : MM B s m v F σ) (hs : srt (σ.2 0) (σ.1 3)) : cl_ tb_ct tb_mt B K_X13_stands [.ref m, .int key, .int f, .int t] s = some (.inl (some (.int (if isK σ key ∧ inR f t (σ.2 0 (pF (σ.2 0) (σ.1 3) key)) = true then 1 else 0))), s) := by
  rw [in_X13_stands, dc_X13_stands_0, mo_cls h.1, eC_s, mk_there h hs, cI_s, if_p]
  by_cases c : isK σ key
  · rw [if_pos c, mi_in key f t rfl rfl, cI_s, if_b]
    have e : inR f t (σ.2 0 (pF (σ.2 0) (σ.1 3) key)) = bIn key f t := by
      unfold inR bIn
      rw [pF_eq c]
    by_cases d : bIn key f t = true
    · rw [if_pos d, if_pos ⟨c, e.trans d⟩]
    · rw [if_neg d, if_neg fun hc => d (e.symm.trans hc.2)]
  · rw [if_neg c, if_neg fun hc => c hc.1]
theorem m_ah_lp (h : MM B s m v F σ) (hs : srt (σ.2 0) (σ.1 3)) (hq : q < σ.1 3) : ∀ k i r (w1 : Value), i + k = σ.1 3 → (∀ j, r = some j → j < σ.1 3) → rn_ tb_ct tb_mt B mm_X13_ahead 55 [.ref m, w1, .int f, .int t, .int (nI q), .int (oI r), .int (nI i)] [] s = some (.inl (some (.int (q_ko σ (q_ah σ q f t i k r)))), s) := by
  have h3 := h.2.2.1.1
  intro k
  induction k with
  | zero =>
    intro i r w1 hi hr
    rw [dc_X13_ahead_55, mo_0 h.1, eA_s, show (3 : Int32) = nI 3 from rfl, h.gz (by omega), eI_s, if_pos (nI_le (by omega) (by omega))]
    exact m_ko h hr rfl
  | succ k ih =>
    intro i r w1 hi hr
    rw [dc_X13_ahead_55, mo_0 h.1, eA_s, show (3 : Int32) = nI 3 from rfl, h.gz (by omega), eI_s, if_neg (nI_ge (by omega) (by omega))]
    have e1 : rn_ tb_ct tb_mt B mm_X13_ahead 116 [.ref m, am_un, .int f, .int t, .int (nI q), .int (oI r), .int (nI i)] [] s = some (.inl (some (.int (q_ko σ (q_ah σ q f t (i + 1) k r)))), s) := by
      rw [dc_X13_ahead_116, nI_1]
      exact ih (i + 1) r _ (by omega) hr
    have e2 : rn_ tb_ct tb_mt B mm_X13_ahead 112 [.ref m, am_un, .int f, .int t, .int (nI q), .int (oI r), .int (nI i)] [] s = some (.inl (some (.int (q_ko σ (q_ah σ q f t (i + 1) k (some i))))), s) := by
      rw [dc_X13_ahead_112, dc_X13_ahead_116, nI_1]
      exact ih (i + 1) (some i) _ (by omega) fun j e => by cases e; omega
    show _ = some (Sum.inl (some (Value.int (q_ko σ (q_ah σ q f t (i + 1) k (if inR f t (σ.2 0 i) = true ∧ cbB (σ.2 0 i) (σ.2 0 q) = true ∧ (∀ j, r = some j → cbB (σ.2 0 j) (σ.2 0 i) = true) then some i else r))))), s)
    by_cases cq : i = q
    · rw [if_pos (by rw [cq]), if_neg, e1]
      intro hc
      rw [cq, cbB_ir] at hc
      exact Bool.false_ne_true hc.2.1
    · rw [if_neg fun e => cq ((nI_eq (by omega) (by omega)).mp e), mo_cls h.1, eC_s, mk_isIn h (by omega), cI_s, if_b]
      by_cases c : inR f t (σ.2 0 i) = true
      · rw [if_pos c, mo_cls h.1, eC_s, mk_came h hs (by omega) hq, cI_s, if_b]
        by_cases d : cbB (σ.2 0 i) (σ.2 0 q) = true
        · rw [if_pos d]
          cases r with
          | none =>
            rw [if_pos (show oI none = -(1 : Int32) from rfl), if_pos ⟨c, d, fun j e => by cases e⟩]
            exact e2
          | some j =>
            have hj := hr j rfl
            rw [if_neg (show ¬ oI (some j) = -(1 : Int32) from nI_m1 (by omega)), mo_cls h.1, eC_s]
            show (cI (cl_ tb_ct tb_mt B K_X13_cameAhead [.ref m, .int (nI j), .int (nI i)] s) _ _) = _
            rw [mk_came h hs hj (by omega), cI_s, if_b]
            by_cases d2 : cbB (σ.2 0 j) (σ.2 0 i) = true
            · rw [if_pos d2, if_pos ⟨c, d, fun j' e => by cases e; exact d2⟩]
              exact e2
            · rw [if_neg d2, if_neg fun hc => d2 (hc.2.2 j rfl)]
              exact e1
        · rw [if_neg d, if_neg fun hc => d hc.2.1]
          exact e1
      · rw [if_neg c, if_neg fun hc => c hc.1]
        exact e1
theorem m_pl_lp (h : MM B s m v F σ) (hs : srt (σ.2 0) (σ.1 3)) (hq : q < σ.1 3) : ∀ k i c (w1 : Value), i + k = σ.1 3 → rn_ tb_ct tb_mt B mm_X13_place 55 [.ref m, w1, .int f, .int t, .int (nI q), .int (nI c), .int (nI i)] [] s = some (.inl (some (.int (nI (c + cn (fun i => inR f t (σ.2 0 i) && cbB (σ.2 0 i) (σ.2 0 q)) i k)))), s) := by
  have h3 := h.2.2.1.1
  intro k
  induction k with
  | zero =>
    intro i c w1 hi
    rw [dc_X13_place_55, mo_0 h.1, eA_s, show (3 : Int32) = nI 3 from rfl, h.gz (by omega), eI_s, if_pos (nI_le (by omega) (by omega))]
    rfl
  | succ k ih =>
    intro i n w1 hi
    rw [dc_X13_place_55, mo_0 h.1, eA_s, show (3 : Int32) = nI 3 from rfl, h.gz (by omega), eI_s, if_neg (nI_ge (by omega) (by omega)), cn_s]
    have e1 : (inR f t (σ.2 0 i) && cbB (σ.2 0 i) (σ.2 0 q)) = false → rn_ tb_ct tb_mt B mm_X13_place 101 [.ref m, am_un, .int f, .int t, .int (nI q), .int (nI n), .int (nI i)] [.int (nI n)] s = some (.inl (some (.int (nI (n + ((if (inR f t (σ.2 0 i) && cbB (σ.2 0 i) (σ.2 0 q)) = true then 1 else 0) + cn (fun i => inR f t (σ.2 0 i) && cbB (σ.2 0 i) (σ.2 0 q)) (i + 1) k))))), s) := by
      intro e
      rw [dc_X13_place_101, dc_X13_place_102, nI_1, Int32.add_zero, ih (i + 1) _ _ (by omega), e, if_neg Bool.false_ne_true, Nat.zero_add]
    have e2 : (inR f t (σ.2 0 i) && cbB (σ.2 0 i) (σ.2 0 q)) = true → rn_ tb_ct tb_mt B mm_X13_place 102 [.ref m, am_un, .int f, .int t, .int (nI q), .int (nI n), .int (nI i)] [.int 1, .int (nI n)] s = some (.inl (some (.int (nI (n + ((if (inR f t (σ.2 0 i) && cbB (σ.2 0 i) (σ.2 0 q)) = true then 1 else 0) + cn (fun i => inR f t (σ.2 0 i) && cbB (σ.2 0 i) (σ.2 0 q)) (i + 1) k))))), s) := by
      intro e
      rw [dc_X13_place_102, nI_1, nI_1, ih (i + 1) _ _ (by omega), if_pos e, Nat.add_assoc]
    by_cases cq : i = q
    · rw [if_pos (by rw [cq])]
      exact e1 (by rw [cq, cbB_ir, Bool.and_false])
    · rw [if_neg fun e => cq ((nI_eq (by omega) (by omega)).mp e), mo_cls h.1, eC_s, mk_isIn h (by omega), cI_s, if_b]
      by_cases c : inR f t (σ.2 0 i) = true
      · rw [if_pos c, mo_cls h.1, eC_s, mk_came h hs (by omega) hq, cI_s, if_b]
        by_cases d : cbB (σ.2 0 i) (σ.2 0 q) = true
        · rw [if_pos d]
          exact e2 (by rw [c, d]; rfl)
        · rw [if_neg d]
          exact e1 (by rw [Bool.eq_false_iff.mpr d, Bool.and_false])
      · rw [if_neg c]
        exact e1 (by rw [Bool.eq_false_iff.mpr c, Bool.false_and])
theorem mk_kr {mm : am_M} {pc pc2 : Nat} {L : List Value} (e0 : rn_ tb_ct tb_mt B mm pc L [.ref m] s = rn_ tb_ct tb_mt B mm pc2 L [.int 0, .ref m] s) : (cI (cl_ tb_ct tb_mt B K_X13_isKey [.int key] s) (fun x_2 s_1 => if x_2 = 0 then rn_ tb_ct tb_mt B mm pc L [.ref m] s_1 else cI (cl_ tb_ct tb_mt B K_X13_isRange [.int f, .int t] s_1) (fun x_4 s_3 => if x_4 = 0 then rn_ tb_ct tb_mt B mm pc L [.ref m] s_3 else rn_ tb_ct tb_mt B mm pc2 L [.int 1, .ref m] s_3) xo) xo) = rn_ tb_ct tb_mt B mm pc2 L [.int (if (bKey key && bRange f t) = true then 1 else 0), .ref m] s := by
  rw [mi_isKey, cI_s, if_b]
  cases bKey key with
  | false => rw [if_neg (by decide), e0]; rfl
  | true =>
    rw [if_pos rfl, mi_isRange, cI_s, if_b]
    cases bRange f t with
    | false => rw [if_neg (by decide), e0]; rfl
    | true => rfl
theorem m_ahead (h : MM B s m v F σ) (hs : srt (σ.2 0) (σ.1 3)) : MR s m v F (cl_ tb_ct tb_mt B K_X13_ahead [.ref m, .int key, .int f, .int t] s) (if (bKey key && bRange f t) = true then 0 else 1) (if (bKey key && bRange f t) = true then .int (q_ahead σ key f t) else .int 0) (if (bKey key && bRange f t) = true then σ else σ) := by
  rw [in_X13_ahead, dc_X13_ahead_0, mk_kr (dc_X13_ahead_20 ..), dc_X13_ahead_21, mo_cls h.1, eC_s]
  refine mi_call h (fun ok => MR.in OV.of h.2.1 upd_k ?_) fun _ => rfl
  have h' := h.p4 (x := 0)
  rw [mo_cs, eC_s, mk_stands h' hs, cI_s, if_p]
  unfold q_ahead
  by_cases c : isK σ key ∧ inR f t (σ.2 0 (pF (σ.2 0) (σ.1 3) key)) = true
  · rw [if_pos c, if_pos c, mo_cs, eC_s, mk_place h', cI_s]
    obtain ⟨c1, c2⟩ := (pI_there (key := key) hs).mp c.1
    rw [pF_of hs c1 c2]
    exact m_ah_lp h' hs c1 (σ.1 3) 0 none _ (by omega) fun j e => by cases e
  · rw [if_neg c, if_neg c]
theorem m_place (h : MM B s m v F σ) (hs : srt (σ.2 0) (σ.1 3)) : MR s m v F (cl_ tb_ct tb_mt B K_X13_place [.ref m, .int key, .int f, .int t] s) (if (bKey key && bRange f t) = true then 0 else 1) (if (bKey key && bRange f t) = true then .int (q_place σ key f t) else .int 0) (if (bKey key && bRange f t) = true then σ else σ) := by
  rw [in_X13_place, dc_X13_place_0, mk_kr (dc_X13_place_20 ..), dc_X13_place_21, mo_cls h.1, eC_s]
  refine mi_call h (fun ok => MR.in OV.of h.2.1 upd_k ?_) fun _ => rfl
  have h' := h.p4 (x := 0)
  rw [mo_cs, eC_s, mk_stands h' hs, cI_s, if_p]
  unfold q_place
  by_cases c : isK σ key ∧ inR f t (σ.2 0 (pF (σ.2 0) (σ.1 3) key)) = true
  · rw [if_pos c, if_pos c, mo_cs, eC_s, mk_place h', cI_s]
    obtain ⟨c1, c2⟩ := (pI_there (key := key) hs).mp c.1
    rw [pF_of hs c1 c2]
    have := m_pl_lp (f := f) (t := t) h' hs c1 (σ.1 3) 0 0 (.int key) (by omega)
    rw [Nat.zero_add] at this
    exact this
  · rw [if_neg c, if_neg c]
end Mk
