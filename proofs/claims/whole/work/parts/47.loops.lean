/-! ===== Store: the loops of a change ===== -/
section Chg
variable {s s' : am_S} {B b r n i p : Nat} {Z : nmT} {G : rwT} {key v l x : Int32} {σ : stT}
/-! the class's loops -/
theorem st_delRange_lp {f : Nat} (hB : B ≤ b) {g : Nat} {w1 w2 : Value} : ∀ k c s (σ : stT), c + k = g → g < 2 ^ 31 → SR s b r σ.1 σ.2 → f + k ≤ σ.1 3 → σ.1 6 + k ≤ 152 → ∃ s', rn_ tb_ct tb_mt B mm_X8_deleteRange 26 [.ref b, am_un, am_un, .int (nI f), .int (nI g), .int (nI c)] [] s = rn_ tb_ct tb_mt B mm_X8_deleteRange 26 [.ref b, am_un, am_un, .int (nI f), .int (nI g), .int (nI g)] [] s' ∧ so s s' b (b + 218) ∧ SR s' b r (p_dn (nI (r + 1)) f k σ).1 (p_dn (nI (r + 1)) f k σ).2 := by
  intro k
  induction k with
  | zero =>
    intro c s σ hc hg h _ _
    rw [show c = g by omega]
    exact ⟨s, rfl, so_rfl, h⟩
  | succ k ih =>
    intro c s σ hc hg h h3 h6
    obtain ⟨s1, e1, o1, h1⟩ := st_deleteAt (B := B) h (show f < σ.1 3 by omega) (by omega) hB
    obtain ⟨s2, e2, o2, h2⟩ := ih (c + 1) s1 (p_de σ.1 σ.2 (nI (r + 1)) f) (by omega) hg h1 (by rw [p_de_3]; omega) (by rw [p_de_6]; omega)
    refine ⟨s2, ?_, so_tr o1 o2, h2⟩
    rw [← e2]
    conv => lhs; rw [dc_X8_deleteRange_26]
    simp only [if_neg (nI_ge (show c < g by omega) (by omega)), sr_cls h, eC_s, e1, cV_s, nI_1]
theorem st_deleteLeased_lp (hB : B ≤ b) : ∀ k i g s (σ : stT), i + k = σ.1 3 → SR s b r σ.1 σ.2 → σ.1 6 + k ≤ 152 → ∃ s', rn_ tb_ct tb_mt B mm_X8_deleteLeased 13 [.ref b, .int l, .int (nI g), .int (nI i), .int (nI k), am_un] [] s = some (.inl (some (.int (nI (g + dfn (fun q => decide (q 5 = l)) σ i k)))), s') ∧ so s s' b (b + 218) ∧ SR s' b r (p_df (fun q => decide (q 5 = l)) (nI (r + 1)) k i σ).1 (p_df (fun q => decide (q 5 = l)) (nI (r + 1)) k i σ).2 := by
  intro k
  induction k with
  | zero =>
    intro i g s σ hi h _
    refine ⟨s, ?_, so_rfl, h⟩
    rw [dc_X8_deleteLeased_13, if_pos (by rw [nI_0]; exact Int32.le_refl _)]
    rfl
  | succ k ih =>
    intro i g s σ hi h h6
    have n3 := h.n3
    obtain ⟨a, ea, ca⟩ := kw_at (B := B) h.kw (show i < σ.1 3 by omega)
    rw [dc_X8_deleteLeased_13, if_neg (nI_nle (by omega) (by omega))]
    simp only [sr_k h, eA_s, sr_kc h, eC_s, ea, cA_s, kc_5 ca, eI_s]
    have e0 : dfn (fun q => decide (q 5 = l)) σ i (k + 1) = (if decide (σ.2 0 i 5 = l) = true then 1 else 0) + dfn (fun q => decide (q 5 = l)) σ (i + 1) k := rfl
    have e1 : p_df (fun q => decide (q 5 = l)) (nI (r + 1)) (k + 1) i σ = if decide (σ.2 0 i 5 = l) = true then p_df (fun q => decide (q 5 = l)) (nI (r + 1)) k i (p_de σ.1 σ.2 (nI (r + 1)) i) else p_df (fun q => decide (q 5 = l)) (nI (r + 1)) k (i + 1) σ := rfl
    rw [e0, e1]
    by_cases hl : σ.2 0 i 5 = l
    · rw [if_pos hl, if_pos (decide_eq_true hl), if_pos (decide_eq_true hl)]
      obtain ⟨s1, g1, o1, h1⟩ := st_deleteAt (B := B) h (show i < σ.1 3 by omega) (by omega) hB
      obtain ⟨s2, g2, o2, h2⟩ := ih i (g + 1) s1 (p_de σ.1 σ.2 (nI (r + 1)) i) (by rw [p_de_3]; omega) h1 (by rw [p_de_6]; omega)
      refine ⟨s2, ?_, so_tr o1 o2, h2⟩
      rw [dfn_de hi] at g2
      simp only [sr_cls h, eC_s, g1, cV_s]
      rw [dc_X8_deleteLeased_56, nI_1, nI_neg1 (by omega), Nat.add_sub_cancel, g2, Nat.add_assoc]
    · rw [if_neg hl, if_neg (by rw [decide_eq_true_eq]; exact hl), if_neg (by rw [decide_eq_true_eq]; exact hl)]
      obtain ⟨s2, g2, o2, h2⟩ := ih (i + 1) g s σ (by omega) h (by omega)
      refine ⟨s2, ?_, o2, h2⟩
      rw [dc_X8_deleteLeased_53, dc_X8_deleteLeased_56, nI_1, nI_neg1 (by omega), Nat.add_sub_cancel, g2, Nat.zero_add]
theorem st_deleteLeased (hB : B ≤ b) (h : SR s b r σ.1 σ.2) (h6 : σ.1 6 + σ.1 3 ≤ 152) : ∃ s', cl_ tb_ct tb_mt B K_X8_deleteLeased [.ref b, .int l] s = some (.inl (some (.int (nI (dfn (fun q => decide (q 5 = l)) σ 0 (σ.1 3))))), s') ∧ so s s' b (b + 218) ∧ SR s' b r (p_df (fun q => decide (q 5 = l)) (nI (r + 1)) (σ.1 3) 0 σ).1 (p_df (fun q => decide (q 5 = l)) (nI (r + 1)) (σ.1 3) 0 σ).2 := by
  obtain ⟨s', e, o, h'⟩ := st_deleteLeased_lp (B := B) (l := l) hB (σ.1 3) 0 0 s σ (by omega) h h6
  refine ⟨s', ?_, o, h'⟩
  rw [in_X8_deleteLeased, dc_X8_deleteLeased_0]
  simp only [sr_k h, eA_s, sr_kn h, eI_s]
  rw [nI_0, Nat.zero_add] at e
  exact e
/-- the past row P at p, apart from the store -/
theorem kp_n {P : Nat × rowT} (h : KP s p P) : gI tb_ct s p 3 1 = some (nI P.1) := by
  obtain ⟨K, h1, -⟩ := h
  exact kw_n h1
theorem kp_cls {P : Nat × rowT} (h : KP s p P) : am_cls s p = some 3 := by
  obtain ⟨K, h1, -⟩ := h
  exact kw_cls h1
theorem kp_pF {P : Nat × rowT} {K : rowT} (h : ∀ i, i < P.1 → K i 0 = P.2 i 0 ∧ K i 1 = P.2 i 1) : pF K P.1 key = pF P.2 P.1 key := pF_cg fun i hi => (h i hi).1
theorem kp_indexOf {P : Nat × rowT} (h : KP s p P) (key : Int32) : cl_ tb_ct tb_mt B K_X4_indexOf [.ref p, .int key] s = some (.inl (some (.int (if pF P.2 P.1 key < P.1 then nI (pF P.2 P.1 key) else -1))), s) := by
  obtain ⟨K, h1, h2⟩ := h
  rw [kw_indexOf h1, kp_pF h2]
def notIn (P : Nat × rowT) (k : Nat → Int32) : Bool := !decide (pF P.2 P.1 (k 0) < P.1)
theorem st_deleteAllBut_lp {P : Nat × rowT} (hB : B ≤ b) (hd : p + 24 ≤ b ∨ b + 218 ≤ p) (hP1 : P.1 ≤ 22) : ∀ k i s (σ : stT), i + k = σ.1 3 → SR s b r σ.1 σ.2 → KP s p P → σ.1 6 + k ≤ 152 → ∃ s', rn_ tb_ct tb_mt B mm_X8_deleteAllBut 10 [.ref b, .ref p, .int (nI i), .int (nI k), am_un] [] s = some (.inl none, s') ∧ so s s' b (b + 218) ∧ SR s' b r (p_df (notIn P) (nI (r + 1)) k i σ).1 (p_df (notIn P) (nI (r + 1)) k i σ).2 := by
  intro k
  induction k with
  | zero =>
    intro i s σ hi h hP _
    refine ⟨s, ?_, so_rfl, h⟩
    rw [dc_X8_deleteAllBut_10, if_pos (by rw [nI_0]; exact Int32.le_refl _)]
  | succ k ih =>
    intro i s σ hi h hP h6
    have n3 := h.n3
    obtain ⟨a, ea, ca⟩ := kw_at (B := B) h.kw (show i < σ.1 3 by omega)
    rw [dc_X8_deleteAllBut_10, if_neg (nI_nle (by omega) (by omega))]
    simp only [sr_k h, eA_s, sr_kc h, eC_s, ea, cA_s, kc_0 ca, eI_s, kp_cls hP, kp_indexOf hP, cI_s]
    have e1 : p_df (notIn P) (nI (r + 1)) (k + 1) i σ = if notIn P (σ.2 0 i) = true then p_df (notIn P) (nI (r + 1)) k i (p_de σ.1 σ.2 (nI (r + 1)) i) else p_df (notIn P) (nI (r + 1)) k (i + 1) σ := rfl
    rw [e1]
    by_cases hl : pF P.2 P.1 (σ.2 0 i 0) < P.1
    · have hn : notIn P (σ.2 0 i) = false := by
        unfold notIn
        rw [decide_eq_true hl]
        rfl
      rw [hn]
      simp only [if_pos hl, if_neg (nI_m1 (show pF P.2 P.1 (σ.2 0 i 0) < 2 ^ 31 by omega)), Bool.false_eq_true, if_false]
      obtain ⟨s2, g2, o2, h2⟩ := ih (i + 1) s σ (by omega) h hP (by omega)
      refine ⟨s2, ?_, o2, h2⟩
      rw [dc_X8_deleteAllBut_50, dc_X8_deleteAllBut_53, nI_1, nI_neg1 (by omega), Nat.add_sub_cancel, g2]
    · have hn : notIn P (σ.2 0 i) = true := by
        unfold notIn
        rw [decide_eq_false hl]
        rfl
      rw [hn]
      simp only [if_neg hl, if_true]
      obtain ⟨s1, g1, o1, h1⟩ := st_deleteAt (B := B) h (show i < σ.1 3 by omega) (by omega) hB
      obtain ⟨s2, g2, o2, h2⟩ := ih i s1 (p_de σ.1 σ.2 (nI (r + 1)) i) (by rw [p_de_3]; omega) h1 (hP.at fun q _ _ => o1.1 q (by omega)) (by rw [p_de_6]; omega)
      refine ⟨s2, ?_, so_tr o1 o2, h2⟩
      simp only [sr_cls h, eC_s, g1, cV_s]
      rw [dc_X8_deleteAllBut_53, nI_neg1 (by omega), Nat.add_sub_cancel, g2]
theorem st_deleteAllBut {P : Nat × rowT} (hB : B ≤ b) (hd : p + 24 ≤ b ∨ b + 218 ≤ p) (hP1 : P.1 ≤ 22) (h : SR s b r σ.1 σ.2) (hP : KP s p P) (h6 : σ.1 6 + σ.1 3 ≤ 152) : ∃ s', cl_ tb_ct tb_mt B K_X8_deleteAllBut [.ref b, .ref p] s = some (.inl none, s') ∧ so s s' b (b + 218) ∧ SR s' b r (p_df (notIn P) (nI (r + 1)) (σ.1 3) 0 σ).1 (p_df (notIn P) (nI (r + 1)) (σ.1 3) 0 σ).2 := by
  obtain ⟨s', e, o, h'⟩ := st_deleteAllBut_lp (B := B) hB hd hP1 (σ.1 3) 0 s σ (by omega) h hP h6
  refine ⟨s', ?_, o, h'⟩
  rw [in_X8_deleteAllBut, dc_X8_deleteAllBut_0]
  simp only [sr_k h, eA_s, sr_kn h, eI_s]
  rw [nI_0] at e
  exact e
theorem st_writeUnlike_lp {P : Nat × rowT} (hB : B ≤ b) (hd : p + 24 ≤ b ∨ b + 218 ≤ p) (hP1 : P.1 ≤ 22) : ∀ k i s (σ : stT), i + k = P.1 → SR s b r σ.1 σ.2 → KP s p P → srt (σ.2 0) (σ.1 3) → σ.1 6 + k ≤ 152 → (∀ j, j ≤ k → (p_wu P (nI (r + 1)) j i σ).1 3 ≤ 22) → ∃ s', rn_ tb_ct tb_mt B mm_X8_writeUnlike 2 [.ref b, .ref p, .int (nI i), am_un, am_un] [] s = some (.inl none, s') ∧ so s s' b (b + 218) ∧ SR s' b r (p_wu P (nI (r + 1)) k i σ).1 (p_wu P (nI (r + 1)) k i σ).2 := by
  intro k
  induction k with
  | zero =>
    intro i s σ hi h hP _ _ _
    refine ⟨s, ?_, so_rfl, h⟩
    rw [dc_X8_writeUnlike_2]
    simp only [kp_n hP, eI_s, if_pos (nI_le (show P.1 ≤ i by omega) (by omega))]
  | succ k ih =>
    intro i s σ hi h hP hs h6 h22
    obtain ⟨K, hK, hv⟩ := id hP
    obtain ⟨a, ea, ca⟩ := kw_at (B := B) hK (show i < P.1 by omega)
    obtain ⟨v0, v1⟩ := hv i (by omega)
    rw [dc_X8_writeUnlike_2]
    simp only [kp_n hP, eI_s, if_neg (nI_ge (show i < P.1 by omega) (by omega)), kp_cls hP, eC_s, ea, cA_s, sr_k h, eA_s, kc_0 ca, v0, sr_kc h]
    have e1 : p_wu P (nI (r + 1)) (k + 1) i σ = p_wu P (nI (r + 1)) k (i + 1) (if dfr P σ i = true then p_wr σ.1 σ.2 (nI (r + 1)) (P.2 i 0) (P.2 i 1) 0 else σ) := rfl
    have hw : dfr P σ i = true → ∃ s', rn_ tb_ct tb_mt B mm_X8_writeUnlike 58 [.ref b, .ref p, .int (nI i), .ref a, am_un] [] s = some (.inl none, s') ∧ so s s' b (b + 218) ∧ SR s' b r (p_wu P (nI (r + 1)) (k + 1) i σ).1 (p_wu P (nI (r + 1)) (k + 1) i σ).2 := by
      intro hdf
      have h221 := h22 1 (by omega)
      have e2 : p_wu P (nI (r + 1)) 1 i σ = p_wr σ.1 σ.2 (nI (r + 1)) (P.2 i 0) (P.2 i 1) 0 := by
        change (if dfr P σ i = true then _ else _) = _
        rw [if_pos hdf]
      rw [e2, p_wr_3] at h221
      obtain ⟨s1, g1, o1, h1⟩ := st_writeOne (B := B) (key := P.2 i 0) (v := P.2 i 1) (l := 0) h hs (by
        by_cases hf : pF (σ.2 0) (σ.1 3) (P.2 i 0) < σ.1 3
        · exact Or.inl hf
        · rw [if_neg hf] at h221
          exact Or.inr (by omega)) (by omega) hB
      have hs1 := srt_p_wr (σ := σ) (rv := nI (r + 1)) (key := P.2 i 0) (v := P.2 i 1) (l := 0) hs
      obtain ⟨s2, g2, o2, h2⟩ := ih (i + 1) s1 _ (by omega) h1 (hP.at fun q _ _ => o1.1 q (by omega)) hs1 (by rw [p_wr_6]; omega) (fun j hj => by
        have := h22 (j + 1) (by omega)
        change (p_wu P (nI (r + 1)) j (i + 1) (if dfr P σ i = true then _ else σ)).1 3 ≤ 22 at this
        rw [if_pos hdf] at this
        exact this)
      rw [e1, if_pos hdf]
      refine ⟨s2, ?_, so_tr o1 o2, h2⟩
      rw [dc_X8_writeUnlike_58]
      simp only [kc_0 ca, kc_1 ca, v0, v1, eI_s, sr_cls h, eC_s, g1, cV_s]
      rw [dc_X8_writeUnlike_71, nI_1, g2]
    by_cases hf : pF (σ.2 0) (σ.1 3) (P.2 i 0) < σ.1 3
    · obtain ⟨c, ec, hc⟩ := kw_find (B := B) h.kw hf
      simp only [ec, cA_s]
      rw [dc_X8_writeUnlike_35]
      simp only [eA_s, kc_1 hc, kc_1 ca, v1, eI_s]
      by_cases hv2 : σ.2 0 (pF (σ.2 0) (σ.1 3) (P.2 i 0)) 1 = P.2 i 1
      · have hdf : dfr P σ i = false := by
          unfold dfr
          rw [decide_eq_true hf, decide_eq_true hv2]
          rfl
        obtain ⟨s2, g2, o2, h2⟩ := ih (i + 1) s σ (by omega) h hP hs (by omega) (fun j hj => by
          have := h22 (j + 1) (by omega)
          change (p_wu P (nI (r + 1)) j (i + 1) (if dfr P σ i = true then _ else σ)).1 3 ≤ 22 at this
          rw [hdf] at this
          exact this)
        rw [e1, hdf]
        simp only [if_pos hv2, Bool.false_eq_true, if_false]
        refine ⟨s2, ?_, o2, h2⟩
        rw [dc_X8_writeUnlike_71, nI_1, g2]
      · have hdf : dfr P σ i = true := by
          unfold dfr
          rw [decide_eq_true hf, decide_eq_false hv2]
          rfl
        simp only [if_neg hv2]
        obtain ⟨s', g, o, hh⟩ := hw hdf
        refine ⟨s', ?_, o, hh⟩
        rw [← g, dc_X8_writeUnlike_58, dc_X8_writeUnlike_58]
    · have hdf : dfr P σ i = true := by
        unfold dfr
        rw [decide_eq_false hf]
        rfl
      simp only [kw_find_no h.kw hf, cA_n]
      rw [dc_X8_writeUnlike_35]
      simp only [eA_s]
      obtain ⟨s', g, o, hh⟩ := hw hdf
      refine ⟨s', ?_, o, hh⟩
      rw [← g]
      refine (?_ : eA (some (none : Option Nat)) _ _ = _)
      simp only [eA_n]
      rw [dc_X8_writeUnlike_58, dc_X8_writeUnlike_58]
theorem st_writeUnlike {P : Nat × rowT} (hB : B ≤ b) (hd : p + 24 ≤ b ∨ b + 218 ≤ p) (hP1 : P.1 ≤ 22) (h : SR s b r σ.1 σ.2) (hP : KP s p P) (hs : srt (σ.2 0) (σ.1 3)) (h6 : σ.1 6 + P.1 ≤ 152) (h22 : ∀ j, j ≤ P.1 → (p_wu P (nI (r + 1)) j 0 σ).1 3 ≤ 22) : ∃ s', cl_ tb_ct tb_mt B K_X8_writeUnlike [.ref b, .ref p] s = some (.inl none, s') ∧ so s s' b (b + 218) ∧ SR s' b r (p_wu P (nI (r + 1)) P.1 0 σ).1 (p_wu P (nI (r + 1)) P.1 0 σ).2 := by
  obtain ⟨s', e, o, h'⟩ := st_writeUnlike_lp (B := B) hB hd hP1 P.1 0 s σ (by omega) h hP hs h6 h22
  refine ⟨s', ?_, o, h'⟩
  rw [in_X8_writeUnlike, dc_X8_writeUnlike_0, ← nI_0]
  exact e
end Chg
