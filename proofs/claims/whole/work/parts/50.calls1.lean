/-! ===== Store's calls: put, delete, attach, leases ===== -/
section Cl1
variable {s s' : am_S} {B b r n i u a n0 : Nat} {Z Z' : nmT} {G G' : rwT} {key v l x f t : Int32} {σ σ' : stT} {p : (Nat → Int32) → Bool} {Q : Int32 → Prop}
theorem SR.zc (h : SR s b r Z G) (hZ : ∀ i, 1 ≤ i → i ≤ 11 → Z' i = Z i) (hG : ∀ g, g ≠ 1 → G' g = G g) : SR s b r Z' G' :=
  h.cg hZ (fun i _ w _ => by rw [hG 0 (by omega)]) (fun i _ w _ => by rw [hG 2 (by omega)]) (fun g _ _ => hG g (by omega))
theorem SR.bgn (h : SR s b r Z G) : SR s b r (bg Z) G := h.zc (fun i h1 _ => va_un (by omega)) fun _ _ => rfl
theorem SR.unbg (h : SR s b r (bg Z) G) : SR s b r Z G := h.zc (fun i h1 _ => (va_un (by omega)).symm) fun _ _ => rfl
theorem st_end (h : SR s b r σ.1 σ.2) (hB : B ≤ b) (hc : IC r n0 Q σ) (h6 : n0 < σ.1 6) (ht : σ.1 7 + σ.1 6 < 2 ^ 31) : ∃ s', cl_ tb_ct tb_mt B K_X8_endChange [.ref b] s = some (.inl none, s') ∧ so s s' b (b + 218) ∧ SS s' b (p_se 152 σ) := by
  obtain ⟨c1, c2, c3, c4, c5, c6⟩ := hc
  have hr := c1.h0
  obtain ⟨s', e, o, hh⟩ := st_endChange (B := B) h hB (by omega) (by
    rw [c5 h6]
    exact nI_lt (by omega) (by omega)) ht (fun j hj => by
    obtain ⟨-, -, re, d1, d2, d3⟩ := c1.2.2.1 j hj
    rw [d1]
    exact nI_pos (by omega))
  refine ⟨s', e, o, ?_⟩
  unfold SS
  rw [p_se_k (by omega) (by omega) (by omega) (by omega), c2]
  exact hh
theorem st_end_no (h : SR s b (σ.1 0) σ.1 σ.2) (hI : IK σ.1 σ.2) : cl_ tb_ct tb_mt B K_X8_endChange [.ref b] s = some (.inl none, s) := by
  refine st_endChange_no h ?_
  by_cases h0 : σ.1 6 = 0
  · exact Or.inl h0
  · obtain ⟨-, -, re, d1, d2, d3⟩ := hI.2.2.1 (σ.1 6 - 1) (by omega)
    right
    rw [d1]
    exact nI_le d3 (by have := hI.h0; omega)
theorem IA.rows (h : IA u σ) : σ.1 3 ≤ 16 ∧ σ.1 6 ≤ 120 ∧ srt (σ.2 0) (σ.1 3) ∧ σ.1 7 + σ.1 6 ≤ 32 * u ∧ σ.1 0 ≤ u := ⟨h.2.1, h.2.2.1, h.1.isS, h.2.2.2.2.2.2.1, h.2.2.2.2.2.1⟩
theorem st_put42 (h : SS s b σ) (hA : IA u σ) (hu : u + 1 < 2 ^ 25) (hB : B ≤ b) (hk : kOk key) (hv : vOk v) (hl : ¬ l < 0) (c1 : ¬ (¬ isK σ key ∧ σ.1 3 = 16)) : ∃ s', rn_ tb_ct tb_mt B mm_X8_putKey 42 [.ref b, .int key, .int v, .int l] [] s = some (.inl (some (.int (nI (σ.1 0 + 1)))), s') ∧ so s s' b (b + 218) ∧ SS s' b (p_se 152 (p_wr (bg σ.1) σ.2 (nI (σ.1 0 + 1)) key v l)) := by
  obtain ⟨r3, r6, rs, r7, r0⟩ := hA.rows
  obtain ⟨i1, i2⟩ := IC.put hA (by omega) hk hv hl c1
  obtain ⟨s1, e1, o1, h1⟩ := st_writeOne (B := B) (key := key) (v := v) (l := l) (SR.bgn h) rs (Or.inr (show σ.1 3 < 22 by omega)) (show σ.1 6 < 152 by omega) hB
  have k6 : (p_wr (bg σ.1) σ.2 (nI (σ.1 0 + 1)) key v l).1 6 = σ.1 6 + 1 := p_wr_6
  have k7 : (p_wr (bg σ.1) σ.2 (nI (σ.1 0 + 1)) key v l).1 7 = σ.1 7 := p_wr_k (by omega) (by omega)
  obtain ⟨s2, e2, o2, h2⟩ := st_end (B := B) h1 hB i1 (by omega) (by omega)
  refine ⟨s2, ?_, so_tr o1 o2, h2⟩
  have e5 := sr_5 h2
  rw [p_se_k (by omega) (by omega) (by omega) (by omega), i1.2.1] at e5
  rw [dc_X8_putKey_42]
  simp only [sr_cls h, eC_s, e1, cV_s, sr_cls h1, e2, e5, eI_s]
theorem st_putKey (h : SS s b σ) (hA : IA u σ) (hu : u + 1 < 2 ^ 25) (hB : B ≤ b) (hk : kOk key) (hv : vOk v) (hl : ¬ l < 0) : ∃ s', cl_ tb_ct tb_mt B K_X8_putKey [.ref b, .int key, .int v, .int l] s = some (.inl (some (.int (p_put σ key v l).1)), s') ∧ so s s' b (b + 218) ∧ SS s' b (p_put σ key v l).2 := by
  obtain ⟨r3, r6, rs, r7, r0⟩ := hA.rows
  have n4 := SR.n4 h
  have h26 : ¬ (¬ isK σ key ∧ σ.1 3 = 16) → ∃ s', rn_ tb_ct tb_mt B mm_X8_putKey 26 [.ref b, .int key, .int v, .int l] [] s = some (.inl (some (.int (p_put σ key v l).1)), s') ∧ so s s' b (b + 218) ∧ SS s' b (p_put σ key v l).2 := by
    intro c1
    obtain ⟨s1, e1, o1, h1⟩ := st_put42 h hA hu hB hk hv hl c1
    unfold p_put
    rw [if_neg c1, dc_X8_putKey_26]
    by_cases h0 : l = 0
    · rw [if_pos h0, if_neg (fun hc => hc.1 h0)]
      exact ⟨s1, e1, o1, h1⟩
    · rw [if_neg h0]
      simp only [sr_cls h, eC_s, st_findLease h, cI_s]
      by_cases hf : pF (σ.2 3) (σ.1 4) l < σ.1 4
      · rw [if_neg (show ¬ (l ≠ 0 ∧ ¬ pF (σ.2 3) (σ.1 4) l < σ.1 4) from fun hc => hc.2 hf)]
        simp only [if_pos hf, if_neg (nI_m1 (show pF (σ.2 3) (σ.1 4) l < 2 ^ 31 by omega))]
        exact ⟨s1, e1, o1, h1⟩
      · rw [if_pos (show l ≠ 0 ∧ ¬ pF (σ.2 3) (σ.1 4) l < σ.1 4 from ⟨h0, hf⟩)]
        simp only [if_neg hf, if_true]
        exact ⟨s, rfl, so_rfl, h⟩
  rw [in_X8_putKey, dc_X8_putKey_0]
  simp only [sr_k h, eA_s, sr_kn h, eI_s]
  by_cases h16 : σ.1 3 < 16
  · rw [if_pos (show nI (σ.1 3) < (16 : Int32) from nI_lt (b := 16) h16 (by omega))]
    exact h26 fun hc => by omega
  · rw [if_neg (show ¬ nI (σ.1 3) < (16 : Int32) from nI_nlt (b := 16) (by omega) (by omega))]
    simp only [sr_kc h, eC_s]
    by_cases hf : isK σ key
    · obtain ⟨a, ea, -⟩ := kw_find (B := B) h.kw hf
      simp only [ea, cA_s]
      exact h26 fun hc => hc.1 hf
    · simp only [kw_find_no h.kw hf, cA_n]
      unfold p_put
      rw [if_pos ⟨hf, by omega⟩]
      exact ⟨s, rfl, so_rfl, h⟩
theorem st_delete (h : SS s b σ) (hA : IA u σ) (hu : u + 1 < 2 ^ 25) (hB : B ≤ b) (hft : f ≤ t) (ht : t < t + 1) : ∃ s', cl_ tb_ct tb_mt B K_X8_deleteRange [.ref b, .int f, .int t] s = some (.inl (some (.int (nI (dfn (inR f t) σ 0 (σ.1 3))))), s') ∧ so s s' b (b + 218) ∧ SS s' b (p_del (inR f t) σ) := by
  obtain ⟨r3, r6, rs, r7, r0⟩ := hA.rows
  obtain ⟨q1, q2, q3⟩ := p_df_range (σ := (bg σ.1, σ.2)) (rv := nI (σ.1 0 + 1)) (f := f) (t := t) rs ht hft
  change pI (σ.2 0) (σ.1 3) f ≤ pI (σ.2 0) (σ.1 3) (t + 1) at q1
  change p_df (inR f t) (nI (σ.1 0 + 1)) (σ.1 3) 0 (bg σ.1, σ.2) = p_dn (nI (σ.1 0 + 1)) (pI (σ.2 0) (σ.1 3) f) (pI (σ.2 0) (σ.1 3) (t + 1) - pI (σ.2 0) (σ.1 3) f) (bg σ.1, σ.2) at q2
  change dfn (inR f t) σ 0 (σ.1 3) = pI (σ.2 0) (σ.1 3) (t + 1) - pI (σ.2 0) (σ.1 3) f at q3
  have l2 : pI (σ.2 0) (σ.1 3) (t + 1) ≤ σ.1 3 := pI_le
  obtain ⟨s1, e1, o1, h1⟩ := st_delRange_lp (B := B) (w1 := .null) (w2 := .null) (f := pI (σ.2 0) (σ.1 3) f) hB (g := pI (σ.2 0) (σ.1 3) (t + 1) - pI (σ.2 0) (σ.1 3) f) _ 0 s (bg σ.1, σ.2) (Nat.zero_add _) (by omega) (SR.bgn h) (by change _ ≤ σ.1 3; omega) (by change σ.1 6 + _ ≤ 152; omega)
  rw [← q2] at h1
  have hfin : ∃ s', rn_ tb_ct tb_mt B mm_X8_deleteRange 26 [.ref b, am_un, am_un, .int (nI (pI (σ.2 0) (σ.1 3) f)), .int (nI (pI (σ.2 0) (σ.1 3) (t + 1) - pI (σ.2 0) (σ.1 3) f)), .int (nI (pI (σ.2 0) (σ.1 3) (t + 1) - pI (σ.2 0) (σ.1 3) f))] [] s1 = some (.inl (some (.int (nI (dfn (inR f t) σ 0 (σ.1 3))))), s') ∧ so s1 s' b (b + 218) ∧ SS s' b (p_del (inR f t) σ) := by
    rw [dc_X8_deleteRange_26, if_pos (Int32.le_refl _), q3]
    simp only [sr_cls h1, eC_s]
    unfold p_del
    by_cases hc : dfn (inR f t) σ 0 (σ.1 3) = 0
    · rw [if_pos hc]
      have : p_df (inR f t) (nI (σ.1 0 + 1)) (σ.1 3) 0 (bg σ.1, σ.2) = (bg σ.1, σ.2) := by
        rw [q2, ← q3, hc]
        rfl
      rw [this] at h1
      have h1' := SR.unbg h1
      rw [st_end_no h1' hA.1]
      simp only [cV_s]
      exact ⟨s1, rfl, so_rfl, h1'⟩
    · rw [if_neg hc]
      obtain ⟨i1, i2, i3⟩ := IC.del (p := inR f t) hA (by omega)
      have hd : dfn (inR f t) σ 0 (σ.1 3) ≤ σ.1 3 := dfn_le
      have k7 : (p_df (inR f t) (nI (σ.1 0 + 1)) (σ.1 3) 0 (bg σ.1, σ.2)).1 7 = σ.1 7 := p_df_k (by omega) (by omega) _ _ _
      obtain ⟨s2, e2, o2, h2⟩ := st_end (B := B) h1 hB i1 (by omega) (by omega)
      rw [e2]
      simp only [cV_s]
      exact ⟨s2, rfl, o2, h2⟩
  obtain ⟨s2, e2, o2, h2⟩ := hfin
  refine ⟨s2, ?_, so_tr o1 o2, h2⟩
  rw [in_X8_deleteRange, dc_X8_deleteRange_0]
  simp only [sr_k h, eA_s, sr_kc h, eC_s, kw_firstFrom h.kw, cI_s, nI_2 q1]
  rw [← e2, ← e1, ← nI_0, dc_X8_deleteRange_26, dc_X8_deleteRange_26]
/-- a lease's keys deleted, and the change's end -/
theorem st_endLeased (h : SS s b σ) (hA : IA u σ) (hu : u + 1 < 2 ^ 25) (hB : B ≤ b) : ∃ s1 s', cl_ tb_ct tb_mt B K_X8_deleteLeased [.ref b, .int l] s = some (.inl (some (.int (nI (dfn (hasL l) σ 0 (σ.1 3))))), s1) ∧ am_cls s1 b = some 7 ∧ cl_ tb_ct tb_mt B K_X8_endChange [.ref b] s1 = some (.inl none, s') ∧ so s s' b (b + 218) ∧ SS s' b (p_del (hasL l) σ) := by
  obtain ⟨r3, r6, rs, r7, r0⟩ := hA.rows
  obtain ⟨s1, e1, o1, h1⟩ := st_deleteLeased (B := B) (l := l) (σ := (bg σ.1, σ.2)) hB (SR.bgn h) (show σ.1 6 + σ.1 3 ≤ 152 by omega)
  have h1 : SR s1 b (σ.1 0) (p_df (hasL l) (nI (σ.1 0 + 1)) (σ.1 3) 0 (bg σ.1, σ.2)).1 (p_df (hasL l) (nI (σ.1 0 + 1)) (σ.1 3) 0 (bg σ.1, σ.2)).2 := h1
  unfold p_del
  by_cases hc : dfn (hasL l) σ 0 (σ.1 3) = 0
  · rw [if_pos hc]
    have : p_df (hasL l) (nI (σ.1 0 + 1)) (σ.1 3) 0 (bg σ.1, σ.2) = (bg σ.1, σ.2) := p_df_no _ _ _ fun j h1 h2 => by
      have cn_z : ∀ (q : Nat → Bool) k i, cn q i k = 0 → ∀ j, i ≤ j → j < i + k → q j = false := by
        intro q k
        induction k with
        | zero => intro i _ j _ _; omega
        | succ k ih =>
          intro i h j h1 h2
          rw [cn_s] at h
          by_cases hj : j = i
          · subst hj
            by_cases hqj : q j = true
            · rw [if_pos hqj] at h
              omega
            · exact Bool.eq_false_iff.mpr hqj
          · exact ih (i + 1) (by omega) j (by omega) (by omega)
      exact cn_z _ _ _ hc j h1 h2
    rw [this] at h1
    have h1' := SR.unbg h1
    exact ⟨s1, s1, e1, sr_cls h1', st_end_no h1' hA.1, o1, h1'⟩
  · rw [if_neg hc]
    obtain ⟨i1, i2, i3⟩ := IC.del (p := hasL l) hA (by omega)
    have hd : dfn (hasL l) σ 0 (σ.1 3) ≤ σ.1 3 := dfn_le
    have k7 : (p_df (hasL l) (nI (σ.1 0 + 1)) (σ.1 3) 0 (bg σ.1, σ.2)).1 7 = σ.1 7 := p_df_k (by omega) (by omega) _ _ _
    obtain ⟨s2, e2, o2, h2⟩ := st_end (B := B) h1 hB i1 (by omega) (by omega)
    exact ⟨s1, s2, e1, sr_cls h1, e2, so_tr o1 o2, h2⟩
theorem st_endLease (h : SS s b σ) (hA : IA u σ) (hu : u + 1 < 2 ^ 25) (hB : B ≤ b) : ∃ s', cl_ tb_ct tb_mt B K_X8_endLease [.ref b, .int l] s = some (.inl (some (.int (p_revoke σ l).1)), s') ∧ so s s' b (b + 218) ∧ SS s' b (p_revoke σ l).2 := by
  have n4 := SR.n4 h
  rw [in_X8_endLease, dc_X8_endLease_0]
  simp only [sr_cls h, eC_s, st_findLease h, cI_s]
  unfold p_revoke
  by_cases hf : pF (σ.2 3) (σ.1 4) l < σ.1 4
  · simp only [if_pos hf, if_neg (nI_m1 (show pF (σ.2 3) (σ.1 4) l < 2 ^ 31 by omega))]
    obtain ⟨s1, e1, o1, -, h1⟩ := st_removeLease (B := B) h hB hf
    have h1' : SS s1 b (p_rl (pF (σ.2 3) (σ.1 4) l) σ) := h1
    obtain ⟨s2, s3, e2, c2, e3, o3, h3⟩ := st_endLeased (l := l) h1' (hA.rl hf) hu hB
    refine ⟨s3, ?_, so_tr o1 o3, ?_⟩
    · simp only [e1, cV_s, sr_cls h1, eC_s, e2, cI_s, c2, e3]
      rfl
    · unfold p_ends
      rw [pF_eq hf]
      exact h3
  · simp only [if_neg hf, if_true]
    exact ⟨s, rfl, so_rfl, h⟩
theorem st_grant (h : SS s b σ) (hB : B ≤ b) : ∃ s', cl_ tb_ct tb_mt B K_X8_addLease [.ref b, .int x] s = some (.inl (some (.int (p_grant σ x).1)), s') ∧ so s s' b (b + 218) ∧ SS s' b (p_grant σ x).2 := by
  have n4 := SR.n4 h
  unfold p_grant
  by_cases h8 : σ.1 4 = 8
  · rw [if_pos h8]
    exact ⟨s, st_addLease_no h h8 x, so_rfl, h⟩
  · rw [if_neg h8]
    exact st_addLease h hB (by omega) x
theorem st_keep (h : SS s b σ) (hB : B ≤ b) : ∃ s', cl_ tb_ct tb_mt B K_X8_renew [.ref b, .int x] s = some (.inl (some (.int (p_renew σ x).1)), s') ∧ so s s' b (b + 218) ∧ SS s' b (p_renew σ x).2 := by
  unfold p_renew
  by_cases hf : pF (σ.2 3) (σ.1 4) x < σ.1 4
  · rw [if_pos hf]
    exact st_renew h hB hf
  · rw [if_neg hf]
    exact ⟨s, st_renew_no h hf, so_rfl, h⟩
theorem st_attach (h : SS s b σ) (hB : B ≤ b) : ∃ s', cl_ tb_ct tb_mt B K_X8_attachKey [.ref b, .int key, .int l] s = some (.inl (some (.int (p_attach σ key l).1)), s') ∧ so s s' b (b + 218) ∧ SS s' b (p_attach σ key l).2 := by
  have n4 := SR.n4 h
  rw [in_X8_attachKey, dc_X8_attachKey_0]
  simp only [sr_k h, eA_s, sr_kc h, eC_s]
  unfold p_attach
  by_cases hf : isK σ key
  · rw [if_pos hf]
    obtain ⟨a, e1, e2⟩ := kw_find_at (B := B) h.kw hf
    obtain ⟨s1, g1, o1, k1, -⟩ := kw_put h.kw (show B ≤ b + 1 by omega) hf a e2 mm_X8_attachKey 5 l (by omega)
    have h31 : ∃ s', rn_ tb_ct tb_mt B mm_X8_attachKey 31 [.ref b, .int key, .int l, .ref a, am_un] [] s = some (.inl (some (.int (σ.2 0 (pF (σ.2 0) (σ.1 3) key) 5))), s') ∧ so s s' b (b + 218) ∧ SS s' b (σ.1, va_up σ.2 0 (up2 (σ.2 0) (pF (σ.2 0) (σ.1 3) key) 5 l)) := by
      refine ⟨s1, ?_, so_up o1 (by omega) (by omega), ?_⟩
      · rw [dc_X8_attachKey_31]
        simp only [kc_5 (kw_kc h.kw hf e2).1, eI_s, g1, eS_s]
      · have := SR.setK h o1 k1
        rw [va_id] at this
        exact this
    simp only [e1, cA_s]
    by_cases h0 : l = 0
    · rw [if_pos h0, if_neg (fun hc => hc.1 h0)]
      exact h31
    · rw [if_neg h0]
      simp only [sr_cls h, eC_s, st_findLease h, cI_s]
      by_cases hq : pF (σ.2 3) (σ.1 4) l < σ.1 4
      · rw [if_neg (show ¬ (l ≠ 0 ∧ ¬ pF (σ.2 3) (σ.1 4) l < σ.1 4) from fun hc => hc.2 hq)]
        simp only [if_pos hq, if_neg (nI_m1 (show pF (σ.2 3) (σ.1 4) l < 2 ^ 31 by omega))]
        exact h31
      · rw [if_pos (show l ≠ 0 ∧ ¬ pF (σ.2 3) (σ.1 4) l < σ.1 4 from ⟨h0, hq⟩)]
        simp only [if_neg hq, if_true]
        exact ⟨s, rfl, so_rfl, h⟩
  · rw [if_neg hf]
    simp only [kw_find_no h.kw hf, cA_n]
    exact ⟨s, rfl, so_rfl, h⟩
end Cl1
