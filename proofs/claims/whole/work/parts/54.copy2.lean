/-! ===== Store: copied whole ===== -/
section Cq
variable {s s' : am_S} {B b c r r' n n' i lost top : Nat} {Z Z' : nmT} {G G' : rwT} {W L : rowT} {M : am_M} {v : Nat → Int32} {A : Nat → Nat}
theorem wa_at (ho : SO s b v) (h8 : v 8 = nI n) (hn : n ≤ 8) (ar : s.1 (b + 179) = some (arE "WatchedKeys$Watch" (fun j => b + 194 + 2 * j) A)) (hi : i < n) : cl_ tb_ct tb_mt B K_X8_watchAt [.ref b, .int (nI i)] s = some (.inl (some (.ref (b + 194 + 2 * A i))), s) := by
  have g8 : gI tb_ct s b 7 8 = some (nI n) := h8 ▸ gI_o ho rfl rfl rfl
  have gw : gA tb_ct s b 7 2 = some (some (b + 179)) := gA_o ho rfl rfl rfl
  rw [in_X8_watchAt, dc_X8_watchAt_0, if_neg (nI_pos (by omega))]
  simp only [g8, eI_s, if_neg (nI_ge hi (by omega)), if_neg (show ¬ (8 : Int32) ≤ nI i from nI_ge (b := 8) (by omega) (by omega)), gw, eA_s, ar_at ar (show i < 8 by omega)]
theorem le_at (ho : SO s b v) (h9 : v 9 = nI n) (hn : n ≤ 8) (ar : s.1 (b + 180) = some (arE "WatchedKeys$Lease" (fun j => b + 210 + j) A)) (hi : i < n) : cl_ tb_ct tb_mt B K_X8_leaseAt [.ref b, .int (nI i)] s = some (.inl (some (.ref (b + 210 + A i))), s) := by
  have g8 : gI tb_ct s b 7 9 = some (nI n) := h9 ▸ gI_o ho rfl rfl rfl
  have gw : gA tb_ct s b 7 3 = some (some (b + 180)) := gA_o ho rfl rfl rfl
  rw [in_X8_leaseAt, dc_X8_leaseAt_0, if_neg (nI_pos (by omega))]
  simp only [g8, eI_s, if_neg (nI_ge hi (by omega)), if_neg (show ¬ (8 : Int32) ≤ nI i from nI_ge (b := 8) (by omega) (by omega)), gw, eA_s, ar_at ar (show i < 8 by omega)]
theorem l_copy {a d : Nat} {k q : Nat → Int32} (h : LC s a k) (hd : LC s d q) (hne : d ≠ a) (hB : B ≤ a) : cl_ tb_ct tb_mt B K_X5_copyFrom [.ref a, .ref d] s = some (.inl none, am_set s a (.inr (4, lf q))) := by
  have c1 : ∀ k, LC (am_set s a (.inr (4, lf k))) a k := fun k => set_at
  have c2 : ∀ k, LC (am_set s a (.inr (4, lf k))) d q := fun k => (set_ne hne).trans hd
  rw [in_X5_copyFrom, dc_X5_copyFrom_0]
  simp only [l_0 hd, eI_s, l_p0 h hB, eS_s, l_1 (c2 _), l_p1 (c1 _) hB, set_set, l_2 (c2 _), l_p2 (c1 _) hB]
  rfl
theorem cw_lp {A' : Nat → Nat} {C' L' : rowT} {v' : Nat → Int32} (hB : B ≤ b) (hd : c + 218 ≤ b ∨ b + 218 ≤ c) (hn : n ≤ 8) (hA : okA 8 A) (hA' : okA 8 A') (h8 : v 8 = nI n) (h8' : v' 8 = nI n) : ∀ k i s (C L : rowT), i + k = n → SO s b v → SO s c v' → s.1 (b + 179) = some (arE "WatchedKeys$Watch" (fun j => b + 194 + 2 * j) A) → s.1 (c + 179) = some (arE "WatchedKeys$Watch" (fun j => c + 194 + 2 * j) A') → (∀ j, j < 8 → W1 s (b + 194 + 2 * j) (C j) (L j)) → (∀ j, j < 8 → W1 s (c + 194 + 2 * j) (C' j) (L' j)) → (∀ j, j < i → C (A j) = C' (A' j) ∧ L (A j) = L' (A' j)) → ∃ (s' : am_S) (C2 L2 : rowT), rn_ tb_ct tb_mt B mm_X8_copyWatches 10 [.ref b, .ref c, .int (nI i), am_un, am_un] [] s = some (.inl none, s') ∧ so s s' (b + 194) (b + 210) ∧ (∀ j, j < 8 → W1 s' (b + 194 + 2 * j) (C2 j) (L2 j)) ∧ ∀ j, j < n → C2 (A j) = C' (A' j) ∧ L2 (A j) = L' (A' j) := by
  intro k
  induction k with
  | zero =>
    intro i s C L hi ho ho' ar ar' hw hw' hc
    have g8 : gI tb_ct s b 7 8 = some (nI n) := h8 ▸ gI_o ho rfl rfl rfl
    refine ⟨s, C, L, ?_, so_rfl, hw, fun j hj => hc j (by omega)⟩
    rw [dc_X8_copyWatches_10]
    simp only [g8, eI_s, if_pos (nI_le (show n ≤ i by omega) (by omega))]
  | succ k ih =>
    intro i s C L hi ho ho' ar ar' hw hw' hc
    have g8 : gI tb_ct s b 7 8 = some (nI n) := h8 ▸ gI_o ho rfl rfl rfl
    have hAi := hA.1 i (by omega)
    have hAi' := hA'.1 i (by omega)
    have w0 := hw _ hAi
    have w1 := hw' _ hAi'
    have hcp := w_copyFrom (B := B) w0 w1 (by omega) (by omega)
    have o1 : so s (wS s (b + 194 + 2 * A i) (C' (A' i)) (L' (A' i))) (b + 194) (b + 210) := so_up so_ov (by omega) (by omega)
    obtain ⟨s', C2, L2, e1, e2, e3, e4⟩ := ih (i + 1) _ (va_up C (A i) (C' (A' i))) (va_up L (A i) (L' (A' i))) (by omega) ((o1.1 b (by omega)).trans ho) ((o1.1 c (by omega)).trans ho') ((o1.1 _ (by omega)).trans ar) ((o1.1 _ (by omega)).trans ar') (fun j hj => by
      by_cases hj2 : j = A i
      · subst hj2
        rw [va_us, va_us]
        exact OV.of
      · rw [va_un hj2, va_un hj2]
        exact (hw j hj).at fun q _ _ => ov_o (by omega)) (fun j hj => (hw' j hj).at fun q _ _ => o1.1 q (by omega)) (fun j hj => by
      by_cases hj2 : j = i
      · subst hj2
        rw [va_us, va_us]
        exact ⟨rfl, rfl⟩
      · have hne : A j ≠ A i := fun e => hj2 (hA.2 j (by omega) i (by omega) e)
        rw [va_un hne, va_un hne]
        exact hc j (by omega))
    refine ⟨s', C2, L2, ?_, so_tr o1 e2, e3, e4⟩
    rw [dc_X8_copyWatches_10]
    simp only [g8, eI_s, if_neg (nI_ge (show i < n by omega) (by omega)), cls_o ho, cls_o ho', eC_s, wa_at ho h8 hn ar (show i < n by omega), wa_at ho' h8' hn ar' (show i < n by omega), cA_s, w_cls w0, hcp, cV_s]
    rw [dc_X8_copyWatches_46, nI_1]
    exact e1
theorem cl_lp {A' : Nat → Nat} {C' : rowT} {v' : Nat → Int32} (hB : B ≤ b) (hd : c + 218 ≤ b ∨ b + 218 ≤ c) (hn : n ≤ 8) (hA : okA 8 A) (hA' : okA 8 A') (h9 : v 9 = nI n) (h9' : v' 9 = nI n) : ∀ k i s (C : rowT), i + k = n → SO s b v → SO s c v' → s.1 (b + 180) = some (arE "WatchedKeys$Lease" (fun j => b + 210 + j) A) → s.1 (c + 180) = some (arE "WatchedKeys$Lease" (fun j => c + 210 + j) A') → (∀ j, j < 8 → LC s (b + 210 + j) (C j)) → (∀ j, j < 8 → LC s (c + 210 + j) (C' j)) → (∀ j, j < i → C (A j) = C' (A' j)) → ∃ (s' : am_S) (C2 : rowT), rn_ tb_ct tb_mt B mm_X8_copyLeases 10 [.ref b, .ref c, .int (nI i), am_un, am_un] [] s = some (.inl none, s') ∧ so s s' (b + 210) (b + 218) ∧ (∀ j, j < 8 → LC s' (b + 210 + j) (C2 j)) ∧ ∀ j, j < n → C2 (A j) = C' (A' j) := by
  intro k
  induction k with
  | zero =>
    intro i s C hi ho ho' ar ar' hw hw' hc
    have g8 : gI tb_ct s b 7 9 = some (nI n) := h9 ▸ gI_o ho rfl rfl rfl
    refine ⟨s, C, ?_, so_rfl, hw, fun j hj => hc j (by omega)⟩
    rw [dc_X8_copyLeases_10]
    simp only [g8, eI_s, if_pos (nI_le (show n ≤ i by omega) (by omega))]
  | succ k ih =>
    intro i s C hi ho ho' ar ar' hw hw' hc
    have g8 : gI tb_ct s b 7 9 = some (nI n) := h9 ▸ gI_o ho rfl rfl rfl
    have hAi := hA.1 i (by omega)
    have hAi' := hA'.1 i (by omega)
    have w0 := hw _ hAi
    have w1 := hw' _ hAi'
    have hcp := l_copy (B := B) w0 w1 (by omega) (by omega)
    have o1 : so s (am_set s (b + 210 + A i) (.inr (4, lf (C' (A' i))))) (b + 210) (b + 218) := so_set2 (by omega) (by omega)
    obtain ⟨s', C2, e1, e2, e3, e4⟩ := ih (i + 1) _ (va_up C (A i) (C' (A' i))) (by omega) ((o1.1 b (by omega)).trans ho) ((o1.1 c (by omega)).trans ho') ((o1.1 _ (by omega)).trans ar) ((o1.1 _ (by omega)).trans ar') (fun j hj => by
      by_cases hj2 : j = A i
      · subst hj2
        rw [va_us]
        exact set_at
      · rw [va_un hj2]
        exact (set_ne (by omega)).trans (hw j hj)) (fun j hj => (o1.1 _ (by omega)).trans (hw' j hj)) (fun j hj => by
      by_cases hj2 : j = i
      · subst hj2
        rw [va_us]
      · have hne : A j ≠ A i := fun e => hj2 (hA.2 j (by omega) i (by omega) e)
        rw [va_un hne]
        exact hc j (by omega))
    refine ⟨s', C2, ?_, so_tr o1 e2, e3, e4⟩
    rw [dc_X8_copyLeases_10]
    simp only [g8, eI_s, if_neg (nI_ge (show i < n by omega) (by omega)), cls_o ho, cls_o ho', eC_s, le_at ho h9 hn ar (show i < n by omega), le_at ho' h9' hn ar' (show i < n by omega), cA_s, cls_o w0, hcp, cV_s]
    rw [dc_X8_copyLeases_46, nI_1]
    exact e1
theorem st_copyFrom (h : SR s b r Z G) (h' : SR s c r' Z' G') (hd : c + 218 ≤ b ∨ b + 218 ≤ c) (hB : B ≤ b) : ∃ s', cl_ tb_ct tb_mt B K_X8_copyFrom [.ref b, .ref c] s = some (.inl none, s') ∧ so s s' b (b + 218) ∧ SR s' b r' Z' G' := by
  obtain ⟨s1, e1, o1, k1⟩ := kw_copyFrom (B := B) h.kw h'.kw (by omega) (by omega)
  have ho1 : SO s1 b (sv r Z) := (o1.1 b (by omega)).trans h.o
  have h1' : SR s1 c r' Z' G' := h'.at fun q _ _ => o1.1 q (by omega)
  have ew1 := h.ew.at (s' := s1) fun q _ _ => o1.1 q (by omega)
  obtain ⟨s2, e2, o2, k2⟩ := ew_copyFrom (B := B) ew1 h1'.ew (by omega) (by omega)
  have ho2 : SO s2 b (sv r Z) := (o2.1 b (by omega)).trans ho1
  have h2' : SR s2 c r' Z' G' := h1'.at fun q _ _ => o2.1 q (by omega)
  have f2 : ∀ q, b + 179 ≤ q → s2.1 q = s.1 q := fun q hq => (o2.1 q (by omega)).trans (o1.1 q (by omega))
  have tw2 := h.tw.at (s' := s2) fun q _ _ => f2 q (by omega)
  obtain ⟨s3, e3, o3, k3, k4, k5⟩ := tx_copy (B := B) tw2 (h.p1.at fun q _ _ => f2 q (by omega)) (h.p2.at fun q _ _ => f2 q (by omega)) h2'.tw h2'.p1 h2'.p2 (by omega) (by omega)
  have ho3 : SO s3 b (sv r Z) := (o3.1 b (by omega)).trans ho2
  have h3' : SR s3 c r' Z' G' := h2'.at fun q _ _ => o3.1 q (by omega)
  have f3 : ∀ q, b + 179 ≤ q → (q < b + 181 ∨ b + 194 ≤ q) → s3.1 q = s.1 q := fun q h1 h2 => (o3.1 q (by omega)).trans (f2 q h1)
  have w : ∀ v, SO (am_set s3 b (.inr (7, stO v b))) b v := fun v => set_at
  have p5 := so_p (B := B) (M := mm_X8_copyFrom) (x := nI r') ho3 hB (show 5 ≤ 5 ∧ 5 ≤ 10 by omega)
  have pw : ∀ (M : am_M) (v : Nat → Int32) (k : Nat) (x : Int32), 5 ≤ k ∧ k ≤ 10 → am_put tb_ct M B (am_set s3 b (.inr (7, stO v b))) (.int x) b 7 k = some (am_set s3 b (.inr (7, stO (upd v k x) b))) := fun M v k x hk => by
    rw [so_p (w v) hB hk, set_set]
  have hw' : ∀ v, SR (am_set s3 b (.inr (7, stO v b))) c r' Z' G' := fun v => h3'.at fun q _ _ => set_ne (by omega)
  obtain ⟨wn, A, C, L, a1, a2, a3, -⟩ := h.ww
  obtain ⟨ln, E, D, b1, b2, b3, -⟩ := h.lw
  obtain ⟨wn', A', C', L', a1', a2', a3', a4'⟩ := h3'.ww
  let v4 : Nat → Int32 := upd (upd (upd (upd (upd (sv r Z) 5 (nI r')) 6 (nI (Z' 1))) 7 (nI (Z' 2))) 10 (nI (Z' 8))) 8 (nI (Z' 5))
  obtain ⟨s5, C2, L2, e5, o5, w5, c5⟩ := cw_lp (B := B) (v := v4) (v' := sv r' Z') hB hd wn' a2 a2' rfl rfl (Z' 5) 0 (am_set s3 b (.inr (7, stO v4 b))) C L (Nat.zero_add _) (w _) (hw' _).o ((set_ne (by omega)).trans ((f3 _ (by omega) (by omega)).trans a1)) ((set_ne (by omega)).trans a1') (fun j hj => (a3 j hj).at fun q _ _ => (set_ne (by omega)).trans (f3 q (by omega) (by omega))) (fun j hj => (a3' j hj).at fun q _ _ => set_ne (by omega)) (fun j hj => absurd hj (Nat.not_lt_zero _))
  have ho5 : SO s5 b v4 := (o5.1 b (by omega)).trans (w _)
  have h5' : SR s5 c r' Z' G' := (hw' v4).at fun q _ _ => o5.1 q (by omega)
  have p9 := so_p (B := B) (M := mm_X8_copyLeases) (x := nI (Z' 4)) ho5 hB (show 5 ≤ 9 ∧ 9 ≤ 10 by omega)
  have h6' : SR (am_set s5 b (.inr (7, stO (upd v4 9 (nI (Z' 4))) b))) c r' Z' G' := h5'.at fun q _ _ => set_ne (by omega)
  obtain ⟨ln', E', D', b1', b2', b3', b4'⟩ := h6'.lw
  have f5 : ∀ q, b + 179 ≤ q → q ≠ b + 181 → (q < b + 181 ∨ b + 210 ≤ q) → (am_set s5 b (.inr (7, stO (upd v4 9 (nI (Z' 4))) b))).1 q = s.1 q := fun q h1 h2 h3 => (set_ne (by omega)).trans ((o5.1 q (by omega)).trans ((set_ne (by omega)).trans (f3 q (by omega) (by omega))))
  obtain ⟨s7, D2, e7, o7, w7, c7⟩ := cl_lp (B := B) (v := upd v4 9 (nI (Z' 4))) (v' := sv r' Z') hB hd ln' b2 b2' rfl rfl (Z' 4) 0 (am_set s5 b (.inr (7, stO (upd v4 9 (nI (Z' 4))) b))) D (Nat.zero_add _) set_at h6'.o ((f5 _ (by omega) (by omega) (by omega)).trans b1) b1' (fun j hj => (f5 _ (by omega) (by omega) (by omega)).trans (b3 j hj)) b3' (fun j hj => absurd hj (Nat.not_lt_zero _))
  have ge : gA tb_ct s1 b 7 1 = some (some (b + 25)) := gA_o ho1 rfl rfl rfl
  have gt : gA tb_ct s2 b 7 4 = some (some (b + 181)) := gA_o ho2 rfl rfl rfl
  have o57 : so s5 s7 b (b + 218) := so_tr (so_up so_set (by omega) (by omega)) (so_up o7 (by omega) (by omega))
  have f7 : ∀ q, q ≠ b → (q < b + 210 ∨ b + 218 ≤ q) → s7.1 q = s5.1 q := fun q h1 h2 => (o7.1 q (by omega)).trans (set_ne h1)
  have f75 : ∀ q, q ≠ b → (q < b + 194 ∨ b + 218 ≤ q) → s7.1 q = s3.1 q := fun q h1 h2 => (f7 q h1 (by omega)).trans ((o5.1 q (by omega)).trans (set_ne h1))
  refine ⟨s7, ?_, so_tr (so_up o1 (by omega) (by omega)) (so_tr (so_up o2 (by omega) (by omega)) (so_tr (so_up o3 (by omega) (by omega)) (so_tr (so_up so_set (by omega) (by omega)) (so_tr (so_up o5 (by omega) (by omega)) o57)))), ?_, ?_, ?_, ⟨wn', A, C2, L2, ?_, a2, fun j hj => ?_, fun j hj => ?_⟩, ⟨ln', E, D2, ?_, b2, w7, fun j hj w hw => ?_⟩, ?_, ?_, ?_⟩
  · have ew : cl_ tb_ct tb_mt B K_X8_copyWatches [.ref b, .ref c] (am_set s3 b (.inr (7, stO (upd (upd (upd (upd (sv r Z) 5 (nI r')) 6 (nI (Z' 1))) 7 (nI (Z' 2))) 10 (nI (Z' 8))) b))) = some (.inl none, s5) := by
      rw [in_X8_copyWatches, dc_X8_copyWatches_0]
      simp only [sr_8 (hw' _), eI_s, pw _ _ 8 _ (by omega), eS_s]
      exact e5
    have el : cl_ tb_ct tb_mt B K_X8_copyLeases [.ref b, .ref c] s5 = some (.inl none, s7) := by
      rw [in_X8_copyLeases, dc_X8_copyLeases_0]
      simp only [sr_9 h5', eI_s, p9, eS_s]
      exact e7
    rw [in_X8_copyFrom, dc_X8_copyFrom_0]
    simp only [sr_k h, sr_k h', eA_s, sr_kc h, eC_s, e1, cV_s, ge, sr_e h1', ew_cls ew1, e2, gt, sr_t h2', tw_cls tw2, e3, sr_5 h3', eI_s, p5, eS_s, sr_6 (hw' _), pw _ _ 6 _ (by omega), sr_7 (hw' _), pw _ _ 7 _ (by omega), sr_10 (hw' _), pw _ _ 10 _ (by omega), cls_o (w _), ew, cls_o ho5, el]
  · refine SO.cg (v := upd v4 9 (nI (Z' 4))) ((o7.1 b (by omega)).trans set_at) fun k k1 k2 => ?_
    match k, k1, k2 with
    | 5, _, _ => rfl
    | 6, _, _ => rfl
    | 7, _, _ => rfl
    | 8, _, _ => rfl
    | 9, _, _ => rfl
    | 10, _, _ => rfl
    | k + 11, _, k2 => omega
  · exact k1.at fun q _ _ => (f75 q (by omega) (by omega)).trans ((o3.1 q (by omega)).trans (o2.1 q (by omega)))
  · exact k2.at fun q _ _ => (f75 q (by omega) (by omega)).trans (o3.1 q (by omega))
  · exact (f75 _ (by omega) (by omega)).trans ((f3 _ (by omega) (by omega)).trans a1)
  · exact (w5 j hj).at fun q _ _ => f7 q (by omega) (by omega)
  · obtain ⟨c1, c2⟩ := c5 j hj
    rw [c1, c2]
    exact a4' j hj
  · exact (f75 _ (by omega) (by omega)).trans ((f3 _ (by omega) (by omega)).trans b1)
  · rw [c7 j hj]
    exact b4' j hj w hw
  · exact k3.at fun q _ _ => f75 q (by omega) (by omega)
  · exact k4.at fun q _ _ => f75 q (by omega) (by omega)
  · exact k5.at fun q _ _ => f75 q (by omega) (by omega)
end Cq
