/-! ===== Store: emptied, copied ===== -/
def p_new : stT := (fun i => if i = 0 then 1 else 0, fun _ _ _ => 0)
theorem IA.new : IA 1 p_new := by
  refine ⟨⟨⟨fun k hk => absurd hk (Nat.not_lt_zero _), fun k hk => ?_, rfl, fun i hi => absurd hi (Nat.not_lt_zero _), fun i j _ hj => absurd hj (Nat.not_lt_zero _)⟩, fun i hi => absurd hi (Nat.not_lt_zero _), fun i hi => absurd hi (Nat.not_lt_zero _), fun k hk => ?_, fun k hk => absurd hk (Nat.not_lt_zero _), fun _ => Nat.zero_le _, Nat.zero_le _, Nat.zero_le _, (by decide : (1 : Nat) < 2 ^ 30)⟩, Nat.zero_le _, Nat.zero_le _, ⟨Nat.zero_le _, fun i hi => absurd hi (Nat.not_lt_zero _), fun i j _ hj => absurd hj (Nat.not_lt_zero _)⟩, ⟨Nat.zero_le _, fun i hi => absurd hi (Nat.not_lt_zero _), ⟨Nat.zero_le _, fun i hi => absurd hi (Nat.not_lt_zero _), fun i j _ hj => absurd hj (Nat.not_lt_zero _)⟩, ⟨Nat.zero_le _, fun i hi => absurd hi (Nat.not_lt_zero _), fun i j _ hj => absurd hj (Nat.not_lt_zero _)⟩⟩, Nat.le_refl _, Nat.zero_le _, Nat.zero_le _, Nat.zero_le _⟩
  · have : k = 0 := Nat.le_zero.mp hk
    subst this
    exact ⟨fun i j _ hj => absurd hj (Nat.not_lt_zero _), Nat.zero_le _⟩
  · have : k = 0 := Nat.le_zero.mp hk
    subst this
    exact fun i hi => absurd hi (Nat.not_lt_zero _)
theorem ILp.new : ILp p_new := fun i hi => absurd hi (Nat.not_lt_zero _)
section Cp
variable {s s' : am_S} {B b c r r' n n' t t' : Nat} {Z Z' : nmT} {G G' : rwT} {K K' T T' W W' : rowT} {M : am_M}
theorem kw_clr (h : KW s b n K) (hB : B ≤ b) (K' : rowT) : ∃ s', am_put tb_ct M B s (.int 0) b 3 1 = some s' ∧ so s s' b (b + 24) ∧ KW s' b 0 K' := by
  obtain ⟨h1, A, C, h2, h3, h4⟩ := h
  exact ⟨_, kr_pn (n' := 0) h2 hB, so_rw, Nat.zero_le _, A, C, RW.of, h3, fun i hi => absurd hi (Nat.not_lt_zero _)⟩
theorem ew_clr (h : EW s b n K) (hB : B ≤ b) (K' : rowT) : ∃ s', am_put tb_ct M B s (.int 0) b 1 1 = some s' ∧ so s s' b (b + 154) ∧ EW s' b 0 K' := by
  obtain ⟨h1, A, C, h2, h3, h4⟩ := h
  exact ⟨_, er_pn (n' := 0) h2 hB, so_rw, Nat.zero_le _, A, C, RW.of, h3, fun i hi => absurd hi (Nat.not_lt_zero _)⟩
theorem tx_clear {n1 n2 : Nat} {T1 T2 : rowT} (h : TW s t n T) (h1 : PW s (t + 5) n1 T1) (h2 : PW s (t + 9) n2 T2) (hB : B ≤ t) : ∃ s', cl_ tb_ct tb_mt B K_X9_clear [.ref t] s = some (.inl (some (.int ((nI n + nI n1) + nI n2))), s') ∧ so s s' t (t + 13) ∧ TW s' t 0 T ∧ PW s' (t + 5) 0 T1 ∧ PW s' (t + 9) 0 T2 := by
  obtain ⟨s1, e1, o1, k1⟩ := tw_p (M := mm_X9_clear) h hB
  have a1 := h1.at fun q _ _ => o1.1 q (by omega)
  have a2 := h2.at fun q _ _ => o1.1 q (by omega)
  obtain ⟨s2, e2, o2, k2⟩ := pw_p (M := mm_X9_clear) a1 (show B ≤ t + 5 by omega)
  have b0 := k1.at fun q _ _ => o2.1 q (by omega)
  have b2 := a2.at fun q _ _ => o2.1 q (by omega)
  obtain ⟨s3, e3, o3, k3⟩ := pw_p (M := mm_X9_clear) b2 (show B ≤ t + 9 by omega)
  refine ⟨s3, ?_, so_tr (so_tr (so_up o1 (by omega) (by omega)) (so_up o2 (by omega) (by omega))) (so_up o3 (by omega) (by omega)), b0.at fun q _ _ => o3.1 q (by omega), k2.at fun q _ _ => o3.1 q (by omega), k3⟩
  rw [in_X9_clear, dc_X9_clear_0]
  simp only [tw_n h, tw_s1 h, tw_s2 h, eI_s, eA_s, pw_n h1, pw_n h2, e1, eS_s, tw_s1 k1, e2, tw_s2 b0, e3]
theorem st_clear (h : SR s b r Z G) (hB : B ≤ b) : ∃ s', cl_ tb_ct tb_mt B K_X8_clear [.ref b] s = some (.inl none, s') ∧ so s s' b (b + 218) ∧ SS s' b p_new := by
  obtain ⟨s1, e1, o1, k1⟩ := kw_clr (M := mm_X8_clear) h.kw (show B ≤ b + 1 by omega) (p_new.2 0)
  have ho1 : SO s1 b (sv r Z) := (o1.1 b (by omega)).trans h.o
  obtain ⟨s2, e2, o2, k2⟩ := ew_clr (M := mm_X8_clear) (h.ew.at fun q _ _ => o1.1 q (by omega)) (show B ≤ b + 25 by omega) (p_new.2 2)
  have ho2 : SO s2 b (sv r Z) := (o2.1 b (by omega)).trans ho1
  have o12 : ∀ q, b + 179 ≤ q → s2.1 q = s.1 q := fun q hq => (o2.1 q (by omega)).trans (o1.1 q (by omega))
  have tw2 := h.tw.at (s' := s2) fun q _ _ => o12 q (by omega)
  obtain ⟨s3, e3, o3, k3, k4, k5⟩ := tx_clear (B := B) tw2 (h.p1.at fun q _ _ => o12 q (by omega)) (h.p2.at fun q _ _ => o12 q (by omega)) (show B ≤ b + 181 by omega)
  have ho3 : SO s3 b (sv r Z) := (o3.1 b (by omega)).trans ho2
  obtain ⟨wn, A, C, L, a1, a2, a3, a4⟩ := h.ww
  obtain ⟨ln, A', C', b1, b2, b3, b4⟩ := h.lw
  have o13 : ∀ q, b + 179 ≤ q → (q < b + 181 ∨ b + 194 ≤ q) → s3.1 q = s.1 q := fun q h1 h2 => (o3.1 q (by omega)).trans (o12 q h1)
  have p5 := so_p (B := B) (M := mm_X8_clear) (x := 1) ho3 hB (show 5 ≤ 5 ∧ 5 ≤ 10 by omega)
  have w : ∀ v, SO (am_set s3 b (.inr (7, stO v b))) b v := fun v => set_at
  have pw : ∀ (v : Nat → Int32) (k : Nat), 5 ≤ k ∧ k ≤ 10 → am_put tb_ct mm_X8_clear B (am_set s3 b (.inr (7, stO v b))) (.int 0) b 7 k = some (am_set s3 b (.inr (7, stO (upd v k 0) b))) := fun v k hk => by
    rw [so_p (w v) hB hk, set_set]
  have ge : gA tb_ct s1 b 7 1 = some (some (b + 25)) := gA_o ho1 rfl rfl rfl
  have gt : gA tb_ct s2 b 7 4 = some (some (b + 181)) := gA_o ho2 rfl rfl rfl
  have fr : ∀ v q, q ≠ b → (am_set s3 b (.inr (7, stO v b))).1 q = s3.1 q := fun v q hq => set_ne hq
  refine ⟨am_set s3 b (.inr (7, stO (upd (upd (upd (upd (upd (upd (sv r Z) 5 1) 6 0) 7 0) 8 0) 9 0) 10 0) b)), ?_, so_tr (so_up o1 (by omega) (by omega)) (so_tr (so_up o2 (by omega) (by omega)) (so_tr (so_up o3 (by omega) (by omega)) (so_up so_set (by omega) (by omega)))), (w _).cg fun k k1 k2 => ?_, k1.at fun q _ _ => ?_, k2.at fun q _ _ => ?_, ⟨Nat.zero_le _, A, C, L, ?_, a2, fun j hj => (a3 j hj).at fun q _ _ => ?_, fun i hi => absurd hi (Nat.not_lt_zero _)⟩, ⟨Nat.zero_le _, A', C', ?_, b2, fun j hj => ?_, fun i hi => absurd hi (Nat.not_lt_zero _)⟩, ?_, ?_, ?_⟩
  · rw [in_X8_clear, dc_X8_clear_0]
    simp only [sr_k h, eA_s, e1, eS_s, ge, e2, gt, tw_cls tw2, eC_s, e3, cI_s, p5, pw _ 6 (by omega), pw _ 7 (by omega), pw _ 8 (by omega), pw _ 9 (by omega), pw _ 10 (by omega)]
  · match k, k1, k2 with
    | 5, _, _ => rfl
    | 6, _, _ => rfl
    | 7, _, _ => rfl
    | 8, _, _ => rfl
    | 9, _, _ => rfl
    | 10, _, _ => rfl
    | k + 11, _, k2 => omega
  · rw [fr _ _ (by omega), o3.1 q (by omega), o2.1 q (by omega)]
  · rw [fr _ _ (by omega), o3.1 q (by omega)]
  · rw [fr _ _ (by omega), o13 _ (by omega) (by omega)]
    exact a1
  · rw [fr _ _ (by omega), o13 _ (by omega) (by omega)]
  · rw [fr _ _ (by omega), o13 _ (by omega) (by omega)]
    exact b1
  · rw [fr _ _ (by omega), o13 _ (by omega) (by omega)]
    exact b3 j hj
  · obtain ⟨-, U, c1, -⟩ := k3
    exact ⟨Nat.zero_le _, U, OV.at c1 fun q _ _ => fr _ _ (by omega), fun i hi => absurd hi (Nat.not_lt_zero _)⟩
  · obtain ⟨-, U, c1, -⟩ := k4
    exact ⟨Nat.zero_le _, U, OV.at c1 fun q _ _ => fr _ _ (by omega), fun i hi => absurd hi (Nat.not_lt_zero _)⟩
  · obtain ⟨-, U, c1, -⟩ := k5
    exact ⟨Nat.zero_le _, U, OV.at c1 fun q _ _ => fr _ _ (by omega), fun i hi => absurd hi (Nat.not_lt_zero _)⟩
/-! copies -/
theorem wC_6 {a d : Nat} {f g : Nat → Int32} (ha : s.1 a = some (.inl (.int, 6, .inl f))) (hd : s.1 d = some (.inl (.int, 6, .inl g))) (hB : B ≤ d) : wC B .int s a 0 d 0 6 = some (am_set s d (.inl (.int, 6, .inl (va_cpy f g 0 0 6)))) := by
  have e1 : am_ia s .int a = some (6, f) := by
    unfold am_ia
    rw [ha]
    rfl
  have e2 : am_ia s .int d = some (6, g) := by
    unfold am_ia
    rw [hd]
    rfl
  unfold wC am_cpy
  simp only [e1, e2]
  rw [if_pos ⟨by decide, by decide, by decide, by decide, by decide, hB, by decide, by
    rw [List.all_eq_true]
    intro i _
    rfl⟩]
  rfl
theorem cpy_6 {f g : Nat → Int32} {i : Nat} (hi : i < 6) : va_cpy f g 0 0 6 i = f i := by
  rw [pk_cpy_in (by omega) (by omega)]
  simp
def cpW (U' : rowT) (w : Nat) (V : rowT) : rowT := fun j v => if v = w then va_cpy (fun j => U' j w) (fun j => V j w) 0 0 6 j else V j v
theorem cpW_s {U' V : rowT} {w i : Nat} (hi : i < 6) : cpW U' w V i w = U' i w := by
  unfold cpW
  rw [if_pos rfl, cpy_6 hi]
theorem cpW_n {U' V : rowT} {w v i : Nat} (hv : v ≠ w) : cpW U' w V i v = V i v := if_neg hv
theorem pw_copy (h : PW s t n T) (h' : PW s t' n' T') (hd : t' + 4 ≤ t ∨ t + 4 ≤ t') (hB : B ≤ t) : ∃ s', cl_ tb_ct tb_mt B K_X7_copyFrom [.ref t, .ref t'] s = some (.inl none, s') ∧ so s s' t (t + 4) ∧ PW s' t n' T' := by
  obtain ⟨hn, U, a1, a2⟩ := h
  obtain ⟨hn', U', b1, b2⟩ := h'
  have s0 : am_put tb_ct mm_X7_copyFrom B s (.int (nI n')) t 6 3 = some (spS s t n' U) := sp_pn a1 hB
  have q0 : SP (spS s t n' U) t n' U := OV.of
  have r0 : SP (spS s t n' U) t' n' U' := b1.at fun q _ _ => ov_o (by omega)
  have step : ∀ (V : rowT) (w : Nat), w < 3 → wC B .int (spS s t n' V) (t' + 1 + w) 0 (t + 1 + w) 0 6 = some (spS s t n' (cpW U' w V)) := by
    intro V w hw
    have qV : SP (spS s t n' V) t n' V := OV.of
    have rV : SP (spS s t n' V) t' n' U' := b1.at fun q _ _ => ov_o (by omega)
    have f1 : (spS s t n' V).1 (t' + 1 + w) = some (.inl (.int, 6, .inl fun j => U' j w)) := by
      rw [show t' + 1 + w = t' + (w + 1) by omega, rV (w + 1) (by omega)]
      rfl
    have f2 : (spS s t n' V).1 (t + 1 + w) = some (.inl (.int, 6, .inl fun j => V j w)) := by
      rw [show t + 1 + w = t + (w + 1) by omega, qV (w + 1) (by omega)]
      rfl
    rw [wC_6 f1 f2 (by omega), show t + 1 + w = t + (w + 1) by omega, qV.set (show w + 1 < 4 by omega)]
    refine congrArg some ?_
    rw [ov_idem]
    refine ov_cg fun j hj => ?_
    by_cases hjw : j = w + 1
    · rw [if_pos hjw, hjw]
      unfold spF ia6 cpW
      rw [if_neg (by omega)]
      simp only [Nat.add_sub_cancel, if_true]
    · rw [if_neg hjw]
      unfold spF ia6 cpW
      by_cases hj0 : j = 0
      · rw [if_pos hj0, if_pos hj0]
      · rw [if_neg hj0, if_neg hj0]
        simp only [if_neg (show ¬ j - 1 = w by omega)]
  have g : ∀ V w, w < 3 → gA tb_ct (spS s t n' V) t 6 w = some (some (t + 1 + w)) ∧ gA tb_ct (spS s t n' V) t' 6 w = some (some (t' + 1 + w)) := by
    intro V w hw
    have qV : SP (spS s t n' V) t n' V := OV.of
    have rV : SP (spS s t n' V) t' n' U' := b1.at fun q _ _ => ov_o (by omega)
    match w with
    | 0 => exact ⟨sp_r0 qV, sp_r0 rV⟩
    | 1 => exact ⟨sp_r1 qV, sp_r1 rV⟩
    | 2 => exact ⟨sp_r2 qV, sp_r2 rV⟩
    | w + 3 => omega
  refine ⟨spS s t n' (cpW U' 2 (cpW U' 1 (cpW U' 0 U))), ?_, so_ov, hn', _, OV.of, fun i hi w hw => ?_⟩
  · rw [in_X7_copyFrom, dc_X7_copyFrom_0]
    simp only [sp_n b1, eI_s, s0, eS_s, (g _ 0 (by omega)).1, (g _ 0 (by omega)).2, (g _ 1 (by omega)).1, (g _ 1 (by omega)).2, (g _ 2 (by omega)).1, (g _ 2 (by omega)).2, eA_s]
    have e0 := step U 0 (by omega)
    have e1 := step (cpW U' 0 U) 1 (by omega)
    have e2 := step (cpW U' 1 (cpW U' 0 U)) 2 (by omega)
    simp only [Nat.add_zero] at e0
    simp only [Nat.add_assoc, Nat.reduceAdd] at e0 e1 e2 ⊢
    simp only [e0, eS_s, (g _ 1 (by omega)).1, (g _ 1 (by omega)).2, eA_s, Nat.add_assoc, Nat.reduceAdd, e1, (g _ 2 (by omega)).1, (g _ 2 (by omega)).2, e2]
  · rw [← b2 i hi w hw]
    match w with
    | 0 => rw [cpW_n (by omega), cpW_n (by omega), cpW_s (by omega)]
    | 1 => rw [cpW_n (by omega), cpW_s (by omega)]
    | 2 => rw [cpW_s (by omega)]
    | w + 3 => omega
theorem tx_copy {n1 n2 n1' n2' : Nat} {T1 T2 T1' T2' : rowT} (h : TW s t n T) (h1 : PW s (t + 5) n1 T1) (h2 : PW s (t + 9) n2 T2) (h' : TW s t' n' T') (h1' : PW s (t' + 5) n1' T1') (h2' : PW s (t' + 9) n2' T2') (hd : t' + 13 ≤ t ∨ t + 13 ≤ t') (hB : B ≤ t) : ∃ s', cl_ tb_ct tb_mt B K_X9_copyFrom [.ref t, .ref t'] s = some (.inl none, s') ∧ so s s' t (t + 13) ∧ TW s' t n' T' ∧ PW s' (t + 5) n1' T1' ∧ PW s' (t + 9) n2' T2' := by
  obtain ⟨hn, U, a1, a2⟩ := h
  obtain ⟨hn', U', b1, b2⟩ := id h'
  have s0 : am_put tb_ct mm_X9_copyFrom B s (.int (nI n')) t 8 4 = some (trS s t n' U) := tr_pn a1 hB
  have step : ∀ (V : rowT) (w : Nat), w < 4 → wC B .int (trS s t n' V) (t' + 1 + w) 0 (t + 1 + w) 0 6 = some (trS s t n' (cpW U' w V)) := by
    intro V w hw
    have qV : TR (trS s t n' V) t n' V := OV.of
    have rV : TR (trS s t n' V) t' n' U' := b1.at fun q _ _ => ov_o (by omega)
    have f1 : (trS s t n' V).1 (t' + 1 + w) = some (.inl (.int, 6, .inl fun j => U' j w)) := by
      rw [show t' + 1 + w = t' + (w + 1) by omega, rV (w + 1) (by omega)]
      rfl
    have f2 : (trS s t n' V).1 (t + 1 + w) = some (.inl (.int, 6, .inl fun j => V j w)) := by
      rw [show t + 1 + w = t + (w + 1) by omega, qV (w + 1) (by omega)]
      rfl
    rw [wC_6 f1 f2 (by omega), show t + 1 + w = t + (w + 1) by omega, qV.set (show w + 1 < 5 by omega)]
    refine congrArg some ?_
    rw [ov_idem]
    refine ov_cg fun j hj => ?_
    by_cases hjw : j = w + 1
    · rw [if_pos hjw, hjw]
      unfold trF ia6 cpW
      rw [if_neg (by omega)]
      simp only [Nat.add_sub_cancel, if_true]
    · rw [if_neg hjw]
      unfold trF ia6 cpW
      by_cases hj0 : j = 0
      · rw [if_pos hj0, if_pos hj0]
      · rw [if_neg hj0, if_neg hj0]
        simp only [if_neg (show ¬ j - 1 = w by omega)]
  have g : ∀ V w, w < 4 → gA tb_ct (trS s t n' V) t 8 w = some (some (t + 1 + w)) ∧ gA tb_ct (trS s t n' V) t' 8 w = some (some (t' + 1 + w)) := by
    intro V w hw
    have qV : TR (trS s t n' V) t n' V := OV.of
    have rV : TR (trS s t n' V) t' n' U' := b1.at fun q _ _ => ov_o (by omega)
    match w with
    | 0 => exact ⟨tr_r0 qV, tr_r0 rV⟩
    | 1 => exact ⟨tr_r1 qV, tr_r1 rV⟩
    | 2 => exact ⟨tr_r2 qV, tr_r2 rV⟩
    | 3 => exact ⟨tr_r3 qV, tr_r3 rV⟩
    | w + 4 => omega
  let X : rowT := cpW U' 3 (cpW U' 2 (cpW U' 1 (cpW U' 0 U)))
  have hX1 : ∀ i, i < n' → ∀ w, w < 4 → X i w = T' i w := by
    intro i hi w hw
    rw [← b2 i hi w hw]
    change cpW U' 3 (cpW U' 2 (cpW U' 1 (cpW U' 0 U))) i w = _
    match w with
    | 0 => rw [cpW_n (by omega), cpW_n (by omega), cpW_n (by omega), cpW_s (by omega)]
    | 1 => rw [cpW_n (by omega), cpW_n (by omega), cpW_s (by omega)]
    | 2 => rw [cpW_n (by omega), cpW_s (by omega)]
    | 3 => rw [cpW_s (by omega)]
    | w + 4 => omega
  have k0 : TW (trS s t n' X) t n' T' := ⟨hn', X, OV.of, hX1⟩
  have k0' : TW (trS s t n' X) t' n' T' := h'.at fun q _ _ => ov_o (by omega)
  obtain ⟨s1, e1, o1, k1⟩ := pw_copy (B := B) (h1.at (s' := trS s t n' X) fun q _ _ => ov_o (by omega)) (h1'.at fun q _ _ => ov_o (by omega)) (by omega) (show B ≤ t + 5 by omega)
  have j0 := k0.at fun q _ _ => o1.1 q (by omega)
  have j0' := k0'.at fun q _ _ => o1.1 q (by omega)
  obtain ⟨s2, e2, o2, k2⟩ := pw_copy (B := B) (s := s1) (h2.at fun q _ _ => (o1.1 q (by omega)).trans (ov_o (by omega))) (h2'.at fun q _ _ => (o1.1 q (by omega)).trans (ov_o (by omega))) (by omega) (show B ≤ t + 9 by omega)
  refine ⟨s2, ?_, so_tr (so_up so_ov (by omega) (by omega)) (so_tr (so_up o1 (by omega) (by omega)) (so_up o2 (by omega) (by omega))), j0.at fun q _ _ => o2.1 q (by omega), k1.at fun q _ _ => o2.1 q (by omega), k2⟩
  have c1 : am_cls (trS s t n' X) (t + 5) = some 6 := pw_cls (h1.at (s' := trS s t n' X) fun q _ _ => ov_o (by omega))
  have c2 : am_cls s1 (t + 9) = some 6 := pw_cls (h2.at (s' := s1) fun q _ _ => (o1.1 q (by omega)).trans (ov_o (by omega)))
  have f0 := step U 0 (by omega)
  have f1 := step (cpW U' 0 U) 1 (by omega)
  have f2 := step (cpW U' 1 (cpW U' 0 U)) 2 (by omega)
  have f3 := step (cpW U' 2 (cpW U' 1 (cpW U' 0 U))) 3 (by omega)
  simp only [Nat.add_zero, Nat.add_assoc, Nat.reduceAdd] at f0 f1 f2 f3
  have hXe : trS s t n' (cpW U' 3 (cpW U' 2 (cpW U' 1 (cpW U' 0 U)))) = trS s t n' X := rfl
  rw [in_X9_copyFrom, dc_X9_copyFrom_0]
  simp only [tr_n b1, eI_s, s0, eS_s, (g _ 0 (by omega)).1, (g _ 0 (by omega)).2, (g _ 1 (by omega)).1, (g _ 1 (by omega)).2, (g _ 2 (by omega)).1, (g _ 2 (by omega)).2, (g _ 3 (by omega)).1, (g _ 3 (by omega)).2, eA_s, Nat.add_assoc, Nat.reduceAdd, Nat.add_zero, f0, f1, f2, f3]
  simp only [hXe, tw_s1 k0, tw_s1 k0', tw_s2 j0, tw_s2 j0', eA_s, c1, c2, eC_s, e1, cV_s, e2]
end Cp
