/-! ===== Store's calls: transaction, revert ===== -/
theorem smI_cg {f g : Nat → Int32} : ∀ k i, (∀ j, i ≤ j → j < i + k → f j = g j) → smI f i k = smI g i k
  | 0, _, _ => rfl
  | k + 1, i, h => by
    unfold smI
    rw [h i (Nat.le_refl _) (by omega), smI_cg k (i + 1) fun j h1 h2 => h j (by omega) (by omega)]
def q4 (a0 a1 a2 a3 : Int32) : Nat → Int32
  | 0 => a0
  | 1 => a1
  | 2 => a2
  | _ => a3
section Tx
variable {s s' : am_S} {B b r n kb kn t p u n0 : Nat} {T K : rowT} {σ : stT} {x : Int32} {M : am_M}
theorem tw_n (h : TW s t n T) : gI tb_ct s t 8 4 = some (nI n) := by
  obtain ⟨-, U, a1, -⟩ := h
  exact tr_n a1
theorem tw_cls (h : TW s t n T) : am_cls s t = some 8 := by
  obtain ⟨-, U, a1, -⟩ := h
  exact tr_cls a1
theorem tw_s1 (h : TW s t n T) : gA tb_ct s t 8 5 = some (some (t + 5)) := by
  obtain ⟨-, U, a1, -⟩ := h
  exact tr_s1 a1
theorem tw_s2 (h : TW s t n T) : gA tb_ct s t 8 6 = some (some (t + 9)) := by
  obtain ⟨-, U, a1, -⟩ := h
  exact tr_s2 a1
theorem pw_n (h : PW s t n T) : gI tb_ct s t 6 3 = some (nI n) := by
  obtain ⟨-, U, a1, -⟩ := h
  exact sp_n a1
theorem pw_cls (h : PW s t n T) : am_cls s t = some 6 := by
  obtain ⟨-, U, a1, -⟩ := h
  exact sp_cls a1
theorem pw_i0 {i : Nat} (h : PW s t n T) (hi : i < n) : gA tb_ct s t 6 0 = some (some (t + 1)) ∧ aI s (t + 1) (nI i) = some (T i 0) := by
  obtain ⟨h6, U, a1, a2⟩ := h
  refine ⟨sp_r0 a1, ?_⟩
  rw [← a2 i hi 0 (by omega)]
  exact sp_i0 a1 (by omega)
theorem pw_i1 {i : Nat} (h : PW s t n T) (hi : i < n) : gA tb_ct s t 6 1 = some (some (t + 2)) ∧ aI s (t + 2) (nI i) = some (T i 1) := by
  obtain ⟨h6, U, a1, a2⟩ := h
  refine ⟨sp_r1 a1, ?_⟩
  rw [← a2 i hi 1 (by omega)]
  exact sp_i1 a1 (by omega)
theorem pw_i2 {i : Nat} (h : PW s t n T) (hi : i < n) : gA tb_ct s t 6 2 = some (some (t + 3)) ∧ aI s (t + 3) (nI i) = some (T i 2) := by
  obtain ⟨h6, U, a1, a2⟩ := h
  refine ⟨sp_r2 a1, ?_⟩
  rw [← a2 i hi 2 (by omega)]
  exact sp_i2 a1 (by omega)
theorem cd_eq {U C K : rowT} {A : Nat → Nat} (hT : cdOk n T) (h1 : ∀ i, i < n → ∀ w, w < 4 → U i w = T i w) (h2 : ∀ i, i < kn → ∀ w, w < 6 → C (A i) w = K i w) : ∀ i, i < n → cdF U A C kn i = cdK T K kn i := by
  intro i hi
  have e : ∀ key, kfd A C kn key = pF K kn key := fun key => pF_cg (K := fun i => C (A i)) fun i hi => h2 i hi 0 (by omega)
  obtain ⟨⟨w, hw, ew⟩, -⟩ := hT i hi
  unfold cdF cdK
  simp only [e, h1 i hi 0 (by omega), h1 i hi 1 (by omega), h1 i hi 2 (by omega), h1 i hi 3 (by omega)]
  by_cases hf : pF K kn (T i 0) < kn
  · rw [if_pos hf, if_pos hf, ew, nat_n (by omega), h2 _ hf _ (by omega)]
  · rw [if_neg hf, if_neg hf]
theorem cdOk_cg {U : rowT} (hT : cdOk n T) (h1 : ∀ i, i < n → ∀ w, w < 4 → U i w = T i w) : cdOk n U := fun i hi => by
  rw [h1 i hi 1 (by omega), h1 i hi 2 (by omega)]
  exact hT i hi
theorem tw_failing (h : TW s t n T) (hT : cdOk n T) (hK : KW s kb kn K) : cl_ tb_ct tb_mt B K_X9_firstFailing [.ref t, .ref kb] s = some (.inl (some (.int (ixI (cdK T K kn) n))), s) := by
  obtain ⟨h6, U, a1, a2⟩ := h
  obtain ⟨h1, A, C, h2, h3, h4⟩ := hK
  rw [tr_failing a1 h6 (cdOk_cg hT a2) h2 h3 h1]
  unfold ixI
  rw [fi_cg n 0 fun j _ hj => cd_eq hT a2 h4 j (by omega)]
theorem tw_stepsFor (h : TW s t n T) (hT : cdOk n T) (hK : KW s kb kn K) : cl_ tb_ct tb_mt B K_X9_stepsFor [.ref t, .ref kb] s = some (.inl (some (.ref (if fi (cdK T K kn) 0 n < n then t + 9 else t + 5))), s) := by
  obtain ⟨h6, U, a1, a2⟩ := h
  obtain ⟨h1, A, C, h2, h3, h4⟩ := hK
  rw [tr_stepsFor a1 h6 (cdOk_cg hT a2) h2 h3 h1, fi_cg n 0 fun j _ hj => cd_eq hT a2 h4 j (by omega)]
theorem tw_add (h : TW s t n T) (hB : B ≤ t) (x1 x2 x3 x4 : Int32) : (n = 6 → cl_ tb_ct tb_mt B K_X9_addCondition [.ref t, .int x1, .int x2, .int x3, .int x4] s = some (.inl (some (.int (-2))), s)) ∧ (n ≠ 6 → ∃ s', cl_ tb_ct tb_mt B K_X9_addCondition [.ref t, .int x1, .int x2, .int x3, .int x4] s = some (.inl (some (.int (nI (n + 1)))), s') ∧ so s s' t (t + 5) ∧ TW s' t (n + 1) (va_up T n (q4 x1 x2 x3 x4))) := by
  obtain ⟨h6, U, a1, a2⟩ := h
  rw [tr_add a1 h6 hB]
  refine ⟨fun hn => by rw [if_pos hn], fun hn => ?_⟩
  rw [if_neg hn]
  refine ⟨_, rfl, so_ov, by omega, _, OV.of, fun i hi w hw => ?_⟩
  by_cases hi2 : i = n
  · subst hi2
    rw [va_us]
    match w with
    | 0 => simp [up2, q4]
    | 1 => simp [up2, q4]
    | 2 => simp [up2, q4]
    | 3 => simp [up2, q4]
    | w + 4 => omega
  · rw [va_un hi2, ← a2 i (by omega) w hw]
    simp [up2, hi2]
theorem pw_add (h : PW s t n T) (hB : B ≤ t) (kd ky v : Int32) : (n = 6 → cl_ tb_ct tb_mt B K_X7_add [.ref t, .int kd, .int ky, .int v] s = some (.inl (some (.int (-2))), s)) ∧ (n ≠ 6 → fi (fun i => decide (T i 1 = ky)) 0 n < n → cl_ tb_ct tb_mt B K_X7_add [.ref t, .int kd, .int ky, .int v] s = some (.inl (some (.int (-4))), s)) ∧ (n ≠ 6 → ¬ fi (fun i => decide (T i 1 = ky)) 0 n < n → ∃ s', cl_ tb_ct tb_mt B K_X7_add [.ref t, .int kd, .int ky, .int v] s = some (.inl (some (.int (nI (n + 1)))), s') ∧ so s s' t (t + 4) ∧ PW s' t (n + 1) (va_up T n (l3 kd ky v))) := by
  obtain ⟨h6, U, a1, a2⟩ := h
  have e : fi (fun i => decide (U i 1 = ky)) 0 n = fi (fun i => decide (T i 1 = ky)) 0 n := fi_cg n 0 fun j _ hj => by rw [a2 j (by omega) 1 (by omega)]
  rw [sp_add a1 h6 hB, e]
  refine ⟨fun hn => by rw [if_pos hn], fun hn hf => by rw [if_neg hn, if_pos hf], fun hn hf => ?_⟩
  rw [if_neg hn, if_neg hf]
  refine ⟨_, rfl, so_ov, by omega, _, OV.of, fun i hi w hw => ?_⟩
  by_cases hi2 : i = n
  · subst hi2
    rw [va_us]
    match w with
    | 0 => simp [up2, l3]
    | 1 => simp [up2, l3]
    | 2 => simp [up2, l3]
    | w + 3 => omega
  · rw [va_un hi2, ← a2 i (by omega) w hw]
    simp [up2, hi2]
theorem pw_events (h : PW s t n T) (hK : KW s kb kn K) : cl_ tb_ct tb_mt B K_X7_eventsOn [.ref t, .ref kb] s = some (.inl (some (.int (nI (cn (doesK T K kn) 0 n)))), s) := by
  obtain ⟨h6, U, a1, a2⟩ := h
  obtain ⟨h1, A, C, h2, h3, h4⟩ := hK
  have e : ∀ key, kfd A C kn key = pF K kn key := fun key => pF_cg (K := fun i => C (A i)) fun i hi => h4 i hi 0 (by omega)
  rw [sp_events a1 h6 h2 h3 h1, cn_cg n 0 (q := doesK T K kn) fun j _ hj => by
    unfold stE doesK
    rw [e, a2 j (by omega) 0 (by omega), a2 j (by omega) 1 (by omega)]]
theorem pw_growth (h : PW s t n T) (hK : KW s kb kn K) : cl_ tb_ct tb_mt B K_X7_growthOf [.ref t, .ref kb] s = some (.inl (some (.int (smI (groK T K kn) 0 n))), s) := by
  obtain ⟨h6, U, a1, a2⟩ := h
  obtain ⟨h1, A, C, h2, h3, h4⟩ := hK
  have e : ∀ key, kfd A C kn key = pF K kn key := fun key => pF_cg (K := fun i => C (A i)) fun i hi => h4 i hi 0 (by omega)
  rw [sp_growth a1 h6 h2 h3 h1, smI_cg (g := groK T K kn) n 0 fun j _ hj => by
    unfold stG groK
    rw [e, a2 j (by omega) 0 (by omega), a2 j (by omega) 1 (by omega)]]
/-! the transaction emptied -/
theorem tw_p (h : TW s t n T) (hB : B ≤ t) : ∃ s', am_put tb_ct M B s (.int 0) t 8 4 = some s' ∧ so s s' t (t + 5) ∧ TW s' t 0 T := by
  obtain ⟨h6, U, a1, a2⟩ := h
  exact ⟨_, tr_pn (n' := 0) a1 hB, so_ov, Nat.zero_le _, U, OV.of, fun i hi => absurd hi (Nat.not_lt_zero _)⟩
theorem pw_p (h : PW s t n T) (hB : B ≤ t) : ∃ s', am_put tb_ct M B s (.int 0) t 6 3 = some s' ∧ so s s' t (t + 4) ∧ PW s' t 0 T := by
  obtain ⟨h6, U, a1, a2⟩ := h
  exact ⟨_, sp_pn (n' := 0) a1 hB, so_ov, Nat.zero_le _, U, OV.of, fun i hi => absurd hi (Nat.not_lt_zero _)⟩
theorem st_txClear (h : SR s b r σ.1 σ.2) (hB : B ≤ b) : ∃ s', cl_ tb_ct tb_mt B K_X9_clear [.ref (b + 181)] s = some (.inl (some (.int ((nI (σ.1 9) + nI (σ.1 10)) + nI (σ.1 11)))), s') ∧ so s s' (b + 181) (b + 194) ∧ SR s' b r (p_clr σ).1 (p_clr σ).2 := by
  obtain ⟨s1, e1, o1, h1⟩ := tw_p (M := mm_X9_clear) h.tw (show B ≤ b + 181 by omega)
  have g1 : SR s1 b r (va_up σ.1 9 0) σ.2 := by
    have := h.setT o1 h1
    rw [va_id] at this
    exact this
  obtain ⟨s2, e2, o2, h2⟩ := pw_p (M := mm_X9_clear) g1.p1 (show B ≤ b + 186 by omega)
  have g2 : SR s2 b r (va_up (va_up σ.1 9 0) 10 0) σ.2 := by
    have := g1.setP1 o2 h2
    rw [va_id] at this
    exact this
  obtain ⟨s3, e3, o3, h3⟩ := pw_p (M := mm_X9_clear) g2.p2 (show B ≤ b + 190 by omega)
  have g3 : SR s3 b r (va_up (va_up (va_up σ.1 9 0) 10 0) 11 0) σ.2 := by
    have := g2.setP2 o3 h3
    rw [va_id] at this
    exact this
  refine ⟨s3, ?_, so_tr (so_tr (so_up o1 (by omega) (by omega)) (so_up o2 (by omega) (by omega))) (so_up o3 (by omega) (by omega)), g3⟩
  rw [in_X9_clear, dc_X9_clear_0]
  simp only [tw_n h.tw, tw_s1 h.tw, tw_s2 h.tw, eI_s, eA_s, pw_n h.p1, pw_n h.p2, e1, eS_s, tw_s1 g1.tw, e2, tw_s2 g2.tw, e3]
/-! commit -/
theorem p_br_le : p_br σ ≤ 1 := by
  unfold p_br
  split <;> omega
theorem st_pw (h : SR s b r σ.1 σ.2) : PW s (if p_fail σ < σ.1 9 then b + 190 else b + 186) (p_n σ) (p_T σ) := by
  unfold p_n p_T p_br
  by_cases hc : p_fail σ < σ.1 9
  · simp only [if_pos hc]
    exact h.p2
  · simp only [if_neg hc]
    exact h.p1
theorem st_tx_lp {tt : Nat} {y : Int32} (hB : B ≤ b) (hn : n ≤ 6) (hPP : ∀ s' (τ' : stT), SR s' b r τ'.1 τ'.2 → Kp σ τ' → PW s' tt n T) : ∀ k i s (τ : stT), i + k = n → SR s b r τ.1 τ.2 → Kp σ τ → (∀ j, j ≤ k → srt ((p_sts T (nI (r + 1)) j i τ).2 0) ((p_sts T (nI (r + 1)) j i τ).1 3) ∧ (p_sts T (nI (r + 1)) j i τ).1 3 ≤ 22) → τ.1 6 + k ≤ 152 → τ.1 3 + k ≤ 22 → ∃ s', rn_ tb_ct tb_mt B mm_X8_doTransaction 55 [.ref b, .ref tt, .int y, .int (nI i)] [] s = rn_ tb_ct tb_mt B mm_X8_doTransaction 121 [.ref b, .ref tt, .int y, .int (nI n)] [] s' ∧ so s s' b (b + 218) ∧ SR s' b r (p_sts T (nI (r + 1)) k i τ).1 (p_sts T (nI (r + 1)) k i τ).2 := by
  intro k
  induction k with
  | zero =>
    intro i s τ hi h hK _ _ _
    have hP := hPP s τ h hK
    refine ⟨s, ?_, so_rfl, h⟩
    rw [show i = n by omega, dc_X8_doTransaction_55]
    simp only [pw_n hP, eI_s, if_pos (Int32.le_refl (nI n))]
  | succ k ih =>
    intro i s τ hi h hK hs h6 h3
    have hP := hPP s τ h hK
    have hin : i < n := by omega
    obtain ⟨a0, b0⟩ := pw_i0 hP hin
    obtain ⟨a1, b1⟩ := pw_i1 hP hin
    obtain ⟨a2, b2⟩ := pw_i2 hP hin
    have n3 := h.n3
    have hst := hs 0 (by omega)
    change srt (τ.2 0) (τ.1 3) ∧ τ.1 3 ≤ 22 at hst
    have go : ∀ s1, so s s1 b (b + 218) → SR s1 b r (p_st T (nI (r + 1)) i τ).1 (p_st T (nI (r + 1)) i τ).2 → ∃ s', rn_ tb_ct tb_mt B mm_X8_doTransaction 115 [.ref b, .ref tt, .int y, .int (nI i)] [] s1 = rn_ tb_ct tb_mt B mm_X8_doTransaction 121 [.ref b, .ref tt, .int y, .int (nI n)] [] s' ∧ so s s' b (b + 218) ∧ SR s' b r (p_sts T (nI (r + 1)) (k + 1) i τ).1 (p_sts T (nI (r + 1)) (k + 1) i τ).2 := by
      intro s1 o1 h1
      have e3 : (p_st T (nI (r + 1)) i τ).1 3 ≤ τ.1 3 + 1 := by
        unfold p_st
        split
        · rw [p_wr_3]
          split <;> omega
        · split
          · rw [p_de_3]
            omega
          · omega
      have e6 : (p_st T (nI (r + 1)) i τ).1 6 ≤ τ.1 6 + 1 := by
        rw [p_st_6]
        split <;> omega
      obtain ⟨s2, g2, o2, h2⟩ := ih (i + 1) s1 (p_st T (nI (r + 1)) i τ) (by omega) h1 (hK.tr (Kp.sts (n := 1) (i := i))) (fun j hj => hs (j + 1) (by omega)) (by omega) (by omega)
      refine ⟨s2, ?_, so_tr o1 o2, h2⟩
      rw [dc_X8_doTransaction_115, nI_1, g2]
    rw [dc_X8_doTransaction_55]
    simp only [pw_n hP, eI_s, if_neg (nI_ge hin (by omega)), if_neg (show ¬ (6 : Int32) ≤ nI i from nI_ge (b := 6) (by omega) (by omega)), a0, eA_s, b0]
    have ept : p_st T (nI (r + 1)) i τ = if T i 0 = 0 then p_wr τ.1 τ.2 (nI (r + 1)) (T i 1) (T i 2) 0 else if pF (τ.2 0) (τ.1 3) (T i 1) < τ.1 3 then p_de τ.1 τ.2 (nI (r + 1)) (pF (τ.2 0) (τ.1 3) (T i 1)) else τ := rfl
    by_cases h0 : T i 0 = 0
    · rw [if_pos h0] at ept ⊢
      obtain ⟨s1, e1, o1, h1⟩ := st_writeOne (B := B) (key := T i 1) (v := T i 2) (l := 0) h hst.1 (Or.inr (by omega)) (by omega) hB
      simp only [a1, b1, a2, b2, eA_s, eI_s, sr_cls h, eC_s, e1, cV_s]
      exact go s1 o1 (by rw [ept]; exact h1)
    · rw [if_neg h0] at ept ⊢
      simp only [sr_k h, eA_s, a1, b1, eI_s, sr_kc h, eC_s, kw_indexOf h.kw, cI_s, sr_cls h]
      by_cases hf : pF (τ.2 0) (τ.1 3) (T i 1) < τ.1 3
      · rw [if_pos hf] at ept
        obtain ⟨s1, e1, o1, h1⟩ := st_deleteAt (B := B) h hf (by omega) hB
        simp only [if_pos hf, e1, cV_s]
        exact go s1 o1 (by rw [ept]; exact h1)
      · rw [if_neg hf] at ept
        simp only [if_neg hf, st_deleteAt_no h (x := -1) (Or.inl (by decide)), cV_s]
        exact go s so_rfl (by rw [ept]; exact h)
theorem SS.bgn2 (h : SS s b σ) : SR s b (σ.1 0) (bg σ.1, σ.2).1 (bg σ.1, σ.2).2 := SR.bgn h
theorem st_commit (h : SS s b σ) (hA : IA u σ) (hu : u + 1 < 2 ^ 25) (hB : B ≤ b) : ∃ s', cl_ tb_ct tb_mt B K_X8_doTransaction [.ref b] s = some (.inl (some (.int (p_commit σ).1)), s') ∧ so s s' b (b + 218) ∧ SS s' b (p_commit σ).2 := by
  obtain ⟨r3, r6, rs, r7, r0⟩ := hA.rows
  have hT := IT.ok hA.2.2.2.2.1
  have hcd := hA.2.2.2.2.1.2.1
  have hP := st_pw h
  have hpp : ∀ s' (τ' : stT), SR s' b (σ.1 0) τ'.1 τ'.2 → Kp σ τ' → PW s' (if p_fail σ < σ.1 9 then b + 190 else b + 186) (p_n σ) (p_T σ) := by
    intro s' τ' h1 h2
    unfold p_n p_T p_br
    by_cases hc : p_fail σ < σ.1 9
    · simp only [if_pos hc]
      have := h1.p2
      rw [h2.1 11 (by omega), h2.2 7 (by omega)] at this
      exact this
    · simp only [if_neg hc]
      have := h1.p1
      rw [h2.1 10 (by omega), h2.2 6 (by omega)] at this
      exact this
  obtain ⟨i1, i2, i3, i4⟩ := IC.sts hA (show u + 1 < 2 ^ 30 by omega)
  have h6 := hT.1
  have hx : (if p_fail σ < σ.1 9 then (0 : Int32) else 1) = nI (1 - p_br σ) := by
    unfold p_br
    by_cases hc : p_fail σ < σ.1 9
    · rw [if_pos hc, if_pos hc]
      rfl
    · rw [if_neg hc, if_neg hc]
      rfl
  have h28 : cl_ tb_ct tb_mt B K_X8_doTransaction [.ref b] s = rn_ tb_ct tb_mt B mm_X8_doTransaction 28 [.ref b, va_rf (some (if p_fail σ < σ.1 9 then b + 190 else b + 186)), am_un, am_un] [.int (nI (1 - p_br σ))] s := by
    rw [in_X8_doTransaction, dc_X8_doTransaction_0, ← hx]
    simp only [sr_t h, eA_s, sr_k h, tw_cls h.tw, eC_s, tw_stepsFor h.tw hcd h.kw, cA_s, tw_s1 h.tw]
    change (if (if p_fail σ < σ.1 9 then b + 181 + 9 else b + 181 + 5) = b + 181 + 5 then rn_ tb_ct tb_mt B mm_X8_doTransaction 28 [.ref b, va_rf (some (if p_fail σ < σ.1 9 then b + 181 + 9 else b + 181 + 5)), am_un, am_un] [.int 1] s else rn_ tb_ct tb_mt B mm_X8_doTransaction 28 [.ref b, va_rf (some (if p_fail σ < σ.1 9 then b + 181 + 9 else b + 181 + 5)), am_un, am_un] [.int 0] s) = _
    by_cases hc : p_fail σ < σ.1 9
    · simp only [if_pos hc, if_neg (show ¬ (b + 181 + 9 = b + 181 + 5) by omega)]
    · simp only [if_neg hc, if_true]
  rw [h28, dc_X8_doTransaction_28]
  simp only [eA_s, sr_k h, sr_kn h, eI_s, pw_cls hP, eC_s, pw_growth hP h.kw, cI_s]
  unfold p_commit
  by_cases hg : nI (σ.1 3) + smI (groK (p_T σ) (σ.2 0) (σ.1 3)) 0 (p_n σ) ≤ 16
  · simp only [if_pos hg]
    obtain ⟨s1, e1, o1, h1⟩ := st_tx_lp (B := B) (y := nI (1 - p_br σ)) (σ := σ) hB h6 hpp (p_n σ) 0 s (bg σ.1, σ.2) (Nat.zero_add _) (SS.bgn2 h) Kp.bg (fun j hj => ⟨(i4 j hj).1, by have := (i4 j hj).2.1; omega⟩) (show σ.1 6 + p_n σ ≤ 152 by omega) (show σ.1 3 + p_n σ ≤ 22 by omega)
    rw [nI_0] at e1
    rw [e1, dc_X8_doTransaction_121]
    simp only [sr_cls h1, eC_s]
    by_cases hd : p_does σ = 0
    · rw [if_pos hd]
      have hid : p_sts (p_T σ) (nI (σ.1 0 + 1)) (p_n σ) 0 (bg σ.1, σ.2) = (bg σ.1, σ.2) := by
        have key : ∀ k i, (cn (doesK (p_T σ) (σ.2 0) (σ.1 3)) i k = 0) → p_sts (p_T σ) (nI (σ.1 0 + 1)) k i (bg σ.1, σ.2) = (bg σ.1, σ.2) := by
          intro k
          induction k with
          | zero => intro i _; rfl
          | succ k ih =>
            intro i hc
            rw [cn_s] at hc
            have hdk : doesK (p_T σ) (σ.2 0) (σ.1 3) i = false := by
              by_cases hq : doesK (p_T σ) (σ.2 0) (σ.1 3) i = true
              · rw [if_pos hq] at hc
                omega
              · exact Bool.eq_false_iff.mpr hq
            unfold doesK at hdk
            simp only [Bool.or_eq_false_iff, decide_eq_false_iff_not] at hdk
            unfold p_sts p_st
            rw [if_neg hdk.1, if_neg (show ¬ pF ((bg σ.1, σ.2).2 0) ((bg σ.1, σ.2).1 3) (p_T σ i 1) < (bg σ.1, σ.2).1 3 from hdk.2)]
            exact ih (i + 1) (by omega)
        exact key _ _ hd
      rw [hid] at h1
      have h1' : SS s1 b σ := SR.unbg h1
      rw [st_end_no h1' hA.1]
      simp only [cV_s, sr_t h1', eA_s, tw_cls h1'.tw, eC_s]
      obtain ⟨s2, e2, o2, h2⟩ := st_txClear (B := B) h1' hB
      simp only [e2, cI_s]
      exact ⟨s2, rfl, so_tr o1 (so_up o2 (by omega) (by omega)), h2⟩
    · rw [if_neg hd]
      have k7 : (p_sts (p_T σ) (nI (σ.1 0 + 1)) (p_n σ) 0 (bg σ.1, σ.2)).1 7 = σ.1 7 := p_sts_k (by omega) (by omega) _ _ _
      have hdn : p_does σ ≤ p_n σ := cn_le _ _ _
      obtain ⟨s2, e2, o2, h2⟩ := st_end (B := B) h1 hB i1 (by omega) (by omega)
      rw [e2]
      simp only [cV_s, sr_t h2, eA_s, tw_cls h2.tw, eC_s]
      obtain ⟨s3, e3, o3, h3⟩ := st_txClear (B := B) h2 hB
      simp only [e3, cI_s]
      exact ⟨s3, rfl, so_tr (so_tr o1 o2) (so_up o3 (by omega) (by omega)), h3⟩
  · simp only [if_neg hg]
    exact ⟨s, rfl, so_rfl, h⟩
/-! revert -/
def so2 (s s' : am_S) (b c p d : Nat) : Prop := (∀ q, (q < b ∨ c ≤ q) → (q < p ∨ d ≤ q) → s'.1 q = s.1 q) ∧ s'.2 = s.2
theorem so2_tr {s s' s'' : am_S} {b c p d : Nat} (h : so2 s s' b c p d) (h' : so2 s' s'' b c p d) : so2 s s'' b c p d := ⟨fun q h1 h2 => (h'.1 q h1 h2).trans (h.1 q h1 h2), h'.2.trans h.2⟩
theorem so2_l {s s' : am_S} {b c p d : Nat} (h : so s s' b c) : so2 s s' b c p d := ⟨fun q h1 _ => h.1 q h1, h.2⟩
theorem so2_r {s s' : am_S} {b c p d : Nat} (h : so s s' p d) : so2 s s' b c p d := ⟨fun q _ h2 => h.1 q h2, h.2⟩
theorem KP.kw {P : Nat × rowT} (h : KP s p P) : ∃ K, KW s p P.1 K := by
  obtain ⟨K, h1, -⟩ := h
  exact ⟨K, h1⟩
theorem st_revert {K0 : rowT} (h : SS s b σ) (hA : IA u σ) (hu : u + 1 < 2 ^ 25) (hB : B ≤ b) (hBp : B ≤ p) (hd : p + 24 ≤ b ∨ b + 218 ≤ p) (hp : KW s p n K0) (hx : x ≠ 0) : ∃ s', cl_ tb_ct tb_mt B K_X8_revertTo [.ref b, .int x, .ref p] s = some (.inl (some (.int (p_revert σ x).1)), s') ∧ so2 s s' b (b + 218) p (p + 24) ∧ SS s' b (p_revert σ x).2 ∧ ∃ n' K', KW s' p n' K' := by
  obtain ⟨r3, r6, rs, r7, r0⟩ := hA.rows
  obtain ⟨q1, q2⟩ := st_recall (B := B) h hA.1.1 hBp hd hp x
  have ea : askd (σ.1 0) x = x := if_neg hx
  rw [ea] at q1 q2
  rw [in_X8_revertTo, dc_X8_revertTo_0]
  simp only [sr_cls h, eC_s]
  unfold p_revert
  by_cases hw : whyN (σ.1 0) (σ.1 1) x = 0
  · rw [if_pos hw]
    obtain ⟨s1, e1, o1, p1⟩ := q2 hw
    change KP s1 p (p_then σ x) at p1
    have h1 : SS s1 b σ := SR.at h fun q _ _ => o1.1 q (by omega)
    obtain ⟨t1, t2, t3⟩ := p_then_ok hA x
    obtain ⟨s2, e2, o2, h2⟩ := st_deleteAllBut (B := B) (σ := (bg σ.1, σ.2)) hB hd (by omega) (SR.bgn h1) p1 (show σ.1 6 + σ.1 3 ≤ 152 by omega)
    have h2 : SR s2 b (σ.1 0) (p_df (notIn (p_then σ x)) (nI (σ.1 0 + 1)) (σ.1 3) 0 (bg σ.1, σ.2)).1 (p_df (notIn (p_then σ x)) (nI (σ.1 0 + 1)) (σ.1 3) 0 (bg σ.1, σ.2)).2 := h2
    have p2 := p1.at fun q _ _ => o2.1 q (by omega)
    obtain ⟨i1, i2, i3, i4, i5⟩ := IC.rvt hA (show u + 1 < 2 ^ 30 by omega) x
    have h30 : 0 + σ.1 3 = (bg σ.1) 3 := by rw [Nat.zero_add]; rfl
    have hs2 := (p_df_none (p := notIn (p_then σ x)) (rv := nI (σ.1 0 + 1)) (σ.1 3) 0 (bg σ.1, σ.2) h30 rs fun j hj => absurd hj (Nat.not_lt_zero _)).2
    have f6 := (p_df_6 (p := notIn (p_then σ x)) (rv := nI (σ.1 0 + 1)) (σ.1 3) 0 (bg σ.1, σ.2) h30).1
    have hdf : dfn (notIn (p_then σ x)) (bg σ.1, σ.2) 0 (σ.1 3) ≤ σ.1 3 := cn_le _ _ _
    change _ = σ.1 6 + _ at f6
    obtain ⟨s3, e3, o3, h3⟩ := st_writeUnlike (B := B) hB hd (by omega) h2 p2 hs2 (by omega) (fun j hj => by have := i2 j hj; omega)
    have h3 : SR s3 b (σ.1 0) (p_rv σ x).1 (p_rv σ x).2 := h3
    have p3 := p2.at fun q _ _ => o3.1 q (by omega)
    have o23 := so_tr o2 o3
    simp only [e1, cI_s, if_true, sr_e h1, eA_s, sr_en h1, eI_s, sr_cls h1, eC_s, e2, cV_s, sr_cls h2, e3, sr_e h3, sr_en h3, sr_cls h3, nI_2 i3]
    by_cases h6 : (p_rv σ x).1 6 = σ.1 6
    · rw [if_pos h6]
      have := i5 h6
      rw [this] at h3
      have h3' : SS s3 b σ := SR.unbg h3
      rw [st_end_no h3' hA.1, h6, Nat.sub_self]
      simp only [cV_s]
      exact ⟨s3, rfl, so2_tr (so2_r o1) (so2_l o23), h3', _, p3.kw⟩
    · rw [if_neg h6]
      have k7 : (p_rv σ x).1 7 = σ.1 7 := (p_wu_k (by omega) (by omega) _ _ _).trans (p_df_k (by omega) (by omega) _ _ _)
      obtain ⟨s4, e4, o4, h4⟩ := st_end (B := B) h3 hB i1 (by omega) (by omega)
      rw [e4]
      simp only [cV_s]
      exact ⟨s4, rfl, so2_tr (so2_r o1) (so2_l (so_tr o23 o4)), h4, _, (p3.at fun q _ _ => o4.1 q (by omega)).kw⟩
  · rw [if_neg hw, q1 hw]
    simp only [cI_s, if_neg hw]
    exact ⟨s, rfl, ⟨fun _ _ _ => rfl, rfl⟩, h, n, K0, hp⟩
end Tx
