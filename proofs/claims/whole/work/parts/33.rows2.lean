/-! ===== copies of rows; EventRow's methods ===== -/
def cpF (A A' : Nat → Nat) (C' : Nat → Nat → Int32) : Nat → Nat → (Nat → Nat → Int32) → Nat → Nat → Int32
  | _, 0, C => C
  | i, k + 1, C => cpF A A' C' (i + 1) k (va_up C (A i) (C' (A' i)))
theorem cpF_no {N : Nat} {A A' : Nat → Nat} {C' : Nat → Nat → Int32} (hA : okA N A) : ∀ k i C q, i + k ≤ N → q < i → cpF A A' C' i k C (A q) = C (A q)
  | 0, i, C, q, _, _ => rfl
  | k + 1, i, C, q, h1, h2 => by
    unfold cpF
    rw [cpF_no hA k (i + 1) _ q (by omega) (by omega), va_un]
    intro e
    have := hA.2 q (by omega) i (by omega) e
    omega
theorem cpF_at {N : Nat} {A A' : Nat → Nat} {C' : Nat → Nat → Int32} (hA : okA N A) : ∀ k i C q, i + k ≤ N → i ≤ q → q < i + k → cpF A A' C' i k C (A q) = C' (A' q)
  | 0, i, C, q, _, _, _ => by omega
  | k + 1, i, C, q, h1, h2, h3 => by
    unfold cpF
    by_cases hq : q = i
    · subst hq
      rw [cpF_no hA k (q + 1) _ q (by omega) (by omega), va_us]
    · exact cpF_at hA k (i + 1) _ q (by omega) (by omega) (by omega)
section KRc
variable {s : am_S} {B b b' n n' a j : Nat} {A A' : Nat → Nat} {C C' : Nat → Nat → Int32} {r : Nat → Int32}
theorem k_copy (hj : j < 22) (ho : a < b ∨ b + 24 ≤ a) (hs : s.1 a = some (.inr (2, kf r))) (hB : B ≤ b) : cl_ tb_ct tb_mt B K_X3_copyFrom [.ref (b + 2 + j), .ref a] (krS s b n A C) = some (.inl none, krS s b n A (va_up C j r)) := by
  have hr : ∀ C' : Nat → Nat → Int32, (krS s b n A C').1 a = some (.inr (2, kf r)) := fun C' => by rw [rw_o (by omega)]; exact hs
  have h0 : ∀ C' : Nat → Nat → Int32, gI tb_ct (krS s b n A C') a 2 0 = some (r 0) := fun C' => gI_o (hr C') rfl rfl rfl
  have h1 : ∀ C' : Nat → Nat → Int32, gI tb_ct (krS s b n A C') a 2 1 = some (r 1) := fun C' => gI_o (hr C') rfl rfl rfl
  have h2 : ∀ C' : Nat → Nat → Int32, gI tb_ct (krS s b n A C') a 2 2 = some (r 2) := fun C' => gI_o (hr C') rfl rfl rfl
  have h3 : ∀ C' : Nat → Nat → Int32, gI tb_ct (krS s b n A C') a 2 3 = some (r 3) := fun C' => gI_o (hr C') rfl rfl rfl
  have h4 : ∀ C' : Nat → Nat → Int32, gI tb_ct (krS s b n A C') a 2 4 = some (r 4) := fun C' => gI_o (hr C') rfl rfl rfl
  have h5 : ∀ C' : Nat → Nat → Int32, gI tb_ct (krS s b n A C') a 2 5 = some (r 5) := fun C' => gI_o (hr C') rfl rfl rfl
  rw [in_X3_copyFrom, dc_X3_copyFrom_0]
  simp only [h0, h1, h2, h3, h4, h5, eI_s, eS_s, kr_p0 RW.of hj hB, kr_p1 RW.of hj hB, kr_p2 RW.of hj hB, kr_p3 RW.of hj hB, kr_p4 RW.of hj hB, kr_p5 RW.of hj hB, rw_idem]
  refine congrArg (fun q => some (Sum.inl none, q)) ?_
  refine rw_cg (fun i _ => rfl) fun i _ => ?_
  by_cases hi : i = j
  · subst hi
    simp only [va_us]
    rfl
  · simp only [va_un hi]
theorem kr_copy_lp (h : KR s b' n' A' C') (hA : okA 22 A) (hA' : okA 22 A') (hn : n' ≤ 22) (hd : b' + 24 ≤ b ∨ b + 24 ≤ b') (hB : B ≤ b) : ∀ k i C, i + k = n' → rn_ tb_ct tb_mt B mm_X4_copyFrom 10 [.ref b, .ref b', .int (nI i), am_un, am_un] [] (krS s b n' A C) = some (.inl none, krS s b n' A (cpF A A' C' i k C)) := by
  intro k
  induction k with
  | zero =>
    intro i C hi
    rw [dc_X4_copyFrom_10]
    simp only [kr_n RW.of, eI_s, if_pos (nI_le (show n' ≤ i by omega) (by omega)), cpF]
  | succ k ih =>
    intro i C hi
    have h2 : KR (krS s b n' A C) b' n' A' C' := h.at (fun q _ _ => rw_o (by omega)) (by omega)
    have hi' := hA'.1 i (by omega)
    rw [dc_X4_copyFrom_10]
    simp only [kr_n RW.of, eI_s, if_neg (nI_ge (show i < n' by omega) (by omega)), kr_cls RW.of, kr_cls h2, eC_s, kr_at_in RW.of hn (show i < n' by omega), kr_at_in h2 hn (show i < n' by omega), cA_s, kr_clsk RW.of (hA.1 i (by omega))]
    rw [k_copy (hA.1 i (by omega)) (by omega) (h.ek hi') hB]
    simp only [cV_s]
    rw [dc_X4_copyFrom_46, nI_1, ih (i + 1) _ (by omega)]
    rfl
theorem kr_copyFrom (h0 : KR s b n A C) (h : KR s b' n' A' C') (hA : okA 22 A) (hA' : okA 22 A') (hn : n' ≤ 22) (hd : b' + 24 ≤ b ∨ b + 24 ≤ b') (hB : B ≤ b) : cl_ tb_ct tb_mt B K_X4_copyFrom [.ref b, .ref b'] s = some (.inl none, krS s b n' A (cpF A A' C' 0 n' C)) := by
  rw [in_X4_copyFrom, dc_X4_copyFrom_0]
  simp only [kr_n h, eI_s, kr_pn h0 hB, eS_s]
  rw [← nI_0, kr_copy_lp h hA hA' hn hd hB n' 0 C (by omega)]
/-- differences: how many keys of the one are in the other, and how many of them are alike -/
def dfS (A A' : Nat → Nat) (C C' : Nat → Nat → Int32) (n' : Nat) : Nat → Bool := fun i => decide (fi (fun j => decide (C' (A' j) 0 = C (A i) 0)) 0 n' < n')
def dfL (A A' : Nat → Nat) (C C' : Nat → Nat → Int32) (n' : Nat) : Nat → Bool := fun i => decide (fi (fun j => decide (C' (A' j) 0 = C (A i) 0)) 0 n' < n') && decide (C' (A' (fi (fun j => decide (C' (A' j) 0 = C (A i) 0)) 0 n')) 1 = C (A i) 1)
theorem kr_diff_lp (h : KR s b n A C) (h' : KR s b' n' A' C') (hA : okA 22 A) (hA' : okA 22 A') (hn : n ≤ 22) (hn' : n' ≤ 22) : ∀ k i x y, i + k = n → rn_ tb_ct tb_mt B mm_X4_differences 7 [.ref b, .ref b', .int (nI x), .int (nI y), .int (nI i), am_un, am_un] [] s = some (.inl (some (.int (((nI n + nI n') - nI (x + cn (dfS A A' C C' n') i k)) - nI (y + cn (dfL A A' C C' n') i k)))), s) := by
  intro k
  induction k with
  | zero =>
    intro i x y hi
    rw [dc_X4_differences_7]
    simp only [kr_n h, kr_n h', eI_s, if_pos (nI_le (show n ≤ i by omega) (by omega)), cn, Nat.add_zero]
  | succ k ih =>
    intro i x y hi
    have hAi := hA.1 i (by omega)
    rw [dc_X4_differences_7]
    simp only [kr_n h, eI_s, if_neg (nI_ge (show i < n by omega) (by omega)), kr_cls h, kr_cls h', eC_s, kr_at_in h hn (show i < n by omega), cA_s, kr_0 h hAi, kr_find h' hA' hn']
    unfold cn
    by_cases hf : fi (fun j => decide (C' (A' j) 0 = C (A i) 0)) 0 n' < n'
    · have hq := hA'.1 _ (Nat.lt_of_lt_of_le hf hn')
      have e1 : dfS A A' C C' n' i = true := by
        unfold dfS
        exact decide_eq_true hf
      simp only [if_pos hf, cA_rs]
      rw [dc_X4_differences_42]
      simp only [eA_s, kr_1 h hAi, kr_1 h' hq, eI_s]
      by_cases hv : C' (A' (fi (fun j => decide (C' (A' j) 0 = C (A i) 0)) 0 n')) 1 = C (A i) 1
      · have e2 : dfL A A' C C' n' i = true := by
          unfold dfL
          rw [decide_eq_true hf, decide_eq_true hv]
          rfl
        rw [if_pos hv, dc_X4_differences_76, dc_X4_differences_78, nI_1, nI_1, nI_1, ih (i + 1) (x + 1) (y + 1) (by omega), e1, e2]
        simp only [if_true, Nat.add_assoc]
      · have e2 : dfL A A' C C' n' i = false := by
          unfold dfL
          rw [decide_eq_true hf, decide_eq_false hv]
          rfl
        rw [if_neg hv, dc_X4_differences_76, dc_X4_differences_78, nI_1, nI_1, Int32.add_zero, ih (i + 1) (x + 1) y (by omega), e1, e2]
        simp only [if_true, Bool.false_eq_true, if_false, Nat.zero_add, Nat.add_assoc]
    · have e1 : dfS A A' C C' n' i = false := by
        unfold dfS
        exact decide_eq_false hf
      have e2 : dfL A A' C C' n' i = false := by
        unfold dfL
        rw [decide_eq_false hf]
        rfl
      simp only [if_neg hf, cA_rn]
      rw [dc_X4_differences_42]
      simp only [eA_s, eA_n]
      rw [dc_X4_differences_78, nI_1, ih (i + 1) x y (by omega), e1, e2]
      simp only [Bool.false_eq_true, if_false, Nat.zero_add]
theorem kr_differences (h : KR s b n A C) (h' : KR s b' n' A' C') (hA : okA 22 A) (hA' : okA 22 A') (hn : n ≤ 22) (hn' : n' ≤ 22) : cl_ tb_ct tb_mt B K_X4_differences [.ref b, .ref b'] s = some (.inl (some (.int (((nI n + nI n') - nI (cn (dfS A A' C C' n') 0 n)) - nI (cn (dfL A A' C C' n') 0 n)))), s) := by
  rw [in_X4_differences, dc_X4_differences_0, ← nI_0, kr_diff_lp h h' hA hA' hn hn' n 0 0 0 (by omega), Nat.zero_add, Nat.zero_add]
end KRc
section ERm
variable {s : am_S} {B b b' n n' a i j : Nat} {A A' : Nat → Nat} {C C' : Nat → Nat → Int32} {r : Nat → Int32}
theorem er_at_in (h : ER s b n A C) (hn : n ≤ 152) (hi : i < n) : cl_ tb_ct tb_mt B K_X2_at [.ref b, .int (nI i)] s = some (.inl (some (.ref (b + 2 + A i))), s) := by
  rw [in_X2_at, dc_X2_at_0]
  simp only [er_n h, er_r h, er_at h (show i < 152 by omega), eI_s, eA_s, if_neg (nI_pos (show i < 2 ^ 31 by omega)), if_neg (nI_ge hi (by omega)), if_neg (show ¬ (152 : Int32) ≤ nI i from nI_ge (b := 152) (by omega) (by omega))]
theorem er_at_out (h : ER s b n A C) {x : Int32} (hx : x < 0 ∨ nI n ≤ x) : cl_ tb_ct tb_mt B K_X2_at [.ref b, .int x] s = some (.inl (some .null), s) := by
  rw [in_X2_at, dc_X2_at_0]
  by_cases h1 : x < 0
  · rw [if_pos h1]
  · rw [if_neg h1]
    simp only [er_n h, eI_s, if_pos (hx.resolve_left h1)]
theorem er_add (h : ER s b n A C) (hn : n < 152) (hB : B ≤ b) : cl_ tb_ct tb_mt B K_X2_add [.ref b] s = some (.inl (some (.ref (b + 2 + A n))), erS s b (n + 1) A C) := by
  rw [in_X2_add, dc_X2_add_0]
  simp only [er_n h, eI_s, if_neg (nI_pos (show n < 2 ^ 31 by omega)), if_pos (show nI n < (152 : Int32) from nI_lt (b := 152) hn (by omega)), nI_1, er_pn h hB, eS_s, er_r RW.of, eA_s, er_n RW.of, nI_sub1 (show 0 < n + 1 by omega), Nat.add_sub_cancel, er_at RW.of hn]
theorem er_countTo_lp (h : ER s b n A C) (hA : okA 152 A) (hn : n ≤ 152) (key : Int32) : ∀ k i, i + k = n → rn_ tb_ct tb_mt B mm_X2_countTo 2 [.ref b, .int key, .int (nI i), am_un] [] s = some (.inl (some (.int (nI (fi (fun i => !decide (C (A i) 0 ≤ key)) i k)))), s) := by
  intro k
  induction k with
  | zero =>
    intro i hi
    rw [dc_X2_countTo_2]
    simp only [er_n h, eI_s, if_pos (nI_le (show n ≤ i by omega) (by omega))]
    rw [fi_0]
    rw [show n = i by omega]
  | succ k ih =>
    intro i hi
    have hAi := hA.1 i (by omega)
    rw [dc_X2_countTo_2]
    simp only [er_n h, eI_s, if_neg (nI_ge (show i < n by omega) (by omega)), er_cls h, eC_s, er_at_in h hn (show i < n by omega), cA_s, er_0 h hAi]
    rw [fi_s]
    by_cases hk : C (A i) 0 ≤ key
    · rw [if_pos hk, dc_X2_countTo_30, nI_1, ih (i + 1) (by omega)]
      simp only [hk, decide_true, Bool.not_true, Bool.false_eq_true, if_false]
    · rw [if_neg hk]
      simp only [hk, decide_false, Bool.not_false, if_true]
theorem er_countTo (h : ER s b n A C) (hA : okA 152 A) (hn : n ≤ 152) (key : Int32) : cl_ tb_ct tb_mt B K_X2_countTo [.ref b, .int key] s = some (.inl (some (.int (nI (fi (fun i => !decide (C (A i) 0 ≤ key)) 0 n)))), s) := by
  rw [in_X2_countTo, dc_X2_countTo_0, ← nI_0, er_countTo_lp h hA hn key n 0 (by omega)]
/-! dropFirst: swaps -/
def swA (A : Nat → Nat) (g : Nat) : Nat → Nat → Nat
  | 0 => A
  | i + 1 => va_up (va_up (swA A g i) i (swA A g i (i + g))) (i + g) (swA A g i i)
theorem swA_s {A : Nat → Nat} {g i : Nat} : swA A g (i + 1) = va_up (va_up (swA A g i) i (swA A g i (i + g))) (i + g) (swA A g i i) := rfl
theorem swA_hi (A : Nat → Nat) (g : Nat) : ∀ i j, i + g ≤ j → swA A g i j = A j
  | 0, j, _ => rfl
  | i + 1, j, h => by
    rw [swA_s, va_un (by omega), va_un (by omega), swA_hi A g i j (by omega)]
theorem swA_lo (A : Nat → Nat) (g : Nat) (hg : 0 < g) : ∀ i j, j < i → swA A g i j = A (j + g)
  | 0, j, h => by omega
  | i + 1, j, h => by
    rw [swA_s]
    by_cases h1 : j = i
    · subst h1
      rw [va_un (by omega), va_us, swA_hi A g j _ (by omega)]
    · rw [va_un (show j ≠ i + g by omega), va_un h1, swA_lo A g hg i j (by omega)]
theorem okA_sw {N g : Nat} {A : Nat → Nat} (h : okA N A) : ∀ i, i + g ≤ N → okA N (swA A g i)
  | 0, _ => h
  | i + 1, hi => by
    have ih := okA_sw h i (g := g) (by omega)
    have key : ∀ j, j < N → ∃ q, q < N ∧ swA A g (i + 1) j = swA A g i q ∧ ((j = i + g ∧ q = i) ∨ (j ≠ i + g ∧ j = i ∧ q = i + g) ∨ (j ≠ i + g ∧ j ≠ i ∧ q = j)) := by
      intro j hj
      rw [swA_s]
      by_cases h1 : j = i + g
      · exact ⟨i, by omega, by rw [h1, va_us], by omega⟩
      · by_cases h2 : j = i
        · exact ⟨i + g, by omega, by rw [va_un h1, h2, va_us], by omega⟩
        · exact ⟨j, hj, by rw [va_un h1, va_un h2], by omega⟩
    refine ⟨fun j hj => ?_, fun j hj k hk e => ?_⟩
    · obtain ⟨q, hq, e, -⟩ := key j hj
      rw [e]
      exact ih.1 q hq
    · obtain ⟨q, hq, e1, c1⟩ := key j hj
      obtain ⟨r, hr, e2, c2⟩ := key k hk
      rw [e1, e2] at e
      have := ih.2 q hq r hr e
      omega
theorem er_drop_lp (hA : okA 152 A) {g m : Nat} (hm : m + g ≤ 152) (hB : B ≤ b) : ∀ k i w s, i + k = m → ER s b m (swA A g i) C → rn_ tb_ct tb_mt B mm_X2_dropFirst 25 [.ref b, .int (nI g), .int (nI i), w] [] s = some (.inl none, erS s b m (swA A g m) C) := by
  intro k
  induction k with
  | zero =>
    intro i w s hi h
    rw [dc_X2_dropFirst_25]
    simp only [er_n h, eI_s, if_pos (nI_le (show m ≤ i by omega) (by omega))]
    rw [show i = m by omega] at h
    exact congrArg (fun q => some (Sum.inl none, q)) h.symm
  | succ k ih =>
    intro i w s hi h
    have hok := okA_sw hA (g := g) i (by omega)
    have h1 := hok.1 i (by omega)
    have h2 := hok.1 (i + g) (by omega)
    rw [dc_X2_dropFirst_25]
    simp only [er_n h, eI_s, if_neg (nI_ge (show i < m by omega) (by omega)), nI_add, if_neg (show ¬ (152 : Int32) ≤ nI (i + g) from nI_ge (b := 152) (by omega) (by omega)), er_r h, eA_s, er_at h (show i < 152 by omega), er_at h (show i + g < 152 by omega), er_w h (show i < 152 by omega) h2 hB, eS_s, er_r RW.of, er_w RW.of (show i + g < 152 by omega) h1 hB, rw_idem]
    rw [← swA_s, nI_1, ih (i + 1) _ _ (by omega) RW.of]
    simp only [rw_idem]
theorem er_dropFirst (h : ER s b n A C) (hA : okA 152 A) (hn : n ≤ 152) (hB : B ≤ b) {g : Nat} (hg : g ≤ n) : cl_ tb_ct tb_mt B K_X2_dropFirst [.ref b, .int (nI g)] s = some (.inl none, erS s b (n - g) (swA A g (n - g)) C) := by
  rw [in_X2_dropFirst, dc_X2_dropFirst_0]
  simp only [er_n h, eI_s, if_neg (nI_pos (show g < 2 ^ 31 by omega)), if_pos (nI_le hg (by omega)), nI_2 hg, er_pn h hB, eS_s]
  have hh : ER (erS s b (n - g) A C) b (n - g) (swA A g 0) C := RW.of
  rw [← nI_0, er_drop_lp hA (show n - g + g ≤ 152 by omega) hB (n - g) 0 _ _ (by omega) hh]
  simp only [rw_idem]
theorem e_copy (hj : j < 152) (ho : a < b ∨ b + 154 ≤ a) (hs : s.1 a = some (.inr (0, ef r))) (hB : B ≤ b) : cl_ tb_ct tb_mt B K_X1_copyFrom [.ref (b + 2 + j), .ref a] (erS s b n A C) = some (.inl none, erS s b n A (va_up C j r)) := by
  have hr : ∀ C' : Nat → Nat → Int32, (erS s b n A C').1 a = some (.inr (0, ef r)) := fun C' => by rw [rw_o (by omega)]; exact hs
  have h0 : ∀ C' : Nat → Nat → Int32, gI tb_ct (erS s b n A C') a 0 0 = some (r 0) := fun C' => gI_o (hr C') rfl rfl rfl
  have h1 : ∀ C' : Nat → Nat → Int32, gI tb_ct (erS s b n A C') a 0 1 = some (r 1) := fun C' => gI_o (hr C') rfl rfl rfl
  have h2 : ∀ C' : Nat → Nat → Int32, gI tb_ct (erS s b n A C') a 0 2 = some (r 2) := fun C' => gI_o (hr C') rfl rfl rfl
  have h3 : ∀ C' : Nat → Nat → Int32, gI tb_ct (erS s b n A C') a 0 3 = some (r 3) := fun C' => gI_o (hr C') rfl rfl rfl
  have h4 : ∀ C' : Nat → Nat → Int32, gI tb_ct (erS s b n A C') a 0 4 = some (r 4) := fun C' => gI_o (hr C') rfl rfl rfl
  have h5 : ∀ C' : Nat → Nat → Int32, gI tb_ct (erS s b n A C') a 0 5 = some (r 5) := fun C' => gI_o (hr C') rfl rfl rfl
  have h6 : ∀ C' : Nat → Nat → Int32, gI tb_ct (erS s b n A C') a 0 6 = some (r 6) := fun C' => gI_o (hr C') rfl rfl rfl
  rw [in_X1_copyFrom, dc_X1_copyFrom_0]
  simp only [h0, h1, h2, h3, h4, h5, h6, eI_s, eS_s, er_p0 RW.of hj hB, er_p1 RW.of hj hB, er_p2 RW.of hj hB, er_p3 RW.of hj hB, er_p4 RW.of hj hB, er_p5 RW.of hj hB, er_p6 RW.of hj hB, rw_idem]
  refine congrArg (fun q => some (Sum.inl none, q)) ?_
  refine rw_cg (fun i _ => rfl) fun i _ => ?_
  by_cases hi : i = j
  · subst hi
    simp only [va_us]
    rfl
  · simp only [va_un hi]
theorem er_copy_lp (h : ER s b' n' A' C') (hA : okA 152 A) (hA' : okA 152 A') (hn : n' ≤ 152) (hd : b' + 154 ≤ b ∨ b + 154 ≤ b') (hB : B ≤ b) : ∀ k i C, i + k = n' → rn_ tb_ct tb_mt B mm_X2_copyFrom 10 [.ref b, .ref b', .int (nI i), am_un, am_un] [] (erS s b n' A C) = some (.inl none, erS s b n' A (cpF A A' C' i k C)) := by
  intro k
  induction k with
  | zero =>
    intro i C hi
    rw [dc_X2_copyFrom_10]
    simp only [er_n RW.of, eI_s, if_pos (nI_le (show n' ≤ i by omega) (by omega)), cpF]
  | succ k ih =>
    intro i C hi
    have h2 : ER (erS s b n' A C) b' n' A' C' := h.at (fun q _ _ => rw_o (by omega)) (by omega)
    have hi' := hA'.1 i (by omega)
    rw [dc_X2_copyFrom_10]
    simp only [er_n RW.of, eI_s, if_neg (nI_ge (show i < n' by omega) (by omega)), er_cls RW.of, er_cls h2, eC_s, er_at_in RW.of hn (show i < n' by omega), er_at_in h2 hn (show i < n' by omega), cA_s, er_clsk RW.of (hA.1 i (by omega))]
    rw [e_copy (hA.1 i (by omega)) (by omega) (h.ek hi') hB]
    simp only [cV_s]
    rw [dc_X2_copyFrom_46, nI_1, ih (i + 1) _ (by omega)]
    rfl
theorem er_copyFrom (h0 : ER s b n A C) (h : ER s b' n' A' C') (hA : okA 152 A) (hA' : okA 152 A') (hn : n' ≤ 152) (hd : b' + 154 ≤ b ∨ b + 154 ≤ b') (hB : B ≤ b) : cl_ tb_ct tb_mt B K_X2_copyFrom [.ref b, .ref b'] s = some (.inl none, erS s b n' A (cpF A A' C' 0 n' C)) := by
  rw [in_X2_copyFrom, dc_X2_copyFrom_0]
  simp only [er_n h, eI_s, er_pn h0 hB, eS_s]
  rw [← nI_0, er_copy_lp h hA hA' hn hd hB n' 0 C (by omega)]
end ERm
