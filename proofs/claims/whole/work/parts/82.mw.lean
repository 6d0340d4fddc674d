/-! ===== the model's rows: what a change of one of them is ===== -/
section Fr
variable {f f' : Nat → Int32} {σ σ' : stT} {n' : Nat} {R' : rowT}
theorem FR.num {k : Nat} (h : FR f σ) (hz : SZ σ) (hk : k = 0 ∨ k = 1 ∨ k = 2 ∨ k = 7 ∨ k = 8) (hf : ∀ j, j ≠ k → f' j = f j) (hc : f' k = nI n') : FR f' (va_up σ.1 k n', σ.2) := by
  obtain ⟨h0, h1, h2, h3, h4, h5, h6, h7, h8⟩ := h
  have e : ∀ j, j ≠ k → va_up σ.1 k n' j = σ.1 j := fun j hj => va_un hj
  refine ⟨fun i hi => ?_, fun i w hi hw => ?_, fun i w hi hw => ?_, fun i w hi hw => ?_, fun i w hi hw => ?_, fun i w hi hw => ?_, fun i w hi hw => ?_, fun i w hi hw => ?_, fun i w hi hw => ?_⟩
  · by_cases c : i = k
    · subst c
      dsimp only
      rw [va_us]
      exact hc
    · dsimp only
      rw [va_un c, hf i c]
      exact h0 i hi
  · have hi : i < va_up σ.1 k n' 3 := hi
    rw [e 3 (by omega)] at hi
    rw [hf _ (by omega)]
    exact h1 i w hi hw
  · have hi : i < va_up σ.1 k n' 12 := hi
    rw [e 12 (by omega)] at hi
    rw [hf _ (by omega)]
    exact h2 i w hi hw
  · have hi : i < va_up σ.1 k n' 6 := hi
    rw [e 6 (by omega)] at hi
    rw [hf _ (by omega)]
    exact h3 i w hi hw
  · have hi : i < va_up σ.1 k n' 4 := hi
    rw [e 4 (by omega)] at hi
    rw [hf _ (by omega)]
    exact h4 i w hi hw
  · have hi : i < va_up σ.1 k n' 5 := hi
    rw [e 5 (by omega)] at hi
    rw [hf _ (by omega)]
    exact h5 i w hi hw
  · have hi : i < va_up σ.1 k n' 9 := hi
    rw [e 9 (by omega)] at hi
    rw [hf _ (by omega)]
    exact h6 i w hi hw
  · have hi : i < va_up σ.1 k n' 10 := hi
    rw [e 10 (by omega)] at hi
    rw [hf _ (by omega)]
    exact h7 i w hi hw
  · have hi : i < va_up σ.1 k n' 11 := hi
    rw [e 11 (by omega)] at hi
    rw [hf _ (by omega)]
    exact h8 i w hi hw
theorem FR.t0 (h : FR f σ) (hz : SZ σ) (hf : ∀ k, k ≠ 3 → (k < 13 ∨ 157 ≤ k) → f' k = f k) (hc : f' 3 = nI n') (hr : ∀ i w, i < n' → w < 6 → f' (13 + 6 * i + w) = R' i w) : FR f' (va_up σ.1 3 n', va_up σ.2 0 R') := by
  obtain ⟨h0, h1, h2, h3, h4, h5, h6, h7, h8⟩ := h
  obtain ⟨z1, z2, z3, z4, z5, z6, z7, z8⟩ := hz
  refine ⟨fun i hi => ?_, fun i w hi hw => ?_, fun i w hi hw => ?_, fun i w hi hw => ?_, fun i w hi hw => ?_, fun i w hi hw => ?_, fun i w hi hw => ?_, fun i w hi hw => ?_, fun i w hi hw => ?_⟩
  · by_cases c : i = 3
    · subst c
      exact hc
    · dsimp only
      rw [va_un c, hf i c (by omega)]
      exact h0 i hi
  · exact hr i w hi hw
  · have hi : i < σ.1 12 := hi
    rw [hf _ (by omega) (by omega)]
    exact h2 i w hi hw
  · have hi : i < σ.1 6 := hi
    rw [hf _ (by omega) (by omega)]
    exact h3 i w hi hw
  · have hi : i < σ.1 4 := hi
    rw [hf _ (by omega) (by omega)]
    exact h4 i w hi hw
  · have hi : i < σ.1 5 := hi
    rw [hf _ (by omega) (by omega)]
    exact h5 i w hi hw
  · have hi : i < σ.1 9 := hi
    rw [hf _ (by omega) (by omega)]
    exact h6 i w hi hw
  · have hi : i < σ.1 10 := hi
    rw [hf _ (by omega) (by omega)]
    exact h7 i w hi hw
  · have hi : i < σ.1 11 := hi
    rw [hf _ (by omega) (by omega)]
    exact h8 i w hi hw
theorem FR.t1 (h : FR f σ) (hz : SZ σ) (hf : ∀ k, k ≠ 12 → (k < 157 ∨ 189 ≤ k) → f' k = f k) (hc : f' 12 = nI n') (hr : ∀ i w, i < n' → w < 2 → f' (157 + 2 * i + w) = R' i w) : FR f' (va_up σ.1 12 n', va_up σ.2 1 R') := by
  obtain ⟨h0, h1, h2, h3, h4, h5, h6, h7, h8⟩ := h
  obtain ⟨z1, z2, z3, z4, z5, z6, z7, z8⟩ := hz
  refine ⟨fun i hi => ?_, fun i w hi hw => ?_, fun i w hi hw => ?_, fun i w hi hw => ?_, fun i w hi hw => ?_, fun i w hi hw => ?_, fun i w hi hw => ?_, fun i w hi hw => ?_, fun i w hi hw => ?_⟩
  · by_cases c : i = 12
    · subst c
      exact hc
    · dsimp only
      rw [va_un c, hf i c (by omega)]
      exact h0 i hi
  · have hi : i < σ.1 3 := hi
    rw [hf _ (by omega) (by omega)]
    exact h1 i w hi hw
  · exact hr i w hi hw
  · have hi : i < σ.1 6 := hi
    rw [hf _ (by omega) (by omega)]
    exact h3 i w hi hw
  · have hi : i < σ.1 4 := hi
    rw [hf _ (by omega) (by omega)]
    exact h4 i w hi hw
  · have hi : i < σ.1 5 := hi
    rw [hf _ (by omega) (by omega)]
    exact h5 i w hi hw
  · have hi : i < σ.1 9 := hi
    rw [hf _ (by omega) (by omega)]
    exact h6 i w hi hw
  · have hi : i < σ.1 10 := hi
    rw [hf _ (by omega) (by omega)]
    exact h7 i w hi hw
  · have hi : i < σ.1 11 := hi
    rw [hf _ (by omega) (by omega)]
    exact h8 i w hi hw
theorem FR.t2 (h : FR f σ) (hz : SZ σ) (hf : ∀ k, k ≠ 6 → (k < 189 ∨ 1149 ≤ k) → f' k = f k) (hc : f' 6 = nI n') (hr : ∀ i w, i < n' → w < 6 → f' (189 + 6 * i + w) = R' i w) : FR f' (va_up σ.1 6 n', va_up σ.2 2 R') := by
  obtain ⟨h0, h1, h2, h3, h4, h5, h6, h7, h8⟩ := h
  obtain ⟨z1, z2, z3, z4, z5, z6, z7, z8⟩ := hz
  refine ⟨fun i hi => ?_, fun i w hi hw => ?_, fun i w hi hw => ?_, fun i w hi hw => ?_, fun i w hi hw => ?_, fun i w hi hw => ?_, fun i w hi hw => ?_, fun i w hi hw => ?_, fun i w hi hw => ?_⟩
  · by_cases c : i = 6
    · subst c
      exact hc
    · dsimp only
      rw [va_un c, hf i c (by omega)]
      exact h0 i hi
  · have hi : i < σ.1 3 := hi
    rw [hf _ (by omega) (by omega)]
    exact h1 i w hi hw
  · have hi : i < σ.1 12 := hi
    rw [hf _ (by omega) (by omega)]
    exact h2 i w hi hw
  · exact hr i w hi hw
  · have hi : i < σ.1 4 := hi
    rw [hf _ (by omega) (by omega)]
    exact h4 i w hi hw
  · have hi : i < σ.1 5 := hi
    rw [hf _ (by omega) (by omega)]
    exact h5 i w hi hw
  · have hi : i < σ.1 9 := hi
    rw [hf _ (by omega) (by omega)]
    exact h6 i w hi hw
  · have hi : i < σ.1 10 := hi
    rw [hf _ (by omega) (by omega)]
    exact h7 i w hi hw
  · have hi : i < σ.1 11 := hi
    rw [hf _ (by omega) (by omega)]
    exact h8 i w hi hw
theorem FR.t3 (h : FR f σ) (hz : SZ σ) (hf : ∀ k, k ≠ 4 → (k < 1149 ∨ 1173 ≤ k) → f' k = f k) (hc : f' 4 = nI n') (hr : ∀ i w, i < n' → w < 3 → f' (1149 + 3 * i + w) = R' i w) : FR f' (va_up σ.1 4 n', va_up σ.2 3 R') := by
  obtain ⟨h0, h1, h2, h3, h4, h5, h6, h7, h8⟩ := h
  obtain ⟨z1, z2, z3, z4, z5, z6, z7, z8⟩ := hz
  refine ⟨fun i hi => ?_, fun i w hi hw => ?_, fun i w hi hw => ?_, fun i w hi hw => ?_, fun i w hi hw => ?_, fun i w hi hw => ?_, fun i w hi hw => ?_, fun i w hi hw => ?_, fun i w hi hw => ?_⟩
  · by_cases c : i = 4
    · subst c
      exact hc
    · dsimp only
      rw [va_un c, hf i c (by omega)]
      exact h0 i hi
  · have hi : i < σ.1 3 := hi
    rw [hf _ (by omega) (by omega)]
    exact h1 i w hi hw
  · have hi : i < σ.1 12 := hi
    rw [hf _ (by omega) (by omega)]
    exact h2 i w hi hw
  · have hi : i < σ.1 6 := hi
    rw [hf _ (by omega) (by omega)]
    exact h3 i w hi hw
  · exact hr i w hi hw
  · have hi : i < σ.1 5 := hi
    rw [hf _ (by omega) (by omega)]
    exact h5 i w hi hw
  · have hi : i < σ.1 9 := hi
    rw [hf _ (by omega) (by omega)]
    exact h6 i w hi hw
  · have hi : i < σ.1 10 := hi
    rw [hf _ (by omega) (by omega)]
    exact h7 i w hi hw
  · have hi : i < σ.1 11 := hi
    rw [hf _ (by omega) (by omega)]
    exact h8 i w hi hw
theorem FR.t4 (h : FR f σ) (hz : SZ σ) (hf : ∀ k, k ≠ 5 → (k < 1173 ∨ 1269 ≤ k) → f' k = f k) (hc : f' 5 = nI n') (hr : ∀ i w, i < n' → w < 12 → f' (1173 + 12 * i + w) = R' i w) : FR f' (va_up σ.1 5 n', va_up σ.2 4 R') := by
  obtain ⟨h0, h1, h2, h3, h4, h5, h6, h7, h8⟩ := h
  obtain ⟨z1, z2, z3, z4, z5, z6, z7, z8⟩ := hz
  refine ⟨fun i hi => ?_, fun i w hi hw => ?_, fun i w hi hw => ?_, fun i w hi hw => ?_, fun i w hi hw => ?_, fun i w hi hw => ?_, fun i w hi hw => ?_, fun i w hi hw => ?_, fun i w hi hw => ?_⟩
  · by_cases c : i = 5
    · subst c
      exact hc
    · dsimp only
      rw [va_un c, hf i c (by omega)]
      exact h0 i hi
  · have hi : i < σ.1 3 := hi
    rw [hf _ (by omega) (by omega)]
    exact h1 i w hi hw
  · have hi : i < σ.1 12 := hi
    rw [hf _ (by omega) (by omega)]
    exact h2 i w hi hw
  · have hi : i < σ.1 6 := hi
    rw [hf _ (by omega) (by omega)]
    exact h3 i w hi hw
  · have hi : i < σ.1 4 := hi
    rw [hf _ (by omega) (by omega)]
    exact h4 i w hi hw
  · exact hr i w hi hw
  · have hi : i < σ.1 9 := hi
    rw [hf _ (by omega) (by omega)]
    exact h6 i w hi hw
  · have hi : i < σ.1 10 := hi
    rw [hf _ (by omega) (by omega)]
    exact h7 i w hi hw
  · have hi : i < σ.1 11 := hi
    rw [hf _ (by omega) (by omega)]
    exact h8 i w hi hw
theorem FR.t5 (h : FR f σ) (hz : SZ σ) (hf : ∀ k, k ≠ 9 → (k < 1269 ∨ 1293 ≤ k) → f' k = f k) (hc : f' 9 = nI n') (hr : ∀ i w, i < n' → w < 4 → f' (1269 + 4 * i + w) = R' i w) : FR f' (va_up σ.1 9 n', va_up σ.2 5 R') := by
  obtain ⟨h0, h1, h2, h3, h4, h5, h6, h7, h8⟩ := h
  obtain ⟨z1, z2, z3, z4, z5, z6, z7, z8⟩ := hz
  refine ⟨fun i hi => ?_, fun i w hi hw => ?_, fun i w hi hw => ?_, fun i w hi hw => ?_, fun i w hi hw => ?_, fun i w hi hw => ?_, fun i w hi hw => ?_, fun i w hi hw => ?_, fun i w hi hw => ?_⟩
  · by_cases c : i = 9
    · subst c
      exact hc
    · dsimp only
      rw [va_un c, hf i c (by omega)]
      exact h0 i hi
  · have hi : i < σ.1 3 := hi
    rw [hf _ (by omega) (by omega)]
    exact h1 i w hi hw
  · have hi : i < σ.1 12 := hi
    rw [hf _ (by omega) (by omega)]
    exact h2 i w hi hw
  · have hi : i < σ.1 6 := hi
    rw [hf _ (by omega) (by omega)]
    exact h3 i w hi hw
  · have hi : i < σ.1 4 := hi
    rw [hf _ (by omega) (by omega)]
    exact h4 i w hi hw
  · have hi : i < σ.1 5 := hi
    rw [hf _ (by omega) (by omega)]
    exact h5 i w hi hw
  · exact hr i w hi hw
  · have hi : i < σ.1 10 := hi
    rw [hf _ (by omega) (by omega)]
    exact h7 i w hi hw
  · have hi : i < σ.1 11 := hi
    rw [hf _ (by omega) (by omega)]
    exact h8 i w hi hw
theorem FR.t6 (h : FR f σ) (hz : SZ σ) (hf : ∀ k, k ≠ 10 → (k < 1293 ∨ 1311 ≤ k) → f' k = f k) (hc : f' 10 = nI n') (hr : ∀ i w, i < n' → w < 3 → f' (1293 + 3 * i + w) = R' i w) : FR f' (va_up σ.1 10 n', va_up σ.2 6 R') := by
  obtain ⟨h0, h1, h2, h3, h4, h5, h6, h7, h8⟩ := h
  obtain ⟨z1, z2, z3, z4, z5, z6, z7, z8⟩ := hz
  refine ⟨fun i hi => ?_, fun i w hi hw => ?_, fun i w hi hw => ?_, fun i w hi hw => ?_, fun i w hi hw => ?_, fun i w hi hw => ?_, fun i w hi hw => ?_, fun i w hi hw => ?_, fun i w hi hw => ?_⟩
  · by_cases c : i = 10
    · subst c
      exact hc
    · dsimp only
      rw [va_un c, hf i c (by omega)]
      exact h0 i hi
  · have hi : i < σ.1 3 := hi
    rw [hf _ (by omega) (by omega)]
    exact h1 i w hi hw
  · have hi : i < σ.1 12 := hi
    rw [hf _ (by omega) (by omega)]
    exact h2 i w hi hw
  · have hi : i < σ.1 6 := hi
    rw [hf _ (by omega) (by omega)]
    exact h3 i w hi hw
  · have hi : i < σ.1 4 := hi
    rw [hf _ (by omega) (by omega)]
    exact h4 i w hi hw
  · have hi : i < σ.1 5 := hi
    rw [hf _ (by omega) (by omega)]
    exact h5 i w hi hw
  · have hi : i < σ.1 9 := hi
    rw [hf _ (by omega) (by omega)]
    exact h6 i w hi hw
  · exact hr i w hi hw
  · have hi : i < σ.1 11 := hi
    rw [hf _ (by omega) (by omega)]
    exact h8 i w hi hw
theorem FR.t7 (h : FR f σ) (hz : SZ σ) (hf : ∀ k, k ≠ 11 → (k < 1311 ∨ 1329 ≤ k) → f' k = f k) (hc : f' 11 = nI n') (hr : ∀ i w, i < n' → w < 3 → f' (1311 + 3 * i + w) = R' i w) : FR f' (va_up σ.1 11 n', va_up σ.2 7 R') := by
  obtain ⟨h0, h1, h2, h3, h4, h5, h6, h7, h8⟩ := h
  obtain ⟨z1, z2, z3, z4, z5, z6, z7, z8⟩ := hz
  refine ⟨fun i hi => ?_, fun i w hi hw => ?_, fun i w hi hw => ?_, fun i w hi hw => ?_, fun i w hi hw => ?_, fun i w hi hw => ?_, fun i w hi hw => ?_, fun i w hi hw => ?_, fun i w hi hw => ?_⟩
  · by_cases c : i = 11
    · subst c
      exact hc
    · dsimp only
      rw [va_un c, hf i c (by omega)]
      exact h0 i hi
  · have hi : i < σ.1 3 := hi
    rw [hf _ (by omega) (by omega)]
    exact h1 i w hi hw
  · have hi : i < σ.1 12 := hi
    rw [hf _ (by omega) (by omega)]
    exact h2 i w hi hw
  · have hi : i < σ.1 6 := hi
    rw [hf _ (by omega) (by omega)]
    exact h3 i w hi hw
  · have hi : i < σ.1 4 := hi
    rw [hf _ (by omega) (by omega)]
    exact h4 i w hi hw
  · have hi : i < σ.1 5 := hi
    rw [hf _ (by omega) (by omega)]
    exact h5 i w hi hw
  · have hi : i < σ.1 9 := hi
    rw [hf _ (by omega) (by omega)]
    exact h6 i w hi hw
  · have hi : i < σ.1 10 := hi
    rw [hf _ (by omega) (by omega)]
    exact h7 i w hi hw
  · exact hr i w hi hw
end Fr
def shU (f : Nat → Int32) (b w lo hi : Nat) : Nat → Int32 := fun q => if b + w + lo ≤ q ∧ q < b + w + hi then f (q - w) else f q
def shD (f : Nat → Int32) (b w lo hi : Nat) : Nat → Int32 := fun q => if b + lo ≤ q ∧ q < b + hi then f (q + w) else f q
def m1 (F : mrT) (g : Nat → Int32) : mrT := fun a => if a = 1 then g else F a
def K1 (F F' : mrT) : Prop := ∀ i, i ≠ 1 → F' i = F i
theorem m1_id {F : mrT} {g : Nat → Int32} (h : g = F 1) : m1 F g = F := by
  funext a
  unfold m1
  by_cases c : a = 1
  · rw [if_pos c, h, c]
  · rw [if_neg c]
theorem m1_m1 {F : mrT} {g g' : Nat → Int32} : m1 (m1 F g) g' = m1 F g' := by
  funext a
  unfold m1
  by_cases c : a = 1
  · rw [if_pos c, if_pos c]
  · rw [if_neg c, if_neg c, if_neg c]
theorem K1.of {F : mrT} {g : Nat → Int32} : K1 F (m1 F g) := fun _ h => if_neg h
theorem K1.tr {F F' F'' : mrT} (h : K1 F F') (h' : K1 F' F'') : K1 F F'' := fun i hi => (h' i hi).trans (h i hi)
theorem K1.km {F F' : mrT} {v : Nat → Int32} (h : K1 F F') : KM v v F F' := ⟨fun i hi => h i (by omega), fun _ _ _ => rfl⟩
section Mw
variable {s s' : am_S} {B m j b w lo hi p n : Nat} {v : Nat → Int32} {F : mrT} {g : Nat → Int32} {x y : Int32} {σ σ' : stT} {R : Nat → Int32}
theorem mw1 (h : MO s m v F) (hB : B ≤ m) (hj : j < 1329) : wI B s (m + 1) (nI j) x = some (moS s m v (m1 F (upd (F 1) j x))) := mw_n h hB hj
theorem mw2 (hB : B ≤ m) (hj : j < 1329) : wI B (moS s m v (m1 F g)) (m + 1) (nI j) x = some (moS s m v (m1 F (upd g j x))) := by
  rw [mw1 (OV.of : MO (moS s m v (m1 F g)) m v (m1 F g)) hB hj, mo_idem, m1_m1]
  rfl
theorem mr2 (hj : j < 1329) : aI (moS s m v (m1 F g)) (m + 1) (nI j) = some (g j) := mr_n (OV.of : MO (moS s m v (m1 F g)) m v (m1 F g)) hj
theorem mo_0s : gA tb_ct (moS s m v F) m 11 0 = some (some (m + 1)) := mo_0 OV.of
theorem mo_cs : am_cls (moS s m v F) m = some 11 := mo_cls OV.of
theorem MM.st (hB : B ≤ m) (hf : FR g σ) (hz : SZ σ) : MM B (moS s m v (m1 F g)) m v (m1 F g) σ := ⟨OV.of, hf, hz, hB⟩
theorem mo_eq (h : MO s m v F) (hg : g = F 1) : moS s m v (m1 F g) = s := by
  rw [m1_id hg]
  exact OV.eq h
theorem mv_up_lp (hB : B ≤ m) (hp : w * p = lo) {w4 w5 : Value} : ∀ k g, b + w + (lo + k) ≤ 1329 → rn_ tb_ct tb_mt B mm_X13_moves 13 [.ref m, .int (nI b), .int (nI w), .int (nI p), w4, w5, .int (nI (lo + k) - 1)] [] (moS s m v (m1 F g)) = some (.inl none, moS s m v (m1 F (shU g b w lo (lo + k)))) := by
  intro k
  induction k generalizing w4 w5 with
  | zero =>
    intro g hk
    have lt : nI (lo + 0) - 1 < nI lo := by
      rw [Nat.add_zero, Int32.lt_iff_toInt_lt, Int32.toInt_sub, nI_toInt (by omega), show (1 : Int32).toInt = 1 from rfl, Int.bmod_eq_of_le (by omega) (by omega)]
      omega
    rw [dc_X13_moves_13, nI_mul, hp, if_pos lt]
    rw [show shU g b w lo (lo + 0) = g from funext fun q => if_neg (by omega)]
  | succ k ih =>
    intro g hk
    have e1 : nI (lo + (k + 1)) - 1 = nI (lo + k) := nI_sub1 (n := lo + (k + 1)) (by omega)
    rw [dc_X13_moves_13, nI_mul, hp, e1, if_neg (nI_nlt (by omega) (by omega)), mo_0s, eA_s, eA_s, nI_add, mr2 (by omega), eI_s, nI_add, nI_add, mw2 hB (by omega), eS_s]
    rw [show nI (lo + k) + (-(1 : Int32)) = nI (lo + k) - 1 from (Int32.sub_eq_add_neg ..).symm, ih _ (by omega)]
    refine congrArg (fun g => some (Sum.inl none, moS s m v (m1 F g))) (funext fun q => ?_)
    unfold shU upd
    by_cases c1 : b + w + lo ≤ q ∧ q < b + w + (lo + k)
    · rw [if_pos c1, if_neg (show ¬ q - w = b + w + (lo + k) by omega), if_pos (show b + w + lo ≤ q ∧ q < b + w + (lo + (k + 1)) by omega)]
    · rw [if_neg c1]
      by_cases c2 : q = b + w + (lo + k)
      · rw [if_pos c2, if_pos (show b + w + lo ≤ q ∧ q < b + w + (lo + (k + 1)) by omega), show q - w = b + (lo + k) by omega]
      · rw [if_neg c2, if_neg (show ¬ (b + w + lo ≤ q ∧ q < b + w + (lo + (k + 1))) by omega)]
theorem mv_dn_lp (hB : B ≤ m) (hn : 0 < n) (hp : w * (n - 1) = hi) (hh : b + w + hi ≤ 1329) {w4 w5 : Value} : ∀ k c g, c + k = hi → rn_ tb_ct tb_mt B mm_X13_moves 55 [.ref m, .int (nI b), .int (nI w), w4, .int (nI n), w5, .int (nI c)] [] (moS s m v (m1 F g)) = some (.inl none, moS s m v (m1 F (shD g b w c hi))) := by
  intro k
  induction k generalizing w4 w5 with
  | zero =>
    intro c g hc
    rw [dc_X13_moves_55, nI_sub1 hn, nI_mul, hp, if_pos (nI_le (by omega) (by omega))]
    rw [show shD g b w c hi = g from funext fun q => if_neg (by omega)]
  | succ k ih =>
    intro c g hc
    rw [dc_X13_moves_55, nI_sub1 hn, nI_mul, hp, if_neg (nI_ge (by omega) (by omega)), mo_0s, eA_s, eA_s, nI_add, nI_add, mr2 (by omega), eI_s, nI_add, mw2 hB (by omega), eS_s, nI_1, ih (c + 1) _ (by omega)]
    refine congrArg (fun g => some (Sum.inl none, moS s m v (m1 F g))) (funext fun q => ?_)
    unfold shD upd
    by_cases c1 : b + (c + 1) ≤ q ∧ q < b + hi
    · rw [if_pos c1, if_neg (show ¬ q + w = b + c by omega), if_pos (show b + c ≤ q ∧ q < b + hi by omega)]
    · rw [if_neg c1]
      by_cases c2 : q = b + c
      · rw [if_pos c2, if_pos (show b + c ≤ q ∧ q < b + hi by omega), show q + w = b + w + c by omega]
      · rw [if_neg c2, if_neg (show ¬ (b + c ≤ q ∧ q < b + hi) by omega)]
theorem mv_up (hB : B ≤ m) (hpn : w * p ≤ w * n) (hh : b + w + w * n ≤ 1329) : cl_ tb_ct tb_mt B K_X13_moves [.ref m, .int (nI b), .int (nI w), .int (nI p), .int (nI n), .int (nI 1)] (moS s m v (m1 F g)) = some (.inl none, moS s m v (m1 F (shU g b w (w * p) (w * n)))) := by
  have e := mv_up_lp (s := s) (v := v) (F := F) (b := b) (w := w) (p := p) (lo := w * p) (w4 := .int (nI n)) (w5 := .int (nI 1)) hB rfl (w * n - w * p) g (by omega)
  rw [show w * p + (w * n - w * p) = w * n by omega] at e
  rw [in_X13_moves, dc_X13_moves_0, if_neg (by decide +kernel), nI_mul]
  exact e
theorem mv_dn (hB : B ≤ m) (hn : 0 < n) (hpn : w * p ≤ w * (n - 1)) (hh : b + w + w * (n - 1) ≤ 1329) : cl_ tb_ct tb_mt B K_X13_moves [.ref m, .int (nI b), .int (nI w), .int (nI p), .int (nI n), .int (-(1 : Int32))] (moS s m v (m1 F g)) = some (.inl none, moS s m v (m1 F (shD g b w (w * p) (w * (n - 1))))) := by
  have e := mv_dn_lp (s := s) (v := v) (F := F) (b := b) (w := w) (n := n) (hi := w * (n - 1)) (w4 := .int (nI p)) (w5 := .int (-(1 : Int32))) hB hn rfl hh (w * (n - 1) - w * p) (w * p) g (by omega)
  rw [in_X13_moves, dc_X13_moves_0, if_pos (by decide +kernel), nI_mul]
  exact e
/-- an event is put down -/
def evF (g : Nat → Int32) (n : Nat) (R : Nat → Int32) : Nat → Int32 := upd (upd (upd (upd (upd (upd (upd g (189 + 6 * n) (R 0)) (189 + 6 * n + 1) (R 1)) (189 + 6 * n + 2) (R 2)) (189 + 6 * n + 3) (R 3)) (189 + 6 * n + 4) (R 4)) (189 + 6 * n + 5) (R 5)) 6 (nI (n + 1))
theorem FR.ev (h : FR g σ) (hz : SZ σ) (h6 : σ.1 6 < 152) : FR (evF g (σ.1 6) R) (va_up σ.1 6 (σ.1 6 + 1), va_up σ.2 2 (va_up (σ.2 2) (σ.1 6) R)) := by
  refine h.t2 hz (fun k k6 kr => ?_) upd_k (fun i w hi hw => ?_)
  · unfold evF
    rw [upd_n k6, upd_n (by omega), upd_n (by omega), upd_n (by omega), upd_n (by omega), upd_n (by omega), upd_n (by omega)]
  · unfold evF
    rw [upd_n (by omega)]
    by_cases c : i = σ.1 6
    · subst c
      rw [va_us]
      match w, hw with
      | 0, _ =>
        rw [upd_n (by omega), upd_n (by omega), upd_n (by omega), upd_n (by omega), upd_n (by omega)]
        exact upd_k
      | 1, _ => rw [upd_n (by omega), upd_n (by omega), upd_n (by omega), upd_n (by omega), upd_k]
      | 2, _ => rw [upd_n (by omega), upd_n (by omega), upd_n (by omega), upd_k]
      | 3, _ => rw [upd_n (by omega), upd_n (by omega), upd_k]
      | 4, _ => rw [upd_n (by omega), upd_k]
      | 5, _ => rw [upd_k]
    · rw [va_un c, upd_n (by omega), upd_n (by omega), upd_n (by omega), upd_n (by omega), upd_n (by omega), upd_n (by omega)]
      exact h.2.2.2.1 i w (by omega) hw
theorem mk_happens (hB : B ≤ m) (hf : FR g σ) (h6 : σ.1 6 < 152) (hr0 : R 0 = nI (σ.1 0)) : cl_ tb_ct tb_mt B K_X13_happens [.ref m, .int (R 1), .int (R 2), .int (R 3), .int (R 4), .int (R 5)] (moS s m v (m1 F g)) = some (.inl none, moS s m v (m1 F (evF g (σ.1 6) R))) := by
  have g6 : g 6 = nI (σ.1 6) := hf.1 6 (by omega)
  have g0 : g 0 = R 0 := (hf.1 0 (by omega)).trans hr0.symm
  rw [in_X13_happens, dc_X13_happens_0, mo_0s, eA_s, show (6 : Int32) = nI 6 from rfl, mr2 (by omega), eI_s, eA_s, eA_s, show (0 : Int32) = nI 0 from rfl, mr2 (by omega), eI_s, g6, g0]
  simp only [nn0, nn1, nn2, nn3, nn4, nn5, nn6, nn7, nn8, nn9, nn10, nn11, nn12, nn13, nn15, nn16, nn18, nn28, nn45, nn48, nn57, nn58, nn59, nn97, nn120, nn122, nn157, nn189, nn500, nn999, nn1000, nn1149, nn1173, nn1269, nn1293, nn1311, nn1329, nn9999, nI_add, nI_mul]
  rw [mw2 hB (by omega), eS_s, mo_0s, eA_s, mw2 hB (by omega), eS_s, mo_0s, eA_s, mw2 hB (by omega), eS_s, mo_0s, eA_s, mw2 hB (by omega), eS_s, mo_0s, eA_s, mw2 hB (by omega), eS_s, mo_0s, eA_s, mw2 hB (by omega), eS_s, mo_0s, eA_s, mr2 (by omega), eI_s]
  rw [upd_n (by omega), upd_n (by omega), upd_n (by omega), upd_n (by omega), upd_n (by omega), upd_n (by omega), g6, nI_add, mw2 hB (by omega), eS_s]
  rfl
end Mw
