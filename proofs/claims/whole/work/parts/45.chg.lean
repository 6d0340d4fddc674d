/-! ===== Store: whole changes (the class's side) ===== -/
abbrev stT : Type := nmT × rwT
abbrev SS (s : am_S) (b : Nat) (σ : stT) : Prop := SR s b (σ.1 0) σ.1 σ.2
/-- a change begins: the revision of what it does -/
def bg (Z : nmT) : nmT := va_up Z 0 (Z 0 + 1)
/-- keys that p picks are deleted, k places from i on -/
def p_df (p : (Nat → Int32) → Bool) (rv : Int32) : Nat → Nat → stT → stT
  | 0, _, σ => σ
  | k + 1, i, σ => if p (σ.2 0 i) = true then p_df p rv k i (p_de σ.1 σ.2 rv i) else p_df p rv k (i + 1) σ
/-- so many keys at a place are deleted -/
def p_dn (rv : Int32) (i : Nat) : Nat → stT → stT
  | 0, σ => σ
  | k + 1, σ => p_dn rv i k (p_de σ.1 σ.2 rv i)
/-- the rows of a revision are written where they differ: k places from i on -/
def dfr (P : Nat × rowT) (σ : stT) (i : Nat) : Bool := !(decide (pF (σ.2 0) (σ.1 3) (P.2 i 0) < σ.1 3) && decide (σ.2 0 (pF (σ.2 0) (σ.1 3) (P.2 i 0)) 1 = P.2 i 1))
def p_wu (P : Nat × rowT) (rv : Int32) : Nat → Nat → stT → stT
  | 0, _, σ => σ
  | k + 1, i, σ => p_wu P rv k (i + 1) (if dfr P σ i = true then p_wr σ.1 σ.2 rv (P.2 i 0) (P.2 i 1) 0 else σ)
/-- a transaction's steps T are done: k from i on -/
def p_st (T : rowT) (rv : Int32) (i : Nat) (σ : stT) : stT := if T i 0 = 0 then p_wr σ.1 σ.2 rv (T i 1) (T i 2) 0 else if pF (σ.2 0) (σ.1 3) (T i 1) < σ.1 3 then p_de σ.1 σ.2 rv (pF (σ.2 0) (σ.1 3) (T i 1)) else σ
def p_sts (T : rowT) (rv : Int32) : Nat → Nat → stT → stT
  | 0, _, σ => σ
  | k + 1, i, σ => p_sts T rv k (i + 1) (p_st T rv i σ)
section P0
variable {Z : nmT} {G : rwT} {rv key v l x : Int32} {i k : Nat} {σ : stT} {p : (Nat → Int32) → Bool}
theorem p_de_3 : (p_de Z G rv i).1 3 = Z 3 - 1 := rfl
theorem p_de_6 : (p_de Z G rv i).1 6 = Z 6 + 1 := rfl
theorem p_de_k {j : Nat} (h3 : j ≠ 3) (h6 : j ≠ 6) : (p_de Z G rv i).1 j = Z j := by
  unfold p_de
  simp only [va_un h3, va_un h6]
theorem p_de_g {j : Nat} (h3 : j ≠ 0) (h6 : j ≠ 2) : (p_de Z G rv i).2 j = G j := by
  unfold p_de
  simp only [va_un h3, va_un h6]
theorem p_de_g0 : (p_de Z G rv i).2 0 = delR (G 0) i (Z 3) := rfl
theorem p_wr_6 : (p_wr Z G rv key v l).1 6 = Z 6 + 1 := by
  unfold p_wr
  split <;> rfl
theorem p_wr_3 : (p_wr Z G rv key v l).1 3 = if pF (G 0) (Z 3) key < Z 3 then Z 3 else Z 3 + 1 := by
  unfold p_wr
  split <;> rfl
theorem p_wr_k {j : Nat} (h3 : j ≠ 3) (h6 : j ≠ 6) : (p_wr Z G rv key v l).1 j = Z j := by
  unfold p_wr
  split
  · simp only [va_un h6]
  · simp only [va_un h3, va_un h6]
theorem p_wr_g {j : Nat} (h3 : j ≠ 0) (h6 : j ≠ 2) : (p_wr Z G rv key v l).2 j = G j := by
  unfold p_wr
  split <;> simp only [va_un h3, va_un h6]
theorem p_co_k {j : Nat} (h1 : j ≠ 1) (h6 : j ≠ 6) (h7 : j ≠ 7) (h12 : j ≠ 12) : (p_co Z G x).1 j = Z j := by
  unfold p_co
  simp only [va_un h1, va_un h6, va_un h7, va_un h12]
theorem p_co_g {j : Nat} (h1 : j ≠ 1) (h2 : j ≠ 2) (h4 : j ≠ 4) : (p_co Z G x).2 j = G j := by
  unfold p_co
  simp only [va_un h1, va_un h2, va_un h4]
theorem p_co_6 : (p_co Z G x).1 6 = Z 6 - p_many Z G x := rfl
theorem p_co_7 : (p_co Z G x).1 7 = Z 7 + p_many Z G x := rfl
theorem p_se_k {j : Nat} (h1 : j ≠ 1) (h6 : j ≠ 6) (h7 : j ≠ 7) (h12 : j ≠ 12) : ∀ n σ, (p_se n σ).1 j = σ.1 j
  | 0, σ => rfl
  | n + 1, σ => by
    unfold p_se
    split
    · rfl
    · rw [p_se_k h1 h6 h7 h12 n, p_co_k h1 h6 h7 h12]
theorem p_se_g {j : Nat} (h1 : j ≠ 1) (h2 : j ≠ 2) (h4 : j ≠ 4) : ∀ n σ, (p_se n σ).2 j = σ.2 j
  | 0, σ => rfl
  | n + 1, σ => by
    unfold p_se
    split
    · rfl
    · rw [p_se_g h1 h2 h4 n, p_co_g h1 h2 h4]
theorem p_se_67 : ∀ n σ, (p_se n σ).1 7 + (p_se n σ).1 6 = σ.1 7 + σ.1 6
  | 0, σ => rfl
  | n + 1, σ => by
    unfold p_se
    split
    · rfl
    · have : p_many σ.1 σ.2 (σ.2 2 0 0) ≤ σ.1 6 := p_many_le
      rw [p_se_67 n, p_co_6, p_co_7]
      omega
theorem p_df_k {j : Nat} (h3 : j ≠ 3) (h6 : j ≠ 6) : ∀ n i σ, (p_df p rv n i σ).1 j = σ.1 j
  | 0, _, σ => rfl
  | n + 1, i, σ => by
    unfold p_df
    split
    · rw [p_df_k h3 h6 n, p_de_k h3 h6]
    · rw [p_df_k h3 h6 n]
theorem p_df_g {j : Nat} (h3 : j ≠ 0) (h6 : j ≠ 2) : ∀ n i σ, (p_df p rv n i σ).2 j = σ.2 j
  | 0, _, σ => rfl
  | n + 1, i, σ => by
    unfold p_df
    split
    · rw [p_df_g h3 h6 n, p_de_g h3 h6]
    · rw [p_df_g h3 h6 n]
/-- how many it deletes -/
def dfn (p : (Nat → Int32) → Bool) (σ : stT) (i k : Nat) : Nat := cn (fun j => p (σ.2 0 j)) i k
theorem cn_shift {p q : Nat → Bool} : ∀ k i i', (∀ j, j < k → p (i + j) = q (i' + j)) → cn p i k = cn q i' k
  | 0, _, _, _ => rfl
  | k + 1, i, i', h => by
    rw [cn_s, cn_s, show p i = q i' from h 0 (by omega), cn_shift k (i + 1) (i' + 1) fun j hj => by
      rw [show i + 1 + j = i + (j + 1) by omega, show i' + 1 + j = i' + (j + 1) by omega]
      exact h (j + 1) (by omega)]
theorem dfn_de {k i : Nat} (hi : i + (k + 1) = σ.1 3) : dfn p (p_de σ.1 σ.2 rv i) i k = dfn p σ (i + 1) k := by
  unfold dfn
  refine cn_shift k i (i + 1) fun j hj => ?_
  rw [p_de_g0]
  unfold delR
  rw [if_pos (by omega), show i + j + 1 = i + 1 + j by omega]
theorem p_df_6 : ∀ n i σ, i + n = σ.1 3 → (p_df p rv n i σ).1 6 = σ.1 6 + dfn p σ i n ∧ (p_df p rv n i σ).1 3 + dfn p σ i n = σ.1 3
  | 0, _, σ, _ => ⟨rfl, rfl⟩
  | n + 1, i, σ, h => by
    unfold p_df
    have e0 : dfn p σ i (n + 1) = (if p (σ.2 0 i) = true then 1 else 0) + dfn p σ (i + 1) n := rfl
    rw [e0]
    split
    · obtain ⟨a, b⟩ := p_df_6 n i (p_de σ.1 σ.2 rv i) (by rw [p_de_3]; omega)
      rw [dfn_de h] at a b
      rw [p_de_6] at a
      rw [p_de_3] at b
      omega
    · obtain ⟨a, b⟩ := p_df_6 n (i + 1) σ (by omega)
      omega
theorem p_df_no : ∀ n i σ, (∀ j, i ≤ j → j < i + n → p (σ.2 0 j) = false) → p_df p rv n i σ = σ
  | 0, _, _, _ => rfl
  | n + 1, i, σ, h => by
    unfold p_df
    rw [h i (Nat.le_refl _) (by omega)]
    simp only [Bool.false_eq_true, if_false]
    exact p_df_no n (i + 1) σ fun j h1 h2 => h j (by omega) (by omega)
theorem p_df_skip : ∀ a n i σ, (∀ j, i ≤ j → j < i + a → p (σ.2 0 j) = false) → p_df p rv (a + n) i σ = p_df p rv n (i + a) σ
  | 0, n, i, σ, _ => by rw [Nat.zero_add, Nat.add_zero]
  | a + 1, n, i, σ, h => by
    rw [show a + 1 + n = (a + n) + 1 by omega]
    unfold p_df
    rw [h i (Nat.le_refl _) (by omega)]
    simp only [Bool.false_eq_true, if_false]
    rw [p_df_skip a n (i + 1) σ fun j h1 h2 => h j (by omega) (by omega), show i + 1 + a = i + (a + 1) by omega]
    cases n <;> rfl
theorem p_df_all : ∀ a n i σ, i + (a + n) = σ.1 3 → (∀ j, i ≤ j → j < i + a → p (σ.2 0 j) = true) → p_df p rv (a + n) i σ = p_df p rv n i (p_dn rv i a σ)
  | 0, n, i, σ, _, _ => by rw [Nat.zero_add]; rfl
  | a + 1, n, i, σ, hi, h => by
    rw [show a + 1 + n = (a + n) + 1 by omega]
    conv => lhs; unfold p_df
    rw [h i (Nat.le_refl _) (by omega)]
    simp only [if_true]
    rw [p_df_all a n i (p_de σ.1 σ.2 rv i) (by rw [p_de_3]; omega) fun j h1 h2 => by
      rw [p_de_g0]
      unfold delR
      rw [if_pos (by omega)]
      exact h (j + 1) (by omega) (by omega)]
    rfl
/-- the range of keys -/
def inR (f t : Int32) (k : Nat → Int32) : Bool := !decide (k 0 < f) && !decide (t < k 0)
theorem nlt_add {x t : Int32} (ht : t < t + 1) : (¬ x < t + 1) ↔ t < x := by
  rw [Int32.not_lt, Int32.lt_iff_toInt_lt, Int32.le_iff_toInt_le]
  rw [Int32.lt_iff_toInt_lt] at ht
  have e : (t + 1).toInt = (t.toInt + 1).bmod (2 ^ 32) := Int32.toInt_add t 1
  have h1 := Int32.le_toInt t
  have h2 := Int32.toInt_lt t
  have e2 : (t + 1).toInt = t.toInt + 1 := by
    rw [e]
    by_cases hc : t.toInt + 1 < 2 ^ 31
    · rw [Int.bmod_def]
      omega
    · rw [e, Int.bmod_def] at ht
      omega
  omega
theorem fi_mono {p q : Nat → Bool} (n : Nat) (h : ∀ j, j < n → q j = true → p j = true) : fi p 0 n ≤ fi q 0 n := by
  by_cases hc : fi p 0 n ≤ fi q 0 n
  · exact hc
  · have a := fi_le p n 0
    have b := fi_no p n 0 (fi q 0 n) (by omega) (by omega)
    have c := fi_yes q n 0 (by omega)
    rw [h _ (by omega) c] at b
    cases b
theorem p_df_range {f t : Int32} (hs : srt (σ.2 0) (σ.1 3)) (ht : t < t + 1) (hft : f ≤ t) : pI (σ.2 0) (σ.1 3) f ≤ pI (σ.2 0) (σ.1 3) (t + 1) ∧ p_df (inR f t) rv (σ.1 3) 0 σ = p_dn rv (pI (σ.2 0) (σ.1 3) f) (pI (σ.2 0) (σ.1 3) (t + 1) - pI (σ.2 0) (σ.1 3) f) σ ∧ dfn (inR f t) σ 0 (σ.1 3) = pI (σ.2 0) (σ.1 3) (t + 1) - pI (σ.2 0) (σ.1 3) f := by
  have l1 : pI (σ.2 0) (σ.1 3) f ≤ σ.1 3 := pI_le
  have l2 : pI (σ.2 0) (σ.1 3) (t + 1) ≤ σ.1 3 := pI_le
  have l3 : pI (σ.2 0) (σ.1 3) f ≤ pI (σ.2 0) (σ.1 3) (t + 1) := fi_mono _ fun j _ hj => by
    simp only [Bool.not_eq_true', decide_eq_false_iff_not] at hj ⊢
    have := (nlt_add ht).mp hj
    exact Int32.not_lt.mpr (Int32.le_of_lt (Int32.lt_of_le_of_lt hft this))
  have a1 : ∀ j, j < pI (σ.2 0) (σ.1 3) f → inR f t (σ.2 0 j) = false := fun j hj => by
    unfold inR
    rw [decide_eq_true (pI_lt hj)]
    rfl
  have a2 : ∀ j, pI (σ.2 0) (σ.1 3) f ≤ j → j < pI (σ.2 0) (σ.1 3) (t + 1) → inR f t (σ.2 0 j) = true := fun j h1 h2 => by
    unfold inR
    have := pI_lt h2
    rw [decide_eq_false (pI_ge hs h1 (by omega)), decide_eq_false (fun hc => absurd this ((nlt_add ht).mpr hc))]
    rfl
  have a3 : ∀ j, pI (σ.2 0) (σ.1 3) (t + 1) ≤ j → j < σ.1 3 → inR f t (σ.2 0 j) = false := fun j h1 h2 => by
    unfold inR
    have := pI_ge hs h1 h2
    rw [decide_eq_true ((nlt_add ht).mp this)]
    exact Bool.and_false _
  refine ⟨l3, ?_, ?_⟩
  · have e : σ.1 3 = pI (σ.2 0) (σ.1 3) f + ((pI (σ.2 0) (σ.1 3) (t + 1) - pI (σ.2 0) (σ.1 3) f) + (σ.1 3 - pI (σ.2 0) (σ.1 3) (t + 1))) := by omega
    have e2 : p_df (inR f t) rv (σ.1 3) 0 σ = p_df (inR f t) rv (pI (σ.2 0) (σ.1 3) f + ((pI (σ.2 0) (σ.1 3) (t + 1) - pI (σ.2 0) (σ.1 3) f) + (σ.1 3 - pI (σ.2 0) (σ.1 3) (t + 1)))) 0 σ := congrArg (fun n => p_df (inR f t) rv n 0 σ) e
    rw [e2, p_df_skip _ _ 0 σ fun j _ h2 => a1 j (by omega), Nat.zero_add, p_df_all _ _ _ σ (by omega) fun j h1 h2 => a2 j h1 (by omega)]
    have dn0 : ∀ k (τ : stT), pI (σ.2 0) (σ.1 3) f + k ≤ τ.1 3 → ∀ j, pI (σ.2 0) (σ.1 3) f ≤ j → j + k < τ.1 3 → (p_dn rv (pI (σ.2 0) (σ.1 3) f) k τ).2 0 j = τ.2 0 (j + k) := by
      intro k
      induction k with
      | zero => intro τ _ j _ _; rfl
      | succ k ih =>
        intro τ h1 j h2 h3
        unfold p_dn
        rw [ih _ (by rw [p_de_3]; omega) j h2 (by rw [p_de_3]; omega), p_de_g0]
        unfold delR
        rw [if_pos (by omega), show j + k + 1 = j + (k + 1) by omega]
    refine p_df_no _ _ _ fun j h1 h2 => ?_
    rw [dn0 _ σ (by omega) j h1 (by omega)]
    exact a3 _ (by omega) (by omega)
  · unfold dfn
    have e : σ.1 3 = pI (σ.2 0) (σ.1 3) f + ((pI (σ.2 0) (σ.1 3) (t + 1) - pI (σ.2 0) (σ.1 3) f) + (σ.1 3 - pI (σ.2 0) (σ.1 3) (t + 1))) := by omega
    have e2 : cn (fun j => inR f t (σ.2 0 j)) 0 (σ.1 3) = cn (fun j => inR f t (σ.2 0 j)) 0 (pI (σ.2 0) (σ.1 3) f + ((pI (σ.2 0) (σ.1 3) (t + 1) - pI (σ.2 0) (σ.1 3) f) + (σ.1 3 - pI (σ.2 0) (σ.1 3) (t + 1)))) := congrArg (fun n => cn (fun j => inR f t (σ.2 0 j)) 0 n) e
    rw [e2, cn_add, cn_add, cn_0 _ 0 fun j _ h2 => a1 j (by omega), Nat.zero_add, Nat.zero_add, cn_0 _ (_ + _) fun j h1 h2 => a3 j (by omega) (by omega), Nat.add_zero]
    have cn_all : ∀ (q : Nat → Bool) k i, (∀ j, i ≤ j → j < i + k → q j = true) → cn q i k = k := by
      intro q k
      induction k with
      | zero => intro i _; rfl
      | succ k ih =>
        intro i h
        rw [cn_s, h i (Nat.le_refl _) (by omega), ih (i + 1) fun j h1 h2 => h j (by omega) (by omega)]
        simp only [if_true]
        omega
    exact cn_all _ _ _ fun j h1 h2 => a2 j h1 (by omega)
end P0
