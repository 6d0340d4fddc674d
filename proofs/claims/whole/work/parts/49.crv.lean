/-! ===== attach, commit, revert (pure) ===== -/
def p_attach (σ : stT) (key l : Int32) : Int32 × stT :=
  if isK σ key then (if l ≠ 0 ∧ ¬ pF (σ.2 3) (σ.1 4) l < σ.1 4 then (-3, σ) else (σ.2 0 (pF (σ.2 0) (σ.1 3) key) 5, (σ.1, va_up σ.2 0 (up2 (σ.2 0) (pF (σ.2 0) (σ.1 3) key) 5 l)))) else (-1, σ)
/-- a condition fails -/
def cdK (T K : rowT) (kn i : Nat) : Bool := if pF K kn (T i 0) < kn then !reB (K (pF K kn (T i 0)) ((T i 1).toInt.toNat + 1)) (T i 2) (T i 3) else decide (T i 1 = 0) || !reB 0 (T i 2) (T i 3)
/-- the first that fails, the count for none -/
def p_fail (σ : stT) : Nat := fi (cdK (σ.2 5) (σ.2 0) (σ.1 3)) 0 (σ.1 9)
def p_br (σ : stT) : Nat := if p_fail σ < σ.1 9 then 1 else 0
def doesK (T K : rowT) (kn i : Nat) : Bool := decide (T i 0 = 0) || decide (pF K kn (T i 1) < kn)
def groK (T K : rowT) (kn i : Nat) : Int32 := if T i 0 = 0 then (if pF K kn (T i 1) < kn then 0 else 1) else if T i 0 = 1 then (if pF K kn (T i 1) < kn then -1 else 0) else 0
def p_n (σ : stT) : Nat := σ.1 (10 + p_br σ)
def p_T (σ : stT) : rowT := σ.2 (6 + p_br σ)
def p_does (σ : stT) : Nat := cn (doesK (p_T σ) (σ.2 0) (σ.1 3)) 0 (p_n σ)
def p_clr (σ : stT) : stT := (va_up (va_up (va_up σ.1 9 0) 10 0) 11 0, σ.2)
def p_commit (σ : stT) : Int32 × stT :=
  if nI (σ.1 3) + smI (groK (p_T σ) (σ.2 0) (σ.1 3)) 0 (p_n σ) ≤ 16 then
    (nI (1 - p_br σ), p_clr (if p_does σ = 0 then σ else p_se 152 (p_sts (p_T σ) (nI (σ.1 0 + 1)) (p_n σ) 0 (bg σ.1, σ.2)))) else (-2, σ)
/-- the row of a revision -/
def p_then (σ : stT) (x : Int32) : Nat × rowT := p_row σ.1 σ.2 (p_many σ.1 σ.2 x)
def p_rv (σ : stT) (x : Int32) : stT := p_wu (p_then σ x) (nI (σ.1 0 + 1)) (p_then σ x).1 0 (p_df (notIn (p_then σ x)) (nI (σ.1 0 + 1)) (σ.1 3) 0 (bg σ.1, σ.2))
def p_revert (σ : stT) (x : Int32) : Int32 × stT :=
  if whyN (σ.1 0) (σ.1 1) x = 0 then (if (p_rv σ x).1 6 = σ.1 6 then (0, σ) else (nI ((p_rv σ x).1 6 - σ.1 6), p_se 152 (p_rv σ x))) else (whyN (σ.1 0) (σ.1 1) x, σ)
section At
variable {σ σ' τ : stT} {u r n0 i k n : Nat} {key v l x rv : Int32} {p : (Nat → Int32) → Bool} {P : Nat × rowT} {T : rowT} {Q : Int32 → Prop}
theorem IK.at5 {q : Nat} (h : IK σ.1 σ.2) (hl : ¬ l < 0) : IK σ.1 (va_up σ.2 0 (up2 (σ.2 0) q 5 l)) := by
  obtain ⟨⟨r1, r2, r3, r4, r5⟩, a2, a3, a4, a5, a6, a7, a8, a9⟩ := h
  have e : ∀ k, p_row σ.1 (va_up σ.2 0 (up2 (σ.2 0) q 5 l)) k = p_row σ.1 σ.2 k := fun k => p_row_cg (Z' := σ.1) (Z := σ.1) (G' := va_up σ.2 0 (up2 (σ.2 0) q 5 l)) (G := σ.2) rfl rfl k fun j _ => rfl
  have g0 : (va_up σ.2 0 (up2 (σ.2 0) q 5 l)) 0 = up2 (σ.2 0) q 5 l := rfl
  have g2 : (va_up σ.2 0 (up2 (σ.2 0) q 5 l)) 2 = σ.2 2 := rfl
  have w : ∀ i w, w ≠ 5 → up2 (σ.2 0) q 5 l i w = σ.2 0 i w := fun i w hw => if_neg fun hc => hw hc.2
  unfold IK okRows
  simp only [e, g0, g2]
  refine ⟨⟨r1, r2, r3, fun i hi => ?_, r5⟩, fun i hi => ?_, a3, a4, a5, a6, a7, a8, a9⟩
  · rw [w i 0 (by omega), w i 1 (by omega)]
    exact r4 i hi
  · obtain ⟨b1, b2, b3, b4⟩ := a2 i hi
    rw [w i 0 (by omega), w i 1 (by omega)]
    refine ⟨b1, b2, ?_, ?_⟩
    · unfold up2
      split
      · exact hl
      · exact b3
    · unfold okVer
      rw [w i 4 (by omega), w i 2 (by omega), w i 0 (by omega)]
      exact b4
theorem IA.attach (h : IA u σ) (hl : ¬ l < 0) : IA u (p_attach σ key l).2 := by
  unfold p_attach
  split
  · split
    · exact h
    · obtain ⟨h1, h2, h4, h5, h8, b⟩ := h
      exact ⟨h1.at5 hl, h2, h4, h5, h8, b⟩
  · exact h
theorem IA.clr (h : IA u σ) : IA u (p_clr σ) := by
  obtain ⟨h1, h2, h4, h5, h8, b⟩ := h
  exact ⟨h1.cg rfl rfl rfl rfl rfl rfl rfl rfl rfl, h2, h4, h5, ⟨Nat.zero_le _, fun i hi => absurd hi (Nat.not_lt_zero _), ⟨Nat.zero_le _, fun i hi => absurd hi (Nat.not_lt_zero _), fun i j _ hj => absurd hj (Nat.not_lt_zero _)⟩, ⟨Nat.zero_le _, fun i hi => absurd hi (Nat.not_lt_zero _), fun i j _ hj => absurd hj (Nat.not_lt_zero _)⟩⟩, b⟩
/-! the steps -/
theorem p_st_6 : (p_st T rv i σ).1 6 = σ.1 6 + if doesK T (σ.2 0) (σ.1 3) i = true then 1 else 0 := by
  unfold p_st doesK
  by_cases h0 : T i 0 = 0
  · rw [if_pos h0, decide_eq_true h0, p_wr_6]
    rfl
  · rw [if_neg h0, decide_eq_false h0]
    by_cases h1 : pF (σ.2 0) (σ.1 3) (T i 1) < σ.1 3
    · rw [if_pos h1, decide_eq_true h1, p_de_6]
      rfl
    · rw [if_neg h1, decide_eq_false h1]
      rfl
theorem nI_pred1 {n : Nat} (h : 0 < n) : nI (n - 1) = nI n + -1 := (nI_neg1 h).symm
theorem p_st_3 (hk : T i 0 = 0 ∨ T i 0 = 1) : nI ((p_st T rv i σ).1 3) = nI (σ.1 3) + groK T (σ.2 0) (σ.1 3) i := by
  unfold p_st groK
  by_cases h0 : T i 0 = 0
  · rw [if_pos h0, if_pos h0, p_wr_3]
    split
    · rw [Int32.add_zero]
    · exact (nI_1 _).symm
  · rw [if_neg h0, if_neg h0, if_pos (hk.resolve_left h0)]
    split
    · rename_i h1
      rw [p_de_3]
      exact nI_pred1 (by omega)
    · rw [Int32.add_zero]
theorem isK_st (hs : srt (σ.2 0) (σ.1 3)) (hx : x ≠ T i 1) : isK (p_st T rv i σ) x ↔ isK σ x := by
  unfold p_st
  split
  · rw [isK_wr]
    exact ⟨fun h => h.resolve_right hx, Or.inl⟩
  · split
    · rename_i h1
      rw [isK_de hs h1, pF_eq h1]
      exact ⟨fun h => h.1, fun h => ⟨h, hx⟩⟩
    · exact Iff.rfl
theorem IC.st (h : IC r n0 Q σ) (hk : (T i 0 = 0 ∧ vOk (T i 2) ∨ T i 0 = 1) ∧ kOk (T i 1)) (hn : σ.1 3 < 22) (hq : ¬ Q (T i 1)) : IC r n0 (fun x => Q x ∨ x = T i 1) (p_st T (nI (r + 1)) i σ) := by
  unfold p_st
  by_cases h0 : T i 0 = 0
  · rw [if_pos h0]
    have hv : vOk (T i 2) := by
      rcases hk.1 with h1 | h1
      · exact h1.2
      · rw [h0] at h1
        exact absurd h1 (by decide)
    exact h.wr hk.2 hv (by decide) (Or.inr hn) fun _ => hq
  · rw [if_neg h0]
    split
    · rename_i h1
      refine (h.de h1).mono ?_
      rw [pF_eq h1]
      exact fun _ hx => hx
    · exact h.mono fun _ hx => Or.inl hx
theorem doesK_cg {K K' : rowT} {kn kn' : Nat} (h : pF K kn (T i 1) < kn ↔ pF K' kn' (T i 1) < kn') : doesK T K kn i = doesK T K' kn' i := by
  unfold doesK
  rw [decide_eq_decide.mpr h]
theorem groK_cg {K K' : rowT} {kn kn' : Nat} (h : pF K kn (T i 1) < kn ↔ pF K' kn' (T i 1) < kn') : groK T K kn i = groK T K' kn' i := by
  unfold groK
  by_cases hc : pF K kn (T i 1) < kn
  · simp only [if_pos hc, if_pos (h.mp hc)]
  · simp only [if_neg hc, if_neg (fun q => hc (h.mpr q))]
theorem sts_ind (hT : okSt n T) (σ : stT) : ∀ k i τ, i + k = n → IC r n0 (fun x => ∃ j, j < i ∧ T j 1 = x) τ → (∀ x, (∀ j, j < i → T j 1 ≠ x) → (isK τ x ↔ isK σ x)) → τ.1 3 ≤ 16 + i → IC r n0 (fun x => ∃ j, j < n ∧ T j 1 = x) (p_sts T (nI (r + 1)) k i τ) ∧ nI ((p_sts T (nI (r + 1)) k i τ).1 3) = nI (τ.1 3) + smI (groK T (σ.2 0) (σ.1 3)) i k ∧ (p_sts T (nI (r + 1)) k i τ).1 6 = τ.1 6 + cn (doesK T (σ.2 0) (σ.1 3)) i k ∧ ∀ j, j ≤ k → srt ((p_sts T (nI (r + 1)) j i τ).2 0) ((p_sts T (nI (r + 1)) j i τ).1 3) ∧ (p_sts T (nI (r + 1)) j i τ).1 3 ≤ 16 + i + j ∧ (p_sts T (nI (r + 1)) j i τ).1 6 ≤ τ.1 6 + j := by
  intro k
  induction k with
  | zero =>
    intro i τ hi h _ h3
    refine ⟨?_, ?_, ?_, fun j hj => ?_⟩
    · rw [show n = i by omega]
      exact h
    · change _ = _ + 0
      rw [Int32.add_zero]
      rfl
    · rfl
    · rw [show j = 0 by omega]
      exact ⟨h.1.isS, h3, Nat.le_refl _⟩
  | succ k ih =>
    intro i τ hi h hk h3
    have hn6 := hT.1
    have hok := hT.2.1 i (by omega)
    have hdi : ∀ j, j < i → T j 1 ≠ T i 1 := fun j hj => hT.2.2 j i hj (by omega)
    have hki := hk (T i 1) hdi
    have hc := h.st (T := T) (i := i) hok (by omega) (by
      rintro ⟨j, hj, e⟩
      exact hdi j hj e)
    have hc2 : IC r n0 (fun x => ∃ j, j < i + 1 ∧ T j 1 = x) (p_st T (nI (r + 1)) i τ) := hc.mono fun x hx => by
      rcases hx with ⟨j, hj, e⟩ | e
      · exact ⟨j, by omega, e⟩
      · exact ⟨i, by omega, e.symm⟩
    have h33 : (p_st T (nI (r + 1)) i τ).1 3 ≤ 16 + (i + 1) := by
      unfold p_st
      split
      · rw [p_wr_3]
        split <;> omega
      · split
        · rw [p_de_3]
          omega
        · omega
    have h66 : (p_st T (nI (r + 1)) i τ).1 6 ≤ τ.1 6 + 1 := by
      rw [p_st_6]
      split <;> omega
    obtain ⟨i1, i2, i3, i4⟩ := ih (i + 1) (p_st T (nI (r + 1)) i τ) (by omega) hc2 (fun x hx => by
      rw [isK_st h.1.isS (fun e => hx i (by omega) e.symm)]
      exact hk x fun j hj => hx j (by omega)) h33
    refine ⟨i1, ?_, ?_, fun j hj => ?_⟩
    · change nI ((p_sts T (nI (r + 1)) k (i + 1) (p_st T (nI (r + 1)) i τ)).1 3) = _ + (groK T (σ.2 0) (σ.1 3) i + smI (groK T (σ.2 0) (σ.1 3)) (i + 1) k)
      rw [i2, p_st_3 (by rcases hok.1 with h1 | h1; exact Or.inl h1.1; exact Or.inr h1), groK_cg hki, Int32.add_assoc]
    · change (p_sts T (nI (r + 1)) k (i + 1) (p_st T (nI (r + 1)) i τ)).1 6 = _ + ((if doesK T (σ.2 0) (σ.1 3) i = true then 1 else 0) + cn (doesK T (σ.2 0) (σ.1 3)) (i + 1) k)
      rw [i3, p_st_6, doesK_cg hki, Nat.add_assoc]
    · cases j with
      | zero => exact ⟨h.1.isS, by change τ.1 3 ≤ _; omega, Nat.le_refl _⟩
      | succ j =>
        obtain ⟨j1, j2, j3⟩ := i4 j (by omega)
        exact ⟨j1, by change (p_sts T (nI (r + 1)) j (i + 1) (p_st T (nI (r + 1)) i τ)).1 3 ≤ _; omega, by change (p_sts T (nI (r + 1)) j (i + 1) (p_st T (nI (r + 1)) i τ)).1 6 ≤ _; omega⟩
theorem IT.ok (h : IT σ) : okSt (p_n σ) (p_T σ) := by
  unfold p_n p_T p_br
  split
  · exact h.2.2.2
  · exact h.2.2.1
theorem IC.sts (h : IA u σ) (hu : u + 1 < 2 ^ 30) : IC (σ.1 0) (σ.1 6) (fun x => ∃ j, j < p_n σ ∧ p_T σ j 1 = x) (p_sts (p_T σ) (nI (σ.1 0 + 1)) (p_n σ) 0 (bg σ.1, σ.2)) ∧ nI ((p_sts (p_T σ) (nI (σ.1 0 + 1)) (p_n σ) 0 (bg σ.1, σ.2)).1 3) = nI (σ.1 3) + smI (groK (p_T σ) (σ.2 0) (σ.1 3)) 0 (p_n σ) ∧ (p_sts (p_T σ) (nI (σ.1 0 + 1)) (p_n σ) 0 (bg σ.1, σ.2)).1 6 = σ.1 6 + p_does σ ∧ ∀ j, j ≤ p_n σ → srt ((p_sts (p_T σ) (nI (σ.1 0 + 1)) j 0 (bg σ.1, σ.2)).2 0) ((p_sts (p_T σ) (nI (σ.1 0 + 1)) j 0 (bg σ.1, σ.2)).1 3) ∧ (p_sts (p_T σ) (nI (σ.1 0 + 1)) j 0 (bg σ.1, σ.2)).1 3 ≤ 16 + 0 + j ∧ (p_sts (p_T σ) (nI (σ.1 0 + 1)) j 0 (bg σ.1, σ.2)).1 6 ≤ σ.1 6 + j := by
  have hb := IC.of h.1 h.2.1 (by have := h.2.2.2.2.2.1; omega)
  exact sts_ind (IT.ok h.2.2.2.2.1) σ (p_n σ) 0 (bg σ.1, σ.2) (by omega) (hb.mono fun _ hx => hx.elim) (fun x _ => Iff.rfl) h.2.1
theorem nI_le16 {n : Nat} (hn : n < 2 ^ 31) (h : nI n ≤ 16) : n ≤ 16 := (nI_leI hn (b := 16) (by omega)).mp h
theorem IA.commit (h : IA u σ) (hu : u + 1 < 2 ^ 30) : IA (u + 1) (p_commit σ).2 := by
  unfold p_commit
  split
  · rename_i hg
    refine IA.clr ?_
    split
    · exact h.mono (by omega)
    · obtain ⟨i1, i2, i3, i4⟩ := IC.sts h hu
      have h6 := (IT.ok h.2.2.2.2.1).1
      have hd : p_does σ ≤ p_n σ := cn_le _ _ _
      rw [← i2] at hg
      exact (h.settle i1 (Kp.bg.tr Kp.sts) (nI_le16 (by have := (i4 _ (Nat.le_refl _)).2.1; omega) hg) (by omega) (p_sts_k (by omega) (by omega) _ _ _) hu).1
  · exact h.mono (by omega)
/-! the revert -/
theorem p_df_none : ∀ n i σ, i + n = σ.1 3 → srt (σ.2 0) (σ.1 3) → (∀ j, j < i → p (σ.2 0 j) = false) → (∀ j, j < (p_df p rv n i σ).1 3 → p ((p_df p rv n i σ).2 0 j) = false) ∧ srt ((p_df p rv n i σ).2 0) ((p_df p rv n i σ).1 3)
  | 0, i, σ, hi, hs, h => ⟨fun j hj => h j (by
      change j < σ.1 3 at hj
      omega), hs⟩
  | n + 1, i, σ, hi, hs, h => by
    unfold p_df
    by_cases hp : p (σ.2 0 i) = true
    · rw [if_pos hp]
      refine p_df_none n i _ (by rw [p_de_3]; omega) (srt_p_de hs (by omega)) fun j hj => ?_
      rw [p_de_g0]
      unfold delR
      rw [if_neg (by omega)]
      exact h j hj
    · rw [if_neg hp]
      refine p_df_none n (i + 1) σ (by omega) hs fun j hj => ?_
      by_cases hj2 : j = i
      · rw [hj2]
        exact Bool.eq_false_iff.mpr hp
      · exact h j (by omega)
theorem srt_sub {K R : rowT} {n m : Nat} (hK : srt K n) (hR : srt R m) (h : ∀ i, i < n → pF R m (K i 0) < m) : n ≤ m := by
  have key : ∀ i, i < n → i ≤ pF R m (K i 0) := by
    intro i
    induction i with
    | zero => intro _; exact Nat.zero_le _
    | succ i ih =>
      intro hi
      have a := ih (by omega)
      have b := h i (by omega)
      have c := h (i + 1) hi
      by_cases hc : i + 1 ≤ pF R m (K (i + 1) 0)
      · exact hc
      · have e1 := pF_eq b
        have e2 := pF_eq c
        have hlt := hK i (i + 1) (by omega) hi
        by_cases he : pF R m (K (i + 1) 0) = pF R m (K i 0)
        · rw [he] at e2
          rw [e1] at e2
          rw [e2] at hlt
          exact absurd hlt Int32.lt_irrefl
        · have := hR (pF R m (K (i + 1) 0)) (pF R m (K i 0)) (by omega) b
          rw [e1, e2] at this
          exact absurd (Int32.lt_trans hlt this) Int32.lt_irrefl
  by_cases hc : n ≤ m
  · exact hc
  · have := key m (by omega)
    have := h m (by omega)
    omega
theorem p_wu_6 : ∀ n i σ, σ.1 6 ≤ (p_wu P rv n i σ).1 6 ∧ (p_wu P rv n i σ).1 6 ≤ σ.1 6 + n ∧ ((p_wu P rv n i σ).1 6 = σ.1 6 → p_wu P rv n i σ = σ)
  | 0, i, σ => ⟨Nat.le_refl _, Nat.le_refl _, fun _ => rfl⟩
  | n + 1, i, σ => by
    unfold p_wu
    by_cases hd : dfr P σ i = true
    · rw [if_pos hd]
      obtain ⟨a, b, c⟩ := p_wu_6 n (i + 1) (p_wr σ.1 σ.2 rv (P.2 i 0) (P.2 i 1) 0)
      rw [p_wr_6] at a b
      exact ⟨by omega, by omega, fun hc => by omega⟩
    · rw [if_neg hd]
      obtain ⟨a, b, c⟩ := p_wu_6 n (i + 1) σ
      exact ⟨a, by omega, c⟩
theorem IC.wu (hs : srt P.2 P.1) (hP : ∀ i, i < P.1 → kOk (P.2 i 0) ∧ vOk (P.2 i 1)) (h16 : P.1 ≤ 16) : ∀ k i τ, i + k = P.1 → IC r n0 (fun x => (¬ pF P.2 P.1 x < P.1) ∨ ∃ j, j < i ∧ P.2 j 0 = x) τ → (∀ x, isK τ x → pF P.2 P.1 x < P.1) → IC r n0 (fun _ => True) (p_wu P (nI (r + 1)) k i τ) ∧ ∀ j, j ≤ k → (p_wu P (nI (r + 1)) j i τ).1 3 ≤ 16 := by
  intro k
  induction k with
  | zero =>
    intro i τ hi h hk
    refine ⟨h.mono fun _ _ => trivial, fun j hj => ?_⟩
    rw [show j = 0 by omega]
    exact Nat.le_trans (srt_sub h.1.isS hs fun i hi => hk _ (isK_iff.mpr ⟨i, hi, rfl⟩)) h16
  | succ k ih =>
    intro i τ hi h hk
    have h3 : τ.1 3 ≤ 16 := Nat.le_trans (srt_sub h.1.isS hs fun i hi => hk _ (isK_iff.mpr ⟨i, hi, rfl⟩)) h16
    have step : ∀ τ', IC r n0 (fun x => (¬ pF P.2 P.1 x < P.1) ∨ ∃ j, j < i + 1 ∧ P.2 j 0 = x) τ' → (∀ x, isK τ' x → pF P.2 P.1 x < P.1) → (if dfr P τ i = true then p_wr τ.1 τ.2 (nI (r + 1)) (P.2 i 0) (P.2 i 1) 0 else τ) = τ' → IC r n0 (fun _ => True) (p_wu P (nI (r + 1)) (k + 1) i τ) ∧ ∀ j, j ≤ k + 1 → (p_wu P (nI (r + 1)) j i τ).1 3 ≤ 16 := by
      intro τ' h1 h2 e
      obtain ⟨i1, i2⟩ := ih (i + 1) τ' (by omega) h1 h2
      have eu : ∀ j, p_wu P (nI (r + 1)) (j + 1) i τ = p_wu P (nI (r + 1)) j (i + 1) τ' := fun j => by
        rw [← e]
        rfl
      refine ⟨by rw [eu]; exact i1, fun j hj => ?_⟩
      cases j with
      | zero => exact h3
      | succ j =>
        rw [eu]
        exact i2 j (by omega)
    by_cases hd : dfr P τ i = true
    · have hf : pF P.2 P.1 (P.2 i 0) < P.1 := by
        rw [pF_of hs (by omega) rfl]
        omega
      refine step (p_wr τ.1 τ.2 (nI (r + 1)) (P.2 i 0) (P.2 i 1) 0) ((h.wr (hP i (by omega)).1 (hP i (by omega)).2 (by decide) (Or.inr (by omega)) ?_).mono ?_) ?_ (if_pos hd)
      · rintro - (hc | ⟨j, hj, e⟩)
        · exact hc hf
        · have := srt_inj hs (by omega) (by omega) e
          omega
      · rintro x ((hx | ⟨j, hj, e⟩) | e)
        · exact Or.inl hx
        · exact Or.inr ⟨j, by omega, e⟩
        · exact Or.inr ⟨i, by omega, e.symm⟩
      · intro x hx
        rcases isK_wr.mp hx with hx | rfl
        · exact hk x hx
        · exact hf
    · refine step τ (h.mono ?_) hk (if_neg hd)
      rintro x (hx | ⟨j, hj, e⟩)
      · exact Or.inl hx
      · exact Or.inr ⟨j, by omega, e⟩
theorem p_then_ok (h : IA u σ) (x : Int32) : srt (p_then σ x).2 (p_then σ x).1 ∧ (p_then σ x).1 ≤ 16 ∧ ∀ i, i < (p_then σ x).1 → kOk ((p_then σ x).2 i 0) ∧ vOk ((p_then σ x).2 i 1) := by
  obtain ⟨⟨⟨r1, r2, r3, r4, r5⟩, a2, a3, a4, a5, a6, a7, a8, a9⟩, h3, -⟩ := h
  have hm : p_many σ.1 σ.2 x ≤ σ.1 6 := p_many_le
  refine ⟨(r2 _ hm).1, ?_, a4 _ hm⟩
  change (p_row σ.1 σ.2 (p_many σ.1 σ.2 x)).1 ≤ 16
  by_cases hc : p_many σ.1 σ.2 x < σ.1 6
  · refine a5 _ hc ?_
    by_cases h0 : p_many σ.1 σ.2 x = 0
    · exact Or.inl h0
    · right
      intro e
      have hy := fi_yes (fun i => !decide (σ.2 2 i 0 ≤ x)) (σ.1 6) 0 (by
        change p_many σ.1 σ.2 x < 0 + σ.1 6
        omega)
      have hn := fi_no (fun i => !decide (σ.2 2 i 0 ≤ x)) (σ.1 6) 0 (p_many σ.1 σ.2 x - 1) (by omega) (by
        change p_many σ.1 σ.2 x - 1 < p_many σ.1 σ.2 x
        omega)
      change (!decide (σ.2 2 (p_many σ.1 σ.2 x) 0 ≤ x)) = true at hy
      change (!decide (σ.2 2 (p_many σ.1 σ.2 x - 1) 0 ≤ x)) = false at hn
      rw [e] at hn
      rw [hn] at hy
      cases hy
  · rw [show p_many σ.1 σ.2 x = σ.1 6 by omega, r3]
    exact h3
theorem IC.rvt (h : IA u σ) (hu : u + 1 < 2 ^ 30) (x : Int32) : IC (σ.1 0) (σ.1 6) (fun _ => True) (p_rv σ x) ∧ (∀ j, j ≤ (p_then σ x).1 → (p_wu (p_then σ x) (nI (σ.1 0 + 1)) j 0 (p_df (notIn (p_then σ x)) (nI (σ.1 0 + 1)) (σ.1 3) 0 (bg σ.1, σ.2))).1 3 ≤ 16) ∧ σ.1 6 ≤ (p_rv σ x).1 6 ∧ (p_rv σ x).1 6 ≤ σ.1 6 + 32 ∧ ((p_rv σ x).1 6 = σ.1 6 → p_rv σ x = (bg σ.1, σ.2)) := by
  obtain ⟨t1, t2, t3⟩ := p_then_ok h x
  have h3 := h.2.1
  have hb := IC.of h.1 h.2.1 (by have := h.2.2.2.2.2.1; omega)
  have h30 : 0 + σ.1 3 = (bg σ.1) 3 := by rw [Nat.zero_add]; rfl
  obtain ⟨d1, d2⟩ := p_df_none (p := notIn (p_then σ x)) (rv := nI (σ.1 0 + 1)) (σ.1 3) 0 (bg σ.1, σ.2) h30 h.1.isS fun j hj => absurd hj (Nat.not_lt_zero _)
  obtain ⟨f1, f2⟩ := p_df_6 (p := notIn (p_then σ x)) (rv := nI (σ.1 0 + 1)) (σ.1 3) 0 (bg σ.1, σ.2) h30
  have hd : dfn (notIn (p_then σ x)) (bg σ.1, σ.2) 0 (σ.1 3) ≤ σ.1 3 := cn_le _ _ _
  have hc : IC (σ.1 0) (σ.1 6) (fun y => ¬ pF (p_then σ x).2 (p_then σ x).1 y < (p_then σ x).1) (p_df (notIn (p_then σ x)) (nI (σ.1 0 + 1)) (σ.1 3) 0 (bg σ.1, σ.2)) := IC.df (p := notIn (p_then σ x)) (fun k hk => by
    unfold notIn at hk
    simp only [Bool.not_eq_true', decide_eq_false_iff_not] at hk
    exact hk) (σ.1 3) 0 (bg σ.1, σ.2) h30 (hb.mono fun _ hx => hx.elim)
  obtain ⟨w1, w2⟩ := IC.wu t1 t3 t2 (p_then σ x).1 0 _ (Nat.zero_add _) (hc.mono fun _ hx => Or.inl hx) fun y hy => by
    obtain ⟨j, hj, e⟩ := isK_iff.mp hy
    have hz : ∀ k : Nat → Int32, notIn (p_then σ x) k = false → pF (p_then σ x).2 (p_then σ x).1 (k 0) < (p_then σ x).1 := fun k hk => by
      unfold notIn at hk
      simp only [Bool.not_eq_false', decide_eq_true_eq] at hk
      exact hk
    have := hz _ (d1 j hj)
    rw [e] at this
    exact this
  obtain ⟨g1, g2, g3⟩ := p_wu_6 (P := p_then σ x) (rv := nI (σ.1 0 + 1)) (p_then σ x).1 0 (p_df (notIn (p_then σ x)) (nI (σ.1 0 + 1)) (σ.1 3) 0 (bg σ.1, σ.2))
  have e6 : (bg σ.1, σ.2).1 6 = σ.1 6 := rfl
  rw [e6] at f1
  refine ⟨w1, w2, ?_, ?_, fun hq => ?_⟩
  · unfold p_rv
    omega
  · unfold p_rv
    omega
  · unfold p_rv at hq ⊢
    have z : dfn (notIn (p_then σ x)) (bg σ.1, σ.2) 0 (σ.1 3) = 0 := by omega
    rw [g3 (by omega)]
    refine p_df_no _ _ _ fun j h1 h2 => ?_
    have cn_z : ∀ (q : Nat → Bool) k i, cn q i k = 0 → ∀ j, i ≤ j → j < i + k → q j = false := by
      intro q k
      induction k with
      | zero => intro i _ j _ _; omega
      | succ k ih =>
        intro i h j h1 h2
        rw [cn_s] at h
        by_cases hj : j = i
        · subst hj
          by_cases hqj : q j = true
          · rw [if_pos hqj] at h
            omega
          · exact Bool.eq_false_iff.mpr hqj
        · exact ih (i + 1) (by omega) j (by omega) (by omega)
    exact cn_z _ _ _ z j h1 h2
theorem IA.revert (h : IA u σ) (hu : u + 1 < 2 ^ 30) (x : Int32) : IA (u + 1) (p_revert σ x).2 ∧ Kp σ (p_revert σ x).2 := by
  unfold p_revert
  split
  · split
    · exact ⟨h.mono (by omega), Kp.rf⟩
    · obtain ⟨i1, i2, i3, i4, i5⟩ := IC.rvt h hu x
      exact h.settle i1 (Kp.bg.tr (Kp.df.tr Kp.wu)) (i2 _ (Nat.le_refl _)) i4 ((p_wu_k (by omega) (by omega) _ _ _).trans (p_df_k (by omega) (by omega) _ _ _)) hu
  · exact ⟨h.mono (by omega), Kp.rf⟩
end At
