/-! ===== within a change; behind it (pure) ===== -/
def IC (r n0 : Nat) (T : Int32 → Prop) (σ : stT) : Prop := IK σ.1 σ.2 ∧ σ.1 0 = r + 1 ∧ σ.1 1 ≤ r ∧ n0 ≤ σ.1 6 ∧ (n0 < σ.1 6 → σ.2 2 (σ.1 6 - 1) 0 = nI (r + 1)) ∧ ∀ e, e < σ.1 6 → ¬ σ.2 2 e 0 < nI (r + 1) → T (σ.2 2 e 2)
section Ic
variable {σ : stT} {r n0 i : Nat} {i' : Int32} {T T' : Int32 → Prop} {key v l : Int32} {p : (Nat → Int32) → Bool} {P : Nat × rowT}
theorem srt_p_wr {rv : Int32} (h : srt (σ.2 0) (σ.1 3)) : srt ((p_wr σ.1 σ.2 rv key v l).2 0) ((p_wr σ.1 σ.2 rv key v l).1 3) := by
  unfold p_wr
  by_cases hf : pF (σ.2 0) (σ.1 3) key < σ.1 3
  · rw [if_pos hf]
    exact srt_upd (x := k6 key v _ _ _ _) h (pF_eq hf).symm
  · rw [if_neg hf]
    exact srt_ins (x := k6 key v _ _ _ _) h rfl hf
theorem srt_p_de {rv : Int32} (h : srt (σ.2 0) (σ.1 3)) (hi : i < σ.1 3) : srt ((p_de σ.1 σ.2 rv i).2 0) ((p_de σ.1 σ.2 rv i).1 3) := srt_del h hi
theorem IC.mono (h : IC r n0 T σ) (ht : ∀ x, T x → T' x) : IC r n0 T' σ := ⟨h.1, h.2.1, h.2.2.1, h.2.2.2.1, h.2.2.2.2.1, fun e he hn => ht _ (h.2.2.2.2.2 e he hn)⟩
theorem IC.of (h : IK σ.1 σ.2) (h3 : σ.1 3 ≤ 16) (hb : σ.1 0 + 1 < 2 ^ 30) : IC (σ.1 0) (σ.1 6) (fun _ => False) (bg σ.1, σ.2) := by
  refine ⟨h.begin h3 hb, rfl, h.2.2.2.2.2.2.2.1, Nat.le_refl _, fun hc => absurd hc (Nat.lt_irrefl _), fun e he hn => ?_⟩
  obtain ⟨-, -, re, c1, c2, c3⟩ := h.2.2.1 e he
  refine hn ?_
  change σ.2 2 e 0 < _
  rw [c1]
  exact nI_lt (by omega) (by omega)
theorem p_wr_ev : ∃ x4 x5 x6, (p_wr σ.1 σ.2 key v l i').2 2 = va_up (σ.2 2) (σ.1 6) (ev7 key 0 v l x4 x5 x6) := by
  unfold p_wr
  split
  · exact ⟨_, _, _, rfl⟩
  · exact ⟨_, _, _, rfl⟩
theorem IC.wr (h : IC r n0 T σ) (hk : kOk key) (hv : vOk v) (hl : ¬ l < 0) (hn : pF (σ.2 0) (σ.1 3) key < σ.1 3 ∨ σ.1 3 < 22) (hf : ¬ pF (σ.2 0) (σ.1 3) key < σ.1 3 → ¬ T key) : IC r n0 (fun x => T x ∨ x = key) (p_wr σ.1 σ.2 (nI (r + 1)) key v l) := by
  obtain ⟨h1, h2, h3, h4, h5, h6⟩ := h
  have hw := h1.wr (key := key) (v := v) (l := l) hk hv hl hn (fun hq e he ek => by
    by_cases hc : σ.2 2 e 0 < nI (r + 1)
    · rw [h2]
      exact hc
    · exact absurd (ek ▸ h6 e he hc) (hf hq)) (by omega)
  rw [h2] at hw
  obtain ⟨x4, x5, x6, hev⟩ := p_wr_ev (σ := σ) (key := nI (r + 1)) (v := key) (l := v) (i' := l)
  refine ⟨hw, ?_, ?_, ?_, fun _ => ?_, fun e he hn => ?_⟩
  · rw [p_wr_k (by omega) (by omega), h2]
  · rw [p_wr_k (by omega) (by omega)]
    exact h3
  · rw [p_wr_6]
    omega
  · rw [p_wr_6, hev, Nat.add_sub_cancel, va_us]
    rfl
  · rw [p_wr_6] at he
    rw [hev] at hn ⊢
    by_cases he2 : e = σ.1 6
    · subst he2
      rw [va_us]
      exact Or.inr rfl
    · rw [va_un he2] at hn ⊢
      exact Or.inl (h6 e (by omega) hn)
theorem IC.de (h : IC r n0 T σ) (hi : i < σ.1 3) : IC r n0 (fun x => T x ∨ x = σ.2 0 i 0) (p_de σ.1 σ.2 (nI (r + 1)) i) := by
  obtain ⟨h1, h2, h3, h4, h5, h6⟩ := h
  have hw := h1.de hi (by omega)
  rw [h2] at hw
  refine ⟨hw, ?_, ?_, ?_, fun _ => ?_, fun e he hn => ?_⟩
  · rw [p_de_k (by omega) (by omega), h2]
  · rw [p_de_k (by omega) (by omega)]
    exact h3
  · rw [p_de_6]
    omega
  · rw [p_de_6, Nat.add_sub_cancel]
    change va_up (σ.2 2) (σ.1 6) _ (σ.1 6) 0 = _
    rw [va_us]
    rfl
  · rw [p_de_6] at he
    change ¬ va_up (σ.2 2) (σ.1 6) _ e 0 < _ at hn
    change (T (va_up (σ.2 2) (σ.1 6) _ e 2) ∨ va_up (σ.2 2) (σ.1 6) _ e 2 = _)
    by_cases he2 : e = σ.1 6
    · subst he2
      rw [va_us]
      exact Or.inr rfl
    · rw [va_un he2] at hn ⊢
      exact Or.inl (h6 e (by omega) hn)
theorem IC.df (hT : ∀ k, p k = true → T (k 0)) : ∀ n i σ, i + n = σ.1 3 → IC r n0 T σ → IC r n0 T (p_df p (nI (r + 1)) n i σ)
  | 0, _, _, _, h => h
  | n + 1, i, σ, hi, h => by
    unfold p_df
    by_cases hp : p (σ.2 0 i) = true
    · rw [if_pos hp]
      refine IC.df hT n i _ (by rw [p_de_3]; omega) ((h.de (show i < σ.1 3 by omega)).mono ?_)
      rintro x (hx | rfl)
      · exact hx
      · exact hT _ hp
    · rw [if_neg hp]
      exact IC.df hT n (i + 1) σ (by omega) h
theorem IK.n3 (h : IK σ.1 σ.2) : σ.1 3 ≤ 22 := by
  obtain ⟨⟨-, r2, r3, -⟩, -⟩ := h
  rw [← r3]
  exact (r2 _ (Nat.le_refl _)).2
theorem IK.h0 (h : IK σ.1 σ.2) : σ.1 0 < 2 ^ 30 := h.2.2.2.2.2.2.2.2
/-- behind a change all is settled -/
theorem IK.ev0 (h : IK σ.1 σ.2) (h6 : 0 < σ.1 6) : ∃ re : Nat, σ.2 2 0 0 = nI re ∧ σ.1 1 < re ∧ re ≤ σ.1 0 ∧ 1 ≤ p_many σ.1 σ.2 (σ.2 2 0 0) := by
  obtain ⟨-, -, re, c1, c2, c3⟩ := h.2.2.1 0 h6
  refine ⟨re, c1, c2, c3, ?_⟩
  by_cases hc : 1 ≤ p_many σ.1 σ.2 (σ.2 2 0 0)
  · exact hc
  · have hy := fi_yes (fun i => !decide (σ.2 2 i 0 ≤ σ.2 2 0 0)) (σ.1 6) 0 (by
      change p_many σ.1 σ.2 (σ.2 2 0 0) < 0 + σ.1 6
      omega)
    change (fun i => !decide (σ.2 2 i 0 ≤ σ.2 2 0 0)) (p_many σ.1 σ.2 (σ.2 2 0 0)) = true at hy
    rw [show p_many σ.1 σ.2 (σ.2 2 0 0) = 0 by omega] at hy
    simp only [Bool.not_eq_true', decide_eq_false_iff_not] at hy
    exact absurd (Int32.le_refl _) hy
theorem IK.se : ∀ n (σ : stT), IK σ.1 σ.2 → σ.1 3 ≤ 16 → σ.1 6 ≤ 120 + n → IK (p_se n σ).1 (p_se n σ).2 ∧ (p_se n σ).1 6 ≤ 120
  | 0, σ, h, _, h6 => ⟨h, h6⟩
  | n + 1, σ, h, h3, h6 => by
    unfold p_se
    by_cases hc : σ.1 6 ≤ 120
    · rw [if_pos hc]
      exact ⟨h, hc⟩
    · rw [if_neg hc]
      obtain ⟨re, e1, e2, e3, e4⟩ := h.ev0 (by omega)
      have hco := h.co h3 e3
      rw [← e1] at hco
      refine IK.se n _ hco ?_ ?_
      · rw [p_co_k (by omega) (by omega) (by omega) (by omega)]
        exact h3
      · rw [p_co_6]
        omega
/-! the revert's writes -/
theorem p_wu_k {rv : Int32} {j : Nat} (h3 : j ≠ 3) (h6 : j ≠ 6) : ∀ n i σ, (p_wu P rv n i σ).1 j = σ.1 j
  | 0, _, σ => rfl
  | n + 1, i, σ => by
    unfold p_wu
    rw [p_wu_k h3 h6 n]
    split
    · rw [p_wr_k h3 h6]
    · rfl
theorem p_wu_g {rv : Int32} {j : Nat} (h3 : j ≠ 0) (h6 : j ≠ 2) : ∀ n i σ, (p_wu P rv n i σ).2 j = σ.2 j
  | 0, _, σ => rfl
  | n + 1, i, σ => by
    unfold p_wu
    rw [p_wu_g h3 h6 n]
    split
    · rw [p_wr_g h3 h6]
    · rfl
theorem p_sts_k {T : rowT} {rv : Int32} {j : Nat} (h3 : j ≠ 3) (h6 : j ≠ 6) : ∀ n i σ, (p_sts T rv n i σ).1 j = σ.1 j
  | 0, _, σ => rfl
  | n + 1, i, σ => by
    unfold p_sts p_st
    rw [p_sts_k h3 h6 n]
    split
    · rw [p_wr_k h3 h6]
    · split
      · rw [p_de_k h3 h6]
      · rfl
theorem p_sts_g {T : rowT} {rv : Int32} {j : Nat} (h3 : j ≠ 0) (h6 : j ≠ 2) : ∀ n i σ, (p_sts T rv n i σ).2 j = σ.2 j
  | 0, _, σ => rfl
  | n + 1, i, σ => by
    unfold p_sts p_st
    rw [p_sts_g h3 h6 n]
    split
    · rw [p_wr_g h3 h6]
    · split
      · rw [p_de_g h3 h6]
      · rfl
/-- whether a key is there -/
abbrev isK (σ : stT) (x : Int32) : Prop := pF (σ.2 0) (σ.1 3) x < σ.1 3
theorem isK_iff {σ : stT} {x : Int32} : isK σ x ↔ ∃ i, i < σ.1 3 ∧ σ.2 0 i 0 = x := by
  constructor
  · intro h
    exact ⟨_, h, pF_eq h⟩
  · rintro ⟨i, hi, e⟩
    by_cases hc : pF (σ.2 0) (σ.1 3) x < σ.1 3
    · exact hc
    · have := pF_no (K := σ.2 0) (n := σ.1 3) (key := x) (j := i) (by omega)
      exact absurd e this
theorem isK_wr {x rv : Int32} : isK (p_wr σ.1 σ.2 rv key v l) x ↔ isK σ x ∨ x = key := by
  rw [isK_iff, isK_iff]
  unfold p_wr
  by_cases hf : pF (σ.2 0) (σ.1 3) key < σ.1 3
  · simp only [if_pos hf]
    change (∃ i, i < σ.1 3 ∧ va_up (σ.2 0) _ _ i 0 = x) ↔ _
    have e : ∀ i, va_up (σ.2 0) (pF (σ.2 0) (σ.1 3) key) (k6 key v (σ.2 0 (pF (σ.2 0) (σ.1 3) key) 2) rv (σ.2 0 (pF (σ.2 0) (σ.1 3) key) 4 + 1) l) i 0 = σ.2 0 i 0 := fun i => by
      by_cases hi : i = pF (σ.2 0) (σ.1 3) key
      · rw [hi, va_us, pF_eq hf]
        rfl
      · rw [va_un hi]
    simp only [e]
    constructor
    · exact Or.inl
    · rintro (h | rfl)
      · exact h
      · exact ⟨_, hf, pF_eq hf⟩
  · simp only [if_neg hf]
    have hle : pI (σ.2 0) (σ.1 3) key ≤ σ.1 3 := pI_le
    change (∃ i, i < σ.1 3 + 1 ∧ insR (σ.2 0) _ _ _ i 0 = x) ↔ _
    unfold insR
    constructor
    · rintro ⟨i, hi, e⟩
      by_cases h1 : i = pI (σ.2 0) (σ.1 3) key
      · rw [if_pos h1] at e
        exact Or.inr e.symm
      · rw [if_neg h1] at e
        by_cases h2 : pI (σ.2 0) (σ.1 3) key < i ∧ i ≤ σ.1 3
        · rw [if_pos h2] at e
          exact Or.inl ⟨_, by omega, e⟩
        · rw [if_neg h2] at e
          exact Or.inl ⟨_, by omega, e⟩
    · rintro (⟨i, hi, e⟩ | rfl)
      · by_cases h2 : i < pI (σ.2 0) (σ.1 3) key
        · refine ⟨i, by omega, ?_⟩
          rw [if_neg (by omega), if_neg (by omega)]
          exact e
        · refine ⟨i + 1, by omega, ?_⟩
          rw [if_neg (by omega), if_pos (by omega), Nat.add_sub_cancel]
          exact e
      · refine ⟨_, Nat.lt_succ_of_le hle, ?_⟩
        rw [if_pos rfl]
        rfl
theorem isK_de {x rv : Int32} (hs : srt (σ.2 0) (σ.1 3)) (hi : i < σ.1 3) : isK (p_de σ.1 σ.2 rv i) x ↔ isK σ x ∧ x ≠ σ.2 0 i 0 := by
  rw [isK_iff, isK_iff]
  change (∃ j, j < σ.1 3 - 1 ∧ delR (σ.2 0) i (σ.1 3) j 0 = x) ↔ _
  unfold delR
  constructor
  · rintro ⟨j, hj, e⟩
    by_cases h1 : i ≤ j ∧ j + 1 < σ.1 3
    · rw [if_pos h1] at e
      refine ⟨⟨_, by omega, e⟩, fun hc => ?_⟩
      have := srt_inj hs (by omega) hi (e.trans hc)
      omega
    · rw [if_neg h1] at e
      refine ⟨⟨_, by omega, e⟩, fun hc => ?_⟩
      have := srt_inj hs (by omega) hi (e.trans hc)
      omega
  · rintro ⟨⟨j, hj, e⟩, hx⟩
    by_cases h1 : j < i
    · refine ⟨j, by omega, ?_⟩
      rw [if_neg (by omega)]
      exact e
    · have : j ≠ i := fun hc => hx (by rw [← e, hc])
      refine ⟨j - 1, by omega, ?_⟩
      rw [if_pos (by omega), show j - 1 + 1 = j by omega]
      exact e
/-- the value of a key that is there -/
theorem wr_val {x rv : Int32} (hs : srt (σ.2 0) (σ.1 3)) (hx : x ≠ key) (hk : isK σ x) : (p_wr σ.1 σ.2 rv key v l).2 0 (pF ((p_wr σ.1 σ.2 rv key v l).2 0) ((p_wr σ.1 σ.2 rv key v l).1 3) x) = σ.2 0 (pF (σ.2 0) (σ.1 3) x) := by
  have hs' := srt_p_wr (σ := σ) (rv := rv) (key := key) (v := v) (l := l) hs
  have hk' : isK (p_wr σ.1 σ.2 rv key v l) x := isK_wr.mpr (Or.inl hk)
  obtain ⟨j, hj, ej⟩ : ∃ j, j < (p_wr σ.1 σ.2 rv key v l).1 3 ∧ (p_wr σ.1 σ.2 rv key v l).2 0 j = σ.2 0 (pF (σ.2 0) (σ.1 3) x) := by
    have hq := pF_eq hk
    unfold p_wr
    by_cases hf : pF (σ.2 0) (σ.1 3) key < σ.1 3
    · simp only [if_pos hf]
      refine ⟨pF (σ.2 0) (σ.1 3) x, hk, ?_⟩
      change va_up (σ.2 0) _ _ _ = _
      rw [va_un]
      intro hc
      rw [hc, pF_eq hf] at hq
      exact hx hq.symm
    · simp only [if_neg hf]
      have hle : pI (σ.2 0) (σ.1 3) key ≤ σ.1 3 := pI_le
      change ∃ j, j < σ.1 3 + 1 ∧ insR (σ.2 0) _ _ _ j = _
      have hk2 : pF (σ.2 0) (σ.1 3) x < σ.1 3 := hk
      unfold insR
      by_cases h2 : pF (σ.2 0) (σ.1 3) x < pI (σ.2 0) (σ.1 3) key
      · refine ⟨pF (σ.2 0) (σ.1 3) x, by omega, ?_⟩
        rw [if_neg (by omega), if_neg (by omega)]
      · refine ⟨pF (σ.2 0) (σ.1 3) x + 1, by omega, ?_⟩
        rw [if_neg (by omega), if_pos (by omega), Nat.add_sub_cancel]
  rw [pF_of hs' hj (by rw [ej]; exact pF_eq hk), ej]
theorem wr_key {rv : Int32} (hs : srt (σ.2 0) (σ.1 3)) : (p_wr σ.1 σ.2 rv key v l).2 0 (pF ((p_wr σ.1 σ.2 rv key v l).2 0) ((p_wr σ.1 σ.2 rv key v l).1 3) key) 1 = v := by
  have hs' := srt_p_wr (σ := σ) (rv := rv) (key := key) (v := v) (l := l) hs
  obtain ⟨j, hj, ej, ek⟩ : ∃ j, j < (p_wr σ.1 σ.2 rv key v l).1 3 ∧ (p_wr σ.1 σ.2 rv key v l).2 0 j 1 = v ∧ (p_wr σ.1 σ.2 rv key v l).2 0 j 0 = key := by
    unfold p_wr
    by_cases hf : pF (σ.2 0) (σ.1 3) key < σ.1 3
    · simp only [if_pos hf]
      refine ⟨_, hf, ?_⟩
      change va_up (σ.2 0) _ _ _ 1 = _ ∧ va_up (σ.2 0) _ _ _ 0 = _
      rw [va_us]
      exact ⟨rfl, rfl⟩
    · simp only [if_neg hf]
      have hle : pI (σ.2 0) (σ.1 3) key ≤ σ.1 3 := pI_le
      refine ⟨_, Nat.lt_succ_of_le hle, ?_⟩
      change insR (σ.2 0) _ _ _ _ 1 = _ ∧ insR (σ.2 0) _ _ _ _ 0 = _
      unfold insR
      rw [if_pos rfl]
      exact ⟨rfl, rfl⟩
  rw [pF_of hs' hj ek, ej]
end Ic
