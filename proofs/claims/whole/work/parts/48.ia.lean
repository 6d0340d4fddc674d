/-! ===== what is always so of a store, between calls (pure) ===== -/
def IL (σ : stT) : Prop := σ.1 4 ≤ 8 ∧ (∀ i, i < σ.1 4 → ∃ m t q : Nat, σ.2 3 i 0 = nI m ∧ 1 ≤ m ∧ m ≤ σ.1 8 ∧ σ.2 3 i 1 = nI t ∧ 1 ≤ t ∧ t ≤ 1000 ∧ σ.2 3 i 2 = nI q ∧ q ≤ 1000) ∧ srt (σ.2 3) (σ.1 4)
def okSt (n : Nat) (T : rowT) : Prop := n ≤ 6 ∧ (∀ i, i < n → (T i 0 = 0 ∧ vOk (T i 2) ∨ T i 0 = 1) ∧ kOk (T i 1)) ∧ ∀ i j, i < j → j < n → T i 1 ≠ T j 1
def IT (σ : stT) : Prop := σ.1 9 ≤ 6 ∧ cdOk (σ.1 9) (σ.2 5) ∧ okSt (σ.1 10) (σ.2 6) ∧ okSt (σ.1 11) (σ.2 7)
def IB (u : Nat) (σ : stT) : Prop := σ.1 0 ≤ u ∧ σ.1 7 + σ.1 6 ≤ 32 * u ∧ σ.1 8 ≤ u ∧ σ.1 2 ≤ 1000 * u
/-- a lease has ticks left, between calls -/
def ILp (σ : stT) : Prop := ∀ i, i < σ.1 4 → σ.2 3 i 2 ≠ 0
def IA (u : Nat) (σ : stT) : Prop := IK σ.1 σ.2 ∧ σ.1 3 ≤ 16 ∧ σ.1 6 ≤ 120 ∧ IL σ ∧ IT σ ∧ IB u σ
def Kp (σ σ' : stT) : Prop := (∀ j, j = 2 ∨ j = 4 ∨ j = 5 ∨ (8 ≤ j ∧ j ≤ 11) → σ'.1 j = σ.1 j) ∧ ∀ j, j = 3 ∨ 5 ≤ j → σ'.2 j = σ.2 j
section Ia
variable {σ σ' σ'' : stT} {u u' r n0 i : Nat} {key v l : Int32} {p : (Nat → Int32) → Bool} {P : Nat × rowT} {T : rowT} {rv : Int32}
theorem Kp.rf : Kp σ σ := ⟨fun _ _ => rfl, fun _ _ => rfl⟩
theorem Kp.tr (h : Kp σ σ') (h' : Kp σ' σ'') : Kp σ σ'' := ⟨fun j hj => (h'.1 j hj).trans (h.1 j hj), fun j hj => (h'.2 j hj).trans (h.2 j hj)⟩
theorem Kp.bg : Kp σ (bg σ.1, σ.2) := ⟨fun j hj => va_un (by omega), fun _ _ => rfl⟩
theorem Kp.df {n : Nat} : Kp σ (p_df p rv n i σ) := ⟨fun j hj => p_df_k (by omega) (by omega) n i σ, fun j hj => p_df_g (by omega) (by omega) n i σ⟩
theorem Kp.wu {n : Nat} : Kp σ (p_wu P rv n i σ) := ⟨fun j hj => p_wu_k (by omega) (by omega) n i σ, fun j hj => p_wu_g (by omega) (by omega) n i σ⟩
theorem Kp.sts {n : Nat} : Kp σ (p_sts T rv n i σ) := ⟨fun j hj => p_sts_k (by omega) (by omega) n i σ, fun j hj => p_sts_g (by omega) (by omega) n i σ⟩
theorem Kp.wr : Kp σ (p_wr σ.1 σ.2 rv key v l) := ⟨fun j hj => p_wr_k (by omega) (by omega), fun j hj => p_wr_g (by omega) (by omega)⟩
theorem Kp.se {n : Nat} : Kp σ (p_se n σ) := ⟨fun j hj => p_se_k (by omega) (by omega) (by omega) (by omega) n σ, fun j hj => p_se_g (by omega) (by omega) (by omega) n σ⟩
theorem Kp.co {x : Int32} : Kp σ (p_co σ.1 σ.2 x) := ⟨fun j hj => p_co_k (by omega) (by omega) (by omega) (by omega), fun j hj => p_co_g (by omega) (by omega) (by omega)⟩
theorem IL.kp (h : IL σ) (k : Kp σ σ') : IL σ' := by
  unfold IL
  rw [k.1 4 (by omega), k.1 8 (by omega), k.2 3 (by omega)]
  exact h
theorem ILp.kp (h : ILp σ) (k : Kp σ σ') : ILp σ' := by
  unfold ILp
  rw [k.1 4 (by omega), k.2 3 (by omega)]
  exact h
theorem IT.kp (h : IT σ) (k : Kp σ σ') : IT σ' := by
  unfold IT
  rw [k.1 9 (by omega), k.1 10 (by omega), k.1 11 (by omega), k.2 5 (by omega), k.2 6 (by omega), k.2 7 (by omega)]
  exact h
theorem IA.mono (h : IA u σ) (hu : u ≤ u') : IA u' σ := by
  obtain ⟨h1, h2, h3, h4, h5, b1, b2, b3, b4⟩ := h
  exact ⟨h1, h2, h3, h4, h5, by omega, by omega, by omega, by omega⟩
theorem IA.ik (h : IA u σ) : IK σ.1 σ.2 := h.1
/-- behind a change: from within it -/
theorem IA.settle {T : Int32 → Prop} (h : IA u σ) (hc : IC (σ.1 0) (σ.1 6) T σ') (hk : Kp σ σ') (h3 : σ'.1 3 ≤ 16) (h6 : σ'.1 6 ≤ σ.1 6 + 32) (h7 : σ'.1 7 = σ.1 7) (hu : u + 1 < 2 ^ 30) : IA (u + 1) (p_se 152 σ') ∧ Kp σ (p_se 152 σ') := by
  obtain ⟨h1, h2, h4, h5, h8, b1, b2, b3, b4⟩ := h
  obtain ⟨c1, c2, c3, c4, c5, c6⟩ := hc
  obtain ⟨e1, e2⟩ := IK.se 152 σ' c1 h3 (by omega)
  have k2 := hk.tr (Kp.se (n := 152))
  refine ⟨⟨e1, ?_, e2, h5.kp k2, h8.kp k2, ?_, ?_, ?_, ?_⟩, k2⟩
  · rw [p_se_k (by omega) (by omega) (by omega) (by omega)]
    exact h3
  · rw [p_se_k (by omega) (by omega) (by omega) (by omega), c2]
    omega
  · rw [p_se_67, h7]
    omega
  · rw [k2.1 8 (by omega)]
    omega
  · rw [k2.1 2 (by omega)]
    omega
/-! put -/
def p_put (σ : stT) (key v l : Int32) : Int32 × stT :=
  if ¬ isK σ key ∧ σ.1 3 = 16 then (-2, σ) else if l ≠ 0 ∧ ¬ pF (σ.2 3) (σ.1 4) l < σ.1 4 then (-3, σ)
  else (nI (σ.1 0 + 1), p_se 152 (p_wr (bg σ.1) σ.2 (nI (σ.1 0 + 1)) key v l))
theorem IC.put (h : IA u σ) (hu : u + 1 < 2 ^ 30) (hk : kOk key) (hv : vOk v) (hl : ¬ l < 0) (h16 : ¬ (¬ isK σ key ∧ σ.1 3 = 16)) : IC (σ.1 0) (σ.1 6) (fun x => False ∨ x = key) (p_wr (bg σ.1) σ.2 (nI (σ.1 0 + 1)) key v l) ∧ (p_wr (bg σ.1) σ.2 (nI (σ.1 0 + 1)) key v l).1 3 ≤ 16 := by
  obtain ⟨h1, h2, h4, h5, h8, b1, b2, b3, b4⟩ := h
  have hb := IC.of h1 h2 (by omega)
  refine ⟨hb.wr (σ := (bg σ.1, σ.2)) hk hv hl (Or.inr (show σ.1 3 < 22 by omega)) (fun _ hc => hc), ?_⟩
  rw [p_wr_3]
  change (if isK σ key then σ.1 3 else σ.1 3 + 1) ≤ 16
  split
  · exact h2
  · rename_i hq
    have : σ.1 3 ≠ 16 := fun e => h16 ⟨hq, e⟩
    omega
theorem IA.put (h : IA u σ) (hu : u + 1 < 2 ^ 30) (hk : kOk key) (hv : vOk v) (hl : ¬ l < 0) : IA (u + 1) (p_put σ key v l).2 ∧ Kp σ (p_put σ key v l).2 := by
  unfold p_put
  by_cases c1 : ¬ isK σ key ∧ σ.1 3 = 16
  · rw [if_pos c1]
    exact ⟨h.mono (by omega), Kp.rf⟩
  · rw [if_neg c1]
    by_cases c2 : l ≠ 0 ∧ ¬ pF (σ.2 3) (σ.1 4) l < σ.1 4
    · rw [if_pos c2]
      exact ⟨h.mono (by omega), Kp.rf⟩
    · rw [if_neg c2]
      obtain ⟨i1, i2⟩ := IC.put h hu hk hv hl c1
      exact h.settle i1 (Kp.bg.tr (Kp.wr (σ := (bg σ.1, σ.2)))) i2 (by rw [p_wr_6]; exact Nat.add_le_add_left (by omega) _) (p_wr_k (by omega) (by omega)) hu
/-! deleting -/
def p_del (p : (Nat → Int32) → Bool) (σ : stT) : stT := if dfn p σ 0 (σ.1 3) = 0 then σ else p_se 152 (p_df p (nI (σ.1 0 + 1)) (σ.1 3) 0 (bg σ.1, σ.2))
theorem dfn_le : dfn p σ 0 (σ.1 3) ≤ σ.1 3 := cn_le _ _ _
theorem IC.del (h : IA u σ) (hu : u + 1 < 2 ^ 30) : IC (σ.1 0) (σ.1 6) (fun _ => True) (p_df p (nI (σ.1 0 + 1)) (σ.1 3) 0 (bg σ.1, σ.2)) ∧ (p_df p (nI (σ.1 0 + 1)) (σ.1 3) 0 (bg σ.1, σ.2)).1 6 = σ.1 6 + dfn p σ 0 (σ.1 3) ∧ (p_df p (nI (σ.1 0 + 1)) (σ.1 3) 0 (bg σ.1, σ.2)).1 3 ≤ 16 := by
  obtain ⟨h1, h2, h4, h5, h8, b1, b2, b3, b4⟩ := h
  have hb := IC.of h1 h2 (by omega)
  obtain ⟨e1, e2⟩ := p_df_6 (p := p) (rv := nI (σ.1 0 + 1)) (σ.1 3) 0 (bg σ.1, σ.2) (by rw [Nat.zero_add]; rfl)
  refine ⟨IC.df (p := p) (fun _ _ => trivial) (σ.1 3) 0 (bg σ.1, σ.2) (by rw [Nat.zero_add]; rfl) (hb.mono fun _ _ => trivial), e1, ?_⟩
  have : (bg σ.1) 3 = σ.1 3 := rfl
  change _ + _ = (bg σ.1) 3 at e2
  omega
theorem IA.del (h : IA u σ) (hu : u + 1 < 2 ^ 30) : IA (u + 1) (p_del p σ) ∧ Kp σ (p_del p σ) := by
  unfold p_del
  by_cases c1 : dfn p σ 0 (σ.1 3) = 0
  · rw [if_pos c1]
    exact ⟨h.mono (by omega), Kp.rf⟩
  · rw [if_neg c1]
    obtain ⟨i1, i2, i3⟩ := IC.del (p := p) h hu
    have := h.2.1
    have hd : dfn p σ 0 (σ.1 3) ≤ σ.1 3 := dfn_le
    exact h.settle i1 (Kp.bg.tr Kp.df) i3 (by omega) (p_df_k (by omega) (by omega) _ _ _) hu
/-! leases -/
def p_rl (i : Nat) (σ : stT) : stT := (va_up σ.1 4 (σ.1 4 - 1), va_up σ.2 3 (delR (σ.2 3) i (σ.1 4)))
def p_age (t : Int32) (σ : stT) : stT := (σ.1, va_up σ.2 3 (agR (σ.2 3) t 0 (σ.1 4)))
def hasL (l : Int32) (q : Nat → Int32) : Bool := decide (q 5 = l)
def p_ends (i : Nat) (σ : stT) : stT := p_del (hasL (σ.2 3 i 0)) (p_rl i σ)
def p_revoke (σ : stT) (l : Int32) : Int32 × stT := if pF (σ.2 3) (σ.1 4) l < σ.1 4 then (nI (dfn (hasL l) σ 0 (σ.1 3)), p_ends (pF (σ.2 3) (σ.1 4) l) σ) else (-3, σ)
def p_grant (σ : stT) (t : Int32) : Int32 × stT := if σ.1 4 = 8 then (-2, σ) else (nI (σ.1 8 + 1), (va_up (va_up σ.1 4 (σ.1 4 + 1)) 8 (σ.1 8 + 1), va_up σ.2 3 (va_up (σ.2 3) (σ.1 4) (l3 (nI (σ.1 8 + 1)) t t))))
def p_renew (σ : stT) (l : Int32) : Int32 × stT := if pF (σ.2 3) (σ.1 4) l < σ.1 4 then (σ.2 3 (pF (σ.2 3) (σ.1 4) l) 1, (σ.1, va_up σ.2 3 (va_up (σ.2 3) (pF (σ.2 3) (σ.1 4) l) (upd (σ.2 3 (pF (σ.2 3) (σ.1 4) l)) 2 (σ.2 3 (pF (σ.2 3) (σ.1 4) l) 1))))) else (-3, σ)
/-- leases alone changed -/
theorem IA.lease (h : IA u σ) (e1 : ∀ j, j ≠ 4 → j ≠ 8 → σ'.1 j = σ.1 j) (e2 : ∀ j, j ≠ 3 → σ'.2 j = σ.2 j) (hl : IL σ') (h8 : σ'.1 8 ≤ u') (hu : u ≤ u') : IA u' σ' := by
  obtain ⟨h1, h2, h4, h5, h8, b1, b2, b3, b4⟩ := h
  refine ⟨h1.cg (e1 0 (by omega) (by omega)) (e1 1 (by omega) (by omega)) (e1 3 (by omega) (by omega)) (e1 6 (by omega) (by omega)) (e1 7 (by omega) (by omega)) (e1 12 (by omega) (by omega)) (e2 0 (by omega)) (e2 1 (by omega)) (e2 2 (by omega)), ?_, ?_, hl, ?_, ?_, ?_, ?_, ?_⟩
  · rw [e1 3 (by omega) (by omega)]; exact h2
  · rw [e1 6 (by omega) (by omega)]; exact h4
  · unfold IT
    rw [e1 9 (by omega) (by omega), e1 10 (by omega) (by omega), e1 11 (by omega) (by omega), e2 5 (by omega), e2 6 (by omega), e2 7 (by omega)]
    exact h8
  · rw [e1 0 (by omega) (by omega)]; omega
  · rw [e1 6 (by omega) (by omega), e1 7 (by omega) (by omega)]; omega
  · assumption
  · rw [e1 2 (by omega) (by omega)]; omega
theorem IL.rl (h : IL σ) (hi : i < σ.1 4) : IL (p_rl i σ) := by
  obtain ⟨h1, h2, h3⟩ := h
  refine ⟨show σ.1 4 - 1 ≤ 8 by omega, fun j hj => ?_, srt_del h3 hi⟩
  change j < σ.1 4 - 1 at hj
  change ∃ m t q : Nat, delR (σ.2 3) i (σ.1 4) j 0 = nI m ∧ 1 ≤ m ∧ m ≤ σ.1 8 ∧ delR (σ.2 3) i (σ.1 4) j 1 = nI t ∧ 1 ≤ t ∧ t ≤ 1000 ∧ delR (σ.2 3) i (σ.1 4) j 2 = nI q ∧ q ≤ 1000
  unfold delR
  by_cases hc : i ≤ j ∧ j + 1 < σ.1 4
  · rw [if_pos hc]
    exact h2 _ (by omega)
  · rw [if_neg hc]
    exact h2 _ (by omega)
theorem IA.rl (h : IA u σ) (hi : i < σ.1 4) : IA u (p_rl i σ) := h.lease (fun j h4 _ => va_un h4) (fun j h3 => va_un h3) (h.2.2.2.1.rl hi) h.2.2.2.2.2.2.2.1 (Nat.le_refl _)
theorem IA.ends (h : IA u σ) (hi : i < σ.1 4) (hu : u + 1 < 2 ^ 30) : IA (u + 1) (p_ends i σ) ∧ Kp (p_rl i σ) (p_ends i σ) := (h.rl hi).del hu
theorem IA.revoke (h : IA u σ) (hu : u + 1 < 2 ^ 30) : IA (u + 1) (p_revoke σ l).2 := by
  unfold p_revoke
  split
  · rename_i hf
    exact (h.ends hf hu).1
  · exact h.mono (by omega)
theorem IL.age {d : Nat} (h : IL σ) (hd : ∀ i, i < σ.1 4 → ∃ q : Nat, σ.2 3 i 2 = nI q ∧ d ≤ q ∧ q < 2 ^ 31) : IL (p_age (nI d) σ) := by
  obtain ⟨h1, h2, h3⟩ := h
  have e : ∀ j, j < σ.1 4 → agR (σ.2 3) (nI d) 0 (σ.1 4) j = upd (σ.2 3 j) 2 (σ.2 3 j 2 - nI d) := fun j hj => by
    rw [agR_eq]
    dsimp only
    rw [if_pos (by omega)]
  refine ⟨h1, fun j hj => ?_, fun a c hac hc => ?_⟩
  · change j < σ.1 4 at hj
    obtain ⟨m, t, q, a1, a2, a3, a4, a5, a6, a7, a8⟩ := h2 j hj
    obtain ⟨q', b1, b2, b3⟩ := hd j hj
    change ∃ m t q : Nat, agR (σ.2 3) (nI d) 0 (σ.1 4) j 0 = nI m ∧ 1 ≤ m ∧ m ≤ σ.1 8 ∧ agR (σ.2 3) (nI d) 0 (σ.1 4) j 1 = nI t ∧ 1 ≤ t ∧ t ≤ 1000 ∧ agR (σ.2 3) (nI d) 0 (σ.1 4) j 2 = nI q ∧ q ≤ 1000
    rw [e j hj]
    refine ⟨m, t, q - d, a1, a2, a3, a4, a5, a6, ?_, by omega⟩
    change σ.2 3 j 2 - nI d = _
    rw [a7]
    by_cases hq : d ≤ q
    · exact nI_2 hq
    · have : q = q' := (nI_eq (by omega) b3).mp (a7.symm.trans b1)
      omega
  · change agR (σ.2 3) (nI d) 0 (σ.1 4) a 0 < agR (σ.2 3) (nI d) 0 (σ.1 4) c 0
    change c < σ.1 4 at hc
    rw [e a (by omega), e c hc]
    exact h3 a c hac hc
theorem IA.grant {t : Nat} (h : IA u σ) (ht : 1 ≤ t ∧ t ≤ 1000) (hu : u + 1 < 2 ^ 30) : IA (u + 1) (p_grant σ (nI t)).2 := by
  unfold p_grant
  by_cases h8 : σ.1 4 = 8
  · rw [if_pos h8]
    exact h.mono (by omega)
  · rw [if_neg h8]
    have b3 := h.2.2.2.2.2.2.2.1
    obtain ⟨h1, h2, h3⟩ := h.2.2.2.1
    refine h.lease (fun j h4 h8 => by simp only [va_un h4, va_un h8]) (fun j h3 => by simp only [va_un h3]) ⟨?_, fun j hj => ?_, fun a c hac hc => ?_⟩ ?_ (by omega)
    · change σ.1 4 + 1 ≤ 8
      omega
    · change j < σ.1 4 + 1 at hj
      change ∃ m t' q : Nat, va_up (σ.2 3) (σ.1 4) _ j 0 = nI m ∧ 1 ≤ m ∧ m ≤ σ.1 8 + 1 ∧ va_up (σ.2 3) (σ.1 4) _ j 1 = nI t' ∧ 1 ≤ t' ∧ t' ≤ 1000 ∧ va_up (σ.2 3) (σ.1 4) _ j 2 = nI q ∧ q ≤ 1000
      by_cases hj2 : j = σ.1 4
      · rw [hj2, va_us]
        exact ⟨σ.1 8 + 1, t, t, rfl, by omega, Nat.le_refl _, rfl, ht.1, ht.2, rfl, ht.2⟩
      · rw [va_un hj2]
        obtain ⟨m, t', q, a1, a2, a3, a4⟩ := h2 j (by omega)
        exact ⟨m, t', q, a1, a2, by omega, a4⟩
    · change c < σ.1 4 + 1 at hc
      change va_up (σ.2 3) (σ.1 4) _ a 0 < va_up (σ.2 3) (σ.1 4) _ c 0
      rw [va_un (show a ≠ σ.1 4 by omega)]
      by_cases hc2 : c = σ.1 4
      · rw [hc2, va_us]
        obtain ⟨m, t', q, a1, a2, a3, a4⟩ := h2 a (by omega)
        rw [a1]
        exact nI_lt (by omega) (by omega)
      · rw [va_un hc2]
        exact h3 a c hac (by omega)
    · change σ.1 8 + 1 ≤ u + 1
      omega
theorem IA.renew (h : IA u σ) : IA u (p_renew σ l).2 := by
  unfold p_renew
  by_cases hf : pF (σ.2 3) (σ.1 4) l < σ.1 4
  · rw [if_pos hf]
    obtain ⟨h1, h2, h3⟩ := h.2.2.2.1
    refine h.lease (fun j _ _ => rfl) (fun j h3 => by simp only [va_un h3]) ⟨h1, fun j hj => ?_, srt_upd (x := upd (σ.2 3 (pF (σ.2 3) (σ.1 4) l)) 2 (σ.2 3 (pF (σ.2 3) (σ.1 4) l) 1)) h3 rfl⟩ h.2.2.2.2.2.2.2.1 (Nat.le_refl _)
    change ∃ m t q : Nat, va_up (σ.2 3) _ _ j 0 = nI m ∧ 1 ≤ m ∧ m ≤ σ.1 8 ∧ va_up (σ.2 3) _ _ j 1 = nI t ∧ 1 ≤ t ∧ t ≤ 1000 ∧ va_up (σ.2 3) _ _ j 2 = nI q ∧ q ≤ 1000
    by_cases hj2 : j = pF (σ.2 3) (σ.1 4) l
    · rw [hj2, va_us]
      obtain ⟨m, t, q, a1, a2, a3, a4, a5, a6, a7⟩ := h2 _ hf
      exact ⟨m, t, t, a1, a2, a3, a4, a5, a6, a4, a6⟩
    · rw [va_un hj2]
      exact h2 j hj
  · rw [if_neg hf]
    exact h
end Ia
