/-! ===== the law: what a call keeps true of the state ===== -/
def PK (u : Nat) (σ : stT) : Prop := IA u σ ∧ ILp σ ∧ σ.1 5 ≤ 8
section Pk
variable {u u' i q : Nat} {σ σ' : stT} {key val l f t x y z kd : Int32} {p : (Nat → Int32) → Bool} {ok ok1 ok2 : Bool}
theorem PK.mk5 (h : PK u σ) (a : IA u' σ') (hu : u' ≤ u + 9) (b : ILp σ') (e : σ'.1 5 = σ.1 5) : PK (u + 9) σ' := ⟨a.mono hu, b, by rw [e]; exact h.2.2⟩
theorem PK.kp (h : PK u σ) (a : IA u' σ') (hu : u' ≤ u + 9) (b : Kp σ σ') : PK (u + 9) σ' := h.mk5 a hu (h.2.1.kp b) (b.1 5 (by omega))
theorem PK.id (h : PK u σ) : PK (u + 9) σ := ⟨h.1.mono (by omega), h.2.1, h.2.2⟩
theorem PK.wt (h : PK u σ) (e : ∀ j, j ≠ 5 → σ'.1 j = σ.1 j) (e' : ∀ j, j ≠ 4 → σ'.2 j = σ.2 j) (h5 : σ'.1 5 ≤ 8) : PK (u + 9) σ' := ⟨(h.1.wat e e').mono (by omega), h.2.1.cg (e 4 (by omega)) (e' 3 (by omega)), h5⟩
theorem pk_put (h : PK u σ) (hu : u + 9 < 2 ^ 24) (hk : (bKey key && (bVal val && bNN l)) = true) : PK (u + 9) (p_put σ key val l).2 := by
  rw [Bool.and_eq_true, Bool.and_eq_true] at hk
  obtain ⟨a, b⟩ := h.1.put (by omega) (bKeyN hk.1) (bValN hk.2.1) (bNNN.mp hk.2.2)
  exact h.kp a (by omega) b
theorem pk_del (h : PK u σ) (hu : u + 9 < 2 ^ 24) : PK (u + 9) (p_del p σ) := by
  obtain ⟨a, b⟩ := h.1.del (p := p) (by omega)
  exact h.kp a (by omega) b
theorem pk_compact (h : PK u σ) (hy : (!decide (y < 1)) = true) : PK (u + 9) (p_compact σ y).2 := by
  obtain ⟨a, b⟩ := h.1.compact (y := y) (fun hc => by
    have h1 : ¬ y < 1 := fun h2 => by
      rw [decide_eq_true h2] at hy
      cases hy
    have e1 := Int32.lt_iff_toInt_lt.mp hc
    have e2 : ¬ y.toInt < (1 : Int32).toInt := fun h3 => h1 (Int32.lt_iff_toInt_lt.mpr h3)
    have e3 : (0 : Int32).toInt = 0 := rfl
    have e4 : (1 : Int32).toInt = 1 := rfl
    omega)
  exact h.kp a (by omega) b
theorem pk_revert (h : PK u σ) (hu : u + 9 < 2 ^ 24) : PK (u + 9) (p_revert σ y).2 := by
  obtain ⟨a, b⟩ := h.1.revert (by omega) y
  exact h.kp a (by omega) b
theorem pk_attach (h : PK u σ) (hl : (bKey key && bNN l) = true) : PK (u + 9) (p_attach σ key l).2 := by
  rw [Bool.and_eq_true] at hl
  refine h.mk5 (h.1.attach (bNNN.mp hl.2)) (by omega) h.2.1.attach ?_
  unfold p_attach
  split
  · split
    · rfl
    · rfl
  · rfl
theorem pk_grant (h : PK u σ) (hu : u + 9 < 2 ^ 24) (hy : bTck y = true) : PK (u + 9) (p_grant σ y).2 := by
  obtain ⟨n, rfl, h1, h2⟩ := bTckN hy
  refine h.mk5 (h.1.grant ⟨h1, h2⟩ (by omega)) (by omega) (h.2.1.grant ⟨h1, h2⟩) ?_
  unfold p_grant
  split
  · rfl
  · show va_up (va_up σ.1 4 (σ.1 4 + 1)) 8 (σ.1 8 + 1) 5 = _
    rw [va_un (by omega), va_un (by omega)]
theorem pk_tick (h : PK u σ) (hu : u + 9 < 2 ^ 24) (hy : bTck y = true) : PK (u + 9) (p_tick σ y).2 := by
  obtain ⟨n, rfl, h1, h2⟩ := bTckN hy
  obtain ⟨a, b⟩ := h.1.tick h1 h2 (by omega)
  refine h.mk5 a (by omega) b ?_
  unfold p_tick
  exact pass5 _ _ _
theorem pk_renew (h : PK u σ) : PK (u + 9) (p_renew σ l).2 := by
  refine h.mk5 h.1.renew (by omega) (h.2.1.renew h.1) ?_
  unfold p_renew
  split
  · rfl
  · rfl
theorem pk_revoke (h : PK u σ) (hu : u + 9 < 2 ^ 24) : PK (u + 9) (p_revoke σ l).2 := by
  refine h.mk5 (h.1.revoke (by omega)) (by omega) (h.2.1.revoke h.1 (by omega)) ?_
  unfold p_revoke
  split
  · exact ends5
  · rfl
theorem pk_commit (h : PK u σ) (hu : u + 9 < 2 ^ 24) : PK (u + 9) (p_commit σ).2 := by
  have hA := h.1.commit (by omega)
  have hk : (p_commit σ).2.1 4 = σ.1 4 ∧ (p_commit σ).2.2 3 = σ.2 3 ∧ (p_commit σ).2.1 5 = σ.1 5 := by
    unfold p_commit
    split
    · split
      · exact ⟨rfl, rfl, rfl⟩
      · have k : Kp σ (p_se 152 (p_sts (p_T σ) (nI (σ.1 0 + 1)) (p_n σ) 0 (bg σ.1, σ.2))) := (Kp.bg.tr Kp.sts).tr Kp.se
        exact ⟨k.1 4 (by omega), k.2 3 (by omega), k.1 5 (by omega)⟩
    · exact ⟨rfl, rfl, rfl⟩
  exact h.mk5 hA (by omega) (h.2.1.cg hk.1 hk.2.1) hk.2.2
theorem pk_clr (h : PK u σ) : PK (u + 9) (p_clr σ) := h.mk5 h.1.clr (by omega) (h.2.1.cg rfl rfl) rfl
theorem pk_when (h : PK u σ) (hk : (bKey key && (bIn x 0 3 && bIn y 0 3)) = true) : PK (u + 9) (p_when σ key x y z).2 := by
  rw [Bool.and_eq_true, Bool.and_eq_true] at hk
  obtain ⟨w1, w2, w3⟩ := bInN (m := 3) (by omega) hk.2.1
  obtain ⟨r1, r2, r3⟩ := bInN (m := 3) (by omega) hk.2.2
  obtain ⟨⟨h1, h2, h4, h5, h8, b⟩, hL, h9⟩ := h
  unfold p_when
  split
  · exact ⟨IA.mono (u := u) ⟨h1, h2, h4, h5, h8, b⟩ (by omega), hL, h9⟩
  · rename_i hn
    obtain ⟨t1, t2, t3, t4⟩ := h8
    refine ⟨IA.mono (u := u) ⟨h1.cg rfl rfl rfl rfl rfl rfl rfl rfl rfl, h2, h4, h5, ⟨?_, fun i hi => ?_, t3, t4⟩, b⟩ (by omega), hL.cg rfl rfl, h9⟩
    · show σ.1 9 + 1 ≤ 6
      omega
    · have hi : i < σ.1 9 + 1 := hi
      show (∃ w : Nat, w < 4 ∧ va_up (σ.2 5) (σ.1 9) (q4 key x y z) i 1 = nI w) ∧ ∃ r : Nat, r < 4 ∧ va_up (σ.2 5) (σ.1 9) (q4 key x y z) i 2 = nI r
      by_cases e : i = σ.1 9
      · rw [e, va_us]
        exact ⟨⟨w1, by omega, w3⟩, r1, by omega, r3⟩
      · rw [va_un e]
        exact t2 i (by omega)
theorem okSt.ad {n : Nat} {T : rowT} (h : okSt n T) (h6 : n ≠ 6) (hf : ¬ fi (fun i => decide (T i 1 = key)) 0 n < n) (hk : bStep kd key val = true) : okSt (n + 1) (va_up T n (l3 kd key val)) := by
  obtain ⟨h1, h2, h3⟩ := h
  unfold bStep at hk
  rw [Bool.and_eq_true, Bool.and_eq_true, Bool.or_eq_true, Bool.or_eq_true, decide_eq_true_iff, decide_eq_true_iff] at hk
  obtain ⟨⟨k1, k2⟩, k3⟩ := hk
  have hne : ∀ i, i < n → T i 1 ≠ key := fun i hi e => by
    have := fi_no (fun i => decide (T i 1 = key)) n 0 i (by omega) (by have := fi_le (fun i => decide (T i 1 = key)) n 0; omega)
    rw [decide_eq_true e] at this
    cases this
  refine ⟨by omega, fun i hi => ?_, fun i j hij hj => ?_⟩
  · by_cases e : i = n
    · rw [e, va_us]
      refine ⟨?_, bKeyN k2⟩
      rcases k3 with k3 | k3
      · exact Or.inr k3
      · rcases k1 with k1 | k1
        · exact Or.inl ⟨k1, bValN k3⟩
        · exact Or.inr k1
    · rw [va_un e]
      exact h2 i (by omega)
  · by_cases e : j = n
    · rw [e, va_us, va_un (by omega)]
      exact hne i (by omega)
    · rw [va_un e, va_un (by omega)]
      exact h3 i j hij (by omega)
theorem pk_then (h : PK u σ) (hk : bStep kd key val = true) : PK (u + 9) (p_step σ 0 kd key val).2 := by
  obtain ⟨⟨h1, h2, h4, h5, h8, b⟩, hL, h9⟩ := h
  unfold p_step
  split
  · exact ⟨IA.mono (u := u) ⟨h1, h2, h4, h5, h8, b⟩ (by omega), hL, h9⟩
  · rename_i hn
    split
    · exact ⟨IA.mono (u := u) ⟨h1, h2, h4, h5, h8, b⟩ (by omega), hL, h9⟩
    · rename_i hf
      obtain ⟨t1, t2, t3, t4⟩ := h8
      exact ⟨IA.mono (u := u) ⟨h1.cg rfl rfl rfl rfl rfl rfl rfl rfl rfl, h2, h4, h5, ⟨t1, t2, t3.ad hn hf hk, t4⟩, b⟩ (by omega), hL.cg rfl rfl, h9⟩
theorem pk_otherwise (h : PK u σ) (hk : bStep kd key val = true) : PK (u + 9) (p_step σ 1 kd key val).2 := by
  obtain ⟨⟨h1, h2, h4, h5, h8, b⟩, hL, h9⟩ := h
  unfold p_step
  split
  · exact ⟨IA.mono (u := u) ⟨h1, h2, h4, h5, h8, b⟩ (by omega), hL, h9⟩
  · rename_i hn
    split
    · exact ⟨IA.mono (u := u) ⟨h1, h2, h4, h5, h8, b⟩ (by omega), hL, h9⟩
    · rename_i hf
      obtain ⟨t1, t2, t3, t4⟩ := h8
      exact ⟨IA.mono (u := u) ⟨h1.cg rfl rfl rfl rfl rfl rfl rfl rfl rfl, h2, h4, h5, ⟨t1, t2, t3, t4.ad hn hf hk⟩, b⟩ (by omega), hL.cg rfl rfl, h9⟩
theorem pk_watch (h : PK u σ) : PK (u + 9) (p_watch σ f t y z).2 := by
  obtain ⟨a, b⟩ := h.1.watch (f := f) (t := t) (y := y) (k := z) h.2.1
  refine ⟨a.mono (by omega), b, ?_⟩
  have h5 := h.2.2
  unfold p_watch
  split
  · exact h5
  · split
    · exact h5
    · show σ.1 5 + 1 ≤ 8
      omega
theorem pk_upW (h : PK u σ) {w : Nat → Int32} : PK (u + 9) (upW σ i w) := h.wt (fun _ _ => rfl) (fun j hj => va_un hj) h.2.2
theorem pk_take (h : PK u σ) : PK (u + 9) (p_take σ i).2 := by
  unfold p_take
  split
  · exact h.id
  · split
    · exact pk_upW h
    · exact h.id
theorem pk_adm (h : PK u σ) : PK (u + 9) (p_adm σ i).2 := pk_upW h
theorem pk_rew (h : PK u σ) : PK (u + 9) (p_rew σ i y).2 := by
  unfold p_rew
  split
  · exact h.id
  · exact pk_upW h
theorem pk_unw (h : PK u σ) : PK (u + 9) (p_unw σ i) := h.wt (fun j hj => va_un hj) (fun j hj => va_un hj) (Nat.le_trans (Nat.sub_le _ _) h.2.2)
theorem PK.if1 (h : PK u σ) (h1 : ok = true → PK (u + 9) σ') : PK (u + 9) (if ok = true then σ' else σ) := by
  cases ok with
  | true => exact h1 rfl
  | false => exact h.id
theorem PK.if2 (h : PK u σ) (h1 : ok1 = true → ok2 = true → PK (u + 9) σ') : PK (u + 9) (if ok1 = true then (if ok2 = true then σ' else σ) else σ) := by
  cases ok1 with
  | true =>
    cases ok2 with
    | true => exact h1 rfl rfl
    | false => exact h.id
  | false => exact h.id
end Pk
