/-! ===== ticks ===== -/
theorem feG_go (L : rowT) (hn : ∀ m : Nat, m < 2 ^ 31 → ¬ nI m = -1) : ∀ k i m, m < i → i + k < 2 ^ 31 → (∀ j, j < m → L m 2 < L j 2) → (∀ j, j < i → L m 2 ≤ L j 2) → ∃ m', m' < i + k ∧ feG L i k (nI m) (L m 2) = nI m' ∧ (∀ j, j < m' → L m' 2 < L j 2) ∧ ∀ j, j < i + k → L m' 2 ≤ L j 2
  | 0, i, m, hm, _, h1, h2 => ⟨m, hm, rfl, h1, h2⟩
  | k + 1, i, m, hm, hk, h1, h2 => by
    unfold feG
    by_cases hc : L i 2 < L m 2
    · rw [if_pos (Or.inr hc)]
      obtain ⟨m', a, b, c, d⟩ := feG_go L hn k (i + 1) i (by omega) (by omega) (fun j hj => Int32.lt_of_lt_of_le hc (h2 j hj)) (fun j hj => by
        by_cases hj2 : j = i
        · rw [hj2]
          exact Int32.le_refl _
        · exact Int32.le_of_lt (Int32.lt_of_lt_of_le hc (h2 j (by omega))))
      exact ⟨m', by omega, b, c, fun j hj => d j (by omega)⟩
    · rw [if_neg (fun h => h.elim (hn m (by omega)) hc)]
      obtain ⟨m', a, b, c, d⟩ := feG_go L hn k (i + 1) m (by omega) (by omega) h1 (fun j hj => by
        by_cases hj2 : j = i
        · rw [hj2]
          exact Int32.not_lt.mp hc
        · exact h2 j (by omega))
      exact ⟨m', by omega, b, c, fun j hj => d j (by omega)⟩
theorem feG_spec {L : rowT} {n : Nat} (h0 : 0 < n) (hn : n < 2 ^ 31) : ∃ m, m < n ∧ feG L 0 n (-1) 0 = nI m ∧ (∀ j, j < m → L m 2 < L j 2) ∧ ∀ j, j < n → L m 2 ≤ L j 2 := by
  obtain ⟨k, rfl⟩ : ∃ k, n = k + 1 := ⟨n - 1, by omega⟩
  unfold feG
  rw [if_pos (Or.inl rfl)]
  obtain ⟨m', a, b, c, d⟩ := feG_go L (fun m hm => nI_m1 hm) k 1 0 (by omega) (by omega) (fun j hj => by omega) (fun j hj => by
    rw [show j = 0 by omega]
    exact Int32.le_refl _)
  exact ⟨m', by omega, b, c, fun j hj => d j (by omega)⟩
/-- the lease that ends first -/
def p_fe (σ : stT) : Nat := nN (feG (σ.2 3) 0 (σ.1 4) (-1) 0)
theorem p_fe_spec {σ : stT} (h0 : 0 < σ.1 4) (hn : σ.1 4 ≤ 8) : p_fe σ < σ.1 4 ∧ feG (σ.2 3) 0 (σ.1 4) (-1) 0 = nI (p_fe σ) ∧ (∀ j, j < p_fe σ → σ.2 3 (p_fe σ) 2 < σ.2 3 j 2) ∧ ∀ j, j < σ.1 4 → σ.2 3 (p_fe σ) 2 ≤ σ.2 3 j 2 := by
  obtain ⟨m, a, b, c, d⟩ := feG_spec (L := σ.2 3) h0 (by omega)
  have e : p_fe σ = m := by
    unfold p_fe
    rw [b, nN_nI (by omega)]
  rw [e]
  exact ⟨a, b, c, d⟩
def p_pass : Nat → Int32 → stT → Int32 × stT
  | 0, t, σ => (t, σ)
  | k + 1, t, σ => if σ.1 4 = 0 ∨ t < σ.2 3 (p_fe σ) 2 then (t, σ) else p_pass k (t - σ.2 3 (p_fe σ) 2) (p_ends (p_fe σ) (p_age (σ.2 3 (p_fe σ) 2) σ))
def p_tick (σ : stT) (t : Int32) : Int32 × stT :=
  (nI (σ.1 2) + t, (va_up (p_pass 9 t σ).2.1 2 (σ.1 2 + nN t), (p_age (p_pass 9 t σ).1 (p_pass 9 t σ).2).2))
section Tk
variable {s s' : am_S} {B b r n u a i : Nat} {σ : stT} {Z Z' : nmT} {G G' : rwT} {t0 : Int32}
theorem agR_at {L : rowT} {d : Int32} {n j : Nat} (hj : j < n) : agR L d 0 n j = upd (L j) 2 (L j 2 - d) := by
  rw [agR_eq]
  dsimp only
  rw [if_pos (by omega)]
theorem IA.age {d : Nat} (h : IA u σ) (hd : ∀ i, i < σ.1 4 → ∃ q : Nat, σ.2 3 i 2 = nI q ∧ d ≤ q ∧ q < 2 ^ 31) : IA u (p_age (nI d) σ) :=
  h.lease (fun j _ _ => rfl) (fun j h3 => va_un h3) (h.2.2.2.1.age hd) h.2.2.2.2.2.2.2.1 (Nat.le_refl _)
/-- what a pass's step needs -/
theorem pass_step {tt : Nat} (h : IA u σ) (h0 : ¬ (σ.1 4 = 0 ∨ nI tt < σ.2 3 (p_fe σ) 2)) (ht : tt ≤ 1000) : ∃ d : Nat, σ.2 3 (p_fe σ) 2 = nI d ∧ d ≤ tt ∧ p_fe σ < σ.1 4 ∧ IA u (p_age (nI d) σ) ∧ nI tt - nI d = nI (tt - d) ∧ (∀ j, j < p_fe σ → ∃ q : Nat, σ.2 3 j 2 = nI q ∧ d < q ∧ q ≤ 1000) ∧ ∀ j, j < σ.1 4 → ∃ q : Nat, σ.2 3 j 2 = nI q ∧ d ≤ q ∧ q ≤ 1000 := by
  obtain ⟨l1, l2, l3⟩ := h.2.2.2.1
  obtain ⟨f1, f2, f3, f4⟩ := p_fe_spec (σ := σ) (by omega) l1
  obtain ⟨-, -, d, -, -, -, -, -, -, d7, d8⟩ := l2 _ f1
  have hle : ¬ nI tt < nI d := fun hc => h0 (Or.inr (d7 ▸ hc))
  have hd : d ≤ tt := by
    have := Int32.not_lt.mp hle
    exact (nI_leI (by omega) (by omega)).mp this
  have hall : ∀ j, j < σ.1 4 → ∃ q : Nat, σ.2 3 j 2 = nI q ∧ d ≤ q ∧ q ≤ 1000 := fun j hj => by
    obtain ⟨-, -, q, -, -, -, -, -, -, q7, q8⟩ := l2 _ hj
    refine ⟨q, q7, ?_, q8⟩
    have := f4 j hj
    rw [d7, q7] at this
    exact (nI_leI (by omega) (by omega)).mp this
  refine ⟨d, d7, hd, f1, h.age fun i hi => ?_, nI_2 hd, fun j hj => ?_, hall⟩
  · obtain ⟨q, q1, q2, q3⟩ := hall i hi
    exact ⟨q, q1, q2, by omega⟩
  · obtain ⟨q, q1, q2, q3⟩ := hall j (by omega)
    refine ⟨q, q1, ?_, q3⟩
    have := f3 j hj
    rw [d7, q1] at this
    exact (nI_ltI (by omega) (by omega)).mp this
theorem pass_ind : ∀ k u tt (σ : stT), IA u σ → tt ≤ 1000 → σ.1 4 < k → u + k < 2 ^ 25 → ∃ tt' : Nat, tt' ≤ tt ∧ (p_pass k (nI tt) σ).1 = nI tt' ∧ IA (u + k) (p_pass k (nI tt) σ).2 ∧ (p_pass k (nI tt) σ).2.1 2 = σ.1 2 ∧ ∀ i, i < (p_pass k (nI tt) σ).2.1 4 → ∃ q : Nat, (p_pass k (nI tt) σ).2.2 3 i 2 = nI q ∧ tt' < q ∧ q ≤ 1000
  | 0, u, tt, σ, _, _, h4, _ => absurd h4 (Nat.not_lt_zero _)
  | k + 1, u, tt, σ, h, ht, h4, hu => by
    unfold p_pass
    by_cases hc : σ.1 4 = 0 ∨ nI tt < σ.2 3 (p_fe σ) 2
    · rw [if_pos hc]
      refine ⟨tt, Nat.le_refl _, rfl, h.mono (by omega), rfl, fun i hi => ?_⟩
      obtain ⟨l1, l2, l3⟩ := h.2.2.2.1
      obtain ⟨f1, f2, f3, f4⟩ := p_fe_spec (σ := σ) (Nat.lt_of_le_of_lt (Nat.zero_le _) hi) l1
      obtain ⟨-, -, q, -, -, -, -, -, -, q7, q8⟩ := l2 _ hi
      refine ⟨q, q7, ?_, q8⟩
      have h1 : nI tt < nI q := Int32.lt_of_lt_of_le (hc.resolve_left (by omega)) (q7 ▸ f4 i hi)
      exact (nI_ltI (by omega) (by omega)).mp h1
    · rw [if_neg hc]
      obtain ⟨d, e1, e2, e3, e4, e5, -, -⟩ := pass_step h hc ht
      rw [e1, e5]
      obtain ⟨g1, g2⟩ := e4.ends (i := p_fe σ) e3 (by omega)
      obtain ⟨tt', a1, a2, a3, a4, a5⟩ := pass_ind k (u + 1) (tt - d) _ g1 (by omega) (by
        rw [g2.1 4 (by omega)]
        change σ.1 4 - 1 < k
        omega) (by omega)
      refine ⟨tt', by omega, a2, a3.mono (by omega), ?_, a5⟩
      rw [a4, g2.1 2 (by omega)]
      rfl
theorem IA.tick {tt : Nat} (h : IA u σ) (h1 : 1 ≤ tt) (h2 : tt ≤ 1000) (hu : u + 9 < 2 ^ 25) : IA (u + 9) (p_tick σ (nI tt)).2 ∧ ILp (p_tick σ (nI tt)).2 := by
  obtain ⟨tt', a1, a2, a3, a4, a5⟩ := pass_ind 9 u tt σ h h2 (by have := h.2.2.2.1.1; omega) hu
  have hage := a3.age (d := tt') (fun i hi => by
    obtain ⟨q, q1, q2, q3⟩ := a5 i hi
    exact ⟨q, q1, by omega, by omega⟩)
  have b4 := h.2.2.2.2.2.2.2.2
  have eN : nN (nI tt) = tt := nN_nI (by omega)
  unfold p_tick
  rw [a2, eN]
  refine ⟨?_, fun i hi => ?_⟩
  · obtain ⟨g1, g2, g3, g4, g5, c1, c2, c3, c4⟩ := hage
    refine ⟨g1.cg rfl rfl rfl rfl rfl rfl rfl rfl rfl, g2, g3, g4, g5, c1, c2, c3, ?_⟩
    change σ.1 2 + tt ≤ 1000 * (u + 9)
    omega
  · change i < (p_pass 9 (nI tt) σ).2.1 4 at hi
    obtain ⟨q, q1, q2, q3⟩ := a5 i hi
    change agR ((p_pass 9 (nI tt) σ).2.2 3) (nI tt') 0 ((p_pass 9 (nI tt) σ).2.1 4) i 2 ≠ 0
    rw [agR_at hi]
    change (p_pass 9 (nI tt) σ).2.2 3 i 2 - nI tt' ≠ 0
    rw [q1, nI_2 (by omega)]
    exact nI_ne0 (by omega) (by omega)
/-! the class -/
theorem st_leaseAt_cell (h : SR s b r Z G) (hi : i < Z 4) (ha : cl_ tb_ct tb_mt B K_X8_leaseAt [.ref b, .int (nI i)] s = some (.inl (some (.ref a)), s)) (h' : SR s' b n Z' G') (hi' : i < Z' 4) (hc : s'.1 (b + 180) = s.1 (b + 180)) : LC s' a (G' 3 i) := by
  obtain ⟨hn, A, C, a1, a2, a3, a4⟩ := h.lw
  obtain ⟨hn', A', C', a1', a2', a3', a4'⟩ := h'.lw
  have ar : s.1 (b + 180) = some (arE "WatchedKeys$Lease" (fun j => b + 210 + j) A) := a1
  have e : b + 210 + A i = a := by
    rw [in_X8_leaseAt, dc_X8_leaseAt_0, if_neg (nI_pos (by omega))] at ha
    simp only [sr_9 h, eI_s, if_neg (nI_ge hi (by omega)), if_neg (show ¬ (8 : Int32) ≤ nI i from nI_ge (b := 8) (by omega) (by omega)), sr_l h, eA_s, ar_at ar (show i < 8 by omega)] at ha
    injection ha with ha
    injection ha with ha _
    injection ha with ha
    injection ha with ha
    injection ha with ha
  have e2 : A' i = A i := by
    have hh := a1'.symm.trans (hc.trans a1)
    injection hh with hh
    injection hh with hh
    injection hh with _ hh
    injection hh with _ hh
    injection hh with hh
    injection hh with hh
    injection hh with hh
    injection hh with hh
    have := congrFun hh i
    rw [if_pos (by omega), if_pos (by omega)] at this
    injection this with this
    omega
  rw [← e, ← e2, LC, a3' _ (a2'.1 i (by omega)), lf_cg (a4' i hi')]
theorem st_pass_lp (hB : B ≤ b) : ∀ k e u tt s (σ : stT) w4 w5, e + k = 9 → SS s b σ → IA u σ → tt ≤ 1000 → u + k < 2 ^ 24 → ∃ s' w3 w4' w5', rn_ tb_ct tb_mt B mm_X8_letPass 4 [.ref b, .int t0, .int (nI tt), .int (nI e), w4, w5] [] s = rn_ tb_ct tb_mt B mm_X8_letPass 84 [.ref b, .int t0, .int (p_pass k (nI tt) σ).1, w3, w4', w5'] [] s' ∧ so s s' b (b + 218) ∧ SS s' b (p_pass k (nI tt) σ).2 := by
  intro k
  induction k with
  | zero =>
    intro e u tt s σ w4 w5 he h hA ht hu
    refine ⟨s, .int (nI e), am_un, am_un, ?_, so_rfl, h⟩
    rw [dc_X8_letPass_4, if_pos (show (8 : Int32) < nI e from nI_lt (a := 8) (by omega) (by omega))]
    rfl
  | succ k ih =>
    intro e u tt s σ w4 w5 he h hA ht hu
    have n4 := SR.n4 h
    rw [dc_X8_letPass_4, if_neg (show ¬ (8 : Int32) < nI e from nI_nlt (b := e) (a := 8) (by omega) (by omega))]
    simp only [sr_cls h, eC_s, st_firstToEnd h, cI_s]
    unfold p_pass
    by_cases h0 : σ.1 4 = 0
    · have ef : feG (σ.2 3) 0 (σ.1 4) (-1) 0 = -1 := by
        rw [h0]
        rfl
      rw [ef, if_pos (Or.inl h0)]
      simp only [st_leaseAt_no h (x := -1) (Or.inl (by decide)), cA_n]
      exact ⟨s, _, _, _, rfl, so_rfl, h⟩
    · obtain ⟨f1, f2, f3, f4⟩ := p_fe_spec (σ := σ) (by omega) n4
      rw [f2]
      obtain ⟨a, ea, ca, l1, l2, -⟩ := st_leaseAt (B := B) h f1
      simp only [ea, cA_s, l_2 ca, eI_s]
      by_cases hc : nI tt < σ.2 3 (p_fe σ) 2
      · rw [if_neg (Int32.not_le.mpr hc), if_pos (Or.inr hc)]
        exact ⟨s, _, _, _, rfl, so_rfl, h⟩
      · have hcc : ¬ (σ.1 4 = 0 ∨ nI tt < σ.2 3 (p_fe σ) 2) := fun hq => hq.elim h0 hc
        rw [if_pos (Int32.not_lt.mp hc), if_neg hcc]
        obtain ⟨d, e1, e2, e3, e4, e5, -, -⟩ := pass_step hA hcc ht
        obtain ⟨s1, g1, o1, h1⟩ := st_age (B := B) h hB (σ.2 3 (p_fe σ) 2)
        have h1 : SS s1 b (p_age (σ.2 3 (p_fe σ) 2) σ) := h1
        have c1 := st_leaseAt_cell h f1 ea h1 f1 (o1.1 _ (by omega))
        obtain ⟨s2, g2, o2, q2, h2⟩ := st_removeLease (B := B) h1 hB (show p_fe σ < (p_age (σ.2 3 (p_fe σ) 2) σ).1 4 from f1)
        have h2 : SS s2 b (p_rl (p_fe σ) (p_age (σ.2 3 (p_fe σ) 2) σ)) := h2
        have c2 : LC s2 a ((p_age (σ.2 3 (p_fe σ) 2) σ).2 3 (p_fe σ)) := (q2 a l1).trans c1
        rw [e1] at h1 h2 c2 g1
        obtain ⟨s3, s4, g3, c3, g4, o4, h4⟩ := st_endLeased (B := B) (l := (p_age (nI d) σ).2 3 (p_fe σ) 0) h2 (e4.rl e3) (by omega) hB
        have h4 : SS s4 b (p_ends (p_fe σ) (p_age (nI d) σ)) := h4
        obtain ⟨m1, m2⟩ := e4.ends (i := p_fe σ) e3 (show u + 1 < 2 ^ 30 by omega)
        rw [e1, e5]
        obtain ⟨s5, w3, w4', w5', g5, o5, h5⟩ := ih (e + 1) (u + 1) (tt - d) s4 _ (.int (nI (p_fe σ))) (.ref a) (by omega) h4 m1 (by omega) (by omega)
        refine ⟨s5, w3, w4', w5', ?_, so_tr (so_up o1 (by omega) (by omega)) (so_tr o2 (so_tr o4 o5)), h5⟩
        simp only [sr_cls h, g1, cV_s, sr_cls h1, eC_s, g2, l_0 c2, eI_s, sr_cls h2, g3, cI_s, c3, g4, nI_1]
        exact g5
theorem st_tick {tt : Nat} (h : SS s b σ) (hA : IA u σ) (hu : u + 9 < 2 ^ 24) (hB : B ≤ b) (ht : tt ≤ 1000) : ∃ s', cl_ tb_ct tb_mt B K_X8_letPass [.ref b, .int (nI tt)] s = some (.inl (some (.int (p_tick σ (nI tt)).1)), s') ∧ so s s' b (b + 218) ∧ SS s' b (p_tick σ (nI tt)).2 := by
  obtain ⟨s1, w3, w4, w5, e1, o1, h1⟩ := st_pass_lp (B := B) (t0 := nI tt) hB 9 0 u tt s σ am_un am_un (Nat.zero_add _) h hA ht hu
  obtain ⟨tt', a1, a2, a3, a4, a5⟩ := pass_ind 9 u tt σ hA ht (by have := hA.2.2.2.1.1; omega) (by omega)
  obtain ⟨s2, e2, o2, h2⟩ := st_age (B := B) h1 hB (p_pass 9 (nI tt) σ).1
  have e7 := sr_7 h2
  rw [a4] at e7
  have eN : nN (nI tt) = tt := nN_nI (by omega)
  have hp := so_p (B := B) (M := mm_X8_letPass) (x := nI (σ.1 2) + nI tt) h2.o hB (show 5 ≤ 7 ∧ 7 ≤ 10 by omega)
  have hso : SO (am_set s2 b (.inr (7, stO (upd (sv ((p_pass 9 (nI tt) σ).2.1 0) (p_pass 9 (nI tt) σ).2.1) 7 (nI (σ.1 2) + nI tt)) b))) b (upd (sv ((p_pass 9 (nI tt) σ).2.1 0) (p_pass 9 (nI tt) σ).2.1) 7 (nI (σ.1 2) + nI tt)) := set_at
  have g7 : gI tb_ct (am_set s2 b (.inr (7, stO (upd (sv ((p_pass 9 (nI tt) σ).2.1 0) (p_pass 9 (nI tt) σ).2.1) 7 (nI (σ.1 2) + nI tt)) b))) b 7 7 = some (nI (σ.1 2) + nI tt) := gI_o hso rfl rfl rfl
  refine ⟨am_set s2 b (.inr (7, stO (upd (sv ((p_pass 9 (nI tt) σ).2.1 0) (p_pass 9 (nI tt) σ).2.1) 7 (nI (σ.1 2) + nI tt)) b)), ?_, so_tr o1 (so_tr (so_up o2 (by omega) (by omega)) (so_up so_set (by omega) (by omega))), ?_⟩
  · rw [in_X8_letPass, dc_X8_letPass_0, ← nI_0, e1, dc_X8_letPass_84]
    simp only [sr_cls h1, eC_s, e2, cV_s, e7, eI_s, hp, eS_s, g7]
    rfl
  · refine h2.setO (Z' := va_up (p_pass 9 (nI tt) σ).2.1 2 (σ.1 2 + nN (nI tt))) ⟨rfl, rfl, rfl, rfl, rfl, rfl, rfl, rfl⟩ so_set (hso.cg fun k k1 k2 => ?_)
    match k, k1, k2 with
    | 5, _, _ => rfl
    | 6, _, _ => rfl
    | 7, _, _ =>
      change nI (σ.1 2) + nI tt = nI (σ.1 2 + nN (nI tt))
      rw [nI_add, eN]
    | 8, _, _ => rfl
    | 9, _, _ => rfl
    | 10, _, _ => rfl
    | k + 11, _, k2 => omega
end Tk
