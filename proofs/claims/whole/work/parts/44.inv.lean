/-! ===== what is always so of keys, events and base (pure) ===== -/
def vOk (x : Int32) : Prop := (-1000000 : Int32) ≤ x ∧ x ≤ 1000000
def kOk (x : Int32) : Prop := ¬ x < 0 ∧ x ≤ 999
theorem vOk_ne {x : Int32} (h : vOk x) : x ≠ NOV := by
  intro e
  subst e
  exact absurd h.1 (by decide)
/-- how many events of a key are behind one -/
def vMany (E : rowT) (m e : Nat) (key : Int32) : Nat := cn (fun j => decide (E j 2 = key)) (e + 1) (m - (e + 1))
/-- a key's version and its events -/
def okVer (E : rowT) (m tp rv : Nat) (k : Nat → Int32) : Prop := ∃ v c : Nat, k 4 = nI v ∧ 1 ≤ v ∧ v ≤ tp ∧ k 2 = nI c ∧ c ≤ rv ∧ ∀ e, e < m → E e 2 = k 0 → (vMany E m e (k 0) < v → E e 1 = 0 ∧ E e 6 = nI (v - vMany E m e (k 0)) ∧ nI c ≤ E e 0) ∧ (v ≤ vMany E m e (k 0) → E e 0 < nI c)
def IK (Z : nmT) (G : rwT) : Prop := okRows Z G ∧
  (∀ i, i < Z 3 → kOk (G 0 i 0) ∧ vOk (G 0 i 1) ∧ ¬ G 0 i 5 < 0 ∧ okVer (G 2) (Z 6) (Z 7 + Z 6) (Z 0) (G 0 i)) ∧
  (∀ e, e < Z 6 → kOk (G 2 e 2) ∧ vOk (G 2 e 3) ∧ ∃ re : Nat, G 2 e 0 = nI re ∧ Z 1 < re ∧ re ≤ Z 0) ∧
  (∀ k, k ≤ Z 6 → ∀ i, i < (p_row Z G k).1 → kOk ((p_row Z G k).2 i 0) ∧ vOk ((p_row Z G k).2 i 1)) ∧
  (∀ k, k < Z 6 → (k = 0 ∨ G 2 (k - 1) 0 ≠ G 2 k 0) → (p_row Z G k).1 ≤ 16) ∧
  ((Z 6 = 0 ∨ G 2 (Z 6 - 1) 0 ≠ nI (Z 0)) → Z 3 ≤ 16) ∧ Z 12 ≤ 16 ∧ Z 1 ≤ Z 0 ∧ Z 0 < 2 ^ 30
theorem p_row_cg {Z Z' : nmT} {G G' : rwT} (h12 : Z' 12 = Z 12) (h1 : G' 1 = G 1) : ∀ k, (∀ j, j < k → G' 2 j = G 2 j) → p_row Z' G' k = p_row Z G k
  | 0, _ => by
    unfold p_row
    rw [h12, h1]
  | k + 1, h => by
    unfold p_row
    rw [p_row_cg h12 h1 k fun j hj => h j (by omega), h k (by omega)]
theorem IK.cg {Z Z' : nmT} {G G' : rwT} (h : IK Z G) (h0 : Z' 0 = Z 0) (h1 : Z' 1 = Z 1) (h3 : Z' 3 = Z 3) (h6 : Z' 6 = Z 6) (h7 : Z' 7 = Z 7) (h12 : Z' 12 = Z 12) (g0 : G' 0 = G 0) (g1 : G' 1 = G 1) (g2 : G' 2 = G 2) : IK Z' G' := by
  have e : ∀ k, p_row Z' G' k = p_row Z G k := fun k => p_row_cg h12 g1 k fun j _ => by rw [g2]
  unfold IK okRows at h ⊢
  simp only [e, h0, h1, h3, h6, h7, h12, g0, g2]
  exact h
/-- a change begins -/
theorem IK.begin {Z : nmT} {G : rwT} (h : IK Z G) (h3 : Z 3 ≤ 16) (hb : Z 0 + 1 < 2 ^ 30) : IK (va_up Z 0 (Z 0 + 1)) G := by
  obtain ⟨a1, a2, a3, a4, a5, a6, a7, a8, a9⟩ := h
  have e : ∀ k, p_row (va_up Z 0 (Z 0 + 1)) G k = p_row Z G k := fun k => p_row_cg (Z' := va_up Z 0 (Z 0 + 1)) (Z := Z) (G := G) rfl rfl k fun j _ => rfl
  unfold IK okRows at *
  simp only [e]
  refine ⟨a1, fun i hi => ?_, fun e he => ?_, a4, a5, fun _ => h3, a7, Nat.le_succ_of_le a8, hb⟩
  · obtain ⟨b1, b2, b3, v, c, c1, c2, c3, c4, c5, c6⟩ := a2 i hi
    exact ⟨b1, b2, b3, v, c, c1, c2, c3, c4, Nat.le_succ_of_le c5, c6⟩
  · obtain ⟨b1, b2, re, c1, c2, c3⟩ := a3 e he
    exact ⟨b1, b2, re, c1, c2, Nat.le_succ_of_le c3⟩
section Ap
variable {E : rowT} {m tp rv e : Nat} {ev k : Nat → Int32} {key : Int32}
theorem vMany_app (he : e < m) : vMany (va_up E m ev) (m + 1) e key = vMany E m e key + (if ev 2 = key then 1 else 0) := by
  unfold vMany
  rw [show m + 1 - (e + 1) = (m - (e + 1)) + 1 by omega, cn_add, cn_cg (q := fun j => decide (E j 2 = key)) (m - (e + 1)) (e + 1) fun j h1 h2 => by rw [va_un (by omega)], show e + 1 + (m - (e + 1)) = m by omega]
  unfold cn
  rw [va_us]
  by_cases h : ev 2 = key
  · rw [decide_eq_true h, if_pos rfl, if_pos h]
    rfl
  · rw [decide_eq_false h, if_neg h]
    rfl
theorem vMany_end : vMany (va_up E m ev) (m + 1) m key = 0 := by
  unfold vMany
  rw [Nat.sub_self]
  rfl
theorem okVer_other (h : okVer E m tp rv k) (hk : ev 2 ≠ k 0) : okVer (va_up E m ev) (m + 1) (tp + 1) rv k := by
  obtain ⟨v, c, c1, c2, c3, c4, c5, c6⟩ := h
  refine ⟨v, c, c1, c2, by omega, c4, c5, fun e he ek => ?_⟩
  by_cases hm : e = m
  · subst hm
    rw [va_us] at ek
    exact absurd ek hk
  · rw [va_un hm] at ek ⊢
    rw [vMany_app (by omega), if_neg hk, Nat.add_zero]
    exact c6 e (by omega) ek
theorem okVer_over {v' w l bf : Int32} (h : okVer E m tp rv k) (hr : rv < 2 ^ 30) : okVer (va_up E m (ev7 (nI rv) 0 (k 0) v' bf l (k 4 + 1))) (m + 1) (tp + 1) rv (k6 (k 0) w (k 2) (nI rv) (k 4 + 1) l) := by
  obtain ⟨v, c, c1, c2, c3, c4, c5, c6⟩ := h
  refine ⟨v + 1, c, ?_, by omega, by omega, c4, c5, fun e he ek => ?_⟩
  · change k 4 + 1 = nI (v + 1)
    rw [c1, nI_1]
  · change va_up E m _ e 2 = k 0 at ek
    change (vMany _ (m + 1) e (k 0) < v + 1 → va_up E m _ e 1 = 0 ∧ va_up E m _ e 6 = nI (v + 1 - vMany _ (m + 1) e (k 0)) ∧ nI c ≤ va_up E m _ e 0) ∧ (v + 1 ≤ vMany _ (m + 1) e (k 0) → va_up E m _ e 0 < nI c)
    by_cases hm : e = m
    · subst hm
      rw [va_us, vMany_end]
      refine ⟨fun _ => ⟨rfl, ?_, nI_le c5 (by omega)⟩, fun hc => by omega⟩
      change k 4 + 1 = nI (v + 1 - 0)
      rw [c1, nI_1]
      rfl
    · rw [va_un hm] at ek ⊢
      rw [vMany_app (by omega), if_pos (show ev7 (nI rv) 0 (k 0) v' bf l (k 4 + 1) 2 = k 0 from rfl)]
      obtain ⟨d1, d2⟩ := c6 e (by omega) ek
      refine ⟨fun hc => ?_, fun hc => d2 (by omega)⟩
      obtain ⟨f1, f2, f3⟩ := d1 (by omega)
      refine ⟨f1, ?_, f3⟩
      rw [f2, Nat.add_sub_add_right]
theorem okVer_new {v' w l bf : Int32} (h : ∀ e, e < m → E e 2 = key → E e 0 < nI rv) : okVer (va_up E m (ev7 (nI rv) 0 key v' bf l 1)) (m + 1) (tp + 1) rv (k6 key w (nI rv) (nI rv) 1 l) := by
  refine ⟨1, rv, rfl, by omega, by omega, rfl, Nat.le_refl _, fun e he ek => ?_⟩
  change va_up E m _ e 2 = key at ek
  change (vMany _ (m + 1) e key < 1 → va_up E m _ e 1 = 0 ∧ va_up E m _ e 6 = nI (1 - vMany _ (m + 1) e key) ∧ nI rv ≤ va_up E m _ e 0) ∧ (1 ≤ vMany _ (m + 1) e key → va_up E m _ e 0 < nI rv)
  by_cases hm : e = m
  · subst hm
    rw [va_us, vMany_end]
    exact ⟨fun _ => ⟨rfl, rfl, Int32.le_refl _⟩, fun hc => by omega⟩
  · rw [va_un hm] at ek ⊢
    rw [vMany_app (by omega)]
    have e2 : ev7 (nI rv) 0 key v' bf l 1 2 = key := rfl
    rw [if_pos e2]
    exact ⟨fun hc => by omega, fun _ => h e (by omega) ek⟩
end Ap
section Ik
variable {Z Z' : nmT} {G G' : rwT} {ev : Nat → Int32} {key v l : Int32}
/-- one event more -/
theorem IK.app (h : IK Z G) (z0 : Z' 0 = Z 0) (z1 : Z' 1 = Z 1) (z6 : Z' 6 = Z 6 + 1) (z7 : Z' 7 = Z 7) (z12 : Z' 12 = Z 12) (g1 : G' 1 = G 1) (g2 : G' 2 = va_up (G 2) (Z 6) ev) (hev : okEv (p_row Z G (Z 6)) ev) (h0 : ev 0 = nI (Z 0)) (hk2 : kOk (ev 2)) (hv3 : vOk (ev 3)) (hn : Z' 3 ≤ 22) (hgo : (goOn (p_row Z G (Z 6)) ev).1 = Z' 3) (hgo2 : ∀ i, i < Z' 3 → G' 0 i 0 = (goOn (p_row Z G (Z 6)) ev).2 i 0 ∧ G' 0 i 1 = (goOn (p_row Z G (Z 6)) ev).2 i 1) (hkey : ∀ i, i < Z' 3 → kOk (G' 0 i 0) ∧ vOk (G' 0 i 1) ∧ ¬ G' 0 i 5 < 0 ∧ okVer (va_up (G 2) (Z 6) ev) (Z 6 + 1) (Z 7 + Z 6 + 1) (Z 0) (G' 0 i)) (hZ1 : Z 1 < Z 0) : IK Z' G' := by
  obtain ⟨⟨r1, r2, r3, r4, r5⟩, a2, a3, a4, a5, a6, a7, a8, a9⟩ := h
  have e : ∀ k, k ≤ Z 6 → p_row Z' G' k = p_row Z G k := fun k hk => p_row_cg z12 g1 k fun j hj => by rw [g2, va_un (by omega)]
  have eN : p_row Z' G' (Z 6 + 1) = goOn (p_row Z G (Z 6)) ev := by
    change goOn (p_row Z' G' (Z 6)) (G' 2 (Z 6)) = _
    rw [e _ (Nat.le_refl _), g2, va_us]
  unfold IK okRows
  rw [z0, z1, z6, z7, z12, g2]
  refine ⟨⟨fun k hk => ?_, fun k hk => ?_, ?_, ?_, fun i j hij hj => ?_⟩, ?_, fun e' he => ?_, fun k hk => ?_, fun k hk hb => ?_, ?_, a7, a8, a9⟩
  · rw [e k (by omega)]
    by_cases hk2 : k = Z 6
    · subst hk2
      rw [va_us]
      exact hev
    · rw [va_un hk2]
      exact r1 k (by omega)
  · by_cases hk2 : k = Z 6 + 1
    · subst hk2
      rw [eN]
      exact ⟨srt_go (r2 _ (Nat.le_refl _)).1, by rw [hgo]; exact hn⟩
    · rw [e k (by omega)]
      exact r2 k (by omega)
  · rw [eN, hgo]
  · rw [eN]
    exact hgo2
  · by_cases hj2 : j = Z 6
    · subst hj2
      rw [va_us, h0]
      by_cases hi2 : i = Z 6
      · subst hi2
        rw [va_us, h0]
        exact Int32.le_refl _
      · rw [va_un hi2]
        obtain ⟨-, -, re, c1, c2, c3⟩ := a3 i (by omega)
        rw [c1]
        exact nI_le c3 (by omega)
    · rw [va_un hj2, va_un (by omega)]
      exact r5 i j hij (by omega)
  · rw [← Nat.add_assoc]
    exact hkey
  · by_cases he2 : e' = Z 6
    · subst he2
      rw [va_us]
      exact ⟨hk2, hv3, Z 0, h0, hZ1, Nat.le_refl _⟩
    · rw [va_un he2]
      exact a3 e' (by omega)
  · by_cases hk2 : k = Z 6 + 1
    · subst hk2
      rw [eN, hgo]
      intro i hi
      rw [← (hgo2 i hi).1, ← (hgo2 i hi).2]
      exact ⟨(hkey i hi).1, (hkey i hi).2.1⟩
    · rw [e k (by omega)]
      exact a4 k (by omega)
  · rw [e k (by omega)]
    by_cases hk2 : k = Z 6
    · subst hk2
      rw [r3]
      refine a6 ?_
      rcases hb with hb | hb
      · exact Or.inl hb
      · by_cases h60 : Z 6 = 0
        · exact Or.inl h60
        · right
          rw [va_us, va_un (by omega), h0] at hb
          exact hb
    · refine a5 k (by omega) ?_
      rcases hb with hb | hb
      · exact Or.inl hb
      · by_cases hk0 : k = 0
        · exact Or.inl hk0
        · right
          rw [va_un hk2, va_un (by omega)] at hb
          exact hb
  · intro hb
    rcases hb with hb | hb
    · omega
    · rw [Nat.add_sub_cancel, va_us] at hb
      exact absurd h0 hb
theorem IK.isS (h : IK Z G) : srt (G 0) (Z 3) := by
  obtain ⟨⟨-, r2, r3, r4, -⟩, -⟩ := h
  intro i j hij hj
  rw [(r4 i (by omega)).1, (r4 j hj).1]
  exact (r2 _ (Nat.le_refl _)).1 i j hij (by rw [r3]; exact hj)
theorem IK.fq (h : IK Z G) : pF (p_row Z G (Z 6)).2 (p_row Z G (Z 6)).1 key = pF (G 0) (Z 3) key := by
  obtain ⟨⟨-, -, r3, r4, -⟩, -⟩ := h
  rw [r3]
  exact pF_cg fun i hi => (r4 i hi).1.symm
theorem IK.iq (h : IK Z G) : pI (p_row Z G (Z 6)).2 (p_row Z G (Z 6)).1 key = pI (G 0) (Z 3) key := by
  obtain ⟨⟨-, -, r3, r4, -⟩, -⟩ := h
  rw [r3]
  exact pI_cg fun i hi => (r4 i hi).1.symm
theorem IK.wr (h : IK Z G) (hk : kOk key) (hv : vOk v) (hl : ¬ l < 0) (hn : pF (G 0) (Z 3) key < Z 3 ∨ Z 3 < 22) (hf : ¬ pF (G 0) (Z 3) key < Z 3 → ∀ e, e < Z 6 → G 2 e 2 = key → G 2 e 0 < nI (Z 0)) (hZ1 : Z 1 < Z 0) : IK (p_wr Z G (nI (Z 0)) key v l).1 (p_wr Z G (nI (Z 0)) key v l).2 := by
  have hS := h.isS
  have hPF := h.fq (key := key)
  have hPI := h.iq (key := key)
  obtain ⟨⟨r1, r2, r3, r4, r5⟩, a2, a3, a4, a5, a6, a7, a8, a9⟩ := id h
  unfold p_wr
  by_cases hq : pF (G 0) (Z 3) key < Z 3
  · simp only [if_pos hq]
    have eK := pF_eq hq
    have hq22 : Z 3 ≤ 22 := by rw [← r3]; exact (r2 _ (Nat.le_refl _)).2
    have ego : ∀ (x4 x5 x6 : Int32), goOn (p_row Z G (Z 6)) (ev7 (nI (Z 0)) 0 key v x4 x5 x6) = (Z 3, va_up (p_row Z G (Z 6)).2 (pF (G 0) (Z 3) key) (k2 key v)) := by
      intro x4 x5 x6
      unfold goOn
      rw [if_neg (show ¬ ev7 (nI (Z 0)) 0 key v x4 x5 x6 1 = 1 by exact (by decide : ¬ (0 : Int32) = 1))]
      rw [show ev7 (nI (Z 0)) 0 key v x4 x5 x6 2 = key from rfl, hPF, r3, if_pos hq]
      rfl
    refine h.app rfl rfl rfl rfl rfl rfl rfl ⟨Or.inl rfl, Or.inl ⟨?_, ?_, ?_⟩⟩ rfl hk hv hq22 (by rw [ego]; rfl) ?_ ?_ hZ1
    · rw [show ∀ x4 x5 x6, ev7 (nI (Z 0)) 0 key v x4 x5 x6 2 = key from fun _ _ _ => rfl, hPF, r3]
      exact hq
    · change G 0 (pF (G 0) (Z 3) key) 1 = (p_row Z G (Z 6)).2 (pF (p_row Z G (Z 6)).2 (p_row Z G (Z 6)).1 key) 1
      rw [hPF]
      exact (r4 _ hq).2
    · exact vOk_ne (a2 _ hq).2.1
    · intro i hi
      rw [ego]
      change (va_up (G 0) _ _ : rowT) i 0 = (va_up _ _ _ : rowT) i 0 ∧ (va_up (G 0) _ _ : rowT) i 1 = (va_up _ _ _ : rowT) i 1
      by_cases hi2 : i = pF (G 0) (Z 3) key
      · subst hi2
        rw [va_us, va_us]
        exact ⟨rfl, rfl⟩
      · rw [va_un hi2, va_un hi2]
        exact r4 i hi
    · intro i hi
      change kOk (va_up (G 0) _ _ i 0) ∧ vOk (va_up (G 0) _ _ i 1) ∧ ¬ va_up (G 0) _ _ i 5 < 0 ∧ okVer _ _ _ _ (va_up (G 0) _ _ i)
      by_cases hi2 : i = pF (G 0) (Z 3) key
      · rw [hi2, va_us]
        refine ⟨hk, hv, hl, ?_⟩
        have := okVer_over (v' := v) (w := v) (l := l) (bf := G 0 (pF (G 0) (Z 3) key) 1) (a2 _ hq).2.2.2 a9
        rw [eK] at this
        exact this
      · rw [va_un hi2]
        obtain ⟨b1, b2, b3, b4⟩ := a2 i hi
        refine ⟨b1, b2, b3, okVer_other b4 ?_⟩
        intro hc
        exact hi2 (srt_inj hS hi hq (hc.symm.trans eK.symm))
  · simp only [if_neg hq]
    have hn22 := hn.resolve_left hq
    have ego : ∀ (x4 x5 x6 : Int32), goOn (p_row Z G (Z 6)) (ev7 (nI (Z 0)) 0 key v x4 x5 x6) = (Z 3 + 1, insR (p_row Z G (Z 6)).2 (pI (G 0) (Z 3) key) (Z 3) (k2 key v)) := by
      intro x4 x5 x6
      unfold goOn
      rw [if_neg (show ¬ ev7 (nI (Z 0)) 0 key v x4 x5 x6 1 = 1 by exact (by decide : ¬ (0 : Int32) = 1))]
      rw [show ev7 (nI (Z 0)) 0 key v x4 x5 x6 2 = key from rfl, hPF, hPI, r3, if_neg hq]
      rfl
    have hple : pI (G 0) (Z 3) key ≤ Z 3 := pI_le
    refine h.app rfl rfl rfl rfl rfl rfl rfl ⟨Or.inl rfl, Or.inr ⟨?_, rfl, rfl⟩⟩ rfl hk hv hn22 (by rw [ego]; rfl) ?_ ?_ hZ1
    · rw [show ∀ x4 x5 x6, ev7 (nI (Z 0)) 0 key v x4 x5 x6 2 = key from fun _ _ _ => rfl, hPF, r3]
      exact hq
    · intro i hi
      rw [ego]
      change i < Z 3 + 1 at hi
      change insR (G 0) _ _ _ i 0 = insR _ _ _ _ i 0 ∧ insR (G 0) _ _ _ i 1 = insR _ _ _ _ i 1
      unfold insR
      by_cases hi2 : i = pI (G 0) (Z 3) key
      · rw [if_pos hi2, if_pos hi2]
        exact ⟨rfl, rfl⟩
      · rw [if_neg hi2, if_neg hi2]
        by_cases hi3 : pI (G 0) (Z 3) key < i ∧ i ≤ Z 3
        · rw [if_pos hi3, if_pos hi3]
          exact r4 _ (by omega)
        · rw [if_neg hi3, if_neg hi3]
          exact r4 _ (by omega)
    · intro i hi
      change i < Z 3 + 1 at hi
      change kOk (insR (G 0) _ _ _ i 0) ∧ vOk (insR (G 0) _ _ _ i 1) ∧ ¬ insR (G 0) _ _ _ i 5 < 0 ∧ okVer _ _ _ _ (insR (G 0) _ _ _ i)
      have oth : ∀ j, j < Z 3 → kOk (G 0 j 0) ∧ vOk (G 0 j 1) ∧ ¬ G 0 j 5 < 0 ∧ okVer (va_up (G 2) (Z 6) (ev7 (nI (Z 0)) 0 key v NOV l 1)) (Z 6 + 1) (Z 7 + Z 6 + 1) (Z 0) (G 0 j) := by
        intro j hj
        obtain ⟨b1, b2, b3, b4⟩ := a2 j hj
        refine ⟨b1, b2, b3, okVer_other b4 ?_⟩
        intro hc
        exact hq (pF_of hS hj hc.symm ▸ hj)
      unfold insR
      by_cases hi2 : i = pI (G 0) (Z 3) key
      · rw [if_pos hi2]
        exact ⟨hk, hv, hl, okVer_new (hf hq)⟩
      · rw [if_neg hi2]
        by_cases hi3 : pI (G 0) (Z 3) key < i ∧ i ≤ Z 3
        · rw [if_pos hi3]
          exact oth _ (by omega)
        · rw [if_neg hi3]
          exact oth _ (by omega)
theorem IK.de (h : IK Z G) {i : Nat} (hi : i < Z 3) (hZ1 : Z 1 < Z 0) : IK (p_de Z G (nI (Z 0)) i).1 (p_de Z G (nI (Z 0)) i).2 := by
  have hS := h.isS
  have hPF := h.fq (key := G 0 i 0)
  obtain ⟨⟨r1, r2, r3, r4, r5⟩, a2, a3, a4, a5, a6, a7, a8, a9⟩ := id h
  have hq : pF (G 0) (Z 3) (G 0 i 0) = i := pF_of hS hi rfl
  rw [hq] at hPF
  have hq22 : Z 3 ≤ 22 := by rw [← r3]; exact (r2 _ (Nat.le_refl _)).2
  unfold p_de
  have ego : ∀ (x3 x4 x5 x6 : Int32), goOn (p_row Z G (Z 6)) (ev7 (nI (Z 0)) 1 (G 0 i 0) x3 x4 x5 x6) = (Z 3 - 1, delR (p_row Z G (Z 6)).2 i (Z 3)) := by
    intro x3 x4 x5 x6
    unfold goOn
    rw [if_pos (show ev7 (nI (Z 0)) 1 (G 0 i 0) x3 x4 x5 x6 1 = 1 from rfl)]
    rw [show ev7 (nI (Z 0)) 1 (G 0 i 0) x3 x4 x5 x6 2 = G 0 i 0 from rfl, hPF, r3, if_pos hi]
  refine h.app rfl rfl rfl rfl rfl rfl rfl ⟨Or.inr rfl, Or.inl ⟨?_, ?_, ?_⟩⟩ rfl (a2 i hi).1 ⟨(by decide : (-1000000 : Int32) ≤ 0), (by decide : (0 : Int32) ≤ 1000000)⟩ (show Z 3 - 1 ≤ 22 by omega) (by rw [ego]; rfl) ?_ ?_ hZ1
  · rw [show ∀ x3 x4 x5 x6, ev7 (nI (Z 0)) 1 (G 0 i 0) x3 x4 x5 x6 2 = G 0 i 0 from fun _ _ _ _ => rfl, hPF, r3]
    exact hi
  · change G 0 i 1 = (p_row Z G (Z 6)).2 (pF (p_row Z G (Z 6)).2 (p_row Z G (Z 6)).1 (G 0 i 0)) 1
    rw [hPF]
    exact (r4 _ hi).2
  · exact vOk_ne (a2 _ hi).2.1
  · intro j hj
    rw [ego]
    change j < Z 3 - 1 at hj
    change delR (G 0) _ _ j 0 = delR _ _ _ j 0 ∧ delR (G 0) _ _ j 1 = delR _ _ _ j 1
    unfold delR
    by_cases hj2 : i ≤ j ∧ j + 1 < Z 3
    · rw [if_pos hj2, if_pos hj2]
      exact r4 _ (by omega)
    · rw [if_neg hj2, if_neg hj2]
      exact r4 _ (by omega)
  · intro j hj
    change j < Z 3 - 1 at hj
    have oth : ∀ j, j < Z 3 → j ≠ i → kOk (G 0 j 0) ∧ vOk (G 0 j 1) ∧ ¬ G 0 j 5 < 0 ∧ okVer (va_up (G 2) (Z 6) (ev7 (nI (Z 0)) 1 (G 0 i 0) 0 (G 0 i 1) (G 0 i 5) (G 0 i 4))) (Z 6 + 1) (Z 7 + Z 6 + 1) (Z 0) (G 0 j) := by
      intro j hj hji
      obtain ⟨b1, b2, b3, b4⟩ := a2 j hj
      refine ⟨b1, b2, b3, okVer_other b4 ?_⟩
      intro hc
      exact hji (srt_inj hS hj hi hc.symm)
    change kOk (delR (G 0) _ _ j 0) ∧ vOk (delR (G 0) _ _ j 1) ∧ ¬ delR (G 0) _ _ j 5 < 0 ∧ okVer _ _ _ _ (delR (G 0) _ _ j)
    unfold delR
    by_cases hj2 : i ≤ j ∧ j + 1 < Z 3
    · rw [if_pos hj2]
      exact oth _ (by omega) (by omega)
    · rw [if_neg hj2]
      exact oth _ (by omega) (by omega)
/-! compaction -/
theorem p_row_co (x : Int32) : ∀ k, p_row (p_co Z G x).1 (p_co Z G x).2 k = p_row Z G (k + p_many Z G x)
  | 0 => by
    rw [Nat.zero_add]
    rfl
  | k + 1 => by
    change goOn (p_row (p_co Z G x).1 (p_co Z G x).2 k) (G 2 (k + p_many Z G x)) = _
    rw [p_row_co x k, show k + 1 + p_many Z G x = (k + p_many Z G x) + 1 by omega]
    rfl
theorem vMany_drop {E : rowT} {m g e : Nat} {key : Int32} (hg : g ≤ m) : vMany (fun i => E (i + g)) (m - g) e key = vMany E m (e + g) key := by
  unfold vMany
  have sh : ∀ (p : Nat → Bool) (k i : Nat), cn (fun j => p (j + g)) i k = cn p (i + g) k := by
    intro p k
    induction k with
    | zero => intro i; rfl
    | succ k ih =>
      intro i
      rw [cn_s, cn_s, ih (i + 1), show i + 1 + g = i + g + 1 by omega]
  rw [sh (fun j => decide (E j 2 = key)), show m - g - (e + 1) = m - (e + g + 1) by omega, show e + 1 + g = e + g + 1 by omega]
/-- all up to x goes: x is a revision that is not behind the present one and not ahead of what is compacted -/
theorem IK.co (h : IK Z G) (h3 : Z 3 ≤ 16) {x : Nat} (h2 : x ≤ Z 0) : IK (p_co Z G (nI x)).1 (p_co Z G (nI x)).2 := by
  obtain ⟨⟨r1, r2, r3, r4, r5⟩, a2, a3, a4, a5, a6, a7, a8, a9⟩ := id h
  have hg : p_many Z G (nI x) ≤ Z 6 := p_many_le
  have eN : nN (nI x) = x := nN_nI (by omega)
  have hgt : ∀ e, p_many Z G (nI x) ≤ e → e < Z 6 → ¬ G 2 e 0 ≤ nI x := by
    intro e he1 he2 hc
    have := fi_yes (fun i => !decide (G 2 i 0 ≤ nI x)) (Z 6) 0 (by
      change p_many Z G (nI x) < 0 + Z 6
      omega)
    simp only [Bool.not_eq_true', decide_eq_false_iff_not] at this
    exact this (Int32.le_trans (r5 _ e he1 he2) hc)
  have hle : ∀ e, e < p_many Z G (nI x) → G 2 e 0 ≤ nI x := by
    intro e he
    have := fi_no (fun i => !decide (G 2 i 0 ≤ nI x)) (Z 6) 0 e (by omega) he
    simp only [Bool.not_eq_false', decide_eq_true_eq] at this
    exact this
  have h12 : (p_row Z G (p_many Z G (nI x))).1 ≤ 16 := by
    by_cases hc : p_many Z G (nI x) < Z 6
    · refine a5 _ hc ?_
      by_cases h0 : p_many Z G (nI x) = 0
      · exact Or.inl h0
      · right
        intro e
        exact hgt _ (Nat.le_refl _) hc (e ▸ hle _ (by omega))
    · have e6 : p_many Z G (nI x) = Z 6 := by omega
      rw [e6, r3]
      exact h3
  have z6 : (p_co Z G (nI x)).1 6 = Z 6 - p_many Z G (nI x) := rfl
  have z1 : (p_co Z G (nI x)).1 1 = x := eN
  have z3 : (p_co Z G (nI x)).1 3 = Z 3 := rfl
  have z0 : (p_co Z G (nI x)).1 0 = Z 0 := rfl
  have z7 : (p_co Z G (nI x)).1 7 = Z 7 + p_many Z G (nI x) := rfl
  have z12 : (p_co Z G (nI x)).1 12 = (p_row Z G (p_many Z G (nI x))).1 := rfl
  have g2 : (p_co Z G (nI x)).2 2 = fun i => G 2 (i + p_many Z G (nI x)) := rfl
  have g0 : (p_co Z G (nI x)).2 0 = G 0 := rfl
  have es : Z 6 - p_many Z G (nI x) + p_many Z G (nI x) = Z 6 := by omega
  unfold IK okRows
  simp only [p_row_co, z6, z1, z3, z0, z7, z12, g2, g0, es]
  refine ⟨⟨fun k hk => r1 _ (by omega), fun k hk => r2 _ (by omega), r3, r4, fun i j hij hj => r5 _ _ (by omega) (by omega)⟩, fun i hi => ?_, fun e he => ?_, fun k hk => a4 _ (by omega), fun k hk hb => ?_, fun _ => h3, h12, h2, a9⟩
  · obtain ⟨b1, b2, b3, v, c, c1, c2, c3, c4, c5, c6⟩ := a2 i hi
    refine ⟨b1, b2, b3, v, c, c1, c2, by omega, c4, c5, fun e he ek => ?_⟩
    rw [vMany_drop hg]
    exact c6 _ (by omega) ek
  · obtain ⟨b1, b2, re, c1, c2, c3⟩ := a3 (e + p_many Z G (nI x)) (by omega)
    refine ⟨b1, b2, re, c1, ?_, c3⟩
    have := hgt (e + p_many Z G (nI x)) (by omega) (by omega)
    rw [c1, nI_leI (by omega) (by omega)] at this
    omega
  · rcases hb with hb | hb
    · rw [hb, Nat.zero_add]
      exact h12
    · by_cases hk0 : k = 0
      · rw [hk0, Nat.zero_add]
        exact h12
      · refine a5 _ (by omega) (Or.inr ?_)
        rw [show k + p_many Z G (nI x) - 1 = k - 1 + p_many Z G (nI x) by omega]
        exact hb
end Ik
