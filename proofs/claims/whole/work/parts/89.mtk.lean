/-! ===== ticks, one at a time and many at once (pure) ===== -/
def setT (t : Nat) (σ : stT) : stT := (va_up σ.1 2 t, σ.2)
def p_ez : Nat → Nat → stT → stT
  | 0, _, σ => σ
  | k + 1, i, σ => if σ.1 4 ≤ i then σ else if σ.2 3 i 2 = 0 then p_ez k i (p_ends i σ) else p_ez k (i + 1) σ
def p_one (σ : stT) : stT := p_ez 9 0 (p_age 1 (setT (σ.1 2 + 1) σ))
def p_tk : Nat → stT → stT
  | 0, σ => σ
  | n + 1, σ => p_tk n (p_one σ)
def LF (σ : stT) : Prop := σ.1 4 ≤ 8 ∧ ∀ i, i < σ.1 4 → ∃ q : Nat, σ.2 3 i 2 = nI q ∧ q ≤ 1000
section Tb
variable {σ σ' : stT} {i j k n t a b : Nat} {p : (Nat → Int32) → Bool} {rv x : Int32} {Z : nmT} {G : rwT}
theorem va_cm {α : Type} {f : Nat → α} {x y : α} (h : i ≠ j) : va_up (va_up f i x) j y = va_up (va_up f j y) i x := by
  funext q
  by_cases c : q = i
  · subst c
    rw [va_un h, va_us, va_us]
  · by_cases d : q = j
    · subst d
      rw [va_us, va_un c, va_us]
    · rw [va_un d, va_un c, va_un c, va_un d]
theorem set_de : p_de (setT t σ).1 (setT t σ).2 rv i = setT t (p_de σ.1 σ.2 rv i) := by
  show (va_up (va_up (va_up σ.1 2 t) 6 (σ.1 6 + 1)) 3 (σ.1 3 - 1), _) = (va_up (va_up (va_up σ.1 6 (σ.1 6 + 1)) 3 (σ.1 3 - 1)) 2 t, _)
  rw [va_cm (f := σ.1) (i := 2) (j := 6) (by omega), va_cm (i := 2) (j := 3) (by omega)]
  rfl
theorem set_df : ∀ n i σ, p_df p rv n i (setT t σ) = setT t (p_df p rv n i σ)
  | 0, _, _ => rfl
  | n + 1, i, σ => by
    unfold p_df
    show (if p (σ.2 0 i) = true then p_df p rv n i (p_de (setT t σ).1 (setT t σ).2 rv i) else p_df p rv n (i + 1) (setT t σ)) = _
    rw [set_de, set_df n i, set_df n (i + 1)]
    split <;> rfl
theorem set_row : ∀ k, p_row (setT t σ).1 (setT t σ).2 k = p_row σ.1 σ.2 k := fun k => p_row_cg (Z := σ.1) (Z' := (setT t σ).1) (G := σ.2) (G' := (setT t σ).2) rfl rfl k fun _ _ => rfl
theorem set_co : p_co (setT t σ).1 (setT t σ).2 x = setT t (p_co σ.1 σ.2 x) := by
  have em : p_many (setT t σ).1 (setT t σ).2 x = p_many σ.1 σ.2 x := rfl
  unfold p_co
  rw [em, set_row]
  refine Prod.ext ?_ rfl
  show va_up (va_up (va_up (va_up (va_up σ.1 2 t) 12 (p_row σ.1 σ.2 (p_many σ.1 σ.2 x)).1) 6 (σ.1 6 - p_many σ.1 σ.2 x)) 7 (σ.1 7 + p_many σ.1 σ.2 x)) 1 (nN x) = va_up (va_up (va_up (va_up (va_up σ.1 12 (p_row σ.1 σ.2 (p_many σ.1 σ.2 x)).1) 6 (σ.1 6 - p_many σ.1 σ.2 x)) 7 (σ.1 7 + p_many σ.1 σ.2 x)) 1 (nN x)) 2 t
  rw [va_cm (f := σ.1) (i := 2) (j := 12) (by omega), va_cm (i := 2) (j := 6) (by omega), va_cm (i := 2) (j := 7) (by omega), va_cm (i := 2) (j := 1) (by omega)]
theorem set_se : ∀ k σ, p_se k (setT t σ) = setT t (p_se k σ)
  | 0, _ => rfl
  | k + 1, σ => by
    unfold p_se
    show (if σ.1 6 ≤ 120 then setT t σ else p_se k (p_co (setT t σ).1 (setT t σ).2 (σ.2 2 0 0))) = _
    rw [set_co, set_se k]
    split <;> rfl
theorem set_del : p_del p (setT t σ) = setT t (p_del p σ) := by
  unfold p_del
  show (if dfn p σ 0 (σ.1 3) = 0 then setT t σ else p_se 152 (p_df p (nI (σ.1 0 + 1)) (σ.1 3) 0 (bg (setT t σ).1, σ.2))) = _
  have eb : (bg (setT t σ).1, σ.2) = setT t (bg σ.1, σ.2) := by
    refine Prod.ext ?_ rfl
    show va_up (va_up σ.1 2 t) 0 (σ.1 0 + 1) = va_up (va_up σ.1 0 (σ.1 0 + 1)) 2 t
    rw [va_cm (by omega)]
  rw [eb, set_df, set_se]
  split <;> rfl
theorem set_rl : p_rl i (setT t σ) = setT t (p_rl i σ) := by
  refine Prod.ext ?_ rfl
  show va_up (va_up σ.1 2 t) 4 (σ.1 4 - 1) = va_up (va_up σ.1 4 (σ.1 4 - 1)) 2 t
  rw [va_cm (by omega)]
theorem set_ends : p_ends i (setT t σ) = setT t (p_ends i σ) := by
  unfold p_ends
  rw [set_rl, set_del]
  rfl
theorem set_ez : ∀ k i σ, p_ez k i (setT t σ) = setT t (p_ez k i σ)
  | 0, _, _ => rfl
  | k + 1, i, σ => by
    unfold p_ez
    rw [set_ends, set_ez k i, set_ez k (i + 1)]
    show (if σ.1 4 ≤ i then setT t σ else if σ.2 3 i 2 = 0 then setT t (p_ez k i (p_ends i σ)) else setT t (p_ez k (i + 1) σ)) = _
    split
    · rfl
    · split <;> rfl
theorem set_age : p_age x (setT t σ) = setT t (p_age x σ) := rfl
theorem setT_2 : setT a (setT b σ) = setT a σ := by
  refine Prod.ext ?_ rfl
  exact va_va
theorem set_id : setT (σ.1 2) σ = σ := by
  refine Prod.ext ?_ rfl
  exact va_id
theorem Kp.del2 : Kp σ (p_del p σ) := by
  unfold p_del
  split
  · exact Kp.rf
  · exact ((Kp.bg (σ := σ)).tr Kp.df).tr Kp.se
theorem ends_4 : (p_ends i σ).1 4 = σ.1 4 - 1 := by
  have := (Kp.del2 (p := hasL (σ.2 3 i 0)) (σ := p_rl i σ)).1 4 (by omega)
  exact this
theorem ends_3 : (p_ends i σ).2 3 = delR (σ.2 3) i (σ.1 4) := by
  have := (Kp.del2 (p := hasL (σ.2 3 i 0)) (σ := p_rl i σ)).2 3 (by omega)
  exact this
theorem ends_2 : (p_ends i σ).1 2 = σ.1 2 := by
  have := (Kp.del2 (p := hasL (σ.2 3 i 0)) (σ := p_rl i σ)).1 2 (by omega)
  exact this
theorem LF.ends (h : LF σ) (hi : i < σ.1 4) : LF (p_ends i σ) := by
  unfold LF
  rw [ends_4, ends_3]
  refine ⟨by have := h.1; omega, fun j hj => ?_⟩
  unfold delR
  by_cases c : i ≤ j ∧ j + 1 < σ.1 4
  · rw [if_pos c]
    exact h.2 (j + 1) c.2
  · rw [if_neg c]
    exact h.2 j (by omega)
theorem age_at (hj : j < σ.1 4) : (p_age x σ).2 3 j 2 = σ.2 3 j 2 - x := by
  show agR (σ.2 3) x 0 (σ.1 4) j 2 = _
  rw [agR_at hj, upd_k]
theorem LF.le (h : LF σ) (ha0 : a ≤ 1000) (hj : j < σ.1 4) : nI a ≤ σ.2 3 j 2 ↔ ∃ q : Nat, σ.2 3 j 2 = nI q ∧ a ≤ q ∧ q ≤ 1000 := by
  obtain ⟨q, q1, q2⟩ := h.2 j hj
  rw [q1]
  constructor
  · intro hc
    exact ⟨q, rfl, (nI_leI (by omega) (by omega)).mp hc, q2⟩
  · rintro ⟨q', e, h1, h2⟩
    rw [e]
    exact nI_le h1 (by omega)
theorem LF.age (h : LF σ) (ha0 : a ≤ 1000) (ha : ∀ j, j < σ.1 4 → nI a ≤ σ.2 3 j 2) : LF (p_age (nI a) σ) := by
  refine ⟨h.1, fun j hj => ?_⟩
  have hj : j < σ.1 4 := hj
  obtain ⟨q, q1, q2, q3⟩ := (h.le ha0 hj).mp (ha j hj)
  rw [age_at hj, q1, nI_2 q2]
  exact ⟨q - a, rfl, by omega⟩
theorem age_age : p_age (nI b) (p_age (nI a) σ) = p_age (nI (a + b)) σ := by
  unfold p_age
  refine Prod.ext rfl ?_
  show va_up (va_up σ.2 3 (agR (σ.2 3) (nI a) 0 (σ.1 4))) 3 (agR (agR (σ.2 3) (nI a) 0 (σ.1 4)) (nI b) 0 (σ.1 4)) = va_up σ.2 3 (agR (σ.2 3) (nI (a + b)) 0 (σ.1 4))
  rw [va_va]
  congr 1
  rw [agR_eq, agR_eq, agR_eq]
  funext j
  by_cases c : 0 ≤ j ∧ j < 0 + σ.1 4
  · simp only [if_pos c]
    rw [upd_s, upd_k, ← nI_add, Int32.sub_sub]
  · simp only [if_neg c]
theorem age_0 : p_age (nI 0) σ = σ := by
  unfold p_age
  refine Prod.ext rfl ?_
  have e : agR (σ.2 3) (nI 0) 0 (σ.1 4) = σ.2 3 := by
    rw [agR_eq]
    funext j
    split
    · rw [nI_0, Int32.sub_zero, upd_e rfl]
    · rfl
  show va_up σ.2 3 (agR (σ.2 3) (nI 0) 0 (σ.1 4)) = σ.2
  rw [e, va_id]
theorem age_none (h : σ.1 4 = 0) : p_age x σ = σ := by
  unfold p_age
  refine Prod.ext rfl ?_
  show va_up σ.2 3 (agR (σ.2 3) x 0 (σ.1 4)) = σ.2
  rw [h]
  exact va_id
theorem fe_uniq {m : Nat} (h4 : σ.1 4 ≤ 8) (hm : m < σ.1 4) (h1 : ∀ j, j < m → σ.2 3 m 2 < σ.2 3 j 2) (h2 : ∀ j, j < σ.1 4 → σ.2 3 m 2 ≤ σ.2 3 j 2) : p_fe σ = m := by
  obtain ⟨f1, f2, f3, f4⟩ := p_fe_spec (σ := σ) (by omega) h4
  rcases Nat.lt_trichotomy (p_fe σ) m with c | c | c
  · exact absurd (f4 m hm) (Int32.not_le.mpr (h1 _ c))
  · exact c
  · exact absurd (h2 _ f1) (Int32.not_le.mpr (f3 m c))
theorem sub_lt {p q : Nat} (hq : q ≤ 1000) (hp : p ≤ 1000) (hap : a ≤ p) (haq : a ≤ q) : (nI p - nI a < nI q - nI a ↔ nI p < nI q) ∧ (nI p - nI a ≤ nI q - nI a ↔ nI p ≤ nI q) := by
  rw [nI_2 hap, nI_2 haq, nI_ltI (by omega) (by omega), nI_ltI (by omega) (by omega), nI_leI (by omega) (by omega), nI_leI (by omega) (by omega)]
  omega
theorem fe_age (h : LF σ) (h0 : 0 < σ.1 4) (ha0 : a ≤ 1000) (ha : ∀ j, j < σ.1 4 → nI a ≤ σ.2 3 j 2) : p_fe (p_age (nI a) σ) = p_fe σ := by
  obtain ⟨f1, f2, f3, f4⟩ := p_fe_spec (σ := σ) h0 h.1
  obtain ⟨q, q1, q2, q3⟩ := (h.le ha0 f1).mp (ha _ f1)
  refine fe_uniq (σ := p_age (nI a) σ) h.1 f1 (fun j hj => ?_) (fun j hj => ?_)
  · obtain ⟨r, r1, r2, r3⟩ := (h.le ha0 (show j < σ.1 4 by omega)).mp (ha j (by omega))
    have := f3 j hj
    rw [age_at f1, age_at (by omega), q1, r1]
    rw [q1, r1] at this
    exact (sub_lt r3 q3 q2 r2).1.mpr this
  · have hj : j < σ.1 4 := hj
    obtain ⟨r, r1, r2, r3⟩ := (h.le ha0 hj).mp (ha j hj)
    have := f4 j hj
    rw [age_at f1, age_at hj, q1, r1]
    rw [q1, r1] at this
    exact (sub_lt r3 q3 q2 r2).2.mpr this
theorem pass_fuel : ∀ k (x : Int32) (σ : stT), σ.1 4 ≤ k → σ.1 4 ≤ 8 → p_pass (k + 1) x σ = p_pass k x σ
  | 0, x, σ, h, _ => by
    unfold p_pass
    rw [if_pos (Or.inl (by omega))]
  | k + 1, x, σ, h, h8 => by
    show (if σ.1 4 = 0 ∨ x < σ.2 3 (p_fe σ) 2 then (x, σ) else p_pass (k + 1) (x - σ.2 3 (p_fe σ) 2) (p_ends (p_fe σ) (p_age (σ.2 3 (p_fe σ) 2) σ))) = if σ.1 4 = 0 ∨ x < σ.2 3 (p_fe σ) 2 then (x, σ) else p_pass k (x - σ.2 3 (p_fe σ) 2) (p_ends (p_fe σ) (p_age (σ.2 3 (p_fe σ) 2) σ))
    by_cases c : σ.1 4 = 0 ∨ x < σ.2 3 (p_fe σ) 2
    · rw [if_pos c, if_pos c]
    · have e4 : (p_ends (p_fe σ) (p_age (σ.2 3 (p_fe σ) 2) σ)).1 4 = σ.1 4 - 1 := ends_4
      rw [if_neg c, if_neg c, pass_fuel k _ _ (by omega) (by omega)]
theorem pass_9 (h : σ.1 4 ≤ 8) : p_pass 9 x σ = if σ.1 4 = 0 ∨ x < σ.2 3 (p_fe σ) 2 then (x, σ) else p_pass 9 (x - σ.2 3 (p_fe σ) 2) (p_ends (p_fe σ) (p_age (σ.2 3 (p_fe σ) 2) σ)) := by
  show (if σ.1 4 = 0 ∨ x < σ.2 3 (p_fe σ) 2 then (x, σ) else p_pass 8 (x - σ.2 3 (p_fe σ) 2) (p_ends (p_fe σ) (p_age (σ.2 3 (p_fe σ) 2) σ))) = _
  by_cases c : σ.1 4 = 0 ∨ x < σ.2 3 (p_fe σ) 2
  · rw [if_pos c, if_pos c]
  · have e4 : (p_ends (p_fe σ) (p_age (σ.2 3 (p_fe σ) 2) σ)).1 4 = σ.1 4 - 1 := ends_4
    rw [if_neg c, if_neg c, pass_fuel 8 _ _ (by omega) (by omega)]
/-! what ends at a tick -/
theorem ez_fuel : ∀ k i (σ : stT), σ.1 4 ≤ i + k → p_ez (k + 1) i σ = p_ez k i σ
  | 0, i, σ, h => by
    unfold p_ez
    rw [if_pos (by omega)]
  | k + 1, i, σ, h => by
    show (if σ.1 4 ≤ i then σ else if σ.2 3 i 2 = 0 then p_ez (k + 1) i (p_ends i σ) else p_ez (k + 1) (i + 1) σ) = if σ.1 4 ≤ i then σ else if σ.2 3 i 2 = 0 then p_ez k i (p_ends i σ) else p_ez k (i + 1) σ
    by_cases c : σ.1 4 ≤ i
    · rw [if_pos c, if_pos c]
    · rw [if_neg c, if_neg c]
      by_cases d : σ.2 3 i 2 = 0
      · rw [if_pos d, if_pos d, ez_fuel k i _ (by rw [ends_4]; omega)]
      · rw [if_neg d, if_neg d, ez_fuel k (i + 1) _ (by omega)]
theorem ez_fuels (h : σ.1 4 ≤ i + k) : ∀ n, p_ez (k + n) i σ = p_ez k i σ
  | 0 => rfl
  | n + 1 => by rw [← Nat.add_assoc, ez_fuel (k + n) i σ (by omega), ez_fuels h n]
theorem ez_skip : ∀ n i k (σ : stT), (∀ j, i ≤ j → j < i + n → j < σ.1 4 → σ.2 3 j 2 ≠ 0) → i + n ≤ σ.1 4 → p_ez (k + n) i σ = p_ez k (i + n) σ
  | 0, _, _, _, _, _ => rfl
  | n + 1, i, k, σ, h, hn => by
    show (if σ.1 4 ≤ i then σ else if σ.2 3 i 2 = 0 then p_ez (k + n) i (p_ends i σ) else p_ez (k + n) (i + 1) σ) = _
    rw [if_neg (by omega), if_neg (h i (Nat.le_refl _) (by omega) (by omega)), ez_skip n (i + 1) k σ (fun j h1 h2 h3 => h j (by omega) (by omega) h3) (by omega), show i + 1 + n = i + (n + 1) by omega]
theorem ez_none (h8 : σ.1 4 ≤ 8) (h : ∀ j, j < σ.1 4 → σ.2 3 j 2 ≠ 0) : p_ez 9 0 σ = σ := by
  have := ez_skip (σ.1 4) 0 (9 - σ.1 4) σ (fun j _ _ hj => h j hj) (by omega)
  rw [show 9 - σ.1 4 + σ.1 4 = 9 by omega] at this
  rw [this, show 9 - σ.1 4 = (8 - σ.1 4) + 1 by omega]
  unfold p_ez
  rw [if_pos (by omega)]
theorem ez_first (h8 : σ.1 4 ≤ 8) (hi : i < σ.1 4) (h0 : σ.2 3 i 2 = 0) (h : ∀ j, j < i → σ.2 3 j 2 ≠ 0) : p_ez 9 0 σ = p_ez 9 0 (p_ends i σ) := by
  have e1 := ez_skip i 0 (9 - i) σ (fun j _ hj _ => h j (by omega)) (by omega)
  have e2 := ez_skip i 0 (9 - i) (p_ends i σ) (fun j _ hj hj4 => by
    rw [ends_3]
    unfold delR
    rw [if_neg (by omega)]
    exact h j (by omega)) (by rw [ends_4]; omega)
  rw [show 9 - i + i = 9 by omega] at e1 e2
  rw [e1, e2, Nat.zero_add]
  have e3 : p_ez (9 - i) i σ = p_ez (8 - i) i (p_ends i σ) := by
    rw [show 9 - i = (8 - i) + 1 by omega]
    show (if σ.1 4 ≤ i then σ else if σ.2 3 i 2 = 0 then p_ez (8 - i) i (p_ends i σ) else p_ez (8 - i) (i + 1) σ) = _
    rw [if_neg (by omega), if_pos h0]
  rw [e3, show 9 - i = (8 - i) + 1 by omega, ez_fuel (8 - i) i (p_ends i σ) (by rw [ends_4]; omega)]
/-- a pass first ends what has no tick left -/
theorem pass_ez : ∀ n (σ : stT), σ.1 4 = n → LF σ → ∀ t, t ≤ 1000 → p_pass 9 (nI t) σ = p_pass 9 (nI t) (p_ez 9 0 σ)
  | 0, σ, h0, h, t, ht => by
    rw [ez_none h.1 fun j hj => absurd hj (by omega)]
  | n + 1, σ, h0, h, t, ht => by
    obtain ⟨f1, f2, f3, f4⟩ := p_fe_spec (σ := σ) (by omega) h.1
    obtain ⟨d, d1, d2⟩ := h.2 _ f1
    by_cases c : d = 0
    · subst c
      have e1 := ez_first h.1 f1 d1 fun j hj => by
        have := f3 j hj
        intro hc
        rw [hc, d1] at this
        exact absurd this (by decide +kernel)
      have en : (p_ends (p_fe σ) σ).1 4 = n := by
        rw [ends_4]
        omega
      rw [pass_9 h.1, d1, if_neg (by
        rintro (hc | hc)
        · omega
        · exact absurd hc (nI_nlt (Nat.zero_le _) (by omega))), age_0, nI_0, Int32.sub_zero, pass_ez n _ en (h.ends f1) t ht, e1]
    · rw [ez_none h.1 fun j hj => by
        have := f4 j hj
        intro hc
        rw [hc, d1] at this
        exact absurd this (nI_nle (by omega) (by omega))]
/-- one tick more -/
theorem pass_one (h : LF σ) (hL : ILp σ) (hn : n + 1 ≤ 1000) : p_age (p_pass 9 (nI (n + 1)) σ).1 (p_pass 9 (nI (n + 1)) σ).2 = p_age (p_pass 9 (nI n) (p_ez 9 0 (p_age (nI 1) σ))).1 (p_pass 9 (nI n) (p_ez 9 0 (p_age (nI 1) σ))).2 := by
  by_cases c0 : σ.1 4 = 0
  · rw [age_none (x := nI 1) c0, ez_none h.1 fun j hj => absurd hj (by omega), pass_9 h.1, if_pos (Or.inl c0), pass_9 h.1, if_pos (Or.inl c0), age_none c0, age_none c0]
  · obtain ⟨f1, f2, f3, f4⟩ := p_fe_spec (σ := σ) (by omega) h.1
    obtain ⟨q, q1, q2⟩ := h.2 _ f1
    have hq0 : q ≠ 0 := fun hc => hL _ f1 (by rw [q1, hc]; rfl)
    have ha1 : ∀ j, j < σ.1 4 → nI 1 ≤ σ.2 3 j 2 := fun j hj => by
      obtain ⟨r, r1, r2⟩ := h.2 j hj
      have hr0 : r ≠ 0 := fun hc => hL _ hj (by rw [r1, hc]; rfl)
      rw [r1]
      exact nI_le (by omega) (by omega)
    have h1 := h.age (a := 1) (by omega) ha1
    have hfe := fe_age (a := 1) h (by omega) (by omega) ha1
    have hl : (p_age (nI 1) σ).2 3 (p_fe σ) 2 = nI (q - 1) := by
      rw [age_at f1, q1, nI_2 (by omega)]
    have h4' : (p_age (nI 1) σ).1 4 = σ.1 4 := rfl
    rw [← pass_ez (σ.1 4) (p_age (nI 1) σ) rfl h1 n (by omega), pass_9 h.1, pass_9 h1.1, hfe, hl, q1, h4']
    by_cases c1 : n + 1 < q
    · rw [if_pos (Or.inr (nI_lt c1 (by omega))), if_pos (Or.inr (nI_lt (by omega) (by omega))), age_age, Nat.add_comm]
    · rw [if_neg (by
        rintro (hc | hc)
        · exact c0 hc
        · exact absurd hc (nI_nlt (by omega) (by omega))), if_neg (by
        rintro (hc | hc)
        · exact c0 hc
        · exact absurd hc (nI_nlt (by omega) (by omega))), age_age, nI_2 (by omega), nI_2 (by omega), show n + 1 - q = n - (q - 1) by omega, show 1 + (q - 1) = q by omega]
/-- between ticks -/
theorem ez_ok : ∀ k i (σ : stT), LF σ → σ.1 4 ≤ i + k → (∀ j, j < i → j < σ.1 4 → σ.2 3 j 2 ≠ 0) → LF (p_ez k i σ) ∧ ILp (p_ez k i σ) ∧ (p_ez k i σ).1 2 = σ.1 2
  | 0, i, σ, h, hk, hi => ⟨h, fun j hj => hi j (by change j < σ.1 4 at hj; omega) hj, rfl⟩
  | k + 1, i, σ, h, hk, hi => by
    unfold p_ez
    by_cases c : σ.1 4 ≤ i
    · rw [if_pos c]
      exact ⟨h, fun j hj => hi j (by omega) hj, rfl⟩
    · rw [if_neg c]
      by_cases d : σ.2 3 i 2 = 0
      · rw [if_pos d]
        obtain ⟨a1, a2, a3⟩ := ez_ok k i (p_ends i σ) (h.ends (by omega)) (by rw [ends_4]; omega) (fun j h1 h2 => by
          rw [ends_4] at h2
          rw [ends_3]
          unfold delR
          rw [if_neg (by omega)]
          exact hi j h1 (by omega))
        exact ⟨a1, a2, a3.trans ends_2⟩
      · rw [if_neg d]
        refine ez_ok k (i + 1) σ h (by omega) fun j h1 h2 => ?_
        by_cases cj : j = i
        · rw [cj]
          exact d
        · exact hi j (by omega) h2
theorem LF.one (h : LF σ) (hL : ILp σ) : LF (p_one σ) ∧ ILp (p_one σ) ∧ (p_one σ).1 2 = σ.1 2 + 1 := by
  have h1 : LF (p_age (nI 1) (setT (σ.1 2 + 1) σ)) := LF.age (σ := setT (σ.1 2 + 1) σ) h (by omega) fun j hj => by
    have hj : j < σ.1 4 := hj
    obtain ⟨r, r1, r2⟩ := h.2 j hj
    have hr0 : r ≠ 0 := fun hc => hL _ hj (by rw [r1, hc]; rfl)
    show nI 1 ≤ σ.2 3 j 2
    rw [r1]
    exact nI_le (by omega) (by omega)
  obtain ⟨a1, a2, a3⟩ := ez_ok 9 0 _ h1 (by have := h1.1; omega) fun j hj => absurd hj (Nat.not_lt_zero _)
  exact ⟨a1, a2, a3.trans (show va_up σ.1 2 (σ.1 2 + 1) 2 = σ.1 2 + 1 from va_us)⟩
theorem tk_eq : ∀ n (σ : stT), LF σ → ILp σ → n ≤ 1000 → p_tk n σ = setT (σ.1 2 + n) (p_age (p_pass 9 (nI n) σ).1 (p_pass 9 (nI n) σ).2)
  | 0, σ, h, hL, _ => by
    by_cases c0 : σ.1 4 = 0
    · rw [pass_9 h.1, if_pos (Or.inl c0), age_none c0]
      exact set_id.symm
    · obtain ⟨f1, f2, f3, f4⟩ := p_fe_spec (σ := σ) (by omega) h.1
      obtain ⟨q, q1, q2⟩ := h.2 _ f1
      have hq0 : q ≠ 0 := fun hc => hL _ f1 (by rw [q1, hc]; rfl)
      rw [pass_9 h.1, if_pos (Or.inr (by rw [q1]; exact nI_lt (by omega) (by omega))), age_0]
      exact set_id.symm
  | n + 1, σ, h, hL, hn => by
    obtain ⟨a1, a2, a3⟩ := h.one hL
    unfold p_tk
    rw [tk_eq n (p_one σ) a1 a2 (by omega), a3, pass_one h hL hn]
    have e : p_one σ = setT (σ.1 2 + 1) (p_ez 9 0 (p_age (nI 1) σ)) := by
      unfold p_one
      rw [set_age, set_ez]
      rfl
    have hp : ∀ k x t (τ : stT), (p_pass k x (setT t τ)).1 = (p_pass k x τ).1 ∧ (p_pass k x (setT t τ)).2 = setT t (p_pass k x τ).2 := by
      intro k
      induction k with
      | zero => exact fun _ _ _ => ⟨rfl, rfl⟩
      | succ k ih =>
        intro x t τ
        unfold p_pass
        show (if τ.1 4 = 0 ∨ x < τ.2 3 (p_fe τ) 2 then (x, setT t τ) else p_pass k (x - τ.2 3 (p_fe τ) 2) (p_ends (p_fe τ) (p_age (τ.2 3 (p_fe τ) 2) (setT t τ)))).1 = _ ∧ (if τ.1 4 = 0 ∨ x < τ.2 3 (p_fe τ) 2 then (x, setT t τ) else p_pass k (x - τ.2 3 (p_fe τ) 2) (p_ends (p_fe τ) (p_age (τ.2 3 (p_fe τ) 2) (setT t τ)))).2 = _
        rw [set_age, set_ends]
        by_cases c : τ.1 4 = 0 ∨ x < τ.2 3 (p_fe τ) 2
        · rw [if_pos c, if_pos c]
          exact ⟨rfl, rfl⟩
        · rw [if_neg c, if_neg c]
          exact ih _ _ _
    obtain ⟨e1, e2⟩ := hp 9 (nI n) (σ.1 2 + 1) (p_ez 9 0 (p_age (nI 1) σ))
    rw [e, e1, e2, set_age, setT_2, show σ.1 2 + 1 + n = σ.1 2 + (n + 1) by omega]
theorem LF.of {u : Nat} (h : IA u σ) : LF σ := ⟨h.2.2.2.1.1, fun i hi => by
  obtain ⟨-, -, q, -, -, -, -, -, -, q7, q8⟩ := h.2.2.2.1.2.1 i hi
  exact ⟨q, q7, q8⟩⟩
theorem tick_tk {u : Nat} (h : IA u σ) (hL : ILp σ) (hn : n ≤ 1000) : (p_tick σ (nI n)).2 = p_tk n σ ∧ (p_tick σ (nI n)).1 = nI (σ.1 2 + n) := by
  rw [tk_eq n σ (LF.of h) hL hn]
  unfold p_tick
  rw [nN_nI (by omega), nI_add]
  refine ⟨?_, rfl⟩
  rfl
end Tb
