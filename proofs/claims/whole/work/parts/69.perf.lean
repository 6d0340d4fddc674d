/-! ===== what a statement does (pure) ===== -/
def nm (r : Nat) (W : Nat → Int32) (j : Nat) : Int32 := if j < r then W j else 0
def q_to (r : Nat) (W : Nat → Int32) : Int32 := if 1 < r then nm r W 1 else nm r W 0
def q_pf (v r : Nat) (W : Nat → Int32) (σ : stT) : Int32 × stT := match v with
  | 0 => p_put σ (nm r W 0) (nm r W 1) (nm r W 2)
  | 1 => (nI (dfn (inR (nm r W 0) (q_to r W)) σ 0 (σ.1 3)), p_del (inR (nm r W 0) (q_to r W)) σ)
  | 2 => p_grant σ (nm r W 0)
  | 3 => p_renew σ (nm r W 0)
  | 4 => p_revoke σ (nm r W 0)
  | 5 => p_watch σ (nm r W 0) (nm r W 1) (nm r W 2) 0
  | 6 => p_compact σ (nm r W 0)
  | 7 => p_revert σ (nm r W 0)
  | 8 => p_tick σ (nm r W 0)
  | _ => p_attach σ (nm r W 0) (nm r W 1)
/-- the numbers behind a verb are such as its kinds ask -/
def NOK (v r : Nat) (W : Nat → Int32) : Prop := vb_n v ≤ r ∧ r ≤ 3 ∧ ∀ j, j < r → vb_k v j ≠ 0 ∧ q_lo (vb_k v j) (if 0 < j then W 0 else 0) ≤ (W j).toInt ∧ (W j).toInt ≤ q_hi (vb_k v j)
def q_ref (v : Nat) (a : Int32) : Bool := decide (a = -2) || (decide (a = -3) || (decide (a = -2000000001) || (decide (a = -2000000002) || (decide (v = 9) && decide (a = -1)))))
/-- a script: error, its place, the last statement, the store behind it -/
def q_ld1 (T : Nat → Int32) (n : Nat) : Nat → Nat → Nat → stT → Nat × Nat × Nat × stT
  | 0, k, _, σ => (0, 0, k, σ)
  | f + 1, k, p, σ => if (q_sm T n p fun _ => 0).1 ≠ 0 then ((q_sm T n p fun _ => 0).1, (q_sm T n p fun _ => 0).2.1, k, σ)
    else if q_ref (q_sm T n p fun _ => 0).2.2.1 (q_pf (q_sm T n p fun _ => 0).2.2.1 (q_sm T n p fun _ => 0).2.2.2.1 (q_sm T n p fun _ => 0).2.2.2.2 σ).1 = true then (3, q_sp T n p, k, (q_pf (q_sm T n p fun _ => 0).2.2.1 (q_sm T n p fun _ => 0).2.2.2.1 (q_sm T n p fun _ => 0).2.2.2.2 σ).2)
    else if n ≤ q_sp T n (q_sm T n p fun _ => 0).2.1 then (0, 0, k, (q_pf (q_sm T n p fun _ => 0).2.2.1 (q_sm T n p fun _ => 0).2.2.2.1 (q_sm T n p fun _ => 0).2.2.2.2 σ).2)
    else if T (q_sp T n (q_sm T n p fun _ => 0).2.1) ≠ 59 then (1, q_sp T n (q_sm T n p fun _ => 0).2.1, k, (q_pf (q_sm T n p fun _ => 0).2.2.1 (q_sm T n p fun _ => 0).2.2.2.1 (q_sm T n p fun _ => 0).2.2.2.2 σ).2)
    else q_ld1 T n f (k + 1) (q_sp T n (q_sm T n p fun _ => 0).2.1 + 1) (q_pf (q_sm T n p fun _ => 0).2.2.1 (q_sm T n p fun _ => 0).2.2.2.1 (q_sm T n p fun _ => 0).2.2.2.2 σ).2
section Pf
variable {σ σ' : stT} {u v r n i : Nat} {T W : Nat → Int32}
theorem NOK.put (h : NOK 0 r W) : kOk (nm r W 0) ∧ vOk (nm r W 1) ∧ ¬ nm r W 2 < 0 := by
  obtain ⟨h1, h2, h3⟩ := h
  have h1 : 2 ≤ r := h1
  obtain ⟨-, a1, a2⟩ := h3 0 (by omega)
  obtain ⟨-, b1, b2⟩ := h3 1 (by omega)
  have a1 : (0 : Int) ≤ (W 0).toInt := a1
  have a2 : (W 0).toInt ≤ 999 := a2
  have b1 : (-1000000 : Int) ≤ (W 1).toInt := b1
  have b2 : (W 1).toInt ≤ 1000000 := b2
  unfold nm
  rw [if_pos (by omega), if_pos (by omega)]
  refine ⟨⟨fun hc => ?_, Int32.le_iff_toInt_le.mpr a2⟩, ⟨Int32.le_iff_toInt_le.mpr b1, Int32.le_iff_toInt_le.mpr b2⟩, fun hc => ?_⟩
  · have : (W 0).toInt < 0 := Int32.lt_iff_toInt_lt.mp hc
    omega
  · by_cases c : 2 < r
    · obtain ⟨-, c1, c2⟩ := h3 2 c
      have c1 : (0 : Int) ≤ (W 2).toInt := c1
      rw [if_pos c] at hc
      have : (W 2).toInt < 0 := Int32.lt_iff_toInt_lt.mp hc
      omega
    · rw [if_neg c] at hc
      exact absurd hc (by decide)
theorem NOK.del (h : NOK 1 r W) : nm r W 0 ≤ q_to r W ∧ q_to r W < q_to r W + 1 := by
  obtain ⟨h1, h2, h3⟩ := h
  have h1 : 1 ≤ r := h1
  obtain ⟨-, a1, a2⟩ := h3 0 (by omega)
  have a1 : (0 : Int) ≤ (W 0).toInt := a1
  have a2 : (W 0).toInt ≤ 999 := a2
  have key : ∀ x : Int32, x.toInt ≤ 999 → 0 ≤ x.toInt → x < x + 1 := fun x hx h0 => by
    rw [Int32.lt_iff_toInt_lt, Int32.toInt_add, show (1 : Int32).toInt = 1 from rfl, Int.bmod_eq_of_le (by omega) (by omega)]
    omega
  unfold q_to nm
  rw [if_pos (show 0 < r by omega)]
  by_cases c : 1 < r
  · obtain ⟨-, b1, b2⟩ := h3 1 c
    have b1 : (W 0).toInt ≤ (W 1).toInt := b1
    have b2 : (W 1).toInt ≤ 999 := b2
    rw [if_pos c, if_pos c]
    exact ⟨Int32.le_iff_toInt_le.mpr b1, key _ b2 (by omega)⟩
  · rw [if_neg c]
    exact ⟨Int32.le_refl _, key _ a2 a1⟩
theorem NOK.one {lo hi : Int} (h : NOK v r W) (h1 : 1 ≤ vb_n v) (hl : q_lo (vb_k v 0) 0 = lo) (hh : q_hi (vb_k v 0) = hi) (h0 : 0 ≤ lo) : ∃ j : Nat, nm r W 0 = nI j ∧ lo ≤ j ∧ (j : Int) ≤ hi ∧ j < 2 ^ 31 := by
  obtain ⟨k1, h2, h3⟩ := h
  obtain ⟨-, a1, a2⟩ := h3 0 (by omega)
  rw [if_neg (by omega), hl] at a1
  rw [hh] at a2
  unfold nm
  rw [if_pos (show 0 < r by omega)]
  obtain ⟨j, hj, e⟩ := nI_of (x := W 0) (fun hc => by
    have : (W 0).toInt < 0 := Int32.lt_iff_toInt_lt.mp hc
    omega)
  rw [e, nI_toInt hj] at a1 a2
  exact ⟨j, e, a1, a2, hj⟩
theorem ILp.cg (h : ILp σ) (e4 : σ'.1 4 = σ.1 4) (e3 : σ'.2 3 = σ.2 3) : ILp σ' := by
  unfold ILp
  rw [e4, e3]
  exact h
/-- watches are in none of it -/
theorem IA.wat (h : IA u σ) (e : ∀ j, j ≠ 5 → σ'.1 j = σ.1 j) (e' : ∀ j, j ≠ 4 → σ'.2 j = σ.2 j) : IA u σ' := by
  obtain ⟨h1, h2, h3, h4, h5, h6⟩ := h
  refine ⟨h1.cg (e 0 (by omega)) (e 1 (by omega)) (e 3 (by omega)) (e 6 (by omega)) (e 7 (by omega)) (e 12 (by omega)) (e' 0 (by omega)) (e' 1 (by omega)) (e' 2 (by omega)), by rw [e 3 (by omega)]; exact h2, by rw [e 6 (by omega)]; exact h3, ?_, ?_, ?_⟩
  · unfold IL
    rw [e 4 (by omega), e 8 (by omega), e' 3 (by omega)]
    exact h4
  · unfold IT
    rw [e 9 (by omega), e 10 (by omega), e 11 (by omega), e' 5 (by omega), e' 6 (by omega), e' 7 (by omega)]
    exact h5
  · unfold IB
    rw [e 0 (by omega), e 7 (by omega), e 6 (by omega), e 8 (by omega), e 2 (by omega)]
    exact h6
theorem IA.watch {f t y k : Int32} (h : IA u σ) (hL : ILp σ) : IA u (p_watch σ f t y k).2 ∧ ILp (p_watch σ f t y k).2 := by
  unfold p_watch
  split
  · exact ⟨h, hL⟩
  · split
    · exact ⟨h, hL⟩
    · exact ⟨h.wat (fun j hj => va_un hj) (fun j hj => va_un hj), hL.cg rfl rfl⟩
theorem ILp.grant {t : Nat} (hL : ILp σ) (ht : 1 ≤ t ∧ t ≤ 1000) : ILp (p_grant σ (nI t)).2 := by
  unfold p_grant
  split
  · exact hL
  · intro i hi
    change i < va_up (va_up σ.1 4 (σ.1 4 + 1)) 8 (σ.1 8 + 1) 4 at hi
    rw [va_un (by omega), va_us] at hi
    change va_up σ.2 3 (va_up (σ.2 3) (σ.1 4) (l3 (nI (σ.1 8 + 1)) (nI t) (nI t))) 3 i 2 ≠ 0
    rw [va_us]
    by_cases c : i = σ.1 4
    · subst c
      rw [va_us]
      exact nI_ne0 ht.1 (by omega)
    · rw [va_un c]
      exact hL i (by omega)
theorem ILp.renew {l : Int32} (h : IA u σ) (hL : ILp σ) : ILp (p_renew σ l).2 := by
  unfold p_renew
  split
  · rename_i hf
    intro i hi
    change va_up σ.2 3 (va_up (σ.2 3) (pF (σ.2 3) (σ.1 4) l) (upd (σ.2 3 (pF (σ.2 3) (σ.1 4) l)) 2 (σ.2 3 (pF (σ.2 3) (σ.1 4) l) 1))) 3 i 2 ≠ 0
    rw [va_us]
    by_cases c : i = pF (σ.2 3) (σ.1 4) l
    · subst c
      rw [va_us, upd_k]
      obtain ⟨m, t, q, -, -, -, e2, t1, t2, -⟩ := h.2.2.2.1.2.1 _ hf
      rw [e2]
      exact nI_ne0 t1 (by omega)
    · rw [va_un c]
      exact hL i hi
  · exact hL
theorem ILp.rl (hL : ILp σ) (hi : i < σ.1 4) : ILp (p_rl i σ) := by
  intro j hj
  change j < va_up σ.1 4 (σ.1 4 - 1) 4 at hj
  rw [va_us] at hj
  change va_up σ.2 3 (delR (σ.2 3) i (σ.1 4)) 3 j 2 ≠ 0
  rw [va_us]
  unfold delR
  split
  · exact hL _ (by omega)
  · exact hL j (by omega)
theorem ILp.revoke {l : Int32} (h : IA u σ) (hL : ILp σ) (hu : u + 1 < 2 ^ 30) : ILp (p_revoke σ l).2 := by
  unfold p_revoke
  split
  · rename_i hf
    exact (hL.rl hf).kp (h.ends hf hu).2
  · exact hL
theorem ILp.attach {k l : Int32} (hL : ILp σ) : ILp (p_attach σ k l).2 := by
  unfold p_attach
  repeat' split
  all_goals first | exact hL | exact hL.cg rfl rfl
theorem q_pf_ok (hr : NOK v r W) (hA : IA u σ) (hL : ILp σ) (hu : u + 9 < 2 ^ 24) : IA (u + 9) (q_pf v r W σ).2 ∧ ILp (q_pf v r W σ).2 := by
  match v, hr with
  | 0, hr =>
    obtain ⟨a1, a2, a3⟩ := hr.put
    obtain ⟨b1, b2⟩ := hA.put (by omega) a1 a2 a3
    exact ⟨b1.mono (by omega), hL.kp b2⟩
  | 1, hr =>
    obtain ⟨b1, b2⟩ := hA.del (p := inR (nm r W 0) (q_to r W)) (by omega)
    exact ⟨b1.mono (by omega), hL.kp b2⟩
  | 2, hr =>
    obtain ⟨j, e, j1, j2, -⟩ := hr.one (lo := 1) (hi := 1000) (Nat.le_refl _) rfl rfl (by omega)
    show IA (u + 9) (p_grant σ (nm r W 0)).2 ∧ ILp (p_grant σ (nm r W 0)).2
    rw [e]
    exact ⟨(hA.grant (t := j) (by omega) (by omega)).mono (by omega), hL.grant (by omega)⟩
  | 3, hr =>
    exact ⟨hA.renew.mono (by omega), ILp.renew hA hL⟩
  | 4, hr =>
    exact ⟨(hA.revoke (by omega)).mono (by omega), ILp.revoke hA hL (by omega)⟩
  | 5, hr =>
    obtain ⟨b1, b2⟩ := hA.watch (f := nm r W 0) (t := nm r W 1) (y := nm r W 2) (k := 0) hL
    exact ⟨b1.mono (by omega), b2⟩
  | 6, hr =>
    obtain ⟨j, e, j1, j2, j3⟩ := hr.one (lo := 1) (hi := 9999) (Nat.le_refl _) rfl rfl (by omega)
    obtain ⟨b1, b2⟩ := hA.compact (y := nm r W 0) (by rw [e]; exact nI_pos j3)
    exact ⟨b1.mono (by omega), hL.kp b2⟩
  | 7, hr =>
    obtain ⟨b1, b2⟩ := hA.revert (by omega) (nm r W 0)
    exact ⟨b1.mono (by omega), hL.kp b2⟩
  | 8, hr =>
    obtain ⟨j, e, j1, j2, -⟩ := hr.one (lo := 1) (hi := 1000) (Nat.le_refl _) rfl rfl (by omega)
    show IA (u + 9) (p_tick σ (nm r W 0)).2 ∧ ILp (p_tick σ (nm r W 0)).2
    rw [e]
    exact hA.tick (tt := j) (by omega) (by omega) (by omega)
  | v + 9, hr =>
    have hk : ∀ i, vb_k (v + 9) i = if i = 0 then 1 else if i = 1 then 5 else 0 := fun _ => rfl
    refine ⟨(hA.attach (key := nm r W 0) (l := nm r W 1) ?_).mono (by omega), hL.attach⟩
    obtain ⟨-, -, h3⟩ := hr
    unfold nm
    intro hc
    split at hc
    · rename_i c
      obtain ⟨-, c1, c2⟩ := h3 1 c
      rw [hk] at c1
      have c1 : (0 : Int) ≤ (W 1).toInt := c1
      have : (W 1).toInt < 0 := Int32.lt_iff_toInt_lt.mp hc
      omega
    · exact absurd hc (by decide)
/-- only the numbers read in this statement count -/
theorem q_rn_W {kd : Nat → Nat} {nd : Nat} : ∀ k i p (W W' : Nat → Int32), (∀ j, j < i → W j = W' j) → (q_rn T n kd nd k i p W).1 = (q_rn T n kd nd k i p W').1 ∧ (q_rn T n kd nd k i p W).2.1 = (q_rn T n kd nd k i p W').2.1 ∧ (q_rn T n kd nd k i p W).2.2.1 = (q_rn T n kd nd k i p W').2.2.1 ∧ ∀ j, j < (q_rn T n kd nd k i p W).2.2.1 → (q_rn T n kd nd k i p W).2.2.2 j = (q_rn T n kd nd k i p W').2.2.2 j
  | 0, i, p, W, W', h => ⟨rfl, rfl, rfl, h⟩
  | k + 1, i, p, W, W', h => by
    have hw : (if 0 < i then W 0 else 0) = if 0 < i then W' 0 else 0 := by
      split
      · exact h 0 (by omega)
      · rfl
    unfold q_rn
    rw [hw]
    generalize (if 0 < i then W' 0 else 0) = w
    split
    · exact ⟨rfl, rfl, rfl, h⟩
    · split
      · split
        · exact ⟨rfl, rfl, rfl, h⟩
        · exact ⟨rfl, rfl, rfl, h⟩
      · split
        · exact ⟨rfl, rfl, rfl, h⟩
        · refine q_rn_W k (i + 1) _ _ _ fun j hj => ?_
          by_cases c : j = i
          · subst c
            rw [upd_k, upd_k]
          · rw [upd_n c, upd_n c]
            exact h j (by omega)
theorem q_rn_ok {kd : Nat → Nat} {nd : Nat} : ∀ k i p (W : Nat → Int32), (∀ j, kd j ≤ 6) → (0 < i → -1000000 ≤ (W 0).toInt ∧ (W 0).toInt ≤ 1000000) → p ≤ n → (q_rn T n kd nd k i p W).1 = 0 → i ≤ (q_rn T n kd nd k i p W).2.2.1 ∧ (q_rn T n kd nd k i p W).2.2.1 ≤ i + k ∧ (∀ j, j < i → (q_rn T n kd nd k i p W).2.2.2 j = W j) ∧ (∀ j, i ≤ j → j < (q_rn T n kd nd k i p W).2.2.1 → kd j ≠ 0 ∧ q_lo (kd j) (if 0 < j then (q_rn T n kd nd k i p W).2.2.2 0 else 0) ≤ ((q_rn T n kd nd k i p W).2.2.2 j).toInt ∧ ((q_rn T n kd nd k i p W).2.2.2 j).toInt ≤ q_hi (kd j)) ∧ ((q_rn T n kd nd k i p W).2.2.1 = i + k ∨ kd (q_rn T n kd nd k i p W).2.2.1 = 0 ∨ nd ≤ (q_rn T n kd nd k i p W).2.2.1) ∧ p ≤ (q_rn T n kd nd k i p W).2.1 ∧ (q_rn T n kd nd k i p W).2.1 ≤ n
  | 0, i, p, W, hk, hw, hp, h => ⟨Nat.le_refl _, Nat.le_refl _, fun _ _ => rfl, fun j h1 h2 => absurd h2 (Nat.not_lt.mpr h1), Or.inl rfl, Nat.le_refl _, hp⟩
  | k + 1, i, p, W, hk, hw, hp, h => by
    have hj := q_sp_le (T := T) hp
    have he := q_e_le (T := T) hj.2
    unfold q_rn at h ⊢
    by_cases c0 : kd i = 0
    · rw [if_pos c0]
      exact ⟨Nat.le_refl _, Nat.le_add_right _ _, fun _ _ => rfl, fun j h1 h2 => absurd h2 (Nat.not_lt.mpr h1), Or.inr (Or.inl c0), Nat.le_refl _, hp⟩
    · rw [if_neg c0] at h ⊢
      by_cases c1 : q_nu T n (decide (kd i = 2)) (q_sp T n p) = true
      · rw [if_neg (show ¬ ¬ q_nu T n (decide (kd i = 2)) (q_sp T n p) = true from fun hc => hc c1)] at h ⊢
        by_cases c2 : q_v T n (q_sp T n p) < q_lo (kd i) (if 0 < i then W 0 else 0) ∨ q_hi (kd i) < q_v T n (q_sp T n p)
        · rw [if_pos c2] at h
          exact absurd (show (2 : Nat) = 0 from h) (by decide)
        · rw [if_neg c2] at h ⊢
          obtain ⟨l1, l2⟩ := q_lo_le (kd := kd i) (w := if 0 < i then W 0 else 0) fun _ => by
            split
            · exact hw (by assumption)
            · decide
          obtain ⟨l3, l4⟩ := q_hi_le (kd := kd i)
          have hv : (Int32.ofInt (q_v T n (q_sp T n p))).toInt = q_v T n (q_sp T n p) := oI_toInt (by omega) (by omega)
          obtain ⟨a1, a2, a3, a4, a5, a6, a7⟩ := q_rn_ok k (i + 1) (q_e T n (q_sp T n p)) (upd W i (Int32.ofInt (q_v T n (q_sp T n p)))) hk (fun _ => by
            by_cases ci : i = 0
            · subst ci
              rw [upd_k, hv]
              omega
            · rw [upd_n (fun hc => ci hc.symm)]
              exact hw (by omega)) he.2 h
          refine ⟨by omega, by omega, fun j hj => (a3 j (by omega)).trans (upd_n (by omega)), fun j h1 h2 => ?_, by rcases a5 with a5 | a5 | a5 <;> omega, by omega, a7⟩
          by_cases ci : j = i
          · subst ci
            have e0 : (if 0 < j then (q_rn T n kd nd k (j + 1) (q_e T n (q_sp T n p)) (upd W j (Int32.ofInt (q_v T n (q_sp T n p))))).2.2.2 0 else 0) = if 0 < j then W 0 else 0 := by
              split
              · rw [a3 0 (by omega), upd_n (by omega)]
              · rfl
            rw [e0, a3 j (by omega), upd_k, hv]
            exact ⟨c0, by omega, by omega⟩
          · exact a4 j (by omega) h2
      · rw [if_pos c1] at h ⊢
        by_cases c2 : nd ≤ i
        · rw [if_pos c2]
          exact ⟨Nat.le_refl _, Nat.le_add_right _ _, fun _ _ => rfl, fun j h1 h2 => absurd h2 (Nat.not_lt.mpr h1), Or.inr (Or.inr c2), hj.1, hj.2⟩
        · rw [if_neg c2] at h
          exact absurd (show (1 : Nat) = 0 from h) (by decide)
theorem vb_pos {j : Nat} (h : j < vb_n v) : vb_k v j ≠ 0 := by
  unfold vb_n at h
  unfold vb_k
  split <;> split at h <;> (try omega) <;> (repeat' split) <;> omega
theorem q_sm_W (W : Nat → Int32) {p : Nat} : (q_sm T n p W).1 = (q_sm T n p fun _ => 0).1 ∧ (q_sm T n p W).2.1 = (q_sm T n p fun _ => 0).2.1 ∧ (q_sm T n p W).2.2.1 = (q_sm T n p fun _ => 0).2.2.1 ∧ (q_sm T n p W).2.2.2.1 = (q_sm T n p fun _ => 0).2.2.2.1 ∧ ∀ j, j < (q_sm T n p W).2.2.2.1 → (q_sm T n p W).2.2.2.2 j = (q_sm T n p fun _ => 0).2.2.2.2 j := by
  unfold q_sm
  split
  · obtain ⟨a1, a2, a3, a4⟩ := q_rn_W (T := T) (n := n) (kd := vb_k (q_vb T (q_sp T n p) (q_le T n (q_sp T n p)))) (nd := vb_n (q_vb T (q_sp T n p) (q_le T n (q_sp T n p)))) 3 0 (q_le T n (q_sp T n p)) W (fun _ => 0) fun j hj => absurd hj (Nat.not_lt_zero _)
    exact ⟨a1, a2, rfl, a3, a4⟩
  · exact ⟨rfl, rfl, rfl, rfl, fun j hj => absurd hj (Nat.not_lt_zero _)⟩
theorem q_sm_ok {p : Nat} (hp : p ≤ n) (h : (q_sm T n p W).1 = 0) : NOK (q_sm T n p W).2.2.1 (q_sm T n p W).2.2.2.1 (q_sm T n p W).2.2.2.2 ∧ (q_sm T n p W).2.2.1 < 10 ∧ p ≤ (q_sm T n p W).2.1 ∧ (q_sm T n p W).2.1 ≤ n := by
  have hj := q_sp_le (T := T) hp
  have hl := q_le_le (T := T) hj.2
  unfold q_sm at h ⊢
  by_cases c : q_vb T (q_sp T n p) (q_le T n (q_sp T n p)) < 10
  · rw [if_pos c] at h ⊢
    obtain ⟨a1, a2, a3, a4, a5, a6, a7⟩ := q_rn_ok (T := T) (n := n) (kd := vb_k (q_vb T (q_sp T n p) (q_le T n (q_sp T n p)))) (nd := vb_n (q_vb T (q_sp T n p) (q_le T n (q_sp T n p)))) 3 0 (q_le T n (q_sp T n p)) W (fun j => vb_k_le _ _) (fun hc => absurd hc (by decide)) hl.2 h
    refine ⟨⟨?_, by omega, fun j hj => a4 j (Nat.zero_le _) hj⟩, c, by dsimp only; omega, a7⟩
    rcases a5 with a5 | a5 | a5
    · have : vb_n (q_vb T (q_sp T n p) (q_le T n (q_sp T n p))) ≤ 2 := by
        unfold vb_n
        split <;> omega
      dsimp only
      omega
    · exact Nat.le_of_not_lt fun hc => vb_pos hc a5
    · exact a5
  · rw [if_neg c] at h
    exact absurd (show (1 : Nat) = 0 from h) (by decide)
theorem q_pf_W {W' : Nat → Int32} (h : ∀ j, j < r → W j = W' j) : q_pf v r W σ = q_pf v r W' σ := by
  have e : ∀ j, nm r W j = nm r W' j := fun j => by
    unfold nm
    split
    · exact h j (by assumption)
    · rfl
  have e2 : q_to r W = q_to r W' := by
    unfold q_to
    rw [e, e]
  unfold q_pf
  rw [e 0, e 1, e 2, e2]
end Pf
