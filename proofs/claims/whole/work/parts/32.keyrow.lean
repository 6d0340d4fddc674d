/-! ===== KeyRow's methods ===== -/
/-- a place as the class tells it: -1 for none -/
def ixI (p : Nat → Bool) (n : Nat) : Int32 := if fi p 0 n < n then nI (fi p 0 n) else -1
/-- from the right: one behind the last place ahead of k where p holds -/
def ri (p : Nat → Bool) : Nat → Nat
  | 0 => 0
  | k + 1 => if p k = true then k + 1 else ri p k
theorem ri_le (p : Nat → Bool) : ∀ k, ri p k ≤ k
  | 0 => Nat.le_refl _
  | k + 1 => by
    unfold ri
    have := ri_le p k
    split <;> omega
def insA (A : Nat → Nat) (i n : Nat) : Nat → Nat := fun j => if j = i then A n else if i < j ∧ j ≤ n then A (j - 1) else A j
def remA (A : Nat → Nat) (i n : Nat) : Nat → Nat := fun j => if j + 1 = n then A i else if i ≤ j ∧ j + 1 < n then A (j + 1) else A j
def shfA (A : Nat → Nat) (i n : Nat) : Nat → Nat := fun j => if i < j ∧ j ≤ n then A (j - 1) else A j
def shlA (A : Nat → Nat) (i l : Nat) : Nat → Nat := fun j => if i ≤ j ∧ j < l then A (j + 1) else A j
theorem okA_ins {N n i : Nat} {A : Nat → Nat} (h : okA N A) (hn : n < N) (hi : i ≤ n) : okA N (insA A i n) := by
  have key : ∀ j, j < N → ∃ q, q < N ∧ insA A i n j = A q ∧ ((j = i ∧ q = n) ∨ (i < j ∧ j ≤ n ∧ q = j - 1) ∨ (j < i ∧ q = j) ∨ (n < j ∧ q = j)) := by
    intro j hj
    unfold insA
    by_cases h1 : j = i
    · exact ⟨n, hn, by rw [if_pos h1], by omega⟩
    · by_cases h2 : i < j ∧ j ≤ n
      · exact ⟨j - 1, by omega, by rw [if_neg h1, if_pos h2], by omega⟩
      · exact ⟨j, hj, by rw [if_neg h1, if_neg h2], by omega⟩
  refine ⟨fun j hj => ?_, fun j hj k hk e => ?_⟩
  · obtain ⟨q, hq, e, -⟩ := key j hj
    rw [e]
    exact h.1 q hq
  · obtain ⟨q, hq, e1, c1⟩ := key j hj
    obtain ⟨r, hr, e2, c2⟩ := key k hk
    rw [e1, e2] at e
    have := h.2 q hq r hr e
    omega
theorem okA_rem {N n i : Nat} {A : Nat → Nat} (h : okA N A) (hn : n ≤ N) (hi : i < n) : okA N (remA A i n) := by
  have key : ∀ j, j < N → ∃ q, q < N ∧ remA A i n j = A q ∧ ((j + 1 = n ∧ q = i) ∨ (i ≤ j ∧ j + 1 < n ∧ q = j + 1) ∨ (j < i ∧ q = j) ∨ (n ≤ j ∧ q = j)) := by
    intro j hj
    unfold remA
    by_cases h1 : j + 1 = n
    · exact ⟨i, by omega, by rw [if_pos h1], by omega⟩
    · by_cases h2 : i ≤ j ∧ j + 1 < n
      · exact ⟨j + 1, by omega, by rw [if_neg h1, if_pos h2], by omega⟩
      · exact ⟨j, hj, by rw [if_neg h1, if_neg h2], by omega⟩
  refine ⟨fun j hj => ?_, fun j hj k hk e => ?_⟩
  · obtain ⟨q, hq, e, -⟩ := key j hj
    rw [e]
    exact h.1 q hq
  · obtain ⟨q, hq, e1, c1⟩ := key j hj
    obtain ⟨r, hr, e2, c2⟩ := key k hk
    rw [e1, e2] at e
    have := h.2 q hq r hr e
    omega
theorem va_us {α : Type} {f : Nat → α} {i : Nat} {x : α} : va_up f i x i = x := if_pos rfl
theorem va_un {α : Type} {f : Nat → α} {i j : Nat} {x : α} (h : j ≠ i) : va_up f i x j = f j := if_neg h
theorem rw_cg {c N ce : Nat} {nm : String} {F : (Nat → Int32) → List Value} {s : am_S} {b n : Nat} {A A' : Nat → Nat} {C C' : Nat → Nat → Int32} (hA : ∀ i, i < N → A i = A' i) (hC : ∀ j, j < N → F (C j) = F (C' j)) : rwS c nm N ce F s b n A C = rwS c nm N ce F s b n A' C' := by
  unfold rwS
  refine Prod.ext (funext fun q => ?_) rfl
  dsimp only
  by_cases q1 : q = b
  · rw [if_pos q1, if_pos q1]
  · rw [if_neg q1, if_neg q1]
    by_cases q2 : q = b + 1
    · rw [if_pos q2, if_pos q2]
      have : (fun i => if i < N then some (b + 2 + A i) else none) = fun i => if i < N then some (b + 2 + A' i) else none := by
        funext i
        by_cases hi : i < N
        · rw [if_pos hi, if_pos hi, hA i hi]
        · rw [if_neg hi, if_neg hi]
      rw [this]
    · rw [if_neg q2, if_neg q2]
      by_cases q3 : b + 2 ≤ q ∧ q < b + 2 + N
      · rw [if_pos q3, if_pos q3, hC _ (by omega)]
      · rw [if_neg q3, if_neg q3]
section KRq
variable {s : am_S} {B b n : Nat} {A : Nat → Nat} {C : Nat → Nat → Int32}
theorem kr_indexOf_lp (h : KR s b n A C) (hA : okA 22 A) (hn : n ≤ 22) (key : Int32) : ∀ k i, i + k = n → rn_ tb_ct tb_mt B mm_X4_indexOf 2 [.ref b, .int key, .int (nI i), am_un] [] s = some (.inl (some (.int (if fi (fun i => decide (C (A i) 0 = key)) i k < n then nI (fi (fun i => decide (C (A i) 0 = key)) i k) else -1))), s) := by
  intro k
  induction k with
  | zero =>
    intro i hi
    rw [dc_X4_indexOf_2]
    simp only [kr_n h, eI_s, if_pos (nI_le (show n ≤ i by omega) (by omega))]
    rw [fi_0]
    rw [if_neg (show ¬ i < n by omega)]
  | succ k ih =>
    intro i hi
    have hAi := hA.1 i (by omega)
    rw [dc_X4_indexOf_2]
    simp only [kr_n h, eI_s, if_neg (nI_ge (show i < n by omega) (by omega)), kr_cls h, eC_s, kr_at_in h hn (show i < n by omega), cA_s, kr_0 h hAi]
    rw [fi_s]
    by_cases hk : C (A i) 0 = key
    · rw [if_pos hk]
      simp only [hk, decide_true, if_true, if_pos (show i < n by omega)]
    · rw [if_neg hk, dc_X4_indexOf_30, nI_1, ih (i + 1) (by omega)]
      simp only [hk, decide_false, Bool.false_eq_true, if_false]
theorem kr_indexOf (h : KR s b n A C) (hA : okA 22 A) (hn : n ≤ 22) (key : Int32) : cl_ tb_ct tb_mt B K_X4_indexOf [.ref b, .int key] s = some (.inl (some (.int (ixI (fun i => decide (C (A i) 0 = key)) n))), s) := by
  rw [in_X4_indexOf, dc_X4_indexOf_0, ← nI_0, kr_indexOf_lp h hA hn key n 0 (by omega)]
  rfl
theorem kr_firstFrom_lp (h : KR s b n A C) (hA : okA 22 A) (hn : n ≤ 22) (key : Int32) : ∀ k i, i + k = n → rn_ tb_ct tb_mt B mm_X4_firstFrom 2 [.ref b, .int key, .int (nI i), am_un] [] s = some (.inl (some (.int (nI (fi (fun i => !decide (C (A i) 0 < key)) i k)))), s) := by
  intro k
  induction k with
  | zero =>
    intro i hi
    rw [dc_X4_firstFrom_2]
    simp only [kr_n h, eI_s, if_pos (nI_le (show n ≤ i by omega) (by omega))]
    rw [fi_0]
    rw [show n = i by omega]
  | succ k ih =>
    intro i hi
    have hAi := hA.1 i (by omega)
    rw [dc_X4_firstFrom_2]
    simp only [kr_n h, eI_s, if_neg (nI_ge (show i < n by omega) (by omega)), kr_cls h, eC_s, kr_at_in h hn (show i < n by omega), cA_s, kr_0 h hAi]
    rw [fi_s]
    by_cases hk : C (A i) 0 < key
    · rw [if_pos hk, dc_X4_firstFrom_30, nI_1, ih (i + 1) (by omega)]
      simp only [hk, decide_true, Bool.not_true, Bool.false_eq_true, if_false]
    · rw [if_neg hk]
      simp only [hk, decide_false, Bool.not_false, if_true]
theorem kr_firstFrom (h : KR s b n A C) (hA : okA 22 A) (hn : n ≤ 22) (key : Int32) : cl_ tb_ct tb_mt B K_X4_firstFrom [.ref b, .int key] s = some (.inl (some (.int (nI (fi (fun i => !decide (C (A i) 0 < key)) 0 n)))), s) := by
  rw [in_X4_firstFrom, dc_X4_firstFrom_0, ← nI_0, kr_firstFrom_lp h hA hn key n 0 (by omega)]
theorem kr_countWith_lp (h : KR s b n A C) (hA : okA 22 A) (hn : n ≤ 22) (key : Int32) : ∀ k i m, i + k = n → rn_ tb_ct tb_mt B mm_X4_countWith 4 [.ref b, .int key, .int (nI m), .int (nI i), am_un] [] s = some (.inl (some (.int (nI (m + cn (fun i => decide (C (A i) 5 = key)) i k)))), s) := by
  intro k
  induction k with
  | zero =>
    intro i m hi
    rw [dc_X4_countWith_4]
    simp only [kr_n h, eI_s, if_pos (nI_le (show n ≤ i by omega) (by omega)), cn, Nat.add_zero]
  | succ k ih =>
    intro i m hi
    have hAi := hA.1 i (by omega)
    rw [dc_X4_countWith_4]
    simp only [kr_n h, eI_s, if_neg (nI_ge (show i < n by omega) (by omega)), kr_cls h, eC_s, kr_at_in h hn (show i < n by omega), cA_s, kr_5 h hAi]
    unfold cn
    by_cases hk : C (A i) 5 = key
    · rw [if_pos hk, dc_X4_countWith_36, nI_1, nI_1, ih (i + 1) (m + 1) (by omega)]
      simp only [hk, decide_true, if_true, Nat.add_assoc]
    · rw [if_neg hk, dc_X4_countWith_36, nI_1, ih (i + 1) m (by omega)]
      simp only [hk, decide_false, Bool.false_eq_true, if_false, Nat.zero_add]
theorem kr_countWith (h : KR s b n A C) (hA : okA 22 A) (hn : n ≤ 22) (key : Int32) : cl_ tb_ct tb_mt B K_X4_countWith [.ref b, .int key] s = some (.inl (some (.int (nI (cn (fun i => decide (C (A i) 5 = key)) 0 n)))), s) := by
  rw [in_X4_countWith, dc_X4_countWith_0, ← nI_0, kr_countWith_lp h hA hn key n 0 0 (by omega), Nat.zero_add]
/-! insert -/
theorem kr_ins_84 {w : Value} {i : Nat} (h : KR s b n (shfA A i n) C) (hn : n < 22) (hi : i ≤ n) (hAn : A n < 22) (hB : B ≤ b) (key : Int32) : rn_ tb_ct tb_mt B mm_X4_insert 84 [.ref b, .int key, .ref (b + 2 + A n), .int (nI i), w] [] s = some (.inl (some (.ref (b + 2 + A n))), krS s b (n + 1) (insA A i n) (va_up C (A n) (upd (upd (C (A n)) 0 key) 4 0))) := by
  rw [dc_X4_insert_84]
  have e : va_up (shfA A i n) i (A n) = insA A i n := by
    funext j
    unfold va_up shfA insA
    rfl
  simp only [kr_r h, eA_s, kr_w h (show i < 22 by omega) hAn hB, eS_s, kr_n RW.of, eI_s, nI_1, kr_pn RW.of hB, rw_idem, kr_p0 RW.of hAn hB, kr_p4 RW.of hAn hB, e]
  refine congrArg (fun q => some (Sum.inl (some (Value.ref (b + 2 + A n))), q)) ?_
  refine rw_cg (fun i _ => rfl) fun j _ => ?_
  by_cases hj : j = A n
  · subst hj
    simp only [va_us]
  · simp only [va_un hj]
theorem kr_ins_lp (hA : okA 22 A) (hn : n < 22) (hB : B ≤ b) (key : Int32) : ∀ i w s, i ≤ n → KR s b n (shfA A i n) C → rn_ tb_ct tb_mt B mm_X4_insert 39 [.ref b, .int key, .ref (b + 2 + A n), .int (nI i), w] [] s = some (.inl (some (.ref (b + 2 + A n))), krS s b (n + 1) (insA A (ri (fun i => decide (C (A i) 0 < key)) i) n) (va_up C (A n) (upd (upd (C (A n)) 0 key) 4 0))) := by
  intro i
  induction i with
  | zero =>
    intro w s hi h
    rw [dc_X4_insert_39, if_pos (by rw [nI_0]; exact Int32.le_refl _), kr_ins_84 h hn hi (hA.1 n hn) hB key]
    rfl
  | succ i ih =>
    intro w s hi h
    have hAi := hA.1 i (by omega)
    rw [dc_X4_insert_39, if_neg (nI_nle (by omega) (by omega))]
    have e : shfA A (i + 1) n i = A i := by
      unfold shfA
      rw [if_neg (by omega)]
    simp only [kr_r h, eA_s, nI_sub1 (show 0 < i + 1 by omega), Nat.add_sub_cancel, kr_at h (show i < 22 by omega), e, kr_0 h hAi, eI_s]
    by_cases hk : C (A i) 0 < key
    · rw [if_neg (by rw [Int32.not_le]; exact hk), kr_ins_84 h hn hi (hA.1 n hn) hB key]
      simp only [ri, hk, decide_true, if_true]
    · rw [if_pos (Int32.not_lt.mp hk), dc_X4_insert_70]
      have e2 : va_up (shfA A (i + 1) n) (i + 1) (A i) = shfA A i n := by
        funext j
        unfold va_up shfA
        by_cases h1 : j = i + 1
        · subst h1
          rw [if_pos rfl, if_pos (by omega), Nat.add_sub_cancel]
        · rw [if_neg h1]
          by_cases h2 : i + 1 < j ∧ j ≤ n
          · rw [if_pos h2, if_pos (by omega)]
          · rw [if_neg h2, if_neg (by omega)]
      simp only [eA_s, kr_r h, kr_w h (show i + 1 < 22 by omega) hAi hB, eS_s, nI_neg1 (show 0 < i + 1 by omega), Nat.add_sub_cancel, e2]
      rw [ih _ _ (by omega) RW.of]
      simp only [rw_idem, ri, hk, decide_false, Bool.false_eq_true, if_false]
theorem kr_insert (h : KR s b n A C) (hA : okA 22 A) (hn : n < 22) (hB : B ≤ b) (key : Int32) : cl_ tb_ct tb_mt B K_X4_insert [.ref b, .int key] s = some (.inl (some (.ref (b + 2 + A n))), krS s b (n + 1) (insA A (ri (fun i => decide (C (A i) 0 < key)) n) n) (va_up C (A n) (upd (upd (C (A n)) 0 key) 4 0))) := by
  rw [in_X4_insert, dc_X4_insert_0]
  have e : shfA A n n = A := by
    funext j
    unfold shfA
    rw [if_neg (by omega)]
  simp only [kr_n h, eI_s, if_neg (nI_pos (show n < 2 ^ 31 by omega)), if_pos (show nI n < (22 : Int32) from nI_lt (b := 22) hn (by omega)), kr_r h, eA_s, kr_at h hn]
  rw [kr_ins_lp hA hn hB key n _ s (Nat.le_refl _) (by rw [e]; exact h)]
/-! removeAt -/
theorem kr_rem_lp (hA : okA 22 A) (hn : n ≤ 22) (hB : B ≤ b) {i : Nat} : ∀ k l w s, l + 1 + k = n → i ≤ l → KR s b n (shlA A i l) C → rn_ tb_ct tb_mt B mm_X4_removeAt 13 [.ref b, w, .ref (b + 2 + A i), .int (nI l)] [] s = some (.inl none, krS s b (n - 1) (remA A i n) C) := by
  intro k
  induction k with
  | zero =>
    intro l w s hl hi h
    have hAi := hA.1 i (by omega)
    rw [dc_X4_removeAt_13]
    have e : va_up (shlA A i l) l (A i) = remA A i n := by
      funext j
      unfold va_up shlA remA
      by_cases h1 : j = l
      · rw [if_pos h1, if_pos (by omega)]
      · rw [if_neg h1, if_neg (show ¬ j + 1 = n by omega)]
        by_cases h2 : i ≤ j ∧ j < l
        · rw [if_pos h2, if_pos (by omega)]
        · rw [if_neg h2, if_neg (by omega)]
    simp only [kr_n h, eI_s, nI_1, if_pos (nI_le (show n ≤ l + 1 by omega) (by omega))]
    rw [dc_X4_removeAt_51]
    simp only [kr_r h, eA_s, kr_w h (show l < 22 by omega) hAi hB, eS_s, kr_n RW.of, eI_s, nI_sub1 (show 0 < n by omega), kr_pn RW.of hB, rw_idem, e]
  | succ k ih =>
    intro l w s hl hi h
    have hAl := hA.1 (l + 1) (by omega)
    rw [dc_X4_removeAt_13]
    have e0 : shlA A i l (l + 1) = A (l + 1) := by
      unfold shlA
      rw [if_neg (by omega)]
    have e : va_up (shlA A i l) l (A (l + 1)) = shlA A i (l + 1) := by
      funext j
      unfold va_up shlA
      by_cases h1 : j = l
      · rw [if_pos h1, if_pos (by omega), h1]
      · rw [if_neg h1]
        by_cases h2 : i ≤ j ∧ j < l
        · rw [if_pos h2, if_pos (by omega)]
        · rw [if_neg h2, if_neg (by omega)]
    simp only [kr_n h, eI_s, nI_1, if_neg (nI_ge (show l + 1 < n by omega) (by omega)), if_neg (show ¬ (22 : Int32) ≤ nI (l + 1) from nI_ge (b := 22) (by omega) (by omega)), kr_r h, eA_s, kr_at h (show l + 1 < 22 by omega), e0, kr_w h (show l < 22 by omega) hAl hB, eS_s, e]
    rw [ih (l + 1) _ _ (by omega) (by omega) RW.of]
    simp only [rw_idem]
theorem kr_removeAt (h : KR s b n A C) (hA : okA 22 A) (hn : n ≤ 22) (hB : B ≤ b) {i : Nat} (hi : i < n) : cl_ tb_ct tb_mt B K_X4_removeAt [.ref b, .int (nI i)] s = some (.inl none, krS s b (n - 1) (remA A i n) C) := by
  rw [in_X4_removeAt, dc_X4_removeAt_0]
  have e : shlA A i i = A := by
    funext j
    unfold shlA
    rw [if_neg (by omega)]
  simp only [kr_cls h, eC_s, kr_at_in h hn hi, cA_s]
  rw [kr_rem_lp hA hn hB (n - i - 1) i _ s (by omega) (Nat.le_refl _) (by rw [e]; exact h)]
theorem kr_removeAt_no (h : KR s b n A C) {x : Int32} (hx : x < 0 ∨ nI n ≤ x) : cl_ tb_ct tb_mt B K_X4_removeAt [.ref b, .int x] s = some (.inl none, s) := by
  rw [in_X4_removeAt, dc_X4_removeAt_0]
  simp only [kr_cls h, eC_s, kr_at_out h hx, cA_n]
end KRq
