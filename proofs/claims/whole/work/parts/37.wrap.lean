/-! ===== rows by what they say: KW (keys), EW (events) ===== -/
abbrev rowT : Type := Nat → Nat → Int32
/-- the index of a key, n for none; where it stands or would stand -/
def pF (K : rowT) (n : Nat) (key : Int32) : Nat := fi (fun i => decide (K i 0 = key)) 0 n
def pI (K : rowT) (n : Nat) (key : Int32) : Nat := fi (fun i => !decide (K i 0 < key)) 0 n
theorem fi_le0 (p : Nat → Bool) (n : Nat) : fi p 0 n ≤ n := by
  have := (fi_le p n 0).2
  omega
theorem pF_le {K : rowT} {n : Nat} {key : Int32} : pF K n key ≤ n := fi_le0 _ _
theorem pI_le {K : rowT} {n : Nat} {key : Int32} : pI K n key ≤ n := fi_le0 _ _
theorem pF_eq {K : rowT} {n : Nat} {key : Int32} (h : pF K n key < n) : K (pF K n key) 0 = key := by
  have := fi_yes (fun i => decide (K i 0 = key)) n 0 (by unfold pF at h; omega)
  exact of_decide_eq_true this
theorem pF_no {K : rowT} {n : Nat} {key : Int32} {j : Nat} (h : j < pF K n key) : K j 0 ≠ key := by
  have := fi_no (fun i => decide (K i 0 = key)) n 0 j (by omega) h
  exact of_decide_eq_false this
theorem pF_cg {K K' : rowT} {n : Nat} {key : Int32} (h : ∀ i, i < n → K i 0 = K' i 0) : pF K n key = pF K' n key := fi_cg n 0 fun j _ hj => by rw [h j (by omega)]
theorem pI_cg {K K' : rowT} {n : Nat} {key : Int32} (h : ∀ i, i < n → K i 0 = K' i 0) : pI K n key = pI K' n key := fi_cg n 0 fun j _ hj => by rw [h j (by omega)]
/-- rising order -/
def srt (K : rowT) (n : Nat) : Prop := ∀ i j, i < j → j < n → K i 0 < K j 0
theorem srt_inj {K : rowT} {n i j : Nat} (h : srt K n) (hi : i < n) (hj : j < n) (e : K i 0 = K j 0) : i = j := by
  rcases Nat.lt_trichotomy i j with h1 | h1 | h1
  · exact absurd (e ▸ h i j h1 hj) (Int32.lt_irrefl)
  · exact h1
  · exact absurd (e ▸ h j i h1 hi) (Int32.lt_irrefl)
/-- it is there: the place is the index -/
theorem pI_of {K : rowT} {n q : Nat} {key : Int32} (h : srt K n) (hq : q < n) (e : K q 0 = key) : pI K n key = q := by
  refine fi_is (Nat.zero_le _) (by omega) (fun j _ hj => ?_) (fun _ => ?_)
  · simp only [Bool.not_eq_false', decide_eq_true_eq]
    exact e ▸ h j q hj hq
  · simp only [Bool.not_eq_true', decide_eq_false_iff_not]
    rw [e]
    exact Int32.lt_irrefl
theorem pF_of {K : rowT} {n q : Nat} {key : Int32} (h : srt K n) (hq : q < n) (e : K q 0 = key) : pF K n key = q := by
  refine fi_is (Nat.zero_le _) (by omega) (fun j _ hj => ?_) (fun _ => decide_eq_true e)
  refine decide_eq_false fun e2 => ?_
  have := srt_inj h (by omega) hq (e2.trans e.symm)
  omega
theorem pI_lt {K : rowT} {n j : Nat} {key : Int32} (h : j < pI K n key) : K j 0 < key := by
  have := fi_no (fun i => !decide (K i 0 < key)) n 0 j (by omega) h
  simp only [Bool.not_eq_false', decide_eq_true_eq] at this
  exact this
theorem pI_ge {K : rowT} {n j : Nat} {key : Int32} (h : srt K n) (h1 : pI K n key ≤ j) (hj : j < n) : ¬ K j 0 < key := by
  have h2 := fi_yes (fun i => !decide (K i 0 < key)) n 0 (by unfold pI at h1; omega)
  simp only [Bool.not_eq_true', decide_eq_false_iff_not] at h2
  change ¬ K (pI K n key) 0 < key at h2
  by_cases he : j = pI K n key
  · rw [he]
    exact h2
  · intro hc
    exact h2 (Int32.lt_trans (h _ j (by omega) hj) hc)
/-- whether it is there, by its place -/
theorem pI_there {K : rowT} {n : Nat} {key : Int32} (h : srt K n) : (pF K n key < n ↔ pI K n key < n ∧ K (pI K n key) 0 = key) := by
  constructor
  · intro hf
    have := pI_of h hf (pF_eq hf)
    rw [this]
    exact ⟨hf, pF_eq hf⟩
  · intro ⟨h1, h2⟩
    rw [pF_of h h1 h2]
    exact h1
/-- from the right it is the same place -/
theorem ri_pI {K : rowT} {n : Nat} {key : Int32} (h : srt K n) : ri (fun i => decide (K i 0 < key)) n = pI K n key := by
  have g : ∀ k, k ≤ n → pI K n key ≤ k → ri (fun i => decide (K i 0 < key)) k = pI K n key := by
    intro k
    induction k with
    | zero =>
      intro _ h2
      unfold ri
      omega
    | succ k ih =>
      intro h1 h2
      unfold ri
      by_cases hk : pI K n key ≤ k
      · rw [if_neg (by rw [decide_eq_true_eq]; exact pI_ge h hk (by omega))]
        exact ih (by omega) hk
      · rw [if_pos (by rw [decide_eq_true_eq]; exact pI_lt (n := n) (by omega))]
        omega
  exact g n (Nat.le_refl _) pI_le
theorem ri_cg {p q : Nat → Bool} : ∀ k, (∀ i, i < k → p i = q i) → ri p k = ri q k
  | 0, _ => rfl
  | k + 1, h => by
    unfold ri
    rw [h k (by omega), ri_cg k fun i hi => h i (by omega)]
def KW (s : am_S) (b n : Nat) (K : rowT) : Prop := n ≤ 22 ∧ ∃ A C, KR s b n A C ∧ okA 22 A ∧ ∀ i, i < n → ∀ w, w < 6 → C (A i) w = K i w
def EW (s : am_S) (b n : Nat) (E : rowT) : Prop := n ≤ 152 ∧ ∃ A C, ER s b n A C ∧ okA 152 A ∧ ∀ i, i < n → ∀ w, w < 7 → C (A i) w = E i w
/-- a key's object, an event's -/
def KC (s : am_S) (a : Nat) (k : Nat → Int32) : Prop := ∃ r, s.1 a = some (.inr (2, kf r)) ∧ ∀ w, w < 6 → r w = k w
def EC (s : am_S) (a : Nat) (e : Nat → Int32) : Prop := ∃ r, s.1 a = some (.inr (0, ef r)) ∧ ∀ w, w < 7 → r w = e w
section Wrap
variable {s s' : am_S} {B a b b' n n' i : Nat} {K K' E E' : rowT} {k e : Nat → Int32} {key : Int32}
theorem KW.at (h : KW s b n K) (hs : ∀ q, b ≤ q → q < b + 24 → s'.1 q = s.1 q) : KW s' b n K := by
  obtain ⟨h1, A, C, h2, h3⟩ := h
  exact ⟨h1, A, C, RW.at h2 (fun q h4 h5 => hs q h4 (by omega)) (by omega), h3⟩
theorem EW.at (h : EW s b n E) (hs : ∀ q, b ≤ q → q < b + 154 → s'.1 q = s.1 q) : EW s' b n E := by
  obtain ⟨h1, A, C, h2, h3⟩ := h
  exact ⟨h1, A, C, RW.at h2 (fun q h4 h5 => hs q h4 (by omega)) (by omega), h3⟩
theorem KW.cg (h : KW s b n K) (hk : ∀ i, i < n → ∀ w, w < 6 → K i w = K' i w) : KW s b n K' := by
  obtain ⟨h1, A, C, h2, h3, h4⟩ := h
  exact ⟨h1, A, C, h2, h3, fun i hi w hw => (h4 i hi w hw).trans (hk i hi w hw)⟩
theorem EW.cg (h : EW s b n E) (hk : ∀ i, i < n → ∀ w, w < 7 → E i w = E' i w) : EW s b n E' := by
  obtain ⟨h1, A, C, h2, h3, h4⟩ := h
  exact ⟨h1, A, C, h2, h3, fun i hi w hw => (h4 i hi w hw).trans (hk i hi w hw)⟩
theorem kw_cls (h : KW s b n K) : am_cls s b = some 3 := by
  obtain ⟨-, A, C, h2, -⟩ := h
  exact kr_cls h2
theorem kw_n (h : KW s b n K) : gI tb_ct s b 3 1 = some (nI n) := by
  obtain ⟨-, A, C, h2, -⟩ := h
  exact kr_n h2
theorem ew_cls (h : EW s b n E) : am_cls s b = some 1 := by
  obtain ⟨-, A, C, h2, -⟩ := h
  exact er_cls h2
theorem ew_n (h : EW s b n E) : gI tb_ct s b 1 1 = some (nI n) := by
  obtain ⟨-, A, C, h2, -⟩ := h
  exact er_n h2
theorem kc_cls (h : KC s a k) : am_cls s a = some 2 := by
  obtain ⟨r, h1, -⟩ := h
  exact cls_o h1
theorem kc_0 (h : KC s a k) : gI tb_ct s a 2 0 = some (k 0) := by
  obtain ⟨r, h1, h2⟩ := h
  rw [← h2 0 (by omega)]
  exact gI_o h1 rfl rfl rfl
theorem kc_1 (h : KC s a k) : gI tb_ct s a 2 1 = some (k 1) := by
  obtain ⟨r, h1, h2⟩ := h
  rw [← h2 1 (by omega)]
  exact gI_o h1 rfl rfl rfl
theorem kc_2 (h : KC s a k) : gI tb_ct s a 2 2 = some (k 2) := by
  obtain ⟨r, h1, h2⟩ := h
  rw [← h2 2 (by omega)]
  exact gI_o h1 rfl rfl rfl
theorem kc_3 (h : KC s a k) : gI tb_ct s a 2 3 = some (k 3) := by
  obtain ⟨r, h1, h2⟩ := h
  rw [← h2 3 (by omega)]
  exact gI_o h1 rfl rfl rfl
theorem kc_4 (h : KC s a k) : gI tb_ct s a 2 4 = some (k 4) := by
  obtain ⟨r, h1, h2⟩ := h
  rw [← h2 4 (by omega)]
  exact gI_o h1 rfl rfl rfl
theorem kc_5 (h : KC s a k) : gI tb_ct s a 2 5 = some (k 5) := by
  obtain ⟨r, h1, h2⟩ := h
  rw [← h2 5 (by omega)]
  exact gI_o h1 rfl rfl rfl
theorem ec_cls (h : EC s a e) : am_cls s a = some 0 := by
  obtain ⟨r, h1, -⟩ := h
  exact cls_o h1
theorem ec_0 (h : EC s a e) : gI tb_ct s a 0 0 = some (e 0) := by
  obtain ⟨r, h1, h2⟩ := h
  rw [← h2 0 (by omega)]
  exact gI_o h1 rfl rfl rfl
theorem ec_1 (h : EC s a e) : gI tb_ct s a 0 1 = some (e 1) := by
  obtain ⟨r, h1, h2⟩ := h
  rw [← h2 1 (by omega)]
  exact gI_o h1 rfl rfl rfl
theorem ec_2 (h : EC s a e) : gI tb_ct s a 0 2 = some (e 2) := by
  obtain ⟨r, h1, h2⟩ := h
  rw [← h2 2 (by omega)]
  exact gI_o h1 rfl rfl rfl
theorem ec_3 (h : EC s a e) : gI tb_ct s a 0 3 = some (e 3) := by
  obtain ⟨r, h1, h2⟩ := h
  rw [← h2 3 (by omega)]
  exact gI_o h1 rfl rfl rfl
theorem ec_4 (h : EC s a e) : gI tb_ct s a 0 4 = some (e 4) := by
  obtain ⟨r, h1, h2⟩ := h
  rw [← h2 4 (by omega)]
  exact gI_o h1 rfl rfl rfl
theorem ec_5 (h : EC s a e) : gI tb_ct s a 0 5 = some (e 5) := by
  obtain ⟨r, h1, h2⟩ := h
  rw [← h2 5 (by omega)]
  exact gI_o h1 rfl rfl rfl
theorem ec_6 (h : EC s a e) : gI tb_ct s a 0 6 = some (e 6) := by
  obtain ⟨r, h1, h2⟩ := h
  rw [← h2 6 (by omega)]
  exact gI_o h1 rfl rfl rfl
theorem kc_number (h : KC s a k) {w : Nat} (hw : w < 5) : cl_ tb_ct tb_mt B K_X3_number [.ref a, .int (nI w)] s = some (.inl (some (.int (k (w + 1)))), s) := by
  obtain ⟨r, h1, h2⟩ := h
  rw [k_number h1 hw, h2 _ (by omega)]
theorem ec_number (h : EC s a e) {w : Nat} (hw : w < 6) : cl_ tb_ct tb_mt B K_X1_number [.ref a, .int (nI w)] s = some (.inl (some (.int (e w))), s) := by
  obtain ⟨r, h1, h2⟩ := h
  rw [e_number h1 hw, h2 _ (by omega)]
theorem kc_isIn (h : KC s a k) (x y : Int32) : cl_ tb_ct tb_mt B K_X3_isIn [.ref a, .int x, .int y] s = some (.inl (some (.int (if k 0 < x then 0 else if y < k 0 then 0 else 1))), s) := by
  rw [in_X3_isIn, dc_X3_isIn_0]
  simp only [kc_0 h, eI_s]
  split
  · rfl
  · split <;> rfl
def cbB (k k' : Nat → Int32) : Bool := decide (k 2 < k' 2) || (decide (k 2 = k' 2) && decide (k 0 < k' 0))
theorem kc_cameBefore {a' : Nat} {k' : Nat → Int32} (h : KC s a k) (h' : KC s a' k') : cl_ tb_ct tb_mt B K_X3_cameBefore [.ref a, .ref a'] s = some (.inl (some (.int (if cbB k k' = true then 1 else 0))), s) := by
  rw [in_X3_cameBefore, dc_X3_cameBefore_0]
  simp only [kc_0 h, kc_2 h, kc_0 h', kc_2 h', eI_s, dc_X3_cameBefore_33]
  unfold cbB
  by_cases h1 : k 2 < k' 2
  · simp only [if_pos h1, decide_eq_true h1, Bool.true_or, if_true]
  · by_cases h2 : k 2 = k' 2
    · by_cases h3 : k 0 < k' 0
      · simp only [if_neg h1, if_pos h2, if_neg (Int32.not_le.mpr h3), decide_eq_true h2, decide_eq_true h3, Bool.true_and, Bool.or_true, if_true]
      · simp only [if_neg h1, if_pos h2, if_pos (Int32.not_lt.mp h3), decide_eq_false h1, decide_eq_false h3, Bool.and_false, Bool.false_or, Bool.false_eq_true, if_false]
    · simp only [if_neg h1, if_neg h2, decide_eq_false h1, decide_eq_false h2, Bool.false_and, Bool.false_or, Bool.false_eq_true, if_false]
theorem kw_at (h : KW s b n K) (hi : i < n) : ∃ a, cl_ tb_ct tb_mt B K_X4_at [.ref b, .int (nI i)] s = some (.inl (some (.ref a)), s) ∧ KC s a (K i) := by
  obtain ⟨h1, A, C, h2, h3, h4⟩ := h
  exact ⟨_, kr_at_in h2 h1 hi, C (A i), RW.ek h2 (h3.1 i (by omega)), h4 i hi⟩
theorem kw_at_no (h : KW s b n K) {x : Int32} (hx : x < 0 ∨ nI n ≤ x) : cl_ tb_ct tb_mt B K_X4_at [.ref b, .int x] s = some (.inl (some .null), s) := by
  obtain ⟨h1, A, C, h2, h3, h4⟩ := h
  exact kr_at_out h2 hx
theorem ew_at (h : EW s b n E) (hi : i < n) : ∃ a, cl_ tb_ct tb_mt B K_X2_at [.ref b, .int (nI i)] s = some (.inl (some (.ref a)), s) ∧ EC s a (E i) ∧ b + 2 ≤ a ∧ a < b + 154 := by
  obtain ⟨h1, A, C, h2, h3, h4⟩ := h
  have := h3.1 i (by omega)
  have g1 : b + 2 ≤ b + 2 + A i := by omega
  have g2 : b + 2 + A i < b + 154 := by omega
  exact ⟨b + 2 + A i, er_at_in h2 h1 hi, ⟨C (A i), RW.ek h2 this, h4 i hi⟩, g1, g2⟩
theorem ew_at_no (h : EW s b n E) {x : Int32} (hx : x < 0 ∨ nI n ≤ x) : cl_ tb_ct tb_mt B K_X2_at [.ref b, .int x] s = some (.inl (some .null), s) := by
  obtain ⟨h1, A, C, h2, h3, h4⟩ := h
  exact er_at_out h2 hx
theorem kw_find (h : KW s b n K) (hf : pF K n key < n) : ∃ a, cl_ tb_ct tb_mt B K_X4_find [.ref b, .int key] s = some (.inl (some (.ref a)), s) ∧ KC s a (K (pF K n key)) := by
  obtain ⟨h1, A, C, h2, h3, h4⟩ := h
  have e : pF (fun i => C (A i)) n key = pF K n key := pF_cg fun i hi => h4 i hi 0 (by omega)
  refine ⟨b + 2 + A (pF K n key), ?_, C (A (pF K n key)), RW.ek h2 (h3.1 _ (by omega)), h4 _ hf⟩
  rw [kr_find h2 h3 h1]
  change some (Sum.inl (some (va_rf (if pF (fun i => C (A i)) n key < n then some (b + 2 + A (pF (fun i => C (A i)) n key)) else none))), s) = _
  rw [e, if_pos hf]
  rfl
theorem kw_find_no (h : KW s b n K) (hf : ¬ pF K n key < n) : cl_ tb_ct tb_mt B K_X4_find [.ref b, .int key] s = some (.inl (some .null), s) := by
  obtain ⟨h1, A, C, h2, h3, h4⟩ := h
  have e : pF (fun i => C (A i)) n key = pF K n key := pF_cg fun i hi => h4 i hi 0 (by omega)
  rw [kr_find h2 h3 h1]
  change some (Sum.inl (some (va_rf (if pF (fun i => C (A i)) n key < n then some (b + 2 + A (pF (fun i => C (A i)) n key)) else none))), s) = _
  rw [e, if_neg hf]
  rfl
theorem kw_indexOf (h : KW s b n K) (key : Int32) : cl_ tb_ct tb_mt B K_X4_indexOf [.ref b, .int key] s = some (.inl (some (.int (if pF K n key < n then nI (pF K n key) else -1))), s) := by
  obtain ⟨h1, A, C, h2, h3, h4⟩ := h
  have e : pF (fun i => C (A i)) n key = pF K n key := pF_cg fun i hi => h4 i hi 0 (by omega)
  rw [kr_indexOf h2 h3 h1]
  change some (Sum.inl (some (Value.int (if pF (fun i => C (A i)) n key < n then nI (pF (fun i => C (A i)) n key) else -1))), s) = _
  rw [e]
theorem kw_firstFrom (h : KW s b n K) (key : Int32) : cl_ tb_ct tb_mt B K_X4_firstFrom [.ref b, .int key] s = some (.inl (some (.int (nI (pI K n key)))), s) := by
  obtain ⟨h1, A, C, h2, h3, h4⟩ := h
  have e : pI (fun i => C (A i)) n key = pI K n key := pI_cg fun i hi => h4 i hi 0 (by omega)
  rw [kr_firstFrom h2 h3 h1, ← e]
  rfl
theorem kw_countWith (h : KW s b n K) (x : Int32) : cl_ tb_ct tb_mt B K_X4_countWith [.ref b, .int x] s = some (.inl (some (.int (nI (cn (fun i => decide (K i 5 = x)) 0 n)))), s) := by
  obtain ⟨h1, A, C, h2, h3, h4⟩ := h
  rw [kr_countWith h2 h3 h1, cn_cg n 0 (q := fun i => decide (K i 5 = x)) fun j _ hj => by rw [h4 j (by omega) 5 (by omega)]]
theorem ew_countTo (h : EW s b n E) (x : Int32) : cl_ tb_ct tb_mt B K_X2_countTo [.ref b, .int x] s = some (.inl (some (.int (nI (fi (fun i => !decide (E i 0 ≤ x)) 0 n)))), s) := by
  obtain ⟨h1, A, C, h2, h3, h4⟩ := h
  rw [er_countTo h2 h3 h1, fi_cg n 0 (q := fun i => !decide (E i 0 ≤ x)) fun j _ hj => by rw [h4 j (by omega) 0 (by omega)]]
/-- how the two rows differ -/
def dfK (K : rowT) (n : Nat) (K' : rowT) (n' : Nat) : Int32 := ((nI n + nI n') - nI (cn (fun i => decide (pF K' n' (K i 0) < n')) 0 n)) - nI (cn (fun i => decide (pF K' n' (K i 0) < n') && decide (K' (pF K' n' (K i 0)) 1 = K i 1)) 0 n)
theorem kw_differences (h : KW s b n K) (h' : KW s b' n' K') : cl_ tb_ct tb_mt B K_X4_differences [.ref b, .ref b'] s = some (.inl (some (.int (dfK K n K' n'))), s) := by
  obtain ⟨h1, A, C, h2, h3, h4⟩ := h
  obtain ⟨h1', A', C', h2', h3', h4'⟩ := h'
  have e : ∀ key, pF (fun i => C' (A' i)) n' key = pF K' n' key := fun key => pF_cg fun i hi => h4' i hi 0 (by omega)
  rw [kr_differences h2 h2' h3 h3' h1 h1']
  unfold dfK
  rw [cn_cg n 0 (p := dfS A A' C C' n') (q := fun i => decide (pF K' n' (K i 0) < n')) fun j _ hj => ?_, cn_cg n 0 (p := dfL A A' C C' n') (q := fun i => decide (pF K' n' (K i 0) < n') && decide (K' (pF K' n' (K i 0)) 1 = K i 1)) fun j _ hj => ?_]
  · change (decide (pF (fun i => C' (A' i)) n' (C (A j) 0) < n') && decide (C' (A' (pF (fun i => C' (A' i)) n' (C (A j) 0))) 1 = C (A j) 1)) = _
    rw [e, h4 j (by omega) 0 (by omega), h4 j (by omega) 1 (by omega)]
    by_cases hf : pF K' n' (K j 0) < n'
    · rw [h4' _ hf 1 (by omega)]
    · rw [decide_eq_false hf]
      rfl
  · change decide (pF (fun i => C' (A' i)) n' (C (A j) 0) < n') = _
    rw [e, h4 j (by omega) 0 (by omega)]
/-- rows with one more, one less -/
def insR (R : rowT) (i n : Nat) (x : Nat → Int32) : rowT := fun j => if j = i then x else if i < j ∧ j ≤ n then R (j - 1) else R j
def delR (R : rowT) (i n : Nat) : rowT := fun j => if i ≤ j ∧ j + 1 < n then R (j + 1) else R j
theorem kw_copyFrom (h : KW s b n K) (h' : KW s b' n' K') (hd : b' + 24 ≤ b ∨ b + 24 ≤ b') (hB : B ≤ b) : ∃ s', cl_ tb_ct tb_mt B K_X4_copyFrom [.ref b, .ref b'] s = some (.inl none, s') ∧ so s s' b (b + 24) ∧ KW s' b n' K' := by
  obtain ⟨h1, A, C, h2, h3, h4⟩ := h
  obtain ⟨h1', A', C', h2', h3', h4'⟩ := h'
  refine ⟨_, kr_copyFrom h2 h2' h3 h3' h1' hd hB, so_rw, h1', _, _, RW.of, h3, fun i hi w hw => ?_⟩
  rw [cpF_at h3 n' 0 C i (by omega) (by omega) (by omega)]
  exact h4' i hi w hw
theorem ew_copyFrom (h : EW s b n E) (h' : EW s b' n' E') (hd : b' + 154 ≤ b ∨ b + 154 ≤ b') (hB : B ≤ b) : ∃ s', cl_ tb_ct tb_mt B K_X2_copyFrom [.ref b, .ref b'] s = some (.inl none, s') ∧ so s s' b (b + 154) ∧ EW s' b n' E' := by
  obtain ⟨h1, A, C, h2, h3, h4⟩ := h
  obtain ⟨h1', A', C', h2', h3', h4'⟩ := h'
  refine ⟨_, er_copyFrom h2 h2' h3 h3' h1' hd hB, so_rw, h1', _, _, RW.of, h3, fun i hi w hw => ?_⟩
  rw [cpF_at h3 n' 0 C i (by omega) (by omega) (by omega)]
  exact h4' i hi w hw
theorem kw_removeAt (h : KW s b n K) (hB : B ≤ b) (hi : i < n) : ∃ s', cl_ tb_ct tb_mt B K_X4_removeAt [.ref b, .int (nI i)] s = some (.inl none, s') ∧ so s s' b (b + 24) ∧ KW s' b (n - 1) (delR K i n) := by
  obtain ⟨h1, A, C, h2, h3, h4⟩ := h
  refine ⟨_, kr_removeAt h2 h3 h1 hB hi, so_rw, by omega, _, _, RW.of, okA_rem h3 h1 hi, fun j hj w hw => ?_⟩
  unfold remA delR
  rw [if_neg (by omega)]
  by_cases hc : i ≤ j ∧ j + 1 < n
  · rw [if_pos hc, if_pos hc]
    exact h4 _ (by omega) w hw
  · rw [if_neg hc, if_neg hc]
    exact h4 _ (by omega) w hw
theorem kw_removeAt_no (h : KW s b n K) {x : Int32} (hx : x < 0 ∨ nI n ≤ x) : cl_ tb_ct tb_mt B K_X4_removeAt [.ref b, .int x] s = some (.inl none, s) := by
  obtain ⟨h1, A, C, h2, h3, h4⟩ := h
  exact kr_removeAt_no h2 hx
theorem ew_dropFirst (h : EW s b n E) (hB : B ≤ b) {g : Nat} (hg : g ≤ n) : ∃ s', cl_ tb_ct tb_mt B K_X2_dropFirst [.ref b, .int (nI g)] s = some (.inl none, s') ∧ so s s' b (b + 154) ∧ EW s' b (n - g) (fun i => E (i + g)) := by
  obtain ⟨h1, A, C, h2, h3, h4⟩ := h
  refine ⟨_, er_dropFirst h2 h3 h1 hB hg, so_rw, by omega, _, _, RW.of, okA_sw h3 (n - g) (by omega), fun j hj w hw => ?_⟩
  by_cases h0 : g = 0
  · subst h0
    have : ∀ i j, swA A 0 i j = A j := by
      intro i
      induction i with
      | zero => intro j; rfl
      | succ i ih =>
        intro j
        rw [swA_s]
        unfold va_up
        by_cases hj : j = i + 0
        · rw [if_pos hj, ih, hj]
          rfl
        · rw [if_neg hj]
          by_cases hj2 : j = i
          · omega
          · rw [if_neg hj2, ih]
    rw [this]
    exact h4 _ (by omega) w hw
  · rw [swA_lo A g (by omega) (n - g) j hj]
    exact h4 _ (by omega) w hw
/-- a field of the i-th key written -/
theorem kw_put (h : KW s b n K) (hB : B ≤ b) (hi : i < n) : ∀ a, cl_ tb_ct tb_mt B K_X4_at [.ref b, .int (nI i)] s = some (.inl (some (.ref a)), s) → ∀ (M : am_M) (w : Nat) (x : Int32), w < 6 → ∃ s', am_put tb_ct M B s (.int x) a 2 w = some s' ∧ so s s' b (b + 24) ∧ KW s' b n (up2 K i w x) ∧ cl_ tb_ct tb_mt B K_X4_at [.ref b, .int (nI i)] s' = some (.inl (some (.ref a)), s') := by
  intro a ha M w x hw
  obtain ⟨h1, A, C, h2, h3, h4⟩ := h
  have hAi := h3.1 i (by omega)
  rw [kr_at_in h2 h1 hi] at ha
  have ea : b + 2 + A i = a := by
    injection ha with ha
    injection ha with ha _
    injection ha with ha
    injection ha with ha
    injection ha with ha
  subst ea
  refine ⟨rwS 3 "WatchedKeys$Key" 22 2 kf s b n A (va_up C (A i) (upd (C (A i)) w x)), ?_, so_rw, ⟨h1, A, _, RW.of, h3, fun j hj v hv => ?_⟩, kr_at_in RW.of h1 hi⟩
  · match w with
    | 0 => exact kr_p0 h2 hAi hB
    | 1 => exact kr_p1 h2 hAi hB
    | 2 => exact kr_p2 h2 hAi hB
    | 3 => exact kr_p3 h2 hAi hB
    | 4 => exact kr_p4 h2 hAi hB
    | 5 => exact kr_p5 h2 hAi hB
    | w + 6 => omega
  · unfold up2
    by_cases hj2 : j = i
    · subst hj2
      rw [va_us]
      unfold upd
      by_cases hv2 : v = w
      · rw [if_pos hv2, if_pos ⟨rfl, hv2⟩]
      · rw [if_neg hv2, if_neg (fun hc => hv2 hc.2)]
        exact h4 _ hj v hv
    · rw [va_un (fun e => hj2 (h3.2 j (by omega) i (by omega) e)), if_neg (fun hc => hj2 hc.1)]
      exact h4 _ hj v hv
end Wrap
