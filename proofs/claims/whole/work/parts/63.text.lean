/-! ===== numbers in writing (pure) ===== -/
theorem ng_i {n : Nat} (h : n < 2 ^ 31) : (-(nI n)).toInt = -(n : Int) := by
  rw [Int32.toInt_neg, nI_toInt h, Int.bmod_eq_of_le (by omega) (by omega)]
theorem ng_le {a b : Nat} (ha : a < 2 ^ 31) (hb : b < 2 ^ 31) : (-(nI a) ≤ -(nI b)) ↔ b ≤ a := by
  rw [Int32.le_iff_toInt_le, ng_i ha, ng_i hb]; omega
theorem ng_lt {a b : Nat} (ha : a < 2 ^ 31) (hb : b < 2 ^ 31) : (-(nI a) < -(nI b)) ↔ b < a := by
  rw [Int32.lt_iff_toInt_lt, ng_i ha, ng_i hb]; omega
theorem ng_div {n q : Nat} (h : n < 2 ^ 31) (hq : q < 2 ^ 31) : -(nI n) / nI q = -(nI (n / q)) := by
  apply Int32.toInt_inj.mp
  rw [Int32.toInt_div, ng_i h, nI_toInt hq, ng_i (Nat.lt_of_le_of_lt (Nat.div_le_self _ _) h), Int.neg_tdiv, ← Int.ofNat_tdiv]
  have := Nat.div_le_self n q
  generalize n / q = c at this ⊢
  rw [Int.bmod_eq_of_le (by omega) (by omega)]
theorem nI_div {n q : Nat} (h : n < 2 ^ 31) (hq : q < 2 ^ 31) : nI n / nI q = nI (n / q) := by
  apply Int32.toInt_inj.mp
  have := Nat.div_le_self n q
  rw [Int32.toInt_div, nI_toInt h, nI_toInt hq, nI_toInt (show n / q < 2 ^ 31 by omega), ← Int.ofNat_tdiv]
  generalize n / q = c at this ⊢
  rw [Int.bmod_eq_of_le (by omega) (by omega)]
theorem nI_mul {a b : Nat} : nI a * nI b = nI (a * b) := by
  unfold nI; exact (Int32.ofNat_mul a b).symm
theorem ng_rem {n q : Nat} (h : n < 2 ^ 31) (hq : q < 2 ^ 31) : -(nI n) / nI q * nI q - -(nI n) = nI (n % q) := by
  have e := Nat.div_mul_le_self n q
  rw [ng_div h hq, Int32.neg_mul, nI_mul, Int32.sub_neg, Int32.add_comm, ← Int32.sub_eq_add_neg, nI_2 e]
  have := Nat.div_add_mod n q
  rw [Nat.mul_comm] at this
  congr 1; omega
theorem nI_rem {n q : Nat} (h : n < 2 ^ 31) (hq : q < 2 ^ 31) : nI n - nI n / nI q * nI q = nI (n % q) := by
  have e := Nat.div_mul_le_self n q
  rw [nI_div h hq, nI_mul, nI_2 e]
  have := Nat.div_add_mod n q
  rw [Nat.mul_comm] at this
  congr 1; omega
def dgs (n : Nat) : List Int32 := if n < 10 then [nI (48 + n)] else dgs (n / 10) ++ [nI (48 + n % 10)]
termination_by n
decreasing_by omega
theorem dgs_lt {n : Nat} (h : n < 10) : dgs n = [nI (48 + n)] := by rw [dgs, if_pos h]
theorem dgs_ge {n : Nat} (h : 10 ≤ n) : dgs n = dgs (n / 10) ++ [nI (48 + n % 10)] := by rw [dgs, if_neg (by omega)]
theorem dgs_len : ∀ i n, n < 10 ^ (i + 1) → (i = 0 ∨ 10 ^ i ≤ n) → (dgs n).length = i + 1
  | 0, n, h, _ => by rw [dgs_lt (by omega)]; rfl
  | i + 1, n, h, h' => by
    have e : 10 ^ (i + 2) = 10 ^ (i + 1) * 10 := Nat.pow_succ _ _
    have e' : 10 ^ (i + 1) = 10 ^ i * 10 := Nat.pow_succ _ _
    have p : 0 < 10 ^ i := Nat.pow_pos (by omega)
    rw [dgs_ge (by omega), List.length_append, dgs_len i (n / 10) (by omega) (by omega)]
    rfl
theorem dgs_le : ∀ i n, n < 10 ^ (i + 1) → (dgs n).length ≤ i + 1
  | 0, n, h => by rw [dgs_lt (by omega)]; exact Nat.le_refl _
  | i + 1, n, h => by
    by_cases c : n < 10
    · rw [dgs_lt c]; exact Nat.le_add_left _ _
    · have e : 10 ^ (i + 2) = 10 ^ (i + 1) * 10 := Nat.pow_succ _ _
      have := dgs_le i (n / 10) (by omega)
      rw [dgs_ge (by omega), List.length_append]
      exact Nat.add_le_add_right this 1
theorem dgs_ge2 {n : Nat} (h : 100 ≤ n) : dgs n = dgs (n / 100) ++ [nI (48 + n % 100 / 10), nI (48 + n % 100 % 10)] := by
  rw [dgs_ge (by omega), dgs_ge (by omega), List.append_assoc, show n / 10 / 10 = n / 100 by omega, show n / 10 % 10 = n % 100 / 10 by omega, show n % 10 = n % 100 % 10 by omega]
  rfl
def tx (y : Int32) : List Int32 := if y < 0 then (45 : Int32) :: dgs (-y).toInt.toNat else dgs y.toInt.toNat
theorem ng_pos {y : Int32} (h : y < 0) (h' : (-1000000 : Int32) ≤ y) : ∃ n, y = -(nI n) ∧ 1 ≤ n ∧ n ≤ 1000000 := by
  have a : y.toInt < 0 := Int32.lt_iff_toInt_lt.mp h
  have b : (-1000000 : Int) ≤ y.toInt := Int32.le_iff_toInt_le.mp h'
  refine ⟨(-y.toInt).toNat, ?_, by omega, by omega⟩
  apply Int32.toInt_inj.mp
  rw [ng_i (by omega)]
  omega
theorem tx_ng {n : Nat} (h : 1 ≤ n) (h' : n < 2 ^ 31) : tx (-(nI n)) = (45 : Int32) :: dgs n := by
  unfold tx
  rw [if_pos (by rw [Int32.lt_iff_toInt_lt, ng_i h']; show -(n : Int) < 0; omega), Int32.neg_neg, nI_toInt h']
  rfl
theorem tx_nI {n : Nat} (h' : n < 2 ^ 31) : tx (nI n) = dgs n := by
  unfold tx
  rw [if_neg (by rw [Int32.lt_iff_toInt_lt, nI_toInt h']; show ¬ (n : Int) < 0; omega), nI_toInt h']
  rfl
theorem tx_le {y : Int32} (h : vOk y) : (tx y).length ≤ 8 := by
  by_cases c : y < 0
  · obtain ⟨n, e, h1, h2⟩ := ng_pos c h.1
    rw [e, tx_ng h1 (by omega)]
    exact Nat.succ_le_succ (dgs_le 6 n (by omega))
  · obtain ⟨n, h1, e⟩ := nI_of2 (M := 1000000) (n := 1000000) rfl c h.2
    rw [e, tx_nI (by omega)]
    exact Nat.le_succ_of_le (dgs_le 6 n (by omega))
theorem gD_lt {l l' : List Int32} {i : Nat} (h : i < l.length) : (l ++ l').getD i 0 = l.getD i 0 := by
  rw [List.getD_eq_getElem?_getD, List.getD_eq_getElem?_getD, List.getElem?_append_left h]
theorem gD_ge {l l' : List Int32} {i : Nat} (h : l.length ≤ i) : (l ++ l').getD i 0 = l'.getD (i - l.length) 0 := by
  rw [List.getD_eq_getElem?_getD, List.getD_eq_getElem?_getD, List.getElem?_append_right h]
theorem gD_mem {l : List Int32} {i : Nat} (h : i < l.length) : l.getD i 0 ∈ l := by
  rw [List.getD_eq_getElem?_getD, List.getElem?_eq_getElem h]
  exact List.getElem_mem h
theorem gD_0 {l : List Int32} {i : Nat} (h : l.length ≤ i) : l.getD i 0 = 0 := by
  rw [List.getD_eq_getElem?_getD, List.getElem?_eq_none h]
  rfl
/-- bytes written at a place -/
def wr (g : Nat → Int32) (p : Nat) (l : List Int32) : Nat → Int32 := fun i => if p ≤ i ∧ i < p + l.length then l.getD (i - p) 0 else g i
theorem wr_nil {g : Nat → Int32} {p : Nat} : wr g p [] = g := funext fun i => if_neg (fun h => absurd h.2 (Nat.not_lt.mpr h.1))
theorem wr_cons {g : Nat → Int32} {p : Nat} {c : Int32} {l : List Int32} : upd (wr g (p + 1) l) p c = wr g p (c :: l) := by
  funext i
  unfold upd wr
  by_cases h : i = p
  · subst h
    rw [if_pos rfl, if_pos ⟨Nat.le_refl _, Nat.lt_add_of_pos_right (Nat.succ_pos _)⟩, Nat.sub_self]
    rfl
  · rw [if_neg h]
    by_cases h1 : p + 1 ≤ i ∧ i < p + 1 + l.length
    · rw [if_pos h1, if_pos ⟨by omega, by rw [List.length_cons]; omega⟩, show i - p = (i - (p + 1)) + 1 by omega]
      rfl
    · rw [if_neg h1, if_neg (by rw [List.length_cons]; omega)]
theorem wr_snoc {g : Nat → Int32} {p q : Nat} {c : Int32} {l : List Int32} (hq : q = p + l.length) : wr (upd g q c) p l = wr g p (l ++ [c]) := by
  subst hq
  funext i
  have e : (l ++ [c]).length = l.length + 1 := by rw [List.length_append, List.length_singleton]
  unfold wr
  by_cases h1 : p ≤ i ∧ i < p + l.length
  · rw [if_pos h1, if_pos ⟨h1.1, by omega⟩, gD_lt (by omega)]
  · rw [if_neg h1]
    unfold upd
    by_cases h2 : i = p + l.length
    · rw [if_pos h2, if_pos ⟨by omega, by omega⟩, gD_ge (by omega), show i - p - l.length = 0 by omega]
      rfl
    · rw [if_neg h2, if_neg (by omega)]
/-- a byte of ASCII -/
def bOk (x : Int32) : Prop := ∃ n, n < 128 ∧ x = nI n
theorem bOk_n {n : Nat} (h : n < 128) : bOk (nI n) := ⟨n, h, rfl⟩
theorem bOk_0 : bOk 0 := ⟨0, by omega, rfl⟩
theorem bOk_fits {x : Int32} (h : bOk x) : fits .byte (.int x) = true := by
  obtain ⟨n, h, rfl⟩ := h
  revert n
  decide +kernel
theorem bOk_nar {x : Int32} (h : bOk x) : vp_nar .byte x = x := by
  obtain ⟨n, h, rfl⟩ := h
  revert n
  decide +kernel
theorem bOk_8 {x : Int32} (h : bOk x) : x.toInt8.toInt32 = x := by
  obtain ⟨n, h, rfl⟩ := h
  revert n
  decide +kernel
theorem bOk_c {x : Int32} (h : bOk x) : ((x &&& (255 : Int32)).toUInt32 % 65536).toInt32 = x ∧ fits .char (.int x) = true := by
  obtain ⟨n, h, rfl⟩ := h
  revert n
  decide +kernel
theorem bOk_le {x : Int32} (h : bOk x) : ¬ (255 : Int32) < x := by
  obtain ⟨n, h, rfl⟩ := h
  revert n
  decide +kernel
theorem bOk_dgs {n : Nat} : ∀ c, c ∈ dgs n → bOk c := by
  induction n using Nat.strongRecOn with
  | ind n ih =>
    intro c hc
    by_cases h : n < 10
    · rw [dgs_lt h, List.mem_singleton] at hc
      rw [hc]
      exact bOk_n (by omega)
    · rw [dgs_ge (by omega), List.mem_append, List.mem_singleton] at hc
      rcases hc with hc | hc
      · exact ih (n / 10) (by omega) c hc
      · rw [hc]
        exact bOk_n (by omega)
theorem bOk_tx {y : Int32} : ∀ c, c ∈ tx y → bOk c := by
  intro c hc
  unfold tx at hc
  split at hc
  · rw [List.mem_cons] at hc
    rcases hc with hc | hc
    · rw [hc]
      exact ⟨45, by omega, rfl⟩
    · exact bOk_dgs c hc
  · exact bOk_dgs c hc
theorem bOk_getD {l : List Int32} (h : ∀ c, c ∈ l → bOk c) (i : Nat) : bOk (l.getD i 0) := by
  by_cases hi : i < l.length
  · exact h _ (gD_mem hi)
  · rw [gD_0 (by omega)]
    exact bOk_0
theorem bOk_wr {g : Nat → Int32} {l : List Int32} {p C : Nat} (h : ∀ i, i < C → bOk (g i)) (hl : ∀ c, c ∈ l → bOk c) : ∀ i, i < C → bOk (wr g p l i) := by
  intro i hi
  unfold wr
  split
  · exact bOk_getD hl _
  · exact h i hi
/-- what two texts behind one another are -/
theorem wr_at {g : Nat → Int32} {l l' : List Int32} (hg : ∀ i, i < l.length → g i = l.getD i 0) : ∀ i, i < (l ++ l').length → wr g l.length l' i = (l ++ l').getD i 0 := by
  intro i hi
  rw [List.length_append] at hi
  unfold wr
  by_cases h : i < l.length
  · rw [if_neg (by omega), gD_lt h]
    exact hg i h
  · rw [if_pos ⟨by omega, hi⟩, gD_ge (by omega)]
