/-! ===== a script, read (pure) ===== -/
def dgB (y : Int32) : Bool := !decide (y < 48) && !decide (57 < y)
def ltB (y : Int32) : Bool := !decide (y < 97) && !decide (122 < y)
def byt (T : Nat → Int32) (n i : Nat) : Int32 := if i < n then T i else -1
def q_sp (T : Nat → Int32) (n i : Nat) : Nat := fi (fun j => !decide (T j = 32)) i (n - i)
def q_le (T : Nat → Int32) (n i : Nat) : Nat := fi (fun j => !ltB (T j)) i (n - i)
def q_de (T : Nat → Int32) (n i : Nat) : Nat := fi (fun j => !dgB (T j)) i (n - i)
/-- the number that so many digits tell -/
def q_va (T : Nat → Int32) : Nat → Nat → Nat → Nat
  | 0, _, v => v
  | k + 1, i, v => q_va T k (i + 1) (10 * v + nN (T i - 48))
def q_ng (T : Nat → Int32) (n i : Nat) : Bool := decide (byt T n i = 45)
def q_i0 (T : Nat → Int32) (n i : Nat) : Nat := if q_ng T n i = true then i + 1 else i
def q_e (T : Nat → Int32) (n i : Nat) : Nat := q_de T n (q_i0 T n i)
def q_va0 (T : Nat → Int32) (n i : Nat) : Nat := q_va T (q_e T n i - q_i0 T n i) (q_i0 T n i) 0
def q_v (T : Nat → Int32) (n i : Nat) : Int := if q_ng T n i = true then -(q_va0 T n i : Int) else q_va0 T n i
def q_nu (T : Nat → Int32) (n : Nat) (ng : Bool) (i : Nat) : Bool := dgB (byt T n i) || (ng && (q_ng T n i && dgB (byt T n (i + 1))))
def q_lo (kd : Nat) (w0 : Int32) : Int := if kd = 2 then -1000000 else if kd = 3 then 1 else if kd = 4 then 1 else if kd = 5 then 0 else if kd = 6 then w0.toInt else 0
def q_hi (kd : Nat) : Int := if kd = 2 then 1000000 else if kd = 3 then 1000 else if kd = 4 then 9999 else if kd = 5 then 9999 else 999
/-- the numbers behind a verb: error, place, how many, the numbers -/
def q_rn (T : Nat → Int32) (n : Nat) (kd : Nat → Nat) (nd : Nat) : Nat → Nat → Nat → (Nat → Int32) → Nat × Nat × Nat × (Nat → Int32)
  | 0, i, p, W => (0, p, i, W)
  | k + 1, i, p, W => if kd i = 0 then (0, p, i, W) else if ¬ q_nu T n (decide (kd i = 2)) (q_sp T n p) = true then (if nd ≤ i then (0, q_sp T n p, i, W) else (1, q_sp T n p, i, W)) else if q_v T n (q_sp T n p) < q_lo (kd i) (if 0 < i then W 0 else 0) ∨ q_hi (kd i) < q_v T n (q_sp T n p) then (2, q_sp T n p, i, W) else q_rn T n kd nd k (i + 1) (q_e T n (q_sp T n p)) (upd W i (Int32.ofInt (q_v T n (q_sp T n p))))
def vb_w (v : Nat) : List Int32 := match v with
  | 0 => [112, 117, 116]
  | 1 => [100, 101, 108]
  | 2 => [103, 114, 97, 110, 116]
  | 3 => [107, 101, 101, 112]
  | 4 => [114, 101, 118, 111, 107, 101]
  | 5 => [119, 97, 116, 99, 104]
  | 6 => [99, 111, 109, 112, 97, 99, 116]
  | 7 => [114, 101, 118, 101, 114, 116]
  | 8 => [116, 105, 99, 107]
  | _ => [97, 116, 116, 97, 99, 104]
def vb_n (v : Nat) : Nat := if v = 0 ∨ v = 5 ∨ v = 9 then 2 else 1
def vb_k (v i : Nat) : Nat := match v with
  | 0 => if i = 0 then 1 else if i = 1 then 2 else if i = 2 then 5 else 0
  | 1 => if i = 0 then 1 else if i = 1 then 6 else 0
  | 2 => if i = 0 then 3 else 0
  | 3 => if i = 0 then 5 else 0
  | 4 => if i = 0 then 5 else 0
  | 5 => if i = 0 then 1 else if i = 1 then 6 else if i = 2 then 5 else 0
  | 6 => if i = 0 then 4 else 0
  | 7 => if i = 0 then 4 else 0
  | 8 => if i = 0 then 3 else 0
  | _ => if i = 0 then 1 else if i = 1 then 5 else 0
/-- the word from p to e is this one -/
def q_wd (T : Nat → Int32) (p e : Nat) (l : List Int32) : Bool := decide (e = p + l.length) && decide (∀ j, j < l.length → T (p + j) = l.getD j 0)
def q_vb (T : Nat → Int32) (p e : Nat) : Nat := fi (fun v => q_wd T p e (vb_w v)) 0 10
/-- a word and its numbers: error, place, verb, how many, the numbers -/
def q_sm (T : Nat → Int32) (n p : Nat) (W : Nat → Int32) : Nat × Nat × Nat × Nat × (Nat → Int32) :=
  if q_vb T (q_sp T n p) (q_le T n (q_sp T n p)) < 10 then
    ((q_rn T n (vb_k (q_vb T (q_sp T n p) (q_le T n (q_sp T n p)))) (vb_n (q_vb T (q_sp T n p) (q_le T n (q_sp T n p)))) 3 0 (q_le T n (q_sp T n p)) W).1, (q_rn T n (vb_k (q_vb T (q_sp T n p) (q_le T n (q_sp T n p)))) (vb_n (q_vb T (q_sp T n p) (q_le T n (q_sp T n p)))) 3 0 (q_le T n (q_sp T n p)) W).2.1, q_vb T (q_sp T n p) (q_le T n (q_sp T n p)), (q_rn T n (vb_k (q_vb T (q_sp T n p) (q_le T n (q_sp T n p)))) (vb_n (q_vb T (q_sp T n p) (q_le T n (q_sp T n p)))) 3 0 (q_le T n (q_sp T n p)) W).2.2)
  else (1, q_sp T n p, 10, 0, W)
theorem q_sp_le {T : Nat → Int32} {n i : Nat} (h : i ≤ n) : i ≤ q_sp T n i ∧ q_sp T n i ≤ n := by
  have := fi_le (fun j => !decide (T j = 32)) (n - i) i
  unfold q_sp
  omega
theorem q_le_le {T : Nat → Int32} {n i : Nat} (h : i ≤ n) : i ≤ q_le T n i ∧ q_le T n i ≤ n := by
  have := fi_le (fun j => !ltB (T j)) (n - i) i
  unfold q_le
  omega
theorem q_de_le {T : Nat → Int32} {n i : Nat} (h : i ≤ n) : i ≤ q_de T n i ∧ q_de T n i ≤ n := by
  have := fi_le (fun j => !dgB (T j)) (n - i) i
  unfold q_de
  omega
theorem q_i0_le {T : Nat → Int32} {n i : Nat} (h : i ≤ n) : i ≤ q_i0 T n i ∧ q_i0 T n i ≤ n := by
  unfold q_i0 q_ng byt
  by_cases c : i < n
  · rw [if_pos c]
    split <;> omega
  · rw [if_neg c, if_neg (by decide)]
    omega
theorem q_e_le {T : Nat → Int32} {n i : Nat} (h : i ≤ n) : i ≤ q_e T n i ∧ q_e T n i ≤ n := by
  have h1 := q_i0_le (T := T) h
  have h2 := q_de_le (T := T) (n := n) (i := q_i0 T n i) h1.2
  unfold q_e
  omega
theorem dgB_of {y : Int32} (h : dgB y = true) : ∃ d, d ≤ 9 ∧ y = nI (48 + d) := by
  unfold dgB at h
  rw [Bool.and_eq_true, Bool.not_eq_true', Bool.not_eq_true', decide_eq_false_iff_not, decide_eq_false_iff_not] at h
  obtain ⟨h1, h2⟩ := h
  have a : (48 : Int) ≤ y.toInt := by
    have := Int32.not_lt.mp h1
    exact Int32.le_iff_toInt_le.mp this
  have b : y.toInt ≤ (57 : Int) := Int32.le_iff_toInt_le.mp (Int32.not_lt.mp h2)
  refine ⟨(y.toInt - 48).toNat, by omega, ?_⟩
  apply Int32.toInt_inj.mp
  rw [nI_toInt (by omega)]
  omega
theorem dgB_v {d : Nat} (h : d ≤ 9) : nN (nI (48 + d) - 48) = d := by
  rw [show nI (48 + d) - (48 : Int32) = nI d from by rw [show (48 : Int32) = nI 48 from rfl, nI_2 (by omega), Nat.add_sub_cancel_left]]
  unfold nN
  rw [nI_toInt (by omega)]
  rfl
theorem q_va_mono (T : Nat → Int32) : ∀ k i v, v ≤ q_va T k i v
  | 0, _, _ => Nat.le_refl _
  | k + 1, i, v => Nat.le_trans (by omega) (q_va_mono T k (i + 1) (10 * v + nN (T i - 48)))
