/-! ===== Steps, Transaction, Lease ===== -/
def ia6 (f : Nat → Int32) : Option am_E := some (.inl (.int, 6, .inl f))
def spF (b n : Nat) (T : Nat → Nat → Int32) : Nat → Option am_E := fun i => if i = 0 then some (.inr (6, [.ref (b + 1), .ref (b + 2), .ref (b + 3), .int (nI n)])) else ia6 (fun j => T j (i - 1))
abbrev spS (s : am_S) (b n : Nat) (T : Nat → Nat → Int32) : am_S := ov s b 4 (spF b n T)
abbrev SP (s : am_S) (b n : Nat) (T : Nat → Nat → Int32) : Prop := OV s b 4 (spF b n T)
def trF (b n : Nat) (T : Nat → Nat → Int32) : Nat → Option am_E := fun i => if i = 0 then some (.inr (8, [.ref (b + 1), .ref (b + 2), .ref (b + 3), .ref (b + 4), .int (nI n), .ref (b + 5), .ref (b + 9)])) else ia6 (fun j => T j (i - 1))
abbrev trS (s : am_S) (b n : Nat) (T : Nat → Nat → Int32) : am_S := ov s b 5 (trF b n T)
abbrev TR (s : am_S) (b n : Nat) (T : Nat → Nat → Int32) : Prop := OV s b 5 (trF b n T)
/-- one number of one row -/
def up2 (T : Nat → Nat → Int32) (i w : Nat) (x : Int32) : Nat → Nat → Int32 := fun j v => if j = i ∧ v = w then x else T j v
section SPs
variable {s : am_S} {B b n n' i : Nat} {T : Nat → Nat → Int32} {x : Int32} {M : am_M}
theorem sp_o (h : SP s b n T) : s.1 b = some (.inr (6, [.ref (b + 1), .ref (b + 2), .ref (b + 3), .int (nI n)])) := h 0 (by omega)
theorem sp_a0 (h : SP s b n T) : s.1 (b + 1) = some (.inl (.int, 6, .inl fun j => T j 0)) := h 1 (by omega)
theorem sp_a1 (h : SP s b n T) : s.1 (b + 2) = some (.inl (.int, 6, .inl fun j => T j 1)) := h 2 (by omega)
theorem sp_a2 (h : SP s b n T) : s.1 (b + 3) = some (.inl (.int, 6, .inl fun j => T j 2)) := h 3 (by omega)
theorem sp_cls (h : SP s b n T) : am_cls s b = some 6 := cls_o (sp_o h)
theorem sp_r0 (h : SP s b n T) : gA tb_ct s b 6 0 = some (some (b + 1)) := gA_o (sp_o h) rfl rfl rfl
theorem sp_r1 (h : SP s b n T) : gA tb_ct s b 6 1 = some (some (b + 2)) := gA_o (sp_o h) rfl rfl rfl
theorem sp_r2 (h : SP s b n T) : gA tb_ct s b 6 2 = some (some (b + 3)) := gA_o (sp_o h) rfl rfl rfl
theorem sp_n (h : SP s b n T) : gI tb_ct s b 6 3 = some (nI n) := gI_o (sp_o h) rfl rfl rfl
theorem sp_i0 (h : SP s b n T) (hi : i < 6) : aI s (b + 1) (nI i) = some (T i 0) := aI_o (sp_a0 h) hi (by omega)
theorem sp_i1 (h : SP s b n T) (hi : i < 6) : aI s (b + 2) (nI i) = some (T i 1) := aI_o (sp_a1 h) hi (by omega)
theorem sp_i2 (h : SP s b n T) (hi : i < 6) : aI s (b + 3) (nI i) = some (T i 2) := aI_o (sp_a2 h) hi (by omega)
theorem up2_r {w v : Nat} (h : v ≠ w) : (fun j => up2 T i w x j v) = fun j => T j v := by
  funext j
  exact if_neg (fun hc => h hc.2)
theorem up2_s {w : Nat} : (fun j => up2 T i w x j w) = upd (fun j => T j w) i x := by
  funext j
  unfold up2 upd
  by_cases h : j = i
  · rw [if_pos ⟨h, rfl⟩, if_pos h]
  · rw [if_neg (fun hc => h hc.1), if_neg h]
theorem sp_w0 (h : SP s b n T) (hi : i < 6) (hB : B ≤ b) : wI B s (b + 1) (nI i) x = some (spS s b n (up2 T i 0 x)) := by
  rw [wI_o (sp_a0 h) hi (by omega) (by omega), h.set (show 1 < 4 by omega)]
  refine congrArg some (ov_cg fun j hj => ?_)
  match j with
  | 0 => rfl
  | 1 => exact congrArg (fun f => ia6 f) up2_s.symm
  | 2 => exact congrArg (fun f => ia6 f) (up2_r (by omega)).symm
  | 3 => exact congrArg (fun f => ia6 f) (up2_r (by omega)).symm
  | j + 4 => omega
theorem sp_w1 (h : SP s b n T) (hi : i < 6) (hB : B ≤ b) : wI B s (b + 2) (nI i) x = some (spS s b n (up2 T i 1 x)) := by
  rw [wI_o (sp_a1 h) hi (by omega) (by omega), h.set (show 2 < 4 by omega)]
  refine congrArg some (ov_cg fun j hj => ?_)
  match j with
  | 0 => rfl
  | 1 => exact congrArg (fun f => ia6 f) (up2_r (by omega)).symm
  | 2 => exact congrArg (fun f => ia6 f) up2_s.symm
  | 3 => exact congrArg (fun f => ia6 f) (up2_r (by omega)).symm
  | j + 4 => omega
theorem sp_w2 (h : SP s b n T) (hi : i < 6) (hB : B ≤ b) : wI B s (b + 3) (nI i) x = some (spS s b n (up2 T i 2 x)) := by
  rw [wI_o (sp_a2 h) hi (by omega) (by omega), h.set (show 3 < 4 by omega)]
  refine congrArg some (ov_cg fun j hj => ?_)
  match j with
  | 0 => rfl
  | 1 => exact congrArg (fun f => ia6 f) (up2_r (by omega)).symm
  | 2 => exact congrArg (fun f => ia6 f) (up2_r (by omega)).symm
  | 3 => exact congrArg (fun f => ia6 f) up2_s.symm
  | j + 4 => omega
theorem sp_pn (h : SP s b n T) (hB : B ≤ b) : am_put tb_ct M B s (.int (nI n')) b 6 3 = some (spS s b n' T) := by
  rw [pF_o (sp_o h) (Nat.le_of_ble_eq_true rfl) rfl rfl hB (Or.inl rfl), show am_set s b = am_set s (b + 0) from rfl, h.set (show 0 < 4 by omega)]
  refine congrArg some (ov_cg fun j hj => ?_)
  match j with
  | 0 => rfl
  | j + 1 => rfl
theorem tr_o (h : TR s b n T) : s.1 b = some (.inr (8, [.ref (b + 1), .ref (b + 2), .ref (b + 3), .ref (b + 4), .int (nI n), .ref (b + 5), .ref (b + 9)])) := h 0 (by omega)
theorem tr_a0 (h : TR s b n T) : s.1 (b + 1) = some (.inl (.int, 6, .inl fun j => T j 0)) := h 1 (by omega)
theorem tr_a1 (h : TR s b n T) : s.1 (b + 2) = some (.inl (.int, 6, .inl fun j => T j 1)) := h 2 (by omega)
theorem tr_a2 (h : TR s b n T) : s.1 (b + 3) = some (.inl (.int, 6, .inl fun j => T j 2)) := h 3 (by omega)
theorem tr_a3 (h : TR s b n T) : s.1 (b + 4) = some (.inl (.int, 6, .inl fun j => T j 3)) := h 4 (by omega)
theorem tr_cls (h : TR s b n T) : am_cls s b = some 8 := cls_o (tr_o h)
theorem tr_r0 (h : TR s b n T) : gA tb_ct s b 8 0 = some (some (b + 1)) := gA_o (tr_o h) rfl rfl rfl
theorem tr_r1 (h : TR s b n T) : gA tb_ct s b 8 1 = some (some (b + 2)) := gA_o (tr_o h) rfl rfl rfl
theorem tr_r2 (h : TR s b n T) : gA tb_ct s b 8 2 = some (some (b + 3)) := gA_o (tr_o h) rfl rfl rfl
theorem tr_r3 (h : TR s b n T) : gA tb_ct s b 8 3 = some (some (b + 4)) := gA_o (tr_o h) rfl rfl rfl
theorem tr_n (h : TR s b n T) : gI tb_ct s b 8 4 = some (nI n) := gI_o (tr_o h) rfl rfl rfl
theorem tr_s1 (h : TR s b n T) : gA tb_ct s b 8 5 = some (some (b + 5)) := gA_o (tr_o h) rfl rfl rfl
theorem tr_s2 (h : TR s b n T) : gA tb_ct s b 8 6 = some (some (b + 9)) := gA_o (tr_o h) rfl rfl rfl
theorem tr_i0 (h : TR s b n T) (hi : i < 6) : aI s (b + 1) (nI i) = some (T i 0) := aI_o (tr_a0 h) hi (by omega)
theorem tr_i1 (h : TR s b n T) (hi : i < 6) : aI s (b + 2) (nI i) = some (T i 1) := aI_o (tr_a1 h) hi (by omega)
theorem tr_i2 (h : TR s b n T) (hi : i < 6) : aI s (b + 3) (nI i) = some (T i 2) := aI_o (tr_a2 h) hi (by omega)
theorem tr_i3 (h : TR s b n T) (hi : i < 6) : aI s (b + 4) (nI i) = some (T i 3) := aI_o (tr_a3 h) hi (by omega)
theorem tr_w0 (h : TR s b n T) (hi : i < 6) (hB : B ≤ b) : wI B s (b + 1) (nI i) x = some (trS s b n (up2 T i 0 x)) := by
  rw [wI_o (tr_a0 h) hi (by omega) (by omega), h.set (show 1 < 5 by omega)]
  refine congrArg some (ov_cg fun j hj => ?_)
  match j with
  | 0 => rfl
  | 1 => exact congrArg (fun f => ia6 f) up2_s.symm
  | 2 => exact congrArg (fun f => ia6 f) (up2_r (by omega)).symm
  | 3 => exact congrArg (fun f => ia6 f) (up2_r (by omega)).symm
  | 4 => exact congrArg (fun f => ia6 f) (up2_r (by omega)).symm
  | j + 5 => omega
theorem tr_w1 (h : TR s b n T) (hi : i < 6) (hB : B ≤ b) : wI B s (b + 2) (nI i) x = some (trS s b n (up2 T i 1 x)) := by
  rw [wI_o (tr_a1 h) hi (by omega) (by omega), h.set (show 2 < 5 by omega)]
  refine congrArg some (ov_cg fun j hj => ?_)
  match j with
  | 0 => rfl
  | 1 => exact congrArg (fun f => ia6 f) (up2_r (by omega)).symm
  | 2 => exact congrArg (fun f => ia6 f) up2_s.symm
  | 3 => exact congrArg (fun f => ia6 f) (up2_r (by omega)).symm
  | 4 => exact congrArg (fun f => ia6 f) (up2_r (by omega)).symm
  | j + 5 => omega
theorem tr_w2 (h : TR s b n T) (hi : i < 6) (hB : B ≤ b) : wI B s (b + 3) (nI i) x = some (trS s b n (up2 T i 2 x)) := by
  rw [wI_o (tr_a2 h) hi (by omega) (by omega), h.set (show 3 < 5 by omega)]
  refine congrArg some (ov_cg fun j hj => ?_)
  match j with
  | 0 => rfl
  | 1 => exact congrArg (fun f => ia6 f) (up2_r (by omega)).symm
  | 2 => exact congrArg (fun f => ia6 f) (up2_r (by omega)).symm
  | 3 => exact congrArg (fun f => ia6 f) up2_s.symm
  | 4 => exact congrArg (fun f => ia6 f) (up2_r (by omega)).symm
  | j + 5 => omega
theorem tr_w3 (h : TR s b n T) (hi : i < 6) (hB : B ≤ b) : wI B s (b + 4) (nI i) x = some (trS s b n (up2 T i 3 x)) := by
  rw [wI_o (tr_a3 h) hi (by omega) (by omega), h.set (show 4 < 5 by omega)]
  refine congrArg some (ov_cg fun j hj => ?_)
  match j with
  | 0 => rfl
  | 1 => exact congrArg (fun f => ia6 f) (up2_r (by omega)).symm
  | 2 => exact congrArg (fun f => ia6 f) (up2_r (by omega)).symm
  | 3 => exact congrArg (fun f => ia6 f) (up2_r (by omega)).symm
  | 4 => exact congrArg (fun f => ia6 f) up2_s.symm
  | j + 5 => omega
theorem tr_pn (h : TR s b n T) (hB : B ≤ b) : am_put tb_ct M B s (.int (nI n')) b 8 4 = some (trS s b n' T) := by
  rw [pF_o (tr_o h) (Nat.le_of_ble_eq_true rfl) rfl rfl hB (Or.inl rfl), show am_set s b = am_set s (b + 0) from rfl, h.set (show 0 < 5 by omega)]
  refine congrArg some (ov_cg fun j hj => ?_)
  match j with
  | 0 => rfl
  | j + 1 => rfl
/-! Steps' methods -/
def setR (T : Nat → Nat → Int32) (i : Nat) (r : Nat → Int32) : Nat → Nat → Int32 := va_up T i r
theorem sp_add_lp (h : SP s b n T) (hn : n < 6) (hB : B ≤ b) (kd ky v : Int32) : ∀ k i, i + k = n → rn_ tb_ct tb_mt B mm_X7_add 22 [.ref b, .int kd, .int ky, .int v, .int (nI i)] [] s = if fi (fun i => decide (T i 1 = ky)) i k < n then some (.inl (some (.int (-4))), s) else some (.inl (some (.int (nI (n + 1)))), spS s b (n + 1) (up2 (up2 (up2 T n 0 kd) n 1 ky) n 2 v)) := by
  intro k
  induction k with
  | zero =>
    intro i hi
    rw [dc_X7_add_22]
    simp only [sp_n h, eI_s, if_pos (nI_le (show n ≤ i by omega) (by omega)), sp_r0 h, eA_s, sp_w0 h hn hB, eS_s, sp_r1 OV.of, sp_n OV.of, sp_w1 OV.of hn hB, ov_idem, sp_r2 OV.of, sp_w2 OV.of hn hB, nI_1, sp_pn OV.of hB]
    rw [fi_0]
    rw [if_neg (show ¬ i < n by omega)]
  | succ k ih =>
    intro i hi
    rw [dc_X7_add_22]
    simp only [sp_n h, eI_s, if_neg (nI_ge (show i < n by omega) (by omega)), sp_r1 h, eA_s, sp_i1 h (show i < 6 by omega)]
    rw [fi_s]
    by_cases hk : T i 1 = ky
    · rw [if_pos hk]
      simp only [hk, decide_true, if_true, if_pos (show i < n by omega)]
    · rw [if_neg hk, nI_1, ih (i + 1) (by omega)]
      simp only [hk, decide_false, Bool.false_eq_true, if_false]
theorem sp_add (h : SP s b n T) (hn : n ≤ 6) (hB : B ≤ b) (kd ky v : Int32) : cl_ tb_ct tb_mt B K_X7_add [.ref b, .int kd, .int ky, .int v] s = if n = 6 then some (.inl (some (.int (-2))), s) else if fi (fun i => decide (T i 1 = ky)) 0 n < n then some (.inl (some (.int (-4))), s) else some (.inl (some (.int (nI (n + 1)))), spS s b (n + 1) (up2 (up2 (up2 T n 0 kd) n 1 ky) n 2 v)) := by
  rw [in_X7_add, dc_X7_add_0]
  simp only [sp_n h, eI_s, if_neg (nI_pos (show n < 2 ^ 31 by omega))]
  by_cases h6 : n = 6
  · rw [if_pos h6, if_neg]
    subst h6
    decide
  · rw [if_neg h6, if_pos (show nI n < (6 : Int32) from nI_lt (b := 6) (by omega) (by omega)), ← nI_0, sp_add_lp h (by omega) hB kd ky v n 0 (by omega)]
/-! over a KeyRow -/
variable {kb kn : Nat} {A : Nat → Nat} {C : Nat → Nat → Int32}
abbrev kfd (A : Nat → Nat) (C : Nat → Nat → Int32) (kn : Nat) (x : Int32) : Nat := fi (fun i => decide (C (A i) 0 = x)) 0 kn
def stE (T : Nat → Nat → Int32) (A : Nat → Nat) (C : Nat → Nat → Int32) (kn : Nat) : Nat → Bool := fun i => decide (T i 0 = 0) || decide (kfd A C kn (T i 1) < kn)
theorem sp_events_lp (h : SP s b n T) (hn : n ≤ 6) (hK : KR s kb kn A C) (hA : okA 22 A) (hkn : kn ≤ 22) : ∀ k i m, i + k = n → rn_ tb_ct tb_mt B mm_X7_eventsOn 4 [.ref b, .ref kb, .int (nI m), .int (nI i)] [] s = some (.inl (some (.int (nI (m + cn (stE T A C kn) i k)))), s) := by
  intro k
  induction k with
  | zero =>
    intro i m hi
    rw [dc_X7_eventsOn_4]
    simp only [sp_n h, eI_s, if_pos (nI_le (show n ≤ i by omega) (by omega)), cn, Nat.add_zero]
  | succ k ih =>
    intro i m hi
    rw [dc_X7_eventsOn_4]
    simp only [sp_n h, eI_s, if_neg (nI_ge (show i < n by omega) (by omega)), if_neg (show ¬ (6 : Int32) ≤ nI i from nI_ge (b := 6) (by omega) (by omega)), sp_r0 h, sp_r1 h, eA_s, sp_i0 h (show i < 6 by omega), sp_i1 h (show i < 6 by omega)]
    unfold cn
    by_cases h0 : T i 0 = 0
    · have e : stE T A C kn i = true := by
        unfold stE
        rw [decide_eq_true h0]
        rfl
      rw [if_pos h0, dc_X7_eventsOn_40, dc_X7_eventsOn_43, nI_1, nI_1, ih (i + 1) (m + 1) (by omega), e]
      simp only [if_true, Nat.add_assoc]
    · rw [if_neg h0]
      simp only [kr_cls hK, eC_s, kr_find hK hA hkn]
      by_cases hf : kfd A C kn (T i 1) < kn
      · have e : stE T A C kn i = true := by
          unfold stE
          rw [decide_eq_true hf, Bool.or_true]
        simp only [if_pos hf, cA_rs]
        rw [dc_X7_eventsOn_40, dc_X7_eventsOn_43, nI_1, nI_1, ih (i + 1) (m + 1) (by omega), e]
        simp only [if_true, Nat.add_assoc]
      · have e : stE T A C kn i = false := by
          unfold stE
          rw [decide_eq_false hf, decide_eq_false h0]
          rfl
        simp only [if_neg hf, cA_rn]
        rw [dc_X7_eventsOn_43, nI_1, ih (i + 1) m (by omega), e]
        simp only [Bool.false_eq_true, if_false, Nat.zero_add]
theorem sp_events (h : SP s b n T) (hn : n ≤ 6) (hK : KR s kb kn A C) (hA : okA 22 A) (hkn : kn ≤ 22) : cl_ tb_ct tb_mt B K_X7_eventsOn [.ref b, .ref kb] s = some (.inl (some (.int (nI (cn (stE T A C kn) 0 n)))), s) := by
  rw [in_X7_eventsOn, dc_X7_eventsOn_0, ← nI_0, sp_events_lp h hn hK hA hkn n 0 0 (by omega), Nat.zero_add]
/-- one step's growth -/
def stG (T : Nat → Nat → Int32) (A : Nat → Nat) (C : Nat → Nat → Int32) (kn i : Nat) : Int32 := if T i 0 = 0 then (if kfd A C kn (T i 1) < kn then 0 else 1) else if T i 0 = 1 then (if kfd A C kn (T i 1) < kn then -1 else 0) else 0
def smI (f : Nat → Int32) : Nat → Nat → Int32
  | _, 0 => 0
  | i, k + 1 => f i + smI f (i + 1) k
theorem sp_growth_lp (h : SP s b n T) (hn : n ≤ 6) (hK : KR s kb kn A C) (hA : okA 22 A) (hkn : kn ≤ 22) : ∀ k i m, i + k = n → rn_ tb_ct tb_mt B mm_X7_growthOf 4 [.ref b, .ref kb, .int m, .int (nI i), am_un] [] s = some (.inl (some (.int (m + smI (stG T A C kn) i k))), s) := by
  intro k
  induction k with
  | zero =>
    intro i m hi
    rw [dc_X7_growthOf_4]
    simp only [sp_n h, eI_s, if_pos (nI_le (show n ≤ i by omega) (by omega)), smI, Int32.add_zero]
  | succ k ih =>
    intro i m hi
    rw [dc_X7_growthOf_4]
    simp only [sp_n h, eI_s, if_neg (nI_ge (show i < n by omega) (by omega)), if_neg (show ¬ (6 : Int32) ≤ nI i from nI_ge (b := 6) (by omega) (by omega)), sp_r1 h, eA_s, sp_i1 h (show i < 6 by omega), kr_cls hK, eC_s, kr_find hK hA hkn]
    unfold smI
    by_cases hf : kfd A C kn (T i 1) < kn
    · simp only [if_pos hf, cA_rs]
      rw [dc_X7_growthOf_36]
      simp only [sp_r0 h, eA_s, sp_i0 h (show i < 6 by omega), eI_s]
      by_cases h0 : T i 0 = 0
      · have e : stG T A C kn i = 0 := by
          unfold stG
          rw [if_pos h0, if_pos hf]
        rw [if_pos h0, if_neg (show ¬ ((1 : Int32) = 0) by decide), dc_X7_growthOf_58]
        simp only [sp_r0 h, eA_s, sp_i0 h (show i < 6 by omega), eI_s, h0, if_neg (show ¬ ((0 : Int32) = 1) by decide)]
        rw [dc_X7_growthOf_76, nI_1, ih (i + 1) m (by omega), e, Int32.zero_add]
      · rw [if_neg h0, dc_X7_growthOf_58]
        simp only [sp_r0 h, eA_s, sp_i0 h (show i < 6 by omega), eI_s]
        by_cases h1 : T i 0 = 1
        · have e : stG T A C kn i = -1 := by
            unfold stG
            rw [if_neg h0, if_pos h1, if_pos hf]
          rw [if_pos h1, if_neg (show ¬ ((1 : Int32) = 0) by decide), dc_X7_growthOf_76, nI_1, ih (i + 1) _ (by omega), e, Int32.add_assoc]
        · have e : stG T A C kn i = 0 := by
            unfold stG
            rw [if_neg h0, if_neg h1]
          rw [if_neg h1, dc_X7_growthOf_76, nI_1, ih (i + 1) _ (by omega), e, Int32.zero_add]
    · simp only [if_neg hf, cA_rn]
      rw [dc_X7_growthOf_36]
      simp only [sp_r0 h, eA_s, sp_i0 h (show i < 6 by omega), eI_s]
      by_cases h0 : T i 0 = 0
      · have e : stG T A C kn i = 1 := by
          unfold stG
          rw [if_pos h0, if_neg hf]
        rw [if_pos h0, if_pos trivial, dc_X7_growthOf_76, nI_1, ih (i + 1) _ (by omega), e, Int32.add_assoc]
      · rw [if_neg h0, dc_X7_growthOf_58]
        simp only [sp_r0 h, eA_s, sp_i0 h (show i < 6 by omega), eI_s]
        have e : stG T A C kn i = 0 := by
          unfold stG
          rw [if_neg h0]
          simp only [if_neg hf]
          split <;> rfl
        simp only [if_true]
        rw [dc_X7_growthOf_76]
        simp only [ite_self]
        rw [nI_1, ih (i + 1) _ (by omega), e, Int32.zero_add]
theorem sp_growth (h : SP s b n T) (hn : n ≤ 6) (hK : KR s kb kn A C) (hA : okA 22 A) (hkn : kn ≤ 22) : cl_ tb_ct tb_mt B K_X7_growthOf [.ref b, .ref kb] s = some (.inl (some (.int (smI (stG T A C kn) 0 n))), s) := by
  rw [in_X7_growthOf, dc_X7_growthOf_0, ← nI_0, nI_0, ← nI_0, sp_growth_lp h hn hK hA hkn n 0 _ (by omega), nI_0, Int32.zero_add]
/-! Transaction's methods -/
theorem tr_add (h : TR s b n T) (hn : n ≤ 6) (hB : B ≤ b) (x1 x2 x3 x4 : Int32) : cl_ tb_ct tb_mt B K_X9_addCondition [.ref b, .int x1, .int x2, .int x3, .int x4] s = if n = 6 then some (.inl (some (.int (-2))), s) else some (.inl (some (.int (nI (n + 1)))), trS s b (n + 1) (up2 (up2 (up2 (up2 T n 0 x1) n 1 x2) n 2 x3) n 3 x4)) := by
  rw [in_X9_addCondition, dc_X9_addCondition_0]
  simp only [tr_n h, eI_s, if_neg (nI_pos (show n < 2 ^ 31 by omega))]
  by_cases h6 : n = 6
  · rw [if_pos h6, if_neg]
    subst h6
    decide
  · have hn6 : n < 6 := by omega
    rw [if_neg h6, if_pos (show nI n < (6 : Int32) from nI_lt (b := 6) (by omega) (by omega))]
    simp only [tr_r0 h, eA_s, tr_w0 h hn6 hB, eS_s, tr_r1 OV.of, tr_n OV.of, eI_s, tr_w1 OV.of hn6 hB, ov_idem, tr_r2 OV.of, tr_w2 OV.of hn6 hB, tr_r3 OV.of, tr_w3 OV.of hn6 hB, nI_1, tr_pn OV.of hB]
def reB (x r y : Int32) : Bool := if r = 0 then decide (x = y) else if r = 1 then !decide (x = y) else if r = 2 then decide (x < y) else decide (y < x)
theorem x_relates {x y : Int32} {r : Nat} (hr : r < 4) : cl_ tb_ct tb_mt B K_X9_relates [.int x, .int (nI r), .int y] s = some (.inl (some (.int (if reB x (nI r) y = true then 1 else 0))), s) := by
  rw [in_X9_relates, dc_X9_relates_0, nI_toInt (by omega)]
  match r with
  | 0 =>
    by_cases hc : x = y
    · simp [sw, reB, nI, hc]
    · simp [sw, reB, nI, hc]
  | 1 =>
    by_cases hc : x = y
    · simp [sw, reB, nI, hc]
    · simp [sw, reB, nI, hc]
  | 2 =>
    by_cases hc : x < y
    · simp [sw, reB, nI, hc, Int32.not_le.mpr hc]
    · simp [sw, reB, nI, hc, Int32.not_lt.mp hc]
  | 3 =>
    by_cases hc : y < x
    · simp [sw, reB, nI, hc, Int32.not_le.mpr hc]
    · simp [sw, reB, nI, hc, Int32.not_lt.mp hc]
  | r + 4 => omega
/-- a key's number, as get() tells it -/
theorem k_number {a w : Nat} {r : Nat → Int32} (hs : s.1 a = some (.inr (2, kf r))) (hw : w < 5) : cl_ tb_ct tb_mt B K_X3_number [.ref a, .int (nI w)] s = some (.inl (some (.int (r (w + 1)))), s) := by
  rw [in_X3_number, dc_X3_number_0, nI_toInt (by omega)]
  have h1 : gI tb_ct s a 2 1 = some (r 1) := gI_o hs rfl rfl rfl
  have h2 : gI tb_ct s a 2 2 = some (r 2) := gI_o hs rfl rfl rfl
  have h3 : gI tb_ct s a 2 3 = some (r 3) := gI_o hs rfl rfl rfl
  have h4 : gI tb_ct s a 2 4 = some (r 4) := gI_o hs rfl rfl rfl
  have h5 : gI tb_ct s a 2 5 = some (r 5) := gI_o hs rfl rfl rfl
  simp only [h1, h2, h3, h4, h5, eI_s]
  match w with
  | 0 => rfl
  | 1 => rfl
  | 2 => rfl
  | 3 => rfl
  | 4 => rfl
  | w + 5 => omega
theorem e_number {a w : Nat} {r : Nat → Int32} (hs : s.1 a = some (.inr (0, ef r))) (hw : w < 6) : cl_ tb_ct tb_mt B K_X1_number [.ref a, .int (nI w)] s = some (.inl (some (.int (r w))), s) := by
  rw [in_X1_number, dc_X1_number_0, nI_toInt (by omega)]
  have h0 : gI tb_ct s a 0 0 = some (r 0) := gI_o hs rfl rfl rfl
  have h1 : gI tb_ct s a 0 1 = some (r 1) := gI_o hs rfl rfl rfl
  have h2 : gI tb_ct s a 0 2 = some (r 2) := gI_o hs rfl rfl rfl
  have h3 : gI tb_ct s a 0 3 = some (r 3) := gI_o hs rfl rfl rfl
  have h4 : gI tb_ct s a 0 4 = some (r 4) := gI_o hs rfl rfl rfl
  have h5 : gI tb_ct s a 0 5 = some (r 5) := gI_o hs rfl rfl rfl
  simp only [h0, h1, h2, h3, h4, h5, eI_s]
  match w with
  | 0 => rfl
  | 1 => rfl
  | 2 => rfl
  | 3 => rfl
  | 4 => rfl
  | 5 => rfl
  | w + 6 => omega
/-- whether a condition fails: what a key's number (w from 0) is compared with -/
def cdF (T : Nat → Nat → Int32) (A : Nat → Nat) (C : Nat → Nat → Int32) (kn i : Nat) : Bool :=
  let q := kfd A C kn (T i 0)
  if q < kn then !reB (C (A q) ((T i 1).toInt.toNat + 1)) (T i 2) (T i 3) else decide (T i 1 = 0) || !reB 0 (T i 2) (T i 3)
/-- the conditions' ranges -/
def cdOk (n : Nat) (T : Nat → Nat → Int32) : Prop := ∀ i, i < n → (∃ w : Nat, w < 4 ∧ T i 1 = nI w) ∧ ∃ r : Nat, r < 4 ∧ T i 2 = nI r
theorem tr_failing_lp (h : TR s b n T) (hn : n ≤ 6) (hT : cdOk n T) (hK : KR s kb kn A C) (hA : okA 22 A) (hkn : kn ≤ 22) : ∀ k i w w', i + k = n → rn_ tb_ct tb_mt B mm_X9_firstFailing 2 [.ref b, .ref kb, .int (nI i), am_un, w, w'] [] s = some (.inl (some (.int (if fi (cdF T A C kn) i k < n then nI (fi (cdF T A C kn) i k) else -1))), s) := by
  intro k
  induction k with
  | zero =>
    intro i w w' hi
    rw [dc_X9_firstFailing_2]
    simp only [tr_n h, eI_s, if_pos (nI_le (show n ≤ i by omega) (by omega))]
    rw [fi_0]
    rw [if_neg (show ¬ i < n by omega)]
  | succ k ih =>
    intro i w w' hi
    obtain ⟨⟨u, hu, eu⟩, r, hr, er⟩ := hT i (by omega)
    have hi6 : i < 6 := by omega
    rw [dc_X9_firstFailing_2]
    simp only [tr_n h, eI_s, if_neg (nI_ge (show i < n by omega) (by omega)), if_neg (show ¬ (6 : Int32) ≤ nI i from nI_ge (b := 6) (by omega) (by omega)), tr_r0 h, tr_r1 h, eA_s, tr_i0 h hi6, tr_i1 h hi6, kr_cls hK, eC_s, kr_find hK hA hkn]
    have step : ∀ (x : Int32) (w3 : Value), rn_ tb_ct tb_mt B mm_X9_firstFailing 65 [.ref b, .ref kb, .int (nI i), w3, .int 1, am_un] [.int x] s = if reB x (T i 2) (T i 3) = true then rn_ tb_ct tb_mt B mm_X9_firstFailing 2 [.ref b, .ref kb, .int (nI (i + 1)), am_un, .int 1, .int x] [] s else some (.inl (some (.int (nI i))), s) := by
      intro x w3
      rw [dc_X9_firstFailing_65, if_neg (show ¬ ((1 : Int32) = 0) by decide)]
      simp only [tr_r2 h, tr_r3 h, eA_s, tr_i2 h hi6, tr_i3 h hi6, eI_s]
      rw [er, x_relates hr]
      simp only [cI_s]
      cases hrb : reB x (nI r) (T i 3) with
      | true => simp only [if_true, if_neg (show ¬ ((1 : Int32) = 0) by decide), nI_1]
      | false => simp only [Bool.false_eq_true, if_false, if_true]
    rw [fi_s]
    by_cases hf : kfd A C kn (T i 0) < kn
    · have hq := hA.1 _ (Nat.lt_of_lt_of_le hf hkn)
      simp only [if_pos hf, cA_rs]
      rw [dc_X9_firstFailing_40]
      simp only [eA_s]
      rw [dc_X9_firstFailing_45]
      simp only [eA_s, tr_r1 h, tr_i1 h hi6, eI_s, kr_clsk hK hq, eC_s]
      rw [eu, k_number (hK.ek hq) (by omega)]
      simp only [cI_s]
      rw [step]
      have e : cdF T A C kn i = !reB (C (A (kfd A C kn (T i 0))) (u + 1)) (T i 2) (T i 3) := by
        unfold cdF
        dsimp only
        rw [if_pos hf, eu, nat_n (by omega)]
      rw [e]
      cases hrb : reB (C (A (kfd A C kn (T i 0))) (u + 1)) (T i 2) (T i 3) with
      | true =>
        simp only [if_true, Bool.not_true, Bool.false_eq_true, if_false]
        exact ih (i + 1) _ _ (by omega)
      | false => simp only [Bool.false_eq_true, if_false, Bool.not_false, if_true, if_pos (show i < n by omega)]
    · simp only [if_neg hf, cA_rn, tr_r1 h, eA_s, tr_i1 h hi6, eI_s]
      by_cases h0 : T i 1 = 0
      · have e : cdF T A C kn i = true := by
          unfold cdF
          dsimp only
          rw [if_neg hf, decide_eq_true h0]
          rfl
        rw [if_pos h0, dc_X9_firstFailing_45]
        simp only [eA_n]
        rw [dc_X9_firstFailing_65, if_pos rfl, e]
        simp only [if_true, if_pos (show i < n by omega)]
      · rw [if_neg h0, dc_X9_firstFailing_40]
        simp only [eA_n]
        rw [dc_X9_firstFailing_45]
        simp only [eA_n]
        rw [step]
        have e : cdF T A C kn i = !reB 0 (T i 2) (T i 3) := by
          unfold cdF
          dsimp only
          rw [if_neg hf, decide_eq_false h0]
          rfl
        rw [e]
        cases hrb : reB 0 (T i 2) (T i 3) with
        | true =>
          simp only [if_true, Bool.not_true, Bool.false_eq_true, if_false]
          exact ih (i + 1) _ _ (by omega)
        | false => simp only [Bool.false_eq_true, if_false, Bool.not_false, if_true, if_pos (show i < n by omega)]
theorem tr_failing (h : TR s b n T) (hn : n ≤ 6) (hT : cdOk n T) (hK : KR s kb kn A C) (hA : okA 22 A) (hkn : kn ≤ 22) : cl_ tb_ct tb_mt B K_X9_firstFailing [.ref b, .ref kb] s = some (.inl (some (.int (ixI (cdF T A C kn) n))), s) := by
  rw [in_X9_firstFailing, dc_X9_firstFailing_0, ← nI_0, tr_failing_lp h hn hT hK hA hkn n 0 _ _ (by omega)]
  rfl
theorem tr_stepsFor (h : TR s b n T) (hn : n ≤ 6) (hT : cdOk n T) (hK : KR s kb kn A C) (hA : okA 22 A) (hkn : kn ≤ 22) : cl_ tb_ct tb_mt B K_X9_stepsFor [.ref b, .ref kb] s = some (.inl (some (.ref (if fi (cdF T A C kn) 0 n < n then b + 9 else b + 5))), s) := by
  rw [in_X9_stepsFor, dc_X9_stepsFor_0]
  simp only [tr_cls h, eC_s, tr_failing h hn hT hK hA hkn, cI_s, tr_s1 h, tr_s2 h, eA_s]
  unfold ixI
  by_cases hf : fi (cdF T A C kn) 0 n < n
  · simp only [if_pos hf]
    rw [if_neg]
    intro e
    exact absurd (e ▸ nI_pos (show fi (cdF T A C kn) 0 n < 2 ^ 31 by omega)) (by decide)
  · simp only [if_neg hf, if_true]
end SPs
