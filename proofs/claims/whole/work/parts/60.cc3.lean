/-! ===== WatchedKeys: calls (3): events, the order of keys, leases ===== -/
def wroteB (k : Nat → Int32) (y : Int32) (e : Nat → Int32) : Bool := decide (e 1 = 0) && (decide (e 2 = k 0) && (decide (e 6 = y) && !decide (e 0 < k 2)))
def q_vi (σ : stT) (q : Nat) (y : Int32) : Nat := fi (fun i => wroteB (σ.2 0 q) y (σ.2 2 i)) 0 (σ.1 6)
def q_ver (σ : stT) (key y : Int32) : Int32 := if isK σ key then (if q_vi σ (pF (σ.2 0) (σ.1 3) key) y < σ.1 6 then σ.2 2 (q_vi σ (pF (σ.2 0) (σ.1 3) key) y) 3 else NOV) else NOV
def q_wrs (σ : stT) (key : Int32) : Nat := cn (fun i => decide (σ.2 2 i 2 = key)) 0 (σ.1 6)
def q_best (T : Nat → Int32) : Nat → Nat → Int32 → Int32 → Int32
  | _, 0, b, _ => b
  | i, k + 1, b, m => if T i ≤ m then q_best T (i + 1) k b m else q_best T (i + 1) k (nI i) (T i)
def q_busy (σ : stT) : Int32 := q_best (fun i => nI (q_wrs σ (nI i))) 0 1000 (-1) 0
def q_del (σ : stT) : Nat := cn (fun i => decide (σ.2 2 i 1 = 1)) 0 (σ.1 6)
def q_dp (σ : stT) : UInt64 := if σ.1 6 = 0 then FP.dconst0 else FP.ddiv (FP.i2d (nI (q_del σ))) (FP.i2d (nI (σ.1 6)))
def q_ld (σ : stT) (f t : Int32) : Nat → Nat → Option Nat → Option Nat
  | _, 0, r => r
  | i, k + 1, r => q_ld σ f t (i + 1) k (if inR f t (σ.2 0 i) = true ∧ (∀ j, r = some j → cbB (σ.2 0 i) (σ.2 0 j) = true) then some i else r)
def q_ah (σ : stT) (q : Nat) (f t : Int32) : Nat → Nat → Option Nat → Option Nat
  | _, 0, r => r
  | i, k + 1, r => q_ah σ q f t (i + 1) k (if inR f t (σ.2 0 i) = true ∧ cbB (σ.2 0 i) (σ.2 0 q) = true ∧ (∀ j, r = some j → cbB (σ.2 0 j) (σ.2 0 i) = true) then some i else r)
def q_ko (σ : stT) (r : Option Nat) : Int32 := match r with
  | none => -1
  | some j => σ.2 0 j 0
def q_lead (σ : stT) (f t : Int32) : Int32 := q_ko σ (q_ld σ f t 0 (σ.1 3) none)
def q_st (σ : stT) (key f t : Int32) : Prop := isK σ key ∧ inR f t (σ.2 0 (pF (σ.2 0) (σ.1 3) key)) = true
def q_ahead (σ : stT) (key f t : Int32) : Int32 := if isK σ key ∧ inR f t (σ.2 0 (pF (σ.2 0) (σ.1 3) key)) = true then q_ko σ (q_ah σ (pF (σ.2 0) (σ.1 3) key) f t 0 (σ.1 3) none) else -1
def q_place (σ : stT) (key f t : Int32) : Int32 := if isK σ key ∧ inR f t (σ.2 0 (pF (σ.2 0) (σ.1 3) key)) = true then nI (cn (fun i => inR f t (σ.2 0 i) && cbB (σ.2 0 i) (σ.2 0 (pF (σ.2 0) (σ.1 3) key))) 0 (σ.1 3)) else -1
def q_kin (σ : stT) (t : Int32) : Nat → Nat → Int32 → Int32
  | _, 0, m => m
  | i, k + 1, m => q_kin σ t (i + 1) k (if t < σ.2 3 i 2 then m else m - nI (cn (fun j => decide (σ.2 0 j 5 = σ.2 3 i 0)) 0 (σ.1 3)))
section Cc
variable {s s' : am_S} {B x nb sb u i a c n : Nat} {σ : stT} {key v l f t y z : Int32} {k : Nat → Int32}
theorem inR_if {α : Type} {k : Nat → Int32} {A C : α} : (if (if k 0 < f then (0 : Int32) else if t < k 0 then 0 else 1) = 0 then A else C) = if inR f t k = true then C else A := by
  unfold inR
  by_cases h1 : k 0 < f
  · rw [if_pos h1, if_pos rfl, decide_eq_true h1]
    rfl
  · by_cases h2 : t < k 0
    · rw [if_neg h1, if_pos h2, if_pos rfl, decide_eq_true h2, Bool.not_true, Bool.and_false]
      rfl
    · rw [if_neg h1, if_neg h2, if_neg (by decide), decide_eq_false h1, decide_eq_false h2]
      rfl
theorem b1_if {b : Bool} {α : Type} {A C : α} : (if (if b = true then (1 : Int32) else 0) = 0 then A else C) = if b = true then C else A := by
  cases b
  · rfl
  · rfl
theorem c_event (h : CX B s x nb sb u σ) : CO2 s x nb (cl_ tb_ct tb_mt B K_X12_event [.ref x, .int y, .int z] s) (!decide (y < 0) && decide (y < nI (σ.1 6))) (bIn z 0 5) (.int (σ.2 2 (nN y) (nN z))) σ := by
  have n6 := SR.n6 h.ss
  have hno : (y < 0 ∨ nI (σ.1 6) ≤ y) → cl_ tb_ct tb_mt B K_X12_event [.ref x, .int y, .int z] s = some (.inr 1, am_bump s) := fun hc => by
    rw [in_X12_event, dc_X12_event_0]
    simp only [xo_0 h.o, eA_s, sr_e h.ss, sr_ec h.ss, eC_s, ew_at_no h.ss.ew hc, cA_n]
    rfl
  have hyes : ¬ y < 0 → y < nI (σ.1 6) → ∃ j, y = nI j ∧ j < σ.1 6 ∧ ∃ a, EC s a (σ.2 2 j) ∧ cl_ tb_ct tb_mt B K_X12_event [.ref x, .int y, .int z] s = if z < 0 then rn_ tb_ct tb_mt B mm_X12_event 37 [.ref x, .int y, .int z, .ref a] [] s else if (5 : Int32) < z then rn_ tb_ct tb_mt B mm_X12_event 37 [.ref x, .int y, .int z, .ref a] [] s else rn_ tb_ct tb_mt B mm_X12_event 38 [.ref x, .int y, .int z, .ref a] [.int 1] s := fun h1 h2 => by
    obtain ⟨j, hj, e⟩ := nI_of h1
    subst e
    have hj2 : j < σ.1 6 := (nI_ltI hj (by omega)).mp h2
    obtain ⟨a, e1, ec, -⟩ := ew_at (B := B) h.ss.ew hj2
    refine ⟨j, rfl, hj2, a, ec, ?_⟩
    rw [in_X12_event, dc_X12_event_0]
    simp only [xo_0 h.o, eA_s, sr_e h.ss, sr_ec h.ss, eC_s, e1, cA_s]
  have e37 : ∀ a, rn_ tb_ct tb_mt B mm_X12_event 37 [.ref x, .int y, .int z, .ref a] [] s = some (.inr 0, am_bump s) := fun a => by
    rw [dc_X12_event_37, dc_X12_event_38, c_need0]
    rfl
  have eb : bIn z 0 5 = (!decide (z < 0) && !decide ((5 : Int32) < z)) := rfl
  refine ⟨fun hc => ?_, fun h1 h2 => ?_, fun h1 h2 => ?_⟩
  · by_cases h1 : y < 0
    · exact hno (Or.inl h1)
    · rw [decide_eq_false h1] at hc
      simp only [Bool.not_false, Bool.true_and, decide_eq_false_iff_not] at hc
      exact hno (Or.inr (Int32.not_lt.mp hc))
  · simp only [Bool.and_eq_true, Bool.not_eq_true', decide_eq_false_iff_not, decide_eq_true_eq] at h1
    obtain ⟨j, -, -, a, -, e⟩ := hyes h1.1 h1.2
    rw [e, e37]
    by_cases z1 : z < 0
    · rw [if_pos z1]
    · by_cases z2 : (5 : Int32) < z
      · rw [if_neg z1, if_pos z2]
      · rw [eb, decide_eq_false z1, decide_eq_false z2] at h2
        cases h2
  · simp only [Bool.and_eq_true, Bool.not_eq_true', decide_eq_false_iff_not, decide_eq_true_eq] at h1
    obtain ⟨j, ej, hj, a, ec, e⟩ := hyes h1.1 h1.2
    obtain ⟨w, hw, ew⟩ := bInN (m := 5) (by omega) h2
    rw [eb] at h2
    simp only [Bool.and_eq_true, Bool.not_eq_true', decide_eq_false_iff_not] at h2
    refine h.same ?_
    rw [e, if_neg h2.1, if_neg h2.2, dc_X12_event_38, c_need1, ej, ew, nN_nI (by omega), nN_nI (by omega)]
    simp only [cV_s, ec_cls ec, eC_s, ec_number ec (show w < 6 by omega), cI_s]
theorem c_wrote (hE : EC s a k) {k' : Nat → Int32} (hK : KC s c k') : cl_ tb_ct tb_mt B K_X1_wrote [.ref a, .ref c, .int y] s = some (.inl (some (.int (if wroteB k' y k = true then 1 else 0))), s) := by
  rw [in_X1_wrote, dc_X1_wrote_0]
  simp only [ec_0 hE, ec_1 hE, ec_2 hE, ec_6 hE, kc_0 hK, kc_2 hK, eI_s]
  unfold wroteB
  by_cases h1 : k 1 = 0
  · by_cases h2 : k 2 = k' 0
    · by_cases h3 : k 6 = y
      · by_cases h4 : k 0 < k' 2
        · simp [h1, h2, h3, h4]
        · simp [h1, h2, h3, h4]
      · simp [h1, h2, h3]
    · simp [h1, h2]
  · simp [h1]
theorem c_ver_lp (h : CX B s x nb sb u σ) (hK : KC s c k) : ∀ m i w1, i + m = σ.1 6 → rn_ tb_ct tb_mt B mm_X12_versionAt 39 [.ref x, w1, .int y, .ref c, .int (nI i), am_un] [] s = some (.inl (some (.int (if fi (fun i => wroteB k y (σ.2 2 i)) i m < σ.1 6 then σ.2 2 (fi (fun i => wroteB k y (σ.2 2 i)) i m) 3 else NOV))), s) := by
  have n6 := SR.n6 h.ss
  intro m
  induction m with
  | zero =>
    intro i w1 hi
    rw [dc_X12_versionAt_39, fi_0, if_neg (show ¬ i < σ.1 6 by omega)]
    simp only [xo_0 h.o, eA_s, sr_e h.ss, sr_en h.ss, eI_s, if_pos (nI_le (show σ.1 6 ≤ i by omega) (by omega))]
    rfl
  | succ m ih =>
    intro i w1 hi
    obtain ⟨a, e1, ec, -⟩ := ew_at (B := B) h.ss.ew (show i < σ.1 6 by omega)
    rw [dc_X12_versionAt_39]
    simp only [xo_0 h.o, eA_s, sr_e h.ss, sr_en h.ss, eI_s, if_neg (nI_ge (show i < σ.1 6 by omega) (by omega)), sr_ec h.ss, eC_s, e1, cA_s, ec_cls ec, c_wrote ec hK, cI_s]
    rw [fi_s]
    cases hw : wroteB k y (σ.2 2 i) with
    | true => simp only [if_true, if_neg (show ¬ (1 : Int32) = 0 by decide), ec_3 ec, eI_s, if_pos (show i < σ.1 6 by omega)]
    | false =>
      simp only [Bool.false_eq_true, if_false, if_true]
      rw [dc_X12_versionAt_89, nI_1, ih (i + 1) _ (by omega)]
theorem c_versionAt (h : CX B s x nb sb u σ) : CO s x nb (cl_ tb_ct tb_mt B K_X12_versionAt [.ref x, .int key, .int y] s) (bKey key && !decide (y < 1)) (.int (q_ver σ key y)) σ := by
  rw [in_X12_versionAt, dc_X12_versionAt_0]
  simp only [c_needKey, cVb]
  cases hk : bKey key with
  | false => exact ⟨fun hc => (by cases hc), fun _ => rfl⟩
  | true =>
    simp only [if_true, Bool.true_and]
    by_cases hl : y < 1
    · rw [if_pos hl, dc_X12_versionAt_14, c_need0, decide_eq_true hl]
      exact ⟨fun hc => (by cases hc), fun _ => rfl⟩
    · rw [if_neg hl, dc_X12_versionAt_14, c_need1, decide_eq_false hl]
      refine ⟨fun _ => h.same ?_, fun hc => by cases hc⟩
      simp only [cV_s, xo_0 h.o, eA_s, sr_k h.ss, sr_kc h.ss, eC_s]
      unfold q_ver
      by_cases hf : isK σ key
      · obtain ⟨c, e1, hc⟩ := kw_find (B := B) h.ss.kw hf
        rw [if_pos hf]
        simp only [e1, cA_s]
        rw [← nI_0]
        exact c_ver_lp h hc (σ.1 6) 0 _ (by omega)
      · rw [if_neg hf]
        simp only [kw_find_no h.ss.kw hf, cA_n]
        rfl
theorem c_wrs_lp (h : CX B s x nb sb u σ) : ∀ m i j, i + m = σ.1 6 → rn_ tb_ct tb_mt B mm_X12_writes 8 [.ref x, .int key, .int (nI j), .int (nI i), am_un] [] s = some (.inl (some (.int (nI (j + cn (fun i => decide (σ.2 2 i 2 = key)) i m)))), s) := by
  have n6 := SR.n6 h.ss
  intro m
  induction m with
  | zero =>
    intro i j hi
    rw [dc_X12_writes_8]
    simp only [xo_0 h.o, eA_s, sr_e h.ss, sr_en h.ss, eI_s, if_pos (nI_le (show σ.1 6 ≤ i by omega) (by omega))]
    rfl
  | succ m ih =>
    intro i j hi
    obtain ⟨a, e1, ec, -⟩ := ew_at (B := B) h.ss.ew (show i < σ.1 6 by omega)
    rw [dc_X12_writes_8]
    simp only [xo_0 h.o, eA_s, sr_e h.ss, sr_en h.ss, eI_s, if_neg (nI_ge (show i < σ.1 6 by omega) (by omega)), sr_ec h.ss, eC_s, e1, cA_s, ec_2 ec]
    rw [cn_s]
    by_cases hk : σ.2 2 i 2 = key
    · rw [if_pos hk, dc_X12_writes_52, nI_1, nI_1, ih (i + 1) (j + 1) (by omega), if_pos (decide_eq_true hk), Nat.add_assoc]
    · rw [if_neg hk, dc_X12_writes_52, nI_1, ih (i + 1) j (by omega), if_neg (by rw [decide_eq_true_eq]; exact hk), Nat.zero_add]
theorem c_writes (h : CX B s x nb sb u σ) : CO s x nb (cl_ tb_ct tb_mt B K_X12_writes [.ref x, .int key] s) (bKey key) (.int (nI (q_wrs σ key))) σ := by
  rw [in_X12_writes, dc_X12_writes_0]
  simp only [c_needKey, cVb]
  cases hk : bKey key with
  | false => exact ⟨fun hc => (by cases hc), fun _ => rfl⟩
  | true =>
    refine ⟨fun _ => h.same ?_, fun hc => by cases hc⟩
    simp only [if_true]
    have := c_wrs_lp (key := key) h (σ.1 6) 0 0 (by omega)
    rw [nI_0, Nat.zero_add] at this
    exact this
theorem c_dp_lp (h : CX B s x nb sb u σ) (h0 : σ.1 6 ≠ 0) : ∀ m i j, i + m = σ.1 6 → j ≤ i → rn_ tb_ct tb_mt B mm_X12_deletedPart 21 [.ref x, .int (nI (σ.1 6)), .int (nI j), .int (nI i), am_un] [] s = some (.inl (some (.double (FP.ddiv (FP.i2d (nI (j + cn (fun i => decide (σ.2 2 i 1 = 1)) i m))) (FP.i2d (nI (σ.1 6)))))), s) := by
  have n6 := h.a.2.2.1
  intro m
  induction m with
  | zero =>
    intro i j hi hj
    rw [dc_X12_deletedPart_21, if_pos (nI_le (show σ.1 6 ≤ i by omega) (by omega)), if_pos ((q_dok (σ.1 6) (by omega) j (by omega)).resolve_left h0)]
    rfl
  | succ m ih =>
    intro i j hi hj
    obtain ⟨a, e1, ec, -⟩ := ew_at (B := B) h.ss.ew (show i < σ.1 6 by omega)
    rw [dc_X12_deletedPart_21, if_neg (nI_ge (show i < σ.1 6 by omega) (by omega))]
    simp only [xo_0 h.o, eA_s, sr_e h.ss, sr_ec h.ss, eC_s, e1, cA_s, ec_1 ec, eI_s]
    rw [cn_s]
    by_cases hk : σ.2 2 i 1 = 1
    · rw [if_pos hk, dc_X12_deletedPart_56, nI_1, nI_1, ih (i + 1) (j + 1) (by omega) (by omega), if_pos (decide_eq_true hk), Nat.add_assoc]
    · rw [if_neg hk, dc_X12_deletedPart_56, nI_1, ih (i + 1) j (by omega) (by omega), if_neg (by rw [decide_eq_true_eq]; exact hk), Nat.zero_add]
theorem c_deletedPart (h : CX B s x nb sb u σ) : CO s x nb (cl_ tb_ct tb_mt B K_X12_deletedPart [.ref x] s) true (.double (q_dp σ)) σ := by
  have n6 := h.a.2.2.1
  refine ⟨fun _ => h.same ?_, fun hc => by cases hc⟩
  rw [in_X12_deletedPart, dc_X12_deletedPart_0]
  simp only [xo_0 h.o, eA_s, sr_e h.ss, sr_en h.ss, eI_s]
  unfold q_dp
  by_cases h0 : σ.1 6 = 0
  · rw [if_pos h0, if_pos (show nI (σ.1 6) = 0 by rw [h0]; rfl)]
  · rw [if_neg h0, if_neg (nI_ne0 (by omega) (by omega))]
    have := c_dp_lp h h0 (σ.1 6) 0 0 (by omega) (Nat.le_refl _)
    rw [nI_0, Nat.zero_add] at this
    exact this
/-! the order of keys -/
theorem c_leader (h : CX B s x nb sb u σ) : CO s x nb (cl_ tb_ct tb_mt B K_X12_leader [.ref x, .int f, .int t] s) (bRange f t) (.int (q_lead σ f t)) σ := by
  have n3 := SR.n3 h.ss
  have lp : ∀ m i (r : Option Nat) (ra : Option Nat), i + m = σ.1 3 → (match r, ra with | none, none => True | some j, some a => KC s a (σ.2 0 j) | _, _ => False) → rn_ tb_ct tb_mt B mm_X12_leader 10 [.ref x, .int f, .int t, va_rf ra, .int (nI i), am_un] [] s = some (.inl (some (.int (q_ko σ (q_ld σ f t i m r)))), s) := by
    intro m
    induction m with
    | zero =>
      intro i r ra hi hr
      rw [dc_X12_leader_10]
      match r, ra, hr with
      | none, none, _ =>
        simp only [eA_n, xo_0 h.o, eA_s, sr_k h.ss, sr_kn h.ss, eI_s, if_pos (nI_le (show σ.1 3 ≤ i by omega) (by omega))]
        rfl
      | some j, some a, hr =>
        simp only [eA_s, xo_0 h.o, sr_k h.ss, sr_kn h.ss, eI_s, if_pos (nI_le (show σ.1 3 ≤ i by omega) (by omega)), kc_0 hr]
        rfl
    | succ m ih =>
      intro i r ra hi hr
      obtain ⟨a, e1, hc⟩ := kw_at (B := B) h.ss.kw (show i < σ.1 3 by omega)
      have e70 : ∀ (r' ra' : Option Nat) w, (match r', ra' with | none, none => True | some j, some a => KC s a (σ.2 0 j) | _, _ => False) → rn_ tb_ct tb_mt B mm_X12_leader 70 [.ref x, .int f, .int t, va_rf ra', .int (nI i), w] [] s = some (.inl (some (.int (q_ko σ (q_ld σ f t (i + 1) m r')))), s) := by
        intro r' ra' w hr'
        rw [dc_X12_leader_70]
        have := ih (i + 1) r' ra' (by omega) hr'
        cases ra' with
        | none => simp only [eA_n, nI_1]; exact this
        | some b => simp only [eA_s, nI_1]; exact this
      have e67 : ∀ w, rn_ tb_ct tb_mt B mm_X12_leader 67 [.ref x, .int f, .int t, w, .int (nI i), .ref a] [] s = some (.inl (some (.int (q_ko σ (q_ld σ f t (i + 1) m (some i))))), s) := by
        intro w
        rw [dc_X12_leader_67]
        exact e70 (some i) (some a) _ hc
      have eq : q_ld σ f t i (m + 1) r = q_ld σ f t (i + 1) m (if inR f t (σ.2 0 i) = true ∧ (∀ j, r = some j → cbB (σ.2 0 i) (σ.2 0 j) = true) then some i else r) := rfl
      rw [dc_X12_leader_10, eq]
      match r, ra, hr with
      | none, none, hr =>
        simp only [eA_n, xo_0 h.o, eA_s, sr_k h.ss, sr_kn h.ss, eI_s, if_neg (nI_ge (show i < σ.1 3 by omega) (by omega)), sr_kc h.ss, eC_s, e1, cA_s, kc_cls hc, kc_isIn hc, cI_s, inR_if]
        cases hin : inR f t (σ.2 0 i) with
        | true =>
          rw [if_pos rfl, if_pos ⟨rfl, fun j hj => by cases hj⟩]
          exact e67 _
        | false =>
          rw [if_neg (by decide), if_neg (fun hc => by cases hc.1)]
          exact e70 none none _ trivial
      | some j, some b, hr =>
        simp only [eA_s, xo_0 h.o, sr_k h.ss, sr_kn h.ss, eI_s, if_neg (nI_ge (show i < σ.1 3 by omega) (by omega)), sr_kc h.ss, eC_s, e1, cA_s, kc_cls hc, kc_isIn hc, cI_s, inR_if, b1_if, kc_cameBefore hc hr]
        cases hin : inR f t (σ.2 0 i) with
        | false =>
          rw [if_neg (by decide), if_neg (fun hc => by cases hc.1)]
          exact e70 (some j) (some b) _ hr
        | true =>
          rw [if_pos rfl]
          cases hcb : cbB (σ.2 0 i) (σ.2 0 j) with
          | true =>
            rw [if_pos rfl, if_pos ⟨rfl, fun j' hj => by cases hj; exact hcb⟩]
            exact e67 _
          | false =>
            rw [if_neg Bool.false_ne_true, if_neg (fun hq => by have := hq.2 j rfl; rw [hcb] at this; cases this)]
            exact e70 (some j) (some b) _ hr
  rw [in_X12_leader, dc_X12_leader_0]
  simp only [c_needRange, cVb]
  cases hk : bRange f t with
  | false => exact ⟨fun hc => (by cases hc), fun _ => rfl⟩
  | true =>
    refine ⟨fun _ => h.same ?_, fun hc => by cases hc⟩
    simp only [if_true]
    exact lp (σ.1 3) 0 none none (by omega) trivial
theorem c_ah_lp {b : Nat} {q : Nat} (h : CX B s x nb sb u σ) (hb : KC s b (σ.2 0 q)) : ∀ m i (r : Option Nat) (ra : Option Nat) w1, i + m = σ.1 3 → (match r, ra with | none, none => True | some j, some a => KC s a (σ.2 0 j) | _, _ => False) → rn_ tb_ct tb_mt B mm_X12_ahead 45 [.ref x, w1, .int f, .int t, .ref b, va_rf ra, .int (nI i), am_un] [] s = some (.inl (some (.int (q_ko σ (q_ah σ q f t i m r)))), s) := by
  have n3 := SR.n3 h.ss
  intro m
  induction m with
  | zero =>
    intro i r ra w1 hi hr
    rw [dc_X12_ahead_45]
    match r, ra, hr with
    | none, none, _ =>
      simp only [eA_n, xo_0 h.o, eA_s, sr_k h.ss, sr_kn h.ss, eI_s, if_pos (nI_le (show σ.1 3 ≤ i by omega) (by omega))]
      rfl
    | some j, some a, hr =>
      simp only [eA_s, xo_0 h.o, sr_k h.ss, sr_kn h.ss, eI_s, if_pos (nI_le (show σ.1 3 ≤ i by omega) (by omega)), kc_0 hr]
      rfl
  | succ m ih =>
    intro i r ra w1 hi hr
    obtain ⟨a, e1, hc⟩ := kw_at (B := B) h.ss.kw (show i < σ.1 3 by omega)
    have e118 : ∀ (r' ra' : Option Nat) w, (match r', ra' with | none, none => True | some j, some a => KC s a (σ.2 0 j) | _, _ => False) → rn_ tb_ct tb_mt B mm_X12_ahead 118 [.ref x, am_un, .int f, .int t, .ref b, va_rf ra', .int (nI i), w] [] s = some (.inl (some (.int (q_ko σ (q_ah σ q f t (i + 1) m r')))), s) := by
      intro r' ra' w hr'
      rw [dc_X12_ahead_118]
      have := ih (i + 1) r' ra' am_un (by omega) hr'
      cases ra' with
      | none => simp only [eA_n, nI_1]; exact this
      | some b => simp only [eA_s, nI_1]; exact this
    have e114 : ∀ w, rn_ tb_ct tb_mt B mm_X12_ahead 114 [.ref x, am_un, .int f, .int t, .ref b, w, .int (nI i), .ref a] [] s = some (.inl (some (.int (q_ko σ (q_ah σ q f t (i + 1) m (some i))))), s) := by
      intro w
      rw [dc_X12_ahead_114]
      exact e118 (some i) (some a) _ hc
    have eq : q_ah σ q f t i (m + 1) r = q_ah σ q f t (i + 1) m (if inR f t (σ.2 0 i) = true ∧ cbB (σ.2 0 i) (σ.2 0 q) = true ∧ (∀ j, r = some j → cbB (σ.2 0 j) (σ.2 0 i) = true) then some i else r) := rfl
    rw [dc_X12_ahead_45, eq]
    match r, ra, hr with
    | none, none, hr =>
      simp only [eA_n, xo_0 h.o, eA_s, sr_k h.ss, sr_kn h.ss, eI_s, if_neg (nI_ge (show i < σ.1 3 by omega) (by omega)), sr_kc h.ss, eC_s, e1, cA_s, kc_cls hc, kc_isIn hc, cI_s, inR_if, b1_if, kc_cameBefore hc hb]
      cases hin : inR f t (σ.2 0 i) with
      | true =>
        rw [if_pos rfl]
        cases hcb : cbB (σ.2 0 i) (σ.2 0 q) with
        | true =>
          rw [if_pos rfl, if_pos ⟨rfl, rfl, fun j hj => by cases hj⟩]
          exact e114 _
        | false =>
          rw [if_neg Bool.false_ne_true, if_neg (fun hq => by cases hq.2.1)]
          exact e118 none none _ trivial
      | false =>
        rw [if_neg (by decide), if_neg (fun hc => by cases hc.1)]
        exact e118 none none _ trivial
    | some j, some b', hr =>
      simp only [eA_s, xo_0 h.o, sr_k h.ss, sr_kn h.ss, eI_s, if_neg (nI_ge (show i < σ.1 3 by omega) (by omega)), sr_kc h.ss, eC_s, e1, cA_s, kc_cls hc, kc_isIn hc, cI_s, inR_if, b1_if, kc_cameBefore hc hb, kc_cls hr, kc_cameBefore hr hc]
      cases hin : inR f t (σ.2 0 i) with
      | false =>
        rw [if_neg (by decide), if_neg (fun hc => by cases hc.1)]
        exact e118 (some j) (some b') _ hr
      | true =>
        rw [if_pos rfl]
        cases hcb : cbB (σ.2 0 i) (σ.2 0 q) with
        | false =>
          rw [if_neg Bool.false_ne_true, if_neg (fun hq => by cases hq.2.1)]
          exact e118 (some j) (some b') _ hr
        | true =>
          rw [if_pos rfl]
          cases hcb2 : cbB (σ.2 0 j) (σ.2 0 i) with
          | true =>
            rw [if_pos rfl, if_pos ⟨rfl, rfl, fun j' hj => by cases hj; exact hcb2⟩]
            exact e114 _
          | false =>
            rw [if_neg Bool.false_ne_true, if_neg (fun hq => by have := hq.2.2 j rfl; rw [hcb2] at this; cases this)]
            exact e118 (some j) (some b') _ hr
theorem c_ahead (h : CX B s x nb sb u σ) : CO s x nb (cl_ tb_ct tb_mt B K_X12_ahead [.ref x, .int key, .int f, .int t] s) (bKey key && bRange f t) (.int (q_ahead σ key f t)) σ := by
  rw [in_X12_ahead, dc_X12_ahead_0]
  simp only [c_needKey, cVb]
  cases hk : bKey key with
  | false => exact ⟨fun hc => (by cases hc), fun _ => rfl⟩
  | true =>
    simp only [if_true, c_needRange, cVb, Bool.true_and]
    cases hk2 : bRange f t with
    | false => exact ⟨fun hc => (by cases hc), fun _ => rfl⟩
    | true =>
      refine ⟨fun _ => h.same ?_, fun hc => by cases hc⟩
      simp only [if_true, xo_0 h.o, eA_s, sr_k h.ss, sr_kc h.ss, eC_s]
      unfold q_ahead
      by_cases hf : isK σ key
      · obtain ⟨b, e1, hb⟩ := kw_find (B := B) h.ss.kw hf
        simp only [e1, cA_s, kc_cls hb, eC_s, kc_isIn hb, cI_s, inR_if]
        cases hin : inR f t (σ.2 0 (pF (σ.2 0) (σ.1 3) key)) with
        | false =>
          rw [if_neg (by decide), if_neg (fun hc => by cases hc.2)]
        | true =>
          rw [if_pos rfl, if_pos ⟨hf, rfl⟩]
          exact c_ah_lp h hb (σ.1 3) 0 none none _ (by omega) trivial
      · rw [if_neg (fun hc => hf hc.1)]
        simp only [kw_find_no h.ss.kw hf, cA_n]
theorem c_place (h : CX B s x nb sb u σ) : CO s x nb (cl_ tb_ct tb_mt B K_X12_place [.ref x, .int key, .int f, .int t] s) (bKey key && bRange f t) (.int (q_place σ key f t)) σ := by
  have n3 := SR.n3 h.ss
  have lp : ∀ (b q : Nat), KC s b (σ.2 0 q) → ∀ m i j w1, i + m = σ.1 3 → rn_ tb_ct tb_mt B mm_X12_place 45 [.ref x, w1, .int f, .int t, .ref b, .int (nI j), .int (nI i), am_un] [] s = some (.inl (some (.int (nI (j + cn (fun i => inR f t (σ.2 0 i) && cbB (σ.2 0 i) (σ.2 0 q)) i m)))), s) := by
    intro b q hb m
    induction m with
    | zero =>
      intro i j w1 hi
      rw [dc_X12_place_45]
      simp only [xo_0 h.o, eA_s, sr_k h.ss, sr_kn h.ss, eI_s, if_pos (nI_le (show σ.1 3 ≤ i by omega) (by omega))]
      rfl
    | succ m ih =>
      intro i j w1 hi
      obtain ⟨a, e1, hc⟩ := kw_at (B := B) h.ss.kw (show i < σ.1 3 by omega)
      rw [dc_X12_place_45]
      simp only [xo_0 h.o, eA_s, sr_k h.ss, sr_kn h.ss, eI_s, if_neg (nI_ge (show i < σ.1 3 by omega) (by omega)), sr_kc h.ss, eC_s, e1, cA_s, kc_cls hc, kc_isIn hc, cI_s, inR_if, b1_if, kc_cameBefore hc hb]
      rw [cn_s]
      cases hin : inR f t (σ.2 0 i) with
      | false =>
        rw [if_neg (by decide), dc_X12_place_102, nI_1, ih (i + 1) j _ (by omega)]
        simp
      | true =>
        rw [if_pos rfl]
        cases hcb : cbB (σ.2 0 i) (σ.2 0 q) with
        | false =>
          simp only [Bool.false_eq_true, if_false, Bool.and_false, Nat.zero_add]
          rw [dc_X12_place_102, nI_1, ih (i + 1) j _ (by omega)]
        | true =>
          simp only [if_true, Bool.and_self]
          rw [dc_X12_place_102, nI_1, nI_1, ih (i + 1) (j + 1) _ (by omega), Nat.add_assoc]
  rw [in_X12_place, dc_X12_place_0]
  simp only [c_needKey, cVb]
  cases hk : bKey key with
  | false => exact ⟨fun hc => (by cases hc), fun _ => rfl⟩
  | true =>
    simp only [if_true, c_needRange, cVb, Bool.true_and]
    cases hk2 : bRange f t with
    | false => exact ⟨fun hc => (by cases hc), fun _ => rfl⟩
    | true =>
      refine ⟨fun _ => h.same ?_, fun hc => by cases hc⟩
      simp only [if_true, xo_0 h.o, eA_s, sr_k h.ss, sr_kc h.ss, eC_s]
      unfold q_place
      by_cases hf : isK σ key
      · obtain ⟨b, e1, hb⟩ := kw_find (B := B) h.ss.kw hf
        simp only [e1, cA_s, kc_cls hb, eC_s, kc_isIn hb, cI_s, inR_if]
        cases hin : inR f t (σ.2 0 (pF (σ.2 0) (σ.1 3) key)) with
        | false =>
          rw [if_neg (by decide), if_neg (fun hc => by cases hc.2)]
        | true =>
          rw [if_pos rfl, if_pos ⟨hf, rfl⟩]
          have := lp b _ hb (σ.1 3) 0 0 (.int key) (by omega)
          rw [nI_0, Nat.zero_add] at this
          exact this
      · rw [if_neg (fun hc => hf hc.1)]
        simp only [kw_find_no h.ss.kw hf, cA_n]
theorem c_keysIn (h : CX B s x nb sb u σ) : CO s x nb (cl_ tb_ct tb_mt B K_X12_keysIn [.ref x, .int y] s) (bTck y) (.int (q_kin σ y 0 (σ.1 4) (nI (σ.1 3)))) σ := by
  have n4 := SR.n4 h.ss
  have lp : ∀ m i j, i + m = σ.1 4 → rn_ tb_ct tb_mt B mm_X12_keysIn 20 [.ref x, .int y, .int j, .int (nI i), am_un] [] s = some (.inl (some (.int (q_kin σ y i m j))), s) := by
    intro m
    induction m with
    | zero =>
      intro i j hi
      rw [dc_X12_keysIn_20]
      simp only [xo_0 h.o, eA_s, sr_9 h.ss, eI_s, if_pos (nI_le (show σ.1 4 ≤ i by omega) (by omega))]
      rfl
    | succ m ih =>
      intro i j hi
      obtain ⟨a, e1, c1, -⟩ := st_leaseAt (B := B) h.ss (show i < σ.1 4 by omega)
      have eq : q_kin σ y i (m + 1) j = q_kin σ y (i + 1) m (if y < σ.2 3 i 2 then j else j - nI (cn (fun j => decide (σ.2 0 j 5 = σ.2 3 i 0)) 0 (σ.1 3))) := rfl
      rw [dc_X12_keysIn_20, eq]
      simp only [xo_0 h.o, eA_s, sr_9 h.ss, eI_s, if_neg (nI_ge (show i < σ.1 4 by omega) (by omega)), sr_cls h.ss, eC_s, e1, cA_s, l_2 c1, l_0 c1, sr_k h.ss, sr_kc h.ss, kw_countWith h.ss.kw, cI_s]
      by_cases hl : y < σ.2 3 i 2
      · rw [if_pos hl, if_pos hl, dc_X12_keysIn_73, nI_1, ih (i + 1) j (by omega)]
      · rw [if_neg hl, if_neg hl, dc_X12_keysIn_73, nI_1, ih (i + 1) _ (by omega)]
  rw [in_X12_keysIn, dc_X12_keysIn_0]
  simp only [c_isTicks, cI_s, c_needB, cVb]
  cases hk : bTck y with
  | false => exact ⟨fun hc => (by cases hc), fun _ => rfl⟩
  | true =>
    refine ⟨fun _ => h.same ?_, fun hc => by cases hc⟩
    simp only [if_true, xo_0 h.o, eA_s, sr_k h.ss, sr_kn h.ss, eI_s]
    have := lp (σ.1 4) 0 (nI (σ.1 3)) (by omega)
    rw [nI_0] at this
    exact this
end Cc
