/-! ===== the model: its object, its arrays ===== -/
def mof (m : Nat) (v : Nat → Int32) : List Value := [.ref (m + 1), .ref (m + 2), .ref (m + 3), .ref (m + 4), .int (v 4), .ref (m + 5), .ref (m + 6), .int (v 7), .ref (m + 7), .int (v 9), .int (v 10), .int (v 11), .int (v 12), .int (v 13), .int (v 14), .int (v 15), .int (v 16), .ref (m + 8), .ref (m + 9), .ref (m + 10), .ref (m + 11), .int (v 21)]
def mty (i : Nat) : FieldType := if i = 4 then .boolean else if i = 7 then .byte else if i = 11 then .byte else .int
def mln (i : Nat) : Nat := match i with
  | 1 => 1329
  | 2 => 1329
  | 3 => 2658
  | 4 => 2
  | 5 => 28
  | 6 => 28
  | 7 => 500
  | 8 => 28
  | 9 => 28
  | 10 => 24
  | _ => 60
abbrev mrT : Type := Nat → Nat → Int32
def moF (m : Nat) (v : Nat → Int32) (F : mrT) : Nat → Option am_E := fun i => if i = 0 then some (.inr (11, mof m v)) else some (.inl (mty i, mln i, .inl (F i)))
abbrev moS (s : am_S) (m : Nat) (v : Nat → Int32) (F : mrT) : am_S := ov s m 12 (moF m v F)
abbrev MO (s : am_S) (m : Nat) (v : Nat → Int32) (F : mrT) : Prop := OV s m 12 (moF m v F)
def mup (F : mrT) (i j : Nat) (x : Int32) : mrT := fun a => if a = i then upd (F i) j x else F a
theorem mup_s {F : mrT} {i j : Nat} {x : Int32} : mup F i j x i = upd (F i) j x := if_pos rfl
theorem mup_n {F : mrT} {i j a : Nat} {x : Int32} (h : a ≠ i) : mup F i j x a = F a := if_neg h
theorem nn0 : (0 : Int32) = nI 0 := rfl
theorem nn1 : (1 : Int32) = nI 1 := rfl
theorem nn2 : (2 : Int32) = nI 2 := rfl
theorem nn3 : (3 : Int32) = nI 3 := rfl
theorem nn4 : (4 : Int32) = nI 4 := rfl
theorem nn5 : (5 : Int32) = nI 5 := rfl
theorem nn6 : (6 : Int32) = nI 6 := rfl
theorem nn7 : (7 : Int32) = nI 7 := rfl
theorem nn8 : (8 : Int32) = nI 8 := rfl
theorem nn9 : (9 : Int32) = nI 9 := rfl
theorem nn10 : (10 : Int32) = nI 10 := rfl
theorem nn11 : (11 : Int32) = nI 11 := rfl
theorem nn12 : (12 : Int32) = nI 12 := rfl
theorem nn13 : (13 : Int32) = nI 13 := rfl
theorem nn15 : (15 : Int32) = nI 15 := rfl
theorem nn16 : (16 : Int32) = nI 16 := rfl
theorem nn18 : (18 : Int32) = nI 18 := rfl
theorem nn28 : (28 : Int32) = nI 28 := rfl
theorem nn45 : (45 : Int32) = nI 45 := rfl
theorem nn48 : (48 : Int32) = nI 48 := rfl
theorem nn57 : (57 : Int32) = nI 57 := rfl
theorem nn58 : (58 : Int32) = nI 58 := rfl
theorem nn59 : (59 : Int32) = nI 59 := rfl
theorem nn97 : (97 : Int32) = nI 97 := rfl
theorem nn120 : (120 : Int32) = nI 120 := rfl
theorem nn122 : (122 : Int32) = nI 122 := rfl
theorem nn157 : (157 : Int32) = nI 157 := rfl
theorem nn189 : (189 : Int32) = nI 189 := rfl
theorem nn500 : (500 : Int32) = nI 500 := rfl
theorem nn999 : (999 : Int32) = nI 999 := rfl
theorem nn1000 : (1000 : Int32) = nI 1000 := rfl
theorem nn1149 : (1149 : Int32) = nI 1149 := rfl
theorem nn1173 : (1173 : Int32) = nI 1173 := rfl
theorem nn1269 : (1269 : Int32) = nI 1269 := rfl
theorem nn1293 : (1293 : Int32) = nI 1293 := rfl
theorem nn1311 : (1311 : Int32) = nI 1311 := rfl
theorem nn1329 : (1329 : Int32) = nI 1329 := rfl
theorem nn9999 : (9999 : Int32) = nI 9999 := rfl
section Mo
variable {s s' : am_S} {B m i j n : Nat} {v v' : Nat → Int32} {F F' : mrT} {x y : Int32} {M : am_M}
theorem mo_o (h : MO s m v F) : s.1 m = some (.inr (11, mof m v)) := h 0 (by omega)
theorem mo_a (h : MO s m v F) (h0 : 0 < i) (hi : i < 12) : s.1 (m + i) = some (.inl (mty i, mln i, .inl (F i))) := (h i hi).trans (if_neg (by omega))
theorem mo_cls (h : MO s m v F) : am_cls s m = some 11 := cls_o (mo_o h)
theorem mo_0 (h : MO s m v F) : gA tb_ct s m 11 0 = some (some (m + 1)) := gA_o (mo_o h) rfl rfl rfl
theorem mo_1 (h : MO s m v F) : gA tb_ct s m 11 1 = some (some (m + 2)) := gA_o (mo_o h) rfl rfl rfl
theorem mo_2 (h : MO s m v F) : gA tb_ct s m 11 2 = some (some (m + 3)) := gA_o (mo_o h) rfl rfl rfl
theorem mo_3 (h : MO s m v F) : gA tb_ct s m 11 3 = some (some (m + 4)) := gA_o (mo_o h) rfl rfl rfl
theorem mo_4 (h : MO s m v F) : gI tb_ct s m 11 4 = some (v 4) := gI_o (mo_o h) rfl rfl rfl
theorem mo_5 (h : MO s m v F) : gA tb_ct s m 11 5 = some (some (m + 5)) := gA_o (mo_o h) rfl rfl rfl
theorem mo_6 (h : MO s m v F) : gA tb_ct s m 11 6 = some (some (m + 6)) := gA_o (mo_o h) rfl rfl rfl
theorem mo_7 (h : MO s m v F) : gI tb_ct s m 11 7 = some (v 7) := gI_o (mo_o h) rfl rfl rfl
theorem mo_8 (h : MO s m v F) : gA tb_ct s m 11 8 = some (some (m + 7)) := gA_o (mo_o h) rfl rfl rfl
theorem mo_9 (h : MO s m v F) : gI tb_ct s m 11 9 = some (v 9) := gI_o (mo_o h) rfl rfl rfl
theorem mo_10 (h : MO s m v F) : gI tb_ct s m 11 10 = some (v 10) := gI_o (mo_o h) rfl rfl rfl
theorem mo_11 (h : MO s m v F) : gI tb_ct s m 11 11 = some (v 11) := gI_o (mo_o h) rfl rfl rfl
theorem mo_12 (h : MO s m v F) : gI tb_ct s m 11 12 = some (v 12) := gI_o (mo_o h) rfl rfl rfl
theorem mo_13 (h : MO s m v F) : gI tb_ct s m 11 13 = some (v 13) := gI_o (mo_o h) rfl rfl rfl
theorem mo_14 (h : MO s m v F) : gI tb_ct s m 11 14 = some (v 14) := gI_o (mo_o h) rfl rfl rfl
theorem mo_15 (h : MO s m v F) : gI tb_ct s m 11 15 = some (v 15) := gI_o (mo_o h) rfl rfl rfl
theorem mo_16 (h : MO s m v F) : gI tb_ct s m 11 16 = some (v 16) := gI_o (mo_o h) rfl rfl rfl
theorem mo_17 (h : MO s m v F) : gA tb_ct s m 11 17 = some (some (m + 8)) := gA_o (mo_o h) rfl rfl rfl
theorem mo_18 (h : MO s m v F) : gA tb_ct s m 11 18 = some (some (m + 9)) := gA_o (mo_o h) rfl rfl rfl
theorem mo_19 (h : MO s m v F) : gA tb_ct s m 11 19 = some (some (m + 10)) := gA_o (mo_o h) rfl rfl rfl
theorem mo_20 (h : MO s m v F) : gA tb_ct s m 11 20 = some (some (m + 11)) := gA_o (mo_o h) rfl rfl rfl
theorem mo_21 (h : MO s m v F) : gI tb_ct s m 11 21 = some (v 21) := gI_o (mo_o h) rfl rfl rfl
theorem mo_st (h : MO s m v F) : am_set s m (.inr (11, mof m v')) = moS s m v' F := by
  rw [show m = m + 0 from rfl, OV.set h (show 0 < 12 by omega)]
  refine ov_cg fun i _ => ?_
  rcases i with _ | i
  · rfl
  · rfl
theorem mp_4 (h : MO s m v F) (hB : B ≤ m) : am_put tb_ct M B s (.int x) m 11 4 = some (moS s m (upd v 4 x) F) := by
  rw [pF_o (mo_o h) (Nat.le_of_ble_eq_true rfl) rfl rfl hB (Or.inl rfl), ← mo_st h]
  rfl
theorem mp_7 (h : MO s m v F) (hB : B ≤ m) : am_put tb_ct M B s (.int x) m 11 7 = some (moS s m (upd v 7 x) F) := by
  rw [pF_o (mo_o h) (Nat.le_of_ble_eq_true rfl) rfl rfl hB (Or.inl rfl), ← mo_st h]
  rfl
theorem mp_9 (h : MO s m v F) (hB : B ≤ m) : am_put tb_ct M B s (.int x) m 11 9 = some (moS s m (upd v 9 x) F) := by
  rw [pF_o (mo_o h) (Nat.le_of_ble_eq_true rfl) rfl rfl hB (Or.inl rfl), ← mo_st h]
  rfl
theorem mp_10 (h : MO s m v F) (hB : B ≤ m) : am_put tb_ct M B s (.int x) m 11 10 = some (moS s m (upd v 10 x) F) := by
  rw [pF_o (mo_o h) (Nat.le_of_ble_eq_true rfl) rfl rfl hB (Or.inl rfl), ← mo_st h]
  rfl
theorem mp_11 (h : MO s m v F) (hB : B ≤ m) : am_put tb_ct M B s (.int x) m 11 11 = some (moS s m (upd v 11 x) F) := by
  rw [pF_o (mo_o h) (Nat.le_of_ble_eq_true rfl) rfl rfl hB (Or.inl rfl), ← mo_st h]
  rfl
theorem mp_12 (h : MO s m v F) (hB : B ≤ m) : am_put tb_ct M B s (.int x) m 11 12 = some (moS s m (upd v 12 x) F) := by
  rw [pF_o (mo_o h) (Nat.le_of_ble_eq_true rfl) rfl rfl hB (Or.inl rfl), ← mo_st h]
  rfl
theorem mp_13 (h : MO s m v F) (hB : B ≤ m) : am_put tb_ct M B s (.int x) m 11 13 = some (moS s m (upd v 13 x) F) := by
  rw [pF_o (mo_o h) (Nat.le_of_ble_eq_true rfl) rfl rfl hB (Or.inl rfl), ← mo_st h]
  rfl
theorem mp_14 (h : MO s m v F) (hB : B ≤ m) : am_put tb_ct M B s (.int x) m 11 14 = some (moS s m (upd v 14 x) F) := by
  rw [pF_o (mo_o h) (Nat.le_of_ble_eq_true rfl) rfl rfl hB (Or.inl rfl), ← mo_st h]
  rfl
theorem mp_15 (h : MO s m v F) (hB : B ≤ m) : am_put tb_ct M B s (.int x) m 11 15 = some (moS s m (upd v 15 x) F) := by
  rw [pF_o (mo_o h) (Nat.le_of_ble_eq_true rfl) rfl rfl hB (Or.inl rfl), ← mo_st h]
  rfl
theorem mp_16 (h : MO s m v F) (hB : B ≤ m) : am_put tb_ct M B s (.int x) m 11 16 = some (moS s m (upd v 16 x) F) := by
  rw [pF_o (mo_o h) (Nat.le_of_ble_eq_true rfl) rfl rfl hB (Or.inl rfl), ← mo_st h]
  rfl
theorem mp_21 (h : MO s m v F) (hB : B ≤ m) : am_put tb_ct M B s (.int x) m 11 21 = some (moS s m (upd v 21 x) F) := by
  rw [pF_o (mo_o h) (Nat.le_of_ble_eq_true rfl) rfl rfl hB (Or.inl rfl), ← mo_st h]
  rfl
theorem mo_idem {v'' : Nat → Int32} {F'' : mrT} : moS (moS s m v F) m v'' F'' = moS s m v'' F'' := ov_idem
theorem mo_sa (h : MO s m v F) (h0 : 0 < i) (hi : i < 12) : am_set s (m + i) (.inl (mty i, mln i, .inl (upd (F i) j x))) = moS s m v (mup F i j x) := by
  rw [OV.set h hi]
  refine ov_cg fun a ha => ?_
  unfold moF
  by_cases c : a = i
  · subst c
    rw [if_pos rfl, if_neg (by omega), mup_s]
  · rw [if_neg c]
    by_cases c0 : a = 0
    · rw [if_pos c0, if_pos c0]
    · rw [if_neg c0, if_neg c0, mup_n c]
theorem mr_i (h : MO s m v F) (i : Nat) (h0 : 0 < i ∧ i < 12 ∧ mty i = .int) (hj : j < mln i) (hn : mln i < 2 ^ 31) : aI s (m + i) (nI j) = some (F i j) := by
  have e := mo_a h h0.1 h0.2.1
  rw [h0.2.2] at e
  exact aI_o e hj hn
theorem mw_i (h : MO s m v F) (hB : B ≤ m) (i : Nat) (h0 : 0 < i ∧ i < 12 ∧ mty i = .int) (hj : j < mln i) (hn : mln i < 2 ^ 31) : wI B s (m + i) (nI j) x = some (moS s m v (mup F i j x)) := by
  have e := mo_a h h0.1 h0.2.1
  rw [h0.2.2] at e
  have e2 := mo_sa (j := j) (x := x) h h0.1 h0.2.1
  rw [h0.2.2] at e2
  rw [wI_o e hj hn (by omega), e2]
theorem mr_n (h : MO s m v F) (hj : j < 1329) : aI s (m + 1) (nI j) = some (F 1 j) := mr_i h 1 ⟨by omega, by omega, rfl⟩ hj (by decide)
theorem mw_n (h : MO s m v F) (hB : B ≤ m) (hj : j < 1329) : wI B s (m + 1) (nI j) x = some (moS s m v (mup F 1 j x)) := mw_i h hB 1 ⟨by omega, by omega, rfl⟩ hj (by decide)
theorem mr_a (h : MO s m v F) (hj : j < 1329) : aI s (m + 2) (nI j) = some (F 2 j) := mr_i h 2 ⟨by omega, by omega, rfl⟩ hj (by decide)
theorem mw_a (h : MO s m v F) (hB : B ≤ m) (hj : j < 1329) : wI B s (m + 2) (nI j) x = some (moS s m v (mup F 2 j x)) := mw_i h hB 2 ⟨by omega, by omega, rfl⟩ hj (by decide)
theorem mr_c (h : MO s m v F) (hj : j < 2658) : aI s (m + 3) (nI j) = some (F 3 j) := mr_i h 3 ⟨by omega, by omega, rfl⟩ hj (by decide)
theorem mw_c (h : MO s m v F) (hB : B ≤ m) (hj : j < 2658) : wI B s (m + 3) (nI j) x = some (moS s m v (mup F 3 j x)) := mw_i h hB 3 ⟨by omega, by omega, rfl⟩ hj (by decide)
theorem mr_tk (h : MO s m v F) (hj : j < 28) : aI s (m + 5) (nI j) = some (F 5 j) := mr_i h 5 ⟨by omega, by omega, rfl⟩ hj (by decide)
theorem mw_tk (h : MO s m v F) (hB : B ≤ m) (hj : j < 28) : wI B s (m + 5) (nI j) x = some (moS s m v (mup F 5 j x)) := mw_i h hB 5 ⟨by omega, by omega, rfl⟩ hj (by decide)
theorem mr_tv (h : MO s m v F) (hj : j < 28) : aI s (m + 6) (nI j) = some (F 6 j) := mr_i h 6 ⟨by omega, by omega, rfl⟩ hj (by decide)
theorem mw_tv (h : MO s m v F) (hB : B ≤ m) (hj : j < 28) : wI B s (m + 6) (nI j) x = some (moS s m v (mup F 6 j x)) := mw_i h hB 6 ⟨by omega, by omega, rfl⟩ hj (by decide)
theorem mr_ok (h : MO s m v F) (hj : j < 28) : aI s (m + 8) (nI j) = some (F 8 j) := mr_i h 8 ⟨by omega, by omega, rfl⟩ hj (by decide)
theorem mw_ok (h : MO s m v F) (hB : B ≤ m) (hj : j < 28) : wI B s (m + 8) (nI j) x = some (moS s m v (mup F 8 j x)) := mw_i h hB 8 ⟨by omega, by omega, rfl⟩ hj (by decide)
theorem mr_ov (h : MO s m v F) (hj : j < 28) : aI s (m + 9) (nI j) = some (F 9 j) := mr_i h 9 ⟨by omega, by omega, rfl⟩ hj (by decide)
theorem mw_ov (h : MO s m v F) (hB : B ≤ m) (hj : j < 28) : wI B s (m + 9) (nI j) x = some (moS s m v (mup F 9 j x)) := mw_i h hB 9 ⟨by omega, by omega, rfl⟩ hj (by decide)
theorem mr_d (h : MO s m v F) (hj : j < 24) : aI s (m + 10) (nI j) = some (F 10 j) := mr_i h 10 ⟨by omega, by omega, rfl⟩ hj (by decide)
theorem mw_d (h : MO s m v F) (hB : B ≤ m) (hj : j < 24) : wI B s (m + 10) (nI j) x = some (moS s m v (mup F 10 j x)) := mw_i h hB 10 ⟨by omega, by omega, rfl⟩ hj (by decide)
theorem mr_b (h : MO s m v F) (hj : j < 500) : aB s (m + 7) (nI j) = some (F 7 j) := aB_o (mo_a h (i := 7) (by omega) (by omega)) (Or.inl rfl) hj (by decide)
theorem mw_b (h : MO s m v F) (hB : B ≤ m) (hj : j < 500) : wB B s (m + 7) (nI j) x = some (moS s m v (mup F 7 j (vp_nar .byte x))) := by
  rw [wB_o (mo_a h (i := 7) (by omega) (by omega)) (Or.inl rfl) hj (by decide) (by omega), ← mo_sa h (by omega) (by omega)]
  rfl
theorem mr_o (h : MO s m v F) (hj : j < 60) : aB s (m + 11) (nI j) = some (F 11 j) := aB_o (mo_a h (i := 11) (by omega) (by omega)) (Or.inl rfl) hj (by decide)
theorem mw_o (h : MO s m v F) (hB : B ≤ m) (hj : j < 60) : wB B s (m + 11) (nI j) x = some (moS s m v (mup F 11 j (vp_nar .byte x))) := by
  rw [wB_o (mo_a h (i := 11) (by omega) (by omega)) (Or.inl rfl) hj (by decide) (by omega), ← mo_sa h (by omega) (by omega)]
  rfl
theorem mr_z (h : MO s m v F) (hj : j < 2) : aB s (m + 4) (nI j) = some (F 4 j) := aB_o (mo_a h (i := 4) (by omega) (by omega)) (Or.inr rfl) hj (by decide)
theorem mw_z (h : MO s m v F) (hB : B ≤ m) (hj : j < 2) : wB B s (m + 4) (nI j) x = some (moS s m v (mup F 4 j (vp_nar .boolean x))) := by
  rw [wB_o (mo_a h (i := 4) (by omega) (by omega)) (Or.inr rfl) hj (by decide) (by omega), ← mo_sa h (by omega) (by omega)]
  rfl
/-! the numbers of the model's row -/
def FR (f : Nat → Int32) (σ : stT) : Prop := (∀ i, i ≤ 12 → f i = nI (σ.1 i)) ∧ (∀ i w, i < σ.1 3 → w < 6 → f (13 + 6 * i + w) = σ.2 0 i w) ∧ (∀ i w, i < σ.1 12 → w < 2 → f (157 + 2 * i + w) = σ.2 1 i w) ∧ (∀ i w, i < σ.1 6 → w < 6 → f (189 + 6 * i + w) = σ.2 2 i w) ∧ (∀ i w, i < σ.1 4 → w < 3 → f (1149 + 3 * i + w) = σ.2 3 i w) ∧ (∀ i w, i < σ.1 5 → w < 12 → f (1173 + 12 * i + w) = σ.2 4 i w) ∧ (∀ i w, i < σ.1 9 → w < 4 → f (1269 + 4 * i + w) = σ.2 5 i w) ∧ (∀ i w, i < σ.1 10 → w < 3 → f (1293 + 3 * i + w) = σ.2 6 i w) ∧ (∀ i w, i < σ.1 11 → w < 3 → f (1311 + 3 * i + w) = σ.2 7 i w)
/-- what a call of the model leaves alone -/
def KM (v v' : Nat → Int32) (F F' : mrT) : Prop := (∀ i, (i = 2 ∨ i = 3 ∨ i = 4 ∨ i = 7 ∨ i = 11) → F' i = F i) ∧ ∀ k, k ≠ 4 → k ≠ 7 → v' k = v k
/-- sizes within which the model's rows lie -/
def SZ (σ : stT) : Prop := σ.1 3 ≤ 22 ∧ σ.1 12 ≤ 16 ∧ σ.1 6 ≤ 152 ∧ σ.1 4 ≤ 8 ∧ σ.1 5 ≤ 8 ∧ σ.1 9 ≤ 6 ∧ σ.1 10 ≤ 6 ∧ σ.1 11 ≤ 6
theorem KM.rf : KM v v F F := ⟨fun _ _ => rfl, fun _ _ _ => rfl⟩
theorem KM.tr {v'' : Nat → Int32} {F'' : mrT} (h : KM v v' F F') (h' : KM v' v'' F' F'') : KM v v'' F F'' := ⟨fun i hi => (h'.1 i hi).trans (h.1 i hi), fun k k4 k7 => (h'.2 k k4 k7).trans (h.2 k k4 k7)⟩
theorem KM.w {i j : Nat} {x : Int32} (h : i = 1 ∨ i = 5 ∨ i = 6 ∨ i = 8 ∨ i = 9 ∨ i = 10) : KM v v F (mup F i j x) := ⟨fun a ha => mup_n (by omega), fun _ _ _ => rfl⟩
theorem KM.p {k : Nat} {x : Int32} (h : k = 4 ∨ k = 7) : KM v (upd v k x) F F := ⟨fun _ _ => rfl, fun a h4 h7 => upd_n (by omega)⟩
end Mo
