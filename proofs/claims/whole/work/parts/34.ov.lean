/-! ===== regions written over; Watch, Lease, Steps, Transaction ===== -/
def ov (s : am_S) (lo n : Nat) (f : Nat → Option am_E) : am_S := (fun q => if lo ≤ q ∧ q < lo + n then f (q - lo) else s.1 q, s.2)
def OV (s : am_S) (lo n : Nat) (f : Nat → Option am_E) : Prop := ∀ i, i < n → s.1 (lo + i) = f i
section Ov
variable {s s' : am_S} {lo n i q : Nat} {f g : Nat → Option am_E} {e : am_E}
theorem ov_i (h : i < n) : (ov s lo n f).1 (lo + i) = f i := by
  unfold ov
  dsimp only
  rw [if_pos (by omega), show lo + i - lo = i by omega]
theorem ov_o (h : q < lo ∨ lo + n ≤ q) : (ov s lo n f).1 q = s.1 q := by
  unfold ov
  dsimp only
  rw [if_neg (by omega)]
theorem ov_idem : ov (ov s lo n f) lo n g = ov s lo n g := by
  unfold ov
  refine Prod.ext (funext fun q => ?_) rfl
  dsimp only
  split <;> rfl
theorem ov_cg (h : ∀ i, i < n → f i = g i) : ov s lo n f = ov s lo n g := by
  unfold ov
  refine Prod.ext (funext fun q => ?_) rfl
  dsimp only
  by_cases hq : lo ≤ q ∧ q < lo + n
  · rw [if_pos hq, if_pos hq, h _ (by omega)]
  · rw [if_neg hq, if_neg hq]
theorem ov_set (h : i < n) : am_set (ov s lo n f) (lo + i) e = ov s lo n (fun j => if j = i then some e else f j) := by
  unfold am_set ov
  refine Prod.ext (funext fun q => ?_) rfl
  dsimp only
  by_cases hq : q = lo + i
  · rw [if_pos hq, if_pos (by omega), if_pos (by omega)]
  · rw [if_neg hq]
    by_cases h2 : lo ≤ q ∧ q < lo + n
    · rw [if_pos h2, if_pos h2, if_neg (by omega)]
    · rw [if_neg h2, if_neg h2]
theorem OV.eq (h : OV s lo n f) : ov s lo n f = s := by
  unfold ov
  refine Prod.ext (funext fun q => ?_) rfl
  dsimp only
  by_cases hq : lo ≤ q ∧ q < lo + n
  · rw [if_pos hq, ← h _ (by omega), show lo + (q - lo) = q by omega]
  · rw [if_neg hq]
theorem OV.of : OV (ov s lo n f) lo n f := fun _ hi => ov_i hi
theorem OV.at (h : OV s lo n f) (hs : ∀ q, lo ≤ q → q < lo + n → s'.1 q = s.1 q) : OV s' lo n f := fun i hi => by rw [hs _ (by omega) (by omega)]; exact h i hi
theorem OV.set (h : OV s lo n f) (hi : i < n) : am_set s (lo + i) e = ov s lo n (fun j => if j = i then some e else f j) := by
  rw [← ov_set (s := s) hi, h.eq]
end Ov
/-- what a change left as it was -/
def so (s s' : am_S) (lo hi : Nat) : Prop := (∀ q, q < lo ∨ hi ≤ q → s'.1 q = s.1 q) ∧ s'.2 = s.2
theorem so_rfl {s : am_S} {lo hi : Nat} : so s s lo hi := ⟨fun _ _ => rfl, rfl⟩
theorem so_tr {s s' s'' : am_S} {lo hi : Nat} (h : so s s' lo hi) (h' : so s' s'' lo hi) : so s s'' lo hi := ⟨fun q hq => (h'.1 q hq).trans (h.1 q hq), h'.2.trans h.2⟩
theorem so_up {s s' : am_S} {lo hi lo' hi' : Nat} (h : so s s' lo hi) (h1 : lo' ≤ lo) (h2 : hi ≤ hi') : so s s' lo' hi' := ⟨fun q hq => h.1 q (by omega), h.2⟩
theorem so_ov {s : am_S} {lo n : Nat} {f : Nat → Option am_E} : so s (ov s lo n f) lo (lo + n) := ⟨fun _ hq => ov_o hq, rfl⟩
theorem so_rw {c N ce : Nat} {nm : String} {F : (Nat → Int32) → List Value} {s : am_S} {b n : Nat} {A : Nat → Nat} {C : Nat → Nat → Int32} : so s (rwS c nm N ce F s b n A C) b (b + 2 + N) := ⟨fun _ hq => rw_o hq, rfl⟩
/-! a watch: the object a, its last event a + 1 -/
def wf (k : Nat → Int32) (a : Nat) : List Value := [.int (k 0), .int (k 1), .int (k 2), .int (k 3), .int (k 4), .int (k 5), .ref (a + 1)]
def wF (a : Nat) (k l : Nat → Int32) : Nat → Option am_E := fun i => if i = 0 then some (.inr (9, wf k a)) else some (.inr (0, ef l))
abbrev wS (s : am_S) (a : Nat) (k l : Nat → Int32) : am_S := ov s a 2 (wF a k l)
abbrev W1 (s : am_S) (a : Nat) (k l : Nat → Int32) : Prop := OV s a 2 (wF a k l)
theorem W1.o {s : am_S} {a : Nat} {k l : Nat → Int32} (h : W1 s a k l) : s.1 a = some (.inr (9, wf k a)) := h 0 (by omega)
theorem W1.e {s : am_S} {a : Nat} {k l : Nat → Int32} (h : W1 s a k l) : s.1 (a + 1) = some (.inr (0, ef l)) := h 1 (by omega)
section W1s
variable {s : am_S} {B a : Nat} {k l r : Nat → Int32} {x : Int32} {M : am_M}
theorem w_cls (h : W1 s a k l) : am_cls s a = some 9 := cls_o h.o
theorem w_0 (h : W1 s a k l) : gI tb_ct s a 9 0 = some (k 0) := gI_o h.o rfl rfl rfl
theorem w_1 (h : W1 s a k l) : gI tb_ct s a 9 1 = some (k 1) := gI_o h.o rfl rfl rfl
theorem w_2 (h : W1 s a k l) : gI tb_ct s a 9 2 = some (k 2) := gI_o h.o rfl rfl rfl
theorem w_3 (h : W1 s a k l) : gI tb_ct s a 9 3 = some (k 3) := gI_o h.o rfl rfl rfl
theorem w_4 (h : W1 s a k l) : gI tb_ct s a 9 4 = some (k 4) := gI_o h.o rfl rfl rfl
theorem w_5 (h : W1 s a k l) : gI tb_ct s a 9 5 = some (k 5) := gI_o h.o rfl rfl rfl
theorem w_l (h : W1 s a k l) : gA tb_ct s a 9 6 = some (some (a + 1)) := gA_o h.o rfl rfl rfl
theorem w_lc (h : W1 s a k l) : am_cls s (a + 1) = some 0 := cls_o h.e
theorem w_st (h : W1 s a k l) {k' : Nat → Int32} : am_set s a (.inr (9, wf k' a)) = wS s a k' l := by
  rw [show a = a + 0 from rfl, h.set (show 0 < 2 by omega)]
  refine ov_cg fun i _ => ?_
  rcases i with _ | i
  · rfl
  · rfl
theorem w_p0 (h : W1 s a k l) (hB : B ≤ a) : am_put tb_ct M B s (.int x) a 9 0 = some (wS s a (upd k 0 x) l) := by
  rw [pF_o h.o (Nat.le_of_ble_eq_true rfl) rfl rfl hB (Or.inl rfl), ← w_st h]
  rfl
theorem w_p1 (h : W1 s a k l) (hB : B ≤ a) : am_put tb_ct M B s (.int x) a 9 1 = some (wS s a (upd k 1 x) l) := by
  rw [pF_o h.o (Nat.le_of_ble_eq_true rfl) rfl rfl hB (Or.inl rfl), ← w_st h]
  rfl
theorem w_p2 (h : W1 s a k l) (hB : B ≤ a) : am_put tb_ct M B s (.int x) a 9 2 = some (wS s a (upd k 2 x) l) := by
  rw [pF_o h.o (Nat.le_of_ble_eq_true rfl) rfl rfl hB (Or.inl rfl), ← w_st h]
  rfl
theorem w_p3 (h : W1 s a k l) (hB : B ≤ a) : am_put tb_ct M B s (.int x) a 9 3 = some (wS s a (upd k 3 x) l) := by
  rw [pF_o h.o (Nat.le_of_ble_eq_true rfl) rfl rfl hB (Or.inl rfl), ← w_st h]
  rfl
theorem w_p4 (h : W1 s a k l) (hB : B ≤ a) : am_put tb_ct M B s (.int x) a 9 4 = some (wS s a (upd k 4 x) l) := by
  rw [pF_o h.o (Nat.le_of_ble_eq_true rfl) rfl rfl hB (Or.inl rfl), ← w_st h]
  rfl
theorem w_p5 (h : W1 s a k l) (hB : B ≤ a) : am_put tb_ct M B s (.int x) a 9 5 = some (wS s a (upd k 5 x) l) := by
  rw [pF_o h.o (Nat.le_of_ble_eq_true rfl) rfl rfl hB (Or.inl rfl), ← w_st h]
  rfl
/-- its last event's numbers written -/
theorem w_se (h : W1 s a k l) {l' : Nat → Int32} : am_set s (a + 1) (.inr (0, ef l')) = wS s a k l' := by
  rw [h.set (show 1 < 2 by omega)]
  refine ov_cg fun i hi => ?_
  rcases i with _ | _ | i
  · rfl
  · rfl
  · omega
theorem w_q0 (h : W1 s a k l) (hB : B ≤ a) : am_put tb_ct M B s (.int x) (a + 1) 0 0 = some (wS s a k (upd l 0 x)) := by
  rw [pF_o h.e (Nat.le_of_ble_eq_true rfl) rfl rfl (by omega) (Or.inl rfl), ← w_se h]
  rfl
theorem w_q1 (h : W1 s a k l) (hB : B ≤ a) : am_put tb_ct M B s (.int x) (a + 1) 0 1 = some (wS s a k (upd l 1 x)) := by
  rw [pF_o h.e (Nat.le_of_ble_eq_true rfl) rfl rfl (by omega) (Or.inl rfl), ← w_se h]
  rfl
theorem w_q2 (h : W1 s a k l) (hB : B ≤ a) : am_put tb_ct M B s (.int x) (a + 1) 0 2 = some (wS s a k (upd l 2 x)) := by
  rw [pF_o h.e (Nat.le_of_ble_eq_true rfl) rfl rfl (by omega) (Or.inl rfl), ← w_se h]
  rfl
theorem w_q3 (h : W1 s a k l) (hB : B ≤ a) : am_put tb_ct M B s (.int x) (a + 1) 0 3 = some (wS s a k (upd l 3 x)) := by
  rw [pF_o h.e (Nat.le_of_ble_eq_true rfl) rfl rfl (by omega) (Or.inl rfl), ← w_se h]
  rfl
theorem w_q4 (h : W1 s a k l) (hB : B ≤ a) : am_put tb_ct M B s (.int x) (a + 1) 0 4 = some (wS s a k (upd l 4 x)) := by
  rw [pF_o h.e (Nat.le_of_ble_eq_true rfl) rfl rfl (by omega) (Or.inl rfl), ← w_se h]
  rfl
theorem w_q5 (h : W1 s a k l) (hB : B ≤ a) : am_put tb_ct M B s (.int x) (a + 1) 0 5 = some (wS s a k (upd l 5 x)) := by
  rw [pF_o h.e (Nat.le_of_ble_eq_true rfl) rfl rfl (by omega) (Or.inl rfl), ← w_se h]
  rfl
theorem w_q6 (h : W1 s a k l) (hB : B ≤ a) : am_put tb_ct M B s (.int x) (a + 1) 0 6 = some (wS s a k (upd l 6 x)) := by
  rw [pF_o h.e (Nat.le_of_ble_eq_true rfl) rfl rfl (by omega) (Or.inl rfl), ← w_se h]
  rfl
theorem ov_wk {k' l' : Nat → Int32} (h : wf k a = wf k' a) (h' : ef l = ef l') : wS s a k l = wS s a k' l' := by
  refine ov_cg fun i _ => ?_
  unfold wF
  rw [h, h']
/-- its last event becomes a copy of one that lies outside -/
theorem w_copyLast {c : Nat} (ho : c < a ∨ a + 2 ≤ c) (hs : s.1 c = some (.inr (0, ef r))) (hB : B ≤ a) : cl_ tb_ct tb_mt B K_X1_copyFrom [.ref (a + 1), .ref c] (wS s a k l) = some (.inl none, wS s a k r) := by
  have hr : ∀ l : Nat → Int32, (wS s a k l).1 c = some (.inr (0, ef r)) := fun l => by rw [ov_o (by omega)]; exact hs
  have h0 : ∀ l : Nat → Int32, gI tb_ct (wS s a k l) c 0 0 = some (r 0) := fun l => gI_o (hr l) rfl rfl rfl
  have h1 : ∀ l : Nat → Int32, gI tb_ct (wS s a k l) c 0 1 = some (r 1) := fun l => gI_o (hr l) rfl rfl rfl
  have h2 : ∀ l : Nat → Int32, gI tb_ct (wS s a k l) c 0 2 = some (r 2) := fun l => gI_o (hr l) rfl rfl rfl
  have h3 : ∀ l : Nat → Int32, gI tb_ct (wS s a k l) c 0 3 = some (r 3) := fun l => gI_o (hr l) rfl rfl rfl
  have h4 : ∀ l : Nat → Int32, gI tb_ct (wS s a k l) c 0 4 = some (r 4) := fun l => gI_o (hr l) rfl rfl rfl
  have h5 : ∀ l : Nat → Int32, gI tb_ct (wS s a k l) c 0 5 = some (r 5) := fun l => gI_o (hr l) rfl rfl rfl
  have h6 : ∀ l : Nat → Int32, gI tb_ct (wS s a k l) c 0 6 = some (r 6) := fun l => gI_o (hr l) rfl rfl rfl
  rw [in_X1_copyFrom, dc_X1_copyFrom_0]
  simp only [h0, h1, h2, h3, h4, h5, h6, eI_s, eS_s, w_q0 OV.of hB, w_q1 OV.of hB, w_q2 OV.of hB, w_q3 OV.of hB, w_q4 OV.of hB, w_q5 OV.of hB, w_q6 OV.of hB, ov_idem]
  exact congrArg (fun q => some (Sum.inl none, q)) (ov_wk rfl rfl)
theorem w_copyFrom {c : Nat} {k' l' : Nat → Int32} (h0 : W1 s a k l) (h : W1 s c k' l') (hd : c + 2 ≤ a ∨ a + 2 ≤ c) (hB : B ≤ a) : cl_ tb_ct tb_mt B K_X11_copyFrom [.ref a, .ref c] s = some (.inl none, wS s a k' l') := by
  have hr : ∀ k l : Nat → Int32, W1 (wS s a k l) c k' l' := fun k l => h.at fun q _ _ => ov_o (by omega)
  rw [← h0.eq, in_X11_copyFrom, dc_X11_copyFrom_0]
  simp only [w_0 (hr _ _), w_1 (hr _ _), w_2 (hr _ _), w_3 (hr _ _), w_4 (hr _ _), w_5 (hr _ _), w_l (hr _ _), w_l OV.of, w_lc OV.of, eI_s, eA_s, eC_s, eS_s, w_p0 OV.of hB, w_p1 OV.of hB, w_p2 OV.of hB, w_p3 OV.of hB, w_p4 OV.of hB, w_p5 OV.of hB, ov_idem]
  rw [w_copyLast (by omega) h.e hB]
  simp only [cV_s, ov_idem]
  exact congrArg (fun q => some (Sum.inl none, q)) (ov_wk rfl rfl)
theorem w_tell (h : W1 s a k l) (hB : B ≤ a) : cl_ tb_ct tb_mt B K_X11_tellMissed [.ref a] s = some (.inl (some (.int (k 5))), wS s a (upd k 5 0) l) := by
  rw [in_X11_tellMissed, dc_X11_tellMissed_0]
  simp only [w_5 h, eI_s, w_p5 h hB, eS_s]
theorem w_begin (h : W1 s a k l) (hB : B ≤ a) (x : Int32) : cl_ tb_ct tb_mt B K_X11_beginAt [.ref a, .int x] s = some (.inl none, wS s a (upd (upd k 3 x) 5 0) l) := by
  rw [in_X11_beginAt, dc_X11_beginAt_0]
  simp only [w_p3 h hB, eS_s, w_p5 OV.of hB, ov_idem]
/-- whether a watch sees an event -/
def seeB (k e : Nat → Int32) : Bool := !decide (e 2 < k 0) && (!decide (k 1 < e 2) && (decide (k 2 = 0) || decide (k 2 = e 1 + 1)))
theorem w_sees {c : Nat} {e : Nat → Int32} (h : W1 s a k l) (he : s.1 c = some (.inr (0, ef e))) : cl_ tb_ct tb_mt B K_X11_sees [.ref a, .ref c] s = some (.inl (some (.int (if seeB k e = true then 1 else 0))), s) := by
  have e1 : gI tb_ct s c 0 1 = some (e 1) := gI_o he rfl rfl rfl
  have e2 : gI tb_ct s c 0 2 = some (e 2) := gI_o he rfl rfl rfl
  rw [in_X11_sees, dc_X11_sees_0]
  simp only [w_0 h, w_1 h, w_2 h, e1, e2, eI_s, dc_X11_sees_42]
  unfold seeB
  by_cases h1 : e 2 < k 0
  · simp only [h1, if_true, decide_true, Bool.not_true, Bool.false_and, Bool.false_eq_true, if_false]
  · by_cases h2 : k 1 < e 2
    · simp only [h1, h2, if_true, if_false, decide_true, decide_false, Bool.not_true, Bool.not_false, Bool.false_and, Bool.true_and, Bool.false_eq_true]
    · by_cases h3 : k 2 = 0
      · simp only [h1, h2, h3, if_true, if_false, decide_true, decide_false, Bool.not_false, Bool.true_and, Bool.true_or]
      · by_cases h4 : k 2 = e 1 + 1
        · simp only [h1, h2, if_neg h3, if_pos h4, if_false, decide_false, decide_eq_true h4, Bool.not_false, Bool.true_and, Bool.or_true, if_true]
        · simp only [h1, h2, if_neg h3, if_neg h4, if_false, decide_false, decide_eq_false h4, decide_eq_false h3, Bool.not_false, Bool.true_and, Bool.or_false, Bool.false_eq_true]
end W1s
