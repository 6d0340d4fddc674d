/-! ===== WatchedKeys: its object, its checks; watches as the model has them ===== -/
def xf (x nb sb : Nat) : List Value := [.ref nb, .ref sb, .ref (x + 437), .ref (x + 438), .ref (x + 441), .ref (x + 443), .ref (x + 467), .ref (x + 491)]
def XO (s : am_S) (x nb sb : Nat) : Prop := s.1 x = some (.inr (10, xf x nb sb))
def bIn (x lo hi : Int32) : Bool := !decide (x < lo) && !decide (hi < x)
def bKey (k : Int32) : Bool := bIn k 0 999
def bRange (f t : Int32) : Bool := bKey t && bIn f 0 t
def bNN (x : Int32) : Bool := !decide (x < 0)
def bVal (x : Int32) : Bool := bIn x (-1000000) 1000000
def bTck (x : Int32) : Bool := bIn x 1 1000
def bStep (k key v : Int32) : Bool := (decide (k = 0) || decide (k = 1)) && bKey key && (decide (k = 1) || bVal v)
section Xo
variable {s : am_S} {B x nb sb : Nat} {k f t v y : Int32} {σ : stT}
theorem xo_cls (h : XO s x nb sb) : am_cls s x = some 10 := cls_o h
theorem xo_0 (h : XO s x nb sb) : gA tb_ct s x 10 0 = some (some nb) := gA_o h rfl rfl rfl
theorem xo_1 (h : XO s x nb sb) : gA tb_ct s x 10 1 = some (some sb) := gA_o h rfl rfl rfl
theorem xo_2 (h : XO s x nb sb) : gA tb_ct s x 10 2 = some (some (x + 437)) := gA_o h rfl rfl rfl
theorem xo_3 (h : XO s x nb sb) : gA tb_ct s x 10 3 = some (some (x + 438)) := gA_o h rfl rfl rfl
theorem xo_4 (h : XO s x nb sb) : gA tb_ct s x 10 4 = some (some (x + 441)) := gA_o h rfl rfl rfl
theorem xo_5 (h : XO s x nb sb) : gA tb_ct s x 10 5 = some (some (x + 443)) := gA_o h rfl rfl rfl
theorem xo_6 (h : XO s x nb sb) : gA tb_ct s x 10 6 = some (some (x + 467)) := gA_o h rfl rfl rfl
theorem xo_7 (h : XO s x nb sb) : gA tb_ct s x 10 7 = some (some (x + 491)) := gA_o h rfl rfl rfl
theorem c_need1 : cl_ tb_ct tb_mt B K_X12_need [.int 1] s = some (.inl none, s) := by
  rw [in_X12_need, dc_X12_need_0, if_neg (by decide)]
theorem c_need0 : cl_ tb_ct tb_mt B K_X12_need [.int 0] s = some (.inr 0, am_bump s) := by
  rw [in_X12_need, dc_X12_need_0, if_pos rfl]
  rfl
theorem c_needKey : cl_ tb_ct tb_mt B K_X12_needKey [.int k] s = if bKey k = true then some (.inl none, s) else some (.inr 0, am_bump s) := by
  rw [in_X12_needKey, dc_X12_needKey_0]
  unfold bKey bIn
  by_cases h1 : k < 0
  · rw [if_pos h1, dc_X12_needKey_15, dc_X12_needKey_16, c_need0, decide_eq_true h1]
    rfl
  · by_cases h2 : (999 : Int32) < k
    · rw [if_neg h1, if_pos h2, dc_X12_needKey_15, dc_X12_needKey_16, c_need0, decide_eq_true h2, decide_eq_false h1]
      rfl
    · rw [if_neg h1, if_neg h2, dc_X12_needKey_16, c_need1, decide_eq_false h1, decide_eq_false h2]
      rfl
theorem c_needRange : cl_ tb_ct tb_mt B K_X12_needRange [.int f, .int t] s = if bRange f t = true then some (.inl none, s) else some (.inr 0, am_bump s) := by
  have e24 : rn_ tb_ct tb_mt B mm_X12_needRange 24 [.int f, .int t] [] s = some (.inr 0, am_bump s) := by
    rw [dc_X12_needRange_24, dc_X12_needRange_25, c_need0]
    rfl
  rw [in_X12_needRange, dc_X12_needRange_0, e24]
  unfold bRange bKey bIn
  by_cases h1 : t < 0
  · rw [if_pos h1, decide_eq_true h1]
    rfl
  · by_cases h2 : (999 : Int32) < t
    · rw [if_neg h1, if_pos h2, decide_eq_true h2, decide_eq_false h1]
      rfl
    · by_cases h3 : f < 0
      · rw [if_neg h1, if_neg h2, if_pos h3, decide_eq_false h1, decide_eq_false h2, decide_eq_true h3]
        rfl
      · by_cases h4 : t < f
        · rw [if_neg h1, if_neg h2, if_neg h3, if_pos h4, decide_eq_false h1, decide_eq_false h2, decide_eq_false h3, decide_eq_true h4]
          rfl
        · rw [if_neg h1, if_neg h2, if_neg h3, if_neg h4, decide_eq_false h1, decide_eq_false h2, decide_eq_false h3, decide_eq_false h4, dc_X12_needRange_25, c_need1]
          rfl
theorem c_isValue : cl_ tb_ct tb_mt B K_X12_isValue [.int v] s = some (.inl (some (.int (if bVal v = true then 1 else 0))), s) := by
  rw [in_X12_isValue, dc_X12_isValue_0]
  unfold bVal bIn
  by_cases h1 : v < -1000000
  · rw [if_pos h1, decide_eq_true h1]
    rfl
  · by_cases h2 : (1000000 : Int32) < v
    · rw [if_neg h1, if_pos h2, decide_eq_true h2, decide_eq_false h1]
      rfl
    · rw [if_neg h1, if_neg h2, decide_eq_false h1, decide_eq_false h2]
      rfl
theorem c_isTicks : cl_ tb_ct tb_mt B K_X12_isTicks [.int v] s = some (.inl (some (.int (if bTck v = true then 1 else 0))), s) := by
  rw [in_X12_isTicks, dc_X12_isTicks_0]
  unfold bTck bIn
  by_cases h1 : v < 1
  · rw [if_pos h1, decide_eq_true h1]
    rfl
  · by_cases h2 : (1000 : Int32) < v
    · rw [if_neg h1, if_pos h2, decide_eq_true h2, decide_eq_false h1]
      rfl
    · rw [if_neg h1, if_neg h2, decide_eq_false h1, decide_eq_false h2]
      rfl
theorem c_needB {b : Bool} : cl_ tb_ct tb_mt B K_X12_need [.int (if b = true then 1 else 0)] s = if b = true then some (.inl none, s) else some (.inr 0, am_bump s) := by
  cases b
  · exact c_need0
  · exact c_need1
theorem c_needStep : cl_ tb_ct tb_mt B K_X12_needStep [.int k, .int f, .int v] s = if bStep k f v = true then some (.inl none, s) else some (.inr 0, am_bump s) := by
  have e14 : rn_ tb_ct tb_mt B mm_X12_needStep 14 [.int k, .int f, .int v] [.int 1] s = if (bKey f && (decide (k = 1) || bVal v)) = true then some (.inl none, s) else some (.inr 0, am_bump s) := by
    rw [dc_X12_needStep_14, c_need1]
    simp only [cV_s, c_needKey]
    cases hk : bKey f with
    | false =>
      simp only [Bool.false_and, Bool.false_eq_true, if_false]
      rfl
    | true =>
      simp only [if_true, cV_s, Bool.true_and]
      by_cases h1 : k = 1
      · rw [if_pos h1, decide_eq_true h1, dc_X12_needStep_33, dc_X12_needStep_38, c_need1]
        rfl
      · rw [if_neg h1, decide_eq_false h1, c_isValue]
        simp only [cI_s, Bool.false_or]
        cases hv : bVal v with
        | false =>
          simp only [Bool.false_eq_true, if_false, if_true]
          rw [dc_X12_needStep_38, c_need0]
          rfl
        | true =>
          simp only [if_true, if_neg (show ¬ (1 : Int32) = 0 by decide)]
          rw [dc_X12_needStep_33, dc_X12_needStep_38, c_need1]
          rfl
  rw [in_X12_needStep, dc_X12_needStep_0]
  unfold bStep
  by_cases h0 : k = 0
  · rw [if_pos h0, dc_X12_needStep_9, e14, decide_eq_true h0]
    simp only [Bool.true_or, Bool.true_and]
  · by_cases h1 : k = 1
    · rw [if_neg h0, if_pos h1, dc_X12_needStep_9, e14, decide_eq_true h1, Bool.or_true]
      simp only [Bool.true_and]
    · rw [if_neg h0, if_neg h1, dc_X12_needStep_14, c_need0, decide_eq_false h0, decide_eq_false h1]
      simp only [Bool.or_false, Bool.false_and, Bool.false_eq_true, if_false]
      rfl
end Xo
/-! watches -/
def p_sw (σ : stT) (i : Nat) : Nat → Bool := fun j => sW (σ.1 7) (σ.2 4 i) (σ.2 2 j) j
def p_wt (σ : stT) (i : Nat) : Nat := cn (p_sw σ i) 0 (σ.1 6)
def p_ff (σ : stT) (i : Nat) : Nat := fi (p_sw σ i) 0 (σ.1 6)
def p_ear (σ : stT) (i : Nat) : Int32 := if p_ff σ i < σ.1 6 then σ.2 2 (p_ff σ i) 0 else -1
def tkW (lost q : Nat) (e w : Nat → Int32) : Nat → Int32 := fun v => if v = 3 then nI (lost + q + 1) else if v = 5 then w 5 + 1 else if 6 ≤ v ∧ v < 12 then e (v - 6) else w v
def upW (σ : stT) (i : Nat) (w : Nat → Int32) : stT := (σ.1, va_up σ.2 4 (va_up (σ.2 4) i w))
def p_take (σ : stT) (i : Nat) : Int32 × stT := if 0 < σ.2 4 i 4 then (-5, σ) else if p_ff σ i < σ.1 6 then (σ.2 2 (p_ff σ i) 0, upW σ i (tkW (σ.1 7) (p_ff σ i) (σ.2 2 (p_ff σ i)) (σ.2 4 i))) else (-1, σ)
def q_wv (σ : stT) (i : Nat) (what : Int32) : Int32 :=
  if what = 0 then σ.2 4 i 0 else if what = 1 then σ.2 4 i 1 else if what = 2 then σ.2 4 i 2 else if what = 3 then nI (p_wt σ i) else if what = 4 then σ.2 4 i 5
  else if what = 5 then (if 0 < σ.2 4 i 4 then 2 else if p_ff σ i < σ.1 6 then 1 else 0) else σ.2 4 i 4
section Wa
variable {s : am_S} {B b r i a : Nat} {σ : stT} {k l : Nat → Int32}
theorem wl_eq {x : Nat} (hw : WL (σ.1 7) (σ.1 7 + σ.1 6) k l (σ.2 4 i)) (ht : σ.1 7 + σ.1 6 < 2 ^ 31) : ∃ nx, k 3 = nI nx ∧ nx ≤ σ.1 6 ∧ cn (fun j => seeB k (σ.2 2 j)) nx (σ.1 6 - nx) = p_wt σ i ∧ fi (fun j => seeB k (σ.2 2 j)) nx (σ.1 6 - nx) = p_ff σ i := by
  obtain ⟨y0, y1, y2, ⟨y, ya, yb, yc⟩, y4, y5, y6⟩ := hw
  have e : ∀ j, j < σ.1 6 → p_sw σ i j = (decide (y - σ.1 7 ≤ j) && seeB k (σ.2 2 j)) := fun j hj => by
    unfold p_sw
    rw [sW_eq ya (by omega) (by omega), seeB_cg (k := k) (k' := σ.2 4 i) y0 y1 y2 rfl rfl]
  refine ⟨y - σ.1 7, yc, by omega, ?_, ?_⟩
  · unfold p_wt
    rw [← cn_from]
    exact (cn_cg _ _ fun j _ hj => e j (by omega)).symm
  · unfold p_ff
    rw [← fi_from (by omega)]
    exact (fi_cg _ _ fun j _ hj => e j (by omega)).symm
/-- all that is asked of a watch -/
theorem st_wat (h : SR s b r σ.1 σ.2) (ht : σ.1 7 + σ.1 6 < 2 ^ 31) (hi : i < σ.1 5) (hB : B ≤ b) : ∃ a, cl_ tb_ct tb_mt B K_X8_watchAt [.ref b, .int (nI i)] s = some (.inl (some (.ref a)), s) ∧ am_cls s a = some 9 ∧ cl_ tb_ct tb_mt B K_X11_waiting [.ref a, .ref (b + 25)] s = some (.inl (some (.int (nI (p_wt σ i)))), s) ∧ cl_ tb_ct tb_mt B K_X11_earliest [.ref a, .ref (b + 25)] s = some (.inl (some (.int (p_ear σ i))), s) ∧ (∀ w : Nat, w < 7 → cl_ tb_ct tb_mt B K_X11_number [.ref a, .int (nI w), .ref (b + 25)] s = some (.inl (some (.int (q_wv σ i (nI w)))), s)) ∧ (∃ s', cl_ tb_ct tb_mt B K_X11_takeFirst [.ref a, .ref (b + 25)] s = some (.inl (some (.int (p_take σ i).1)), s') ∧ so s s' b (b + 218) ∧ SR s' b r (p_take σ i).2.1 (p_take σ i).2.2) ∧ (∃ s', cl_ tb_ct tb_mt B K_X11_tellMissed [.ref a] s = some (.inl (some (.int (σ.2 4 i 4))), s') ∧ so s s' b (b + 218) ∧ SR s' b r (upW σ i (upd (σ.2 4 i) 4 0)).1 (upW σ i (upd (σ.2 4 i) 4 0)).2) ∧ (∀ y : Nat, y ≤ σ.1 6 → ∃ s', cl_ tb_ct tb_mt B K_X11_beginAt [.ref a, .int (nI y)] s = some (.inl none, s') ∧ so s s' b (b + 218) ∧ SR s' b r (upW σ i (upd (upd (σ.2 4 i) 4 0) 3 (nI (σ.1 7 + y)))).1 (upW σ i (upd (upd (σ.2 4 i) 4 0) 3 (nI (σ.1 7 + y)))).2 ∧ am_cls s' a = some 9 ∧ cl_ tb_ct tb_mt B K_X11_waiting [.ref a, .ref (b + 25)] s' = some (.inl (some (.int (nI (p_wt (upW σ i (upd (upd (σ.2 4 i) 4 0) 3 (nI (σ.1 7 + y)))) i)))), s')) ∧ gI tb_ct s a 9 4 = some (σ.2 4 i 5) ∧ (∃ c, gA tb_ct s a 9 6 = some (some c) ∧ am_cls s c = some 0 ∧ (σ.2 4 i 5 ≠ 0 → ∀ w : Nat, w < 6 → cl_ tb_ct tb_mt B K_X1_number [.ref c, .int (nI w)] s = some (.inl (some (.int (σ.2 4 i (6 + w)))), s))) := by
  obtain ⟨a, k, l, e1, w1, wl, l1, l2, hs⟩ := st_watchAt (B := B) h hi
  have lb : b ≤ a := Nat.le_trans (Nat.le_add_right _ _) l1
  have la : a + 2 ≤ b + 218 := Nat.le_trans l2 (by omega)
  obtain ⟨nx, q1, q2, q3, q4⟩ := wl_eq (x := 0) wl ht
  have hE := h.ew
  obtain ⟨y0, y1, y2, ⟨y, ya, yb, yc⟩, y4, y5, y6⟩ := id wl
  have a1 := ww_waiting (B := B) w1 hE q1 q2
  rw [q3] at a1
  have a2 := ww_earliest (B := B) w1 hE q1 q2
  rw [q4] at a2
  have five : (if k 5 ≤ 0 then (if p_ff σ i < σ.1 6 then (1 : Int32) else 0) else 2) = if 0 < σ.2 4 i 4 then 2 else if p_ff σ i < σ.1 6 then 1 else 0 := by
    rw [y5]
    by_cases hc : 0 < σ.2 4 i 4
    · rw [if_pos hc, if_neg (Int32.not_le.mpr hc)]
    · rw [if_neg hc, if_pos (Int32.not_lt.mp hc)]
  refine ⟨a, e1, w_cls w1, a1, a2, fun w hw => ?_, ?_, ?_, fun z hz => ?_, ?_, a + 1, w_l w1, w_lc w1, fun h0 w hw => ?_⟩
  · match w with
    | 0 => rw [show nI 0 = (0 : Int32) from rfl, w_num_0 w1, y0]; rfl
    | 1 => rw [show nI 1 = (1 : Int32) from rfl, w_num_1 w1, y1]; rfl
    | 2 => rw [show nI 2 = (2 : Int32) from rfl, w_num_2 w1, y2]; rfl
    | 3 => rw [show nI 3 = (3 : Int32) from rfl, ww_num_3 w1 hE q1 q2, q3]; rfl
    | 4 => rw [show nI 4 = (4 : Int32) from rfl, w_num_4 w1, y4]; rfl
    | 5 => rw [show nI 5 = (5 : Int32) from rfl, ww_num_5 w1 hE q1 q2, q4, five]; rfl
    | 6 => rw [show nI 6 = (6 : Int32) from rfl, w_num_6 w1, y5]; rfl
    | w + 7 => omega
  · unfold p_take
    by_cases hm : 0 < σ.2 4 i 4
    · rw [if_pos hm]
      exact ⟨s, w_take_no w1 (by rw [y5]; exact Int32.not_le.mpr hm), so_rfl, h⟩
    · rw [if_neg hm]
      have h5 : k 5 ≤ 0 := by rw [y5]; exact Int32.not_lt.mp hm
      by_cases hf : p_ff σ i < σ.1 6
      · rw [if_pos hf]
        obtain ⟨l', hl', e2⟩ := ww_take (B := B) w1 hE q1 q2 h5 (by omega) (by omega) q4 hf
        refine ⟨_, e2, so_up so_ov lb la, hs _ _ _ ⟨y0, y1, y2, ⟨σ.1 7 + p_ff σ i + 1, rfl, by omega, ?_⟩, ?_, y5, fun _ v hv => ?_⟩⟩
        · change nI (p_ff σ i + 1) = _
          rw [show σ.1 7 + p_ff σ i + 1 - σ.1 7 = p_ff σ i + 1 by omega]
        · change k 4 + 1 = σ.2 4 i 5 + 1
          rw [y4]
        · rw [hl' v (by omega)]
          unfold tkW
          rw [if_neg (by omega), if_neg (by omega), if_pos (by omega), Nat.add_sub_cancel_left]
      · rw [if_neg hf]
        exact ⟨s, ww_take_none w1 hE q1 q2 h5 (by rw [q4]; exact hf), so_rfl, h⟩
  · have e2 := w_tell w1 (show B ≤ a by omega)
    rw [y5] at e2
    exact ⟨_, e2, so_up so_ov lb la, hs _ _ _ ⟨y0, y1, y2, ⟨y, ya, yb, yc⟩, y4, rfl, fun h0 v hv => (y6 h0 v hv).trans (if_neg (show ¬ 6 + v = 4 by omega)).symm⟩⟩
  · have e2 := w_begin w1 (show B ≤ a by omega) (nI z)
    have wl2 : WL (σ.1 7) (σ.1 7 + σ.1 6) (upd (upd k 3 (nI z)) 5 0) l (upd (upd (σ.2 4 i) 4 0) 3 (nI (σ.1 7 + z))) := ⟨y0, y1, y2, ⟨σ.1 7 + z, rfl, by omega, by rw [Nat.add_sub_cancel_left]; rfl⟩, y4, rfl, fun h0 v hv => (y6 h0 v hv).trans ((if_neg (show ¬ 6 + v = 3 by omega)).trans (if_neg (show ¬ 6 + v = 4 by omega))).symm⟩
    have h2 := hs (upd (upd k 3 (nI z)) 5 0) l _ wl2
    have w2 : W1 (wS s a (upd (upd k 3 (nI z)) 5 0) l) a (upd (upd k 3 (nI z)) 5 0) l := OV.of
    refine ⟨_, e2, so_up so_ov lb la, h2, w_cls w2, ?_⟩
    have wl3 : WL ((upW σ i (upd (upd (σ.2 4 i) 4 0) 3 (nI (σ.1 7 + z)))).1 7) ((upW σ i (upd (upd (σ.2 4 i) 4 0) 3 (nI (σ.1 7 + z)))).1 7 + (upW σ i (upd (upd (σ.2 4 i) 4 0) 3 (nI (σ.1 7 + z)))).1 6) (upd (upd k 3 (nI z)) 5 0) l ((upW σ i (upd (upd (σ.2 4 i) 4 0) 3 (nI (σ.1 7 + z)))).2 4 i) := by
      change WL (σ.1 7) (σ.1 7 + σ.1 6) _ l (va_up (σ.2 4) i _ i)
      rw [va_us]
      exact wl2
    obtain ⟨nx', r1, r2, r3, r4⟩ := wl_eq (x := 0) (σ := upW σ i (upd (upd (σ.2 4 i) 4 0) 3 (nI (σ.1 7 + z)))) wl3 ht
    have a3 := ww_waiting (B := B) w2 h2.ew r1 r2
    rw [← r3]
    exact a3
  · rw [w_4 w1, y4]
  · have := e_number (B := B) w1.e hw
    rw [this, y6 h0 w hw]
theorem st_wat_no (h : SR s b r σ.1 σ.2) {x : Int32} (hx : x < 0 ∨ nI (σ.1 5) ≤ x) : cl_ tb_ct tb_mt B K_X8_watchAt [.ref b, .int x] s = some (.inl (some .null), s) := st_watchAt_no h hx
end Wa
