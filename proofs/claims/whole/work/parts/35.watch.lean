/-! ===== Watch's methods over an EventRow ===== -/
section Wt
variable {s : am_S} {B a b n nx : Nat} {k l : Nat → Int32} {A : Nat → Nat} {C : Nat → Nat → Int32}
theorem w_waiting_lp (h : W1 s a k l) (hE : ER s b n A C) (hA : okA 152 A) (hn : n ≤ 152) : ∀ j i m, i + j = n → rn_ tb_ct tb_mt B mm_X11_waiting 7 [.ref a, .ref b, .int (nI m), .int (nI i), am_un] [] s = some (.inl (some (.int (nI (m + cn (fun i => seeB k (C (A i))) i j)))), s) := by
  intro j
  induction j with
  | zero =>
    intro i m hi
    rw [dc_X11_waiting_7]
    simp only [er_n hE, eI_s, if_pos (nI_le (show n ≤ i by omega) (by omega)), cn, Nat.add_zero]
  | succ j ih =>
    intro i m hi
    have hAi := hA.1 i (by omega)
    rw [dc_X11_waiting_7]
    simp only [er_n hE, eI_s, if_neg (nI_ge (show i < n by omega) (by omega)), er_cls hE, w_cls h, eC_s, er_at_in hE hn (show i < n by omega), cA_s, w_sees h (hE.ek hAi), cI_s]
    unfold cn
    cases hs : seeB k (C (A i)) with
    | true =>
      simp only [if_true, if_neg (show ¬ ((1 : Int32) = 0) by decide)]
      rw [dc_X11_waiting_39, nI_1, nI_1, ih (i + 1) (m + 1) (by omega)]
      simp only [Nat.add_assoc]
    | false =>
      simp only [Bool.false_eq_true, if_false, if_true, Nat.zero_add]
      rw [dc_X11_waiting_39, nI_1, ih (i + 1) m (by omega)]
theorem w_waiting (h : W1 s a k l) (hE : ER s b n A C) (hA : okA 152 A) (hn : n ≤ 152) (hk : k 3 = nI nx) (hx : nx ≤ n) : cl_ tb_ct tb_mt B K_X11_waiting [.ref a, .ref b] s = some (.inl (some (.int (nI (cn (fun i => seeB k (C (A i))) nx (n - nx))))), s) := by
  rw [in_X11_waiting, dc_X11_waiting_0]
  simp only [w_3 h, hk, eI_s]
  rw [← nI_0, w_waiting_lp h hE hA hn (n - nx) nx 0 (by omega), Nat.zero_add]
/-- the first that waits, -1 for none -/
def fwI (p : Nat → Bool) (nx n : Nat) : Int32 := if fi p nx (n - nx) < n then nI (fi p nx (n - nx)) else -1
theorem w_first_lp (h : W1 s a k l) (hE : ER s b n A C) (hA : okA 152 A) (hn : n ≤ 152) : ∀ j i, i + j = n → rn_ tb_ct tb_mt B mm_X11_firstWaiting 5 [.ref a, .ref b, .int (nI i), am_un] [] s = some (.inl (some (.int (if fi (fun i => seeB k (C (A i))) i j < n then nI (fi (fun i => seeB k (C (A i))) i j) else -1))), s) := by
  intro j
  induction j with
  | zero =>
    intro i hi
    rw [dc_X11_firstWaiting_5]
    simp only [er_n hE, eI_s, if_pos (nI_le (show n ≤ i by omega) (by omega))]
    rw [fi_0]
    rw [if_neg (show ¬ i < n by omega)]
  | succ j ih =>
    intro i hi
    have hAi := hA.1 i (by omega)
    rw [dc_X11_firstWaiting_5]
    simp only [er_n hE, eI_s, if_neg (nI_ge (show i < n by omega) (by omega)), er_cls hE, w_cls h, eC_s, er_at_in hE hn (show i < n by omega), cA_s, w_sees h (hE.ek hAi), cI_s]
    rw [fi_s]
    cases hs : seeB k (C (A i)) with
    | true => simp only [if_true, if_neg (show ¬ ((1 : Int32) = 0) by decide), if_pos (show i < n by omega)]
    | false =>
      simp only [Bool.false_eq_true, if_false, if_true]
      rw [dc_X11_firstWaiting_33, nI_1, ih (i + 1) (by omega)]
theorem w_first (h : W1 s a k l) (hE : ER s b n A C) (hA : okA 152 A) (hn : n ≤ 152) (hk : k 3 = nI nx) (hx : nx ≤ n) : cl_ tb_ct tb_mt B K_X11_firstWaiting [.ref a, .ref b] s = some (.inl (some (.int (fwI (fun i => seeB k (C (A i))) nx n))), s) := by
  rw [in_X11_firstWaiting, dc_X11_firstWaiting_0]
  simp only [w_3 h, hk, eI_s]
  rw [w_first_lp h hE hA hn (n - nx) nx (by omega)]
  rfl
theorem w_earliest (h : W1 s a k l) (hE : ER s b n A C) (hA : okA 152 A) (hn : n ≤ 152) (hk : k 3 = nI nx) (hx : nx ≤ n) : cl_ tb_ct tb_mt B K_X11_earliest [.ref a, .ref b] s = some (.inl (some (.int (if fi (fun i => seeB k (C (A i))) nx (n - nx) < n then C (A (fi (fun i => seeB k (C (A i))) nx (n - nx))) 0 else -1))), s) := by
  rw [in_X11_earliest, dc_X11_earliest_0]
  simp only [w_cls h, eC_s, w_first h hE hA hn hk hx, cI_s, er_cls hE]
  unfold fwI
  by_cases hf : fi (fun i => seeB k (C (A i))) nx (n - nx) < n
  · simp only [if_pos hf, er_at_in hE hn hf, cA_s, er_0 hE (hA.1 _ (Nat.lt_of_lt_of_le hf hn)), eI_s]
  · simp only [if_neg hf, er_at_out hE (x := -1) (Or.inl (by decide)), cA_n]
theorem w_state (h : W1 s a k l) (hE : ER s b n A C) (hA : okA 152 A) (hn : n ≤ 152) (hk : k 3 = nI nx) (hx : nx ≤ n) : cl_ tb_ct tb_mt B K_X11_state [.ref a, .ref b] s = some (.inl (some (.int (if k 5 ≤ 0 then (if fi (fun i => seeB k (C (A i))) nx (n - nx) < n then 1 else 0) else 2))), s) := by
  rw [in_X11_state, dc_X11_state_0]
  simp only [w_5 h, eI_s]
  by_cases h5 : k 5 ≤ 0
  · simp only [if_pos h5, w_cls h, eC_s, w_first h hE hA hn hk hx, cI_s]
    unfold fwI
    by_cases hf : fi (fun i => seeB k (C (A i))) nx (n - nx) < n
    · simp only [if_pos hf]
      rw [if_neg]
      intro e
      exact absurd (e ▸ nI_pos (show fi (fun i => seeB k (C (A i))) nx (n - nx) < 2 ^ 31 by omega)) (by decide)
    · simp only [if_neg hf, if_true]
  · simp only [if_neg h5]
theorem w_take_no (h : W1 s a k l) (h5 : ¬ k 5 ≤ 0) : cl_ tb_ct tb_mt B K_X11_takeFirst [.ref a, .ref b] s = some (.inl (some (.int (-5))), s) := by
  rw [in_X11_takeFirst, dc_X11_takeFirst_0]
  simp only [w_5 h, eI_s, if_neg h5]
theorem w_take_none (h : W1 s a k l) (hE : ER s b n A C) (hA : okA 152 A) (hn : n ≤ 152) (hk : k 3 = nI nx) (hx : nx ≤ n) (h5 : k 5 ≤ 0) (hf : ¬ fi (fun i => seeB k (C (A i))) nx (n - nx) < n) : cl_ tb_ct tb_mt B K_X11_takeFirst [.ref a, .ref b] s = some (.inl (some (.int (-1))), s) := by
  rw [in_X11_takeFirst, dc_X11_takeFirst_0]
  have e : fwI (fun i => seeB k (C (A i))) nx n = -1 := if_neg hf
  simp only [w_5 h, eI_s, if_pos h5, w_cls h, eC_s, w_first h hE hA hn hk hx, cI_s, er_cls hE, e, er_at_out hE (x := -1) (Or.inl (by decide)), cA_n]
theorem w_take (h : W1 s a k l) (hE : ER s b n A C) (hA : okA 152 A) (hn : n ≤ 152) (hk : k 3 = nI nx) (hx : nx ≤ n) (h5 : k 5 ≤ 0) (hd : b + 154 ≤ a ∨ a + 2 ≤ b) (hB : B ≤ a) {q : Nat} (hq : fi (fun i => seeB k (C (A i))) nx (n - nx) = q) (hf : q < n) : cl_ tb_ct tb_mt B K_X11_takeFirst [.ref a, .ref b] s = some (.inl (some (.int (C (A q) 0))), wS s a (upd (upd k 3 (nI (q + 1))) 4 (k 4 + 1)) (C (A q))) := by
  have hAq := hA.1 q (by omega)
  have e : fwI (fun i => seeB k (C (A i))) nx n = nI q := by
    unfold fwI
    rw [hq, if_pos hf]
  have hc := hE.ek hAq
  have hc2 : ∀ k l, (wS s a k l).1 (b + 2 + A q) = some (.inr (0, ef (C (A q)))) := fun k l => by rw [ov_o (by omega)]; exact hc
  have hc3 : ∀ k l, gI tb_ct (wS s a k l) (b + 2 + A q) 0 0 = some (C (A q) 0) := fun k l => gI_o (hc2 k l) rfl rfl rfl
  have hcp := w_copyLast (s := s) (B := B) (a := a) (k := k) (l := l) (r := C (A q)) (c := b + 2 + A q) (by omega) hc hB
  rw [show wS s a k l = s from h.eq] at hcp
  rw [in_X11_takeFirst, dc_X11_takeFirst_0]
  simp only [w_5 h, eI_s, if_pos h5, w_cls h, eC_s, w_first h hE hA hn hk hx, cI_s, er_cls hE, e, er_at_in hE hn hf, cA_s, w_l h, eA_s, w_lc h, hcp, cV_s, nI_1, w_p3 OV.of hB, eS_s, w_4 OV.of, w_p4 OV.of hB, ov_idem, hc3]
  rfl
theorem w_num_0 (h : W1 s a k l) : cl_ tb_ct tb_mt B K_X11_number [.ref a, .int 0, .ref b] s = some (.inl (some (.int (k 0))), s) := by
  rw [in_X11_number, dc_X11_number_0]
  simp only [w_0 h, eI_s]
  rfl
theorem w_num_1 (h : W1 s a k l) : cl_ tb_ct tb_mt B K_X11_number [.ref a, .int 1, .ref b] s = some (.inl (some (.int (k 1))), s) := by
  rw [in_X11_number, dc_X11_number_0]
  simp only [w_1 h, eI_s]
  rfl
theorem w_num_2 (h : W1 s a k l) : cl_ tb_ct tb_mt B K_X11_number [.ref a, .int 2, .ref b] s = some (.inl (some (.int (k 2))), s) := by
  rw [in_X11_number, dc_X11_number_0]
  simp only [w_2 h, eI_s]
  rfl
theorem w_num_3 (h : W1 s a k l) (hE : ER s b n A C) (hA : okA 152 A) (hn : n ≤ 152) (hk : k 3 = nI nx) (hx : nx ≤ n) : cl_ tb_ct tb_mt B K_X11_number [.ref a, .int 3, .ref b] s = some (.inl (some (.int (nI (cn (fun i => seeB k (C (A i))) nx (n - nx))))), s) := by
  rw [in_X11_number, dc_X11_number_0]
  simp only [w_cls h, eC_s, w_waiting h hE hA hn hk hx, cI_s]
  rfl
theorem w_num_4 (h : W1 s a k l) : cl_ tb_ct tb_mt B K_X11_number [.ref a, .int 4, .ref b] s = some (.inl (some (.int (k 4))), s) := by
  rw [in_X11_number, dc_X11_number_0]
  simp only [w_4 h, eI_s]
  rfl
theorem w_num_5 (h : W1 s a k l) (hE : ER s b n A C) (hA : okA 152 A) (hn : n ≤ 152) (hk : k 3 = nI nx) (hx : nx ≤ n) : cl_ tb_ct tb_mt B K_X11_number [.ref a, .int 5, .ref b] s = some (.inl (some (.int (if k 5 ≤ 0 then (if fi (fun i => seeB k (C (A i))) nx (n - nx) < n then 1 else 0) else 2))), s) := by
  rw [in_X11_number, dc_X11_number_0]
  simp only [w_cls h, eC_s, w_state h hE hA hn hk hx, cI_s]
  rfl
theorem w_num_6 (h : W1 s a k l) : cl_ tb_ct tb_mt B K_X11_number [.ref a, .int 6, .ref b] s = some (.inl (some (.int (k 5))), s) := by
  rw [in_X11_number, dc_X11_number_0]
  simp only [w_5 h, eI_s]
  rfl
/-! loseFirst -/
theorem upd_same {f : Nat → Int32} {i : Nat} {x y : Int32} : upd (upd f i x) i y = upd f i y := by
  funext j
  unfold upd
  split <;> rfl
theorem upd_id {f : Nat → Int32} {i : Nat} : upd f i (f i) = f := by
  funext j
  unfold upd
  split
  · rename_i h
    rw [h]
  · rfl
theorem w_lose_lp (hE : ER s b n A C) (hA : okA 152 A) (hn : n ≤ 152) (hk : k 3 = nI nx) (hx : nx ≤ n) {g : Nat} (hg : g ≤ n) (hd : b + 154 ≤ a ∨ a + 2 ≤ b) (hB : B ≤ a) : ∀ j i x, i + j = max nx g → nx ≤ i → rn_ tb_ct tb_mt B mm_X11_loseFirst 5 [.ref a, .int (nI g), .ref b, .int (nI i), am_un] [] (wS s a (upd k 5 x) l) = some (.inl none, wS s a (upd (upd k 5 (x + nI (cn (fun i => seeB k (C (A i))) i j))) 3 (nI (nx - g))) l) := by
  intro j
  induction j with
  | zero =>
    intro i x hi hxi
    have e3 : upd k 5 x 3 = nI nx := hk
    rw [dc_X11_loseFirst_5, if_pos (nI_le (show g ≤ i by omega) (by omega))]
    simp only [w_3 OV.of, e3, eI_s, w_p3 OV.of hB, eS_s, ov_idem, cn, nI_0, Int32.add_zero]
    have e4 : (if (0 : Int32) < nI nx - nI g then nI nx - nI g else 0) = nI (nx - g) := by
      by_cases hle : g ≤ nx
      · rw [nI_2 hle]
        by_cases h0 : nx - g = 0
        · rw [h0, nI_0]
          rfl
        · rw [if_pos]
          exact nI_0 ▸ nI_lt (a := 0) (b := nx - g) (by omega) (by omega)
      · rw [if_neg, show nx - g = 0 by omega, nI_0]
        intro hc
        have := pk_sneg (a := nx) (b := g) (by omega) (by omega)
        exact Int32.lt_irrefl (Int32.lt_trans hc this)
    rw [e4]
  | succ j ih =>
    intro i x hi hxi
    have hAi := hA.1 i (by omega)
    have hE' : ∀ x, ER (wS s a (upd k 5 x) l) b n A C := fun x => hE.at (fun q _ _ => ov_o (by omega)) (by omega)
    rw [dc_X11_loseFirst_5, if_neg (nI_ge (show i < g by omega) (by omega))]
    have es : seeB (upd k 5 x) (C (A i)) = seeB k (C (A i)) := rfl
    simp only [er_cls (hE' x), eC_s, er_at_in (hE' x) hn (show i < n by omega), cA_s, w_cls OV.of, w_sees OV.of ((hE' x).ek hAi), cI_s, es]
    unfold cn
    cases hs : seeB k (C (A i)) with
    | true =>
      have e5 : upd k 5 x 5 = x := rfl
      simp only [if_true, if_neg (show ¬ ((1 : Int32) = 0) by decide), w_5 OV.of, e5, eI_s, w_p5 OV.of hB, eS_s, ov_idem, upd_same]
      rw [dc_X11_loseFirst_41, nI_1, ih (i + 1) (x + 1) (by omega) (by omega), ← nI_add 1 (cn _ _ _), ← Int32.add_assoc]
      rfl
    | false =>
      simp only [Bool.false_eq_true, if_false, if_true, Nat.zero_add]
      rw [dc_X11_loseFirst_41, nI_1, ih (i + 1) x (by omega) (by omega)]
theorem w_lose (h : W1 s a k l) (hE : ER s b n A C) (hA : okA 152 A) (hn : n ≤ 152) (hk : k 3 = nI nx) (hx : nx ≤ n) {g : Nat} (hg : g ≤ n) (hd : b + 154 ≤ a ∨ a + 2 ≤ b) (hB : B ≤ a) : cl_ tb_ct tb_mt B K_X11_loseFirst [.ref a, .int (nI g), .ref b] s = some (.inl none, wS s a (upd (upd k 5 (k 5 + nI (cn (fun i => seeB k (C (A i))) nx (g - nx)))) 3 (nI (nx - g))) l) := by
  rw [in_X11_loseFirst, dc_X11_loseFirst_0]
  simp only [w_3 h, hk, eI_s]
  have := w_lose_lp (l := l) (B := B) (k := k) hE hA hn hk hx hg hd hB (g - nx) nx (k 5) (by omega) (Nat.le_refl _)
  rw [upd_id, show wS s a k l = s from h.eq] at this
  exact this
end Wt
