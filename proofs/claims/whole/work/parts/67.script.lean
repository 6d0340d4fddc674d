/-! ===== Script: its object, the reading of words and numbers ===== -/
def xsf (a : Nat) (F : Nat → Int32) : List Value := [.ref (a + 1), .ref (a + 2), .int (F 2), .int (F 3), .int (F 4), .int (F 5), .int (F 6), .int (F 7), .int (F 8)]
def xsE (a : Nat) (F T W : Nat → Int32) : Nat → Option am_E := fun i => if i = 0 then some (.inr (5, xsf a F)) else if i = 1 then some (.inl (.int, 500, .inl T)) else some (.inl (.int, 3, .inl W))
abbrev xsS (s : am_S) (a : Nat) (F T W : Nat → Int32) : am_S := ov s a 3 (xsE a F T W)
abbrev XSc (s : am_S) (a : Nat) (F T W : Nat → Int32) : Prop := OV s a 3 (xsE a F T W)
/-- the verbs of a script as the class holds them -/
def EVv (B : Nat) (s : am_S) (V : Nat → Nat) : Prop := (∃ A g, stR s 1 = some A ∧ A < B ∧ s.1 A = some (.inl (.object "WatchedKeys$Verb", 10, .inr (.inr (.inr (.inr g))))) ∧ ∀ i, i < 10 → g i = some (V i)) ∧ (∀ i, i < 10 → V i < B ∧ ∃ q, s.1 (V i) = some (.inr (14, [.ref q, .int (nI (vb_n i)), .int (nI (vb_k i 0)), .int (nI (vb_k i 1)), .int (nI (vb_k i 2)), .int (nI i)])) ∧ STR B s q (vb_w i)) ∧ stR s 0 = some (V 9) ∧ ∃ m g, stR s 2 = some m ∧ m < B ∧ s.1 m = some (.inl (.int, 10, .inl g)) ∧ ∀ i, i < 10 → g i = if i < 9 then nI (i + 1) else 0
theorem EVv.at {B : Nat} {s s' : am_S} {V : Nat → Nat} (h : EVv B s V) (hs : ∀ q, q < B → s'.1 q = s.1 q) (ht : s'.2.2.2 = s.2.2.2) : EVv B s' V := by
  obtain ⟨⟨A, g, h1, h2, h3, h4⟩, h5, h6, m, f, h7, h8, h9, h10⟩ := h
  refine ⟨⟨A, g, (st_cg ht 1).2.1.trans h1, h2, (hs A h2).trans h3, h4⟩, fun i hi => ?_, (st_cg ht 0).2.1.trans h6, m, f, (st_cg ht 2).2.1.trans h7, h8, (hs m h8).trans h9, h10⟩
  obtain ⟨k1, q, k2, k3⟩ := h5 i hi
  exact ⟨k1, q, (hs _ k1).trans k2, k3.at hs⟩
theorem vb_k_le (v i : Nat) : vb_k v i ≤ 6 := by
  unfold vb_k
  split <;> repeat' split
  all_goals omega
theorem upd_s {F : Nat → Int32} {k : Nat} {x y : Int32} : upd (upd F k x) k y = upd F k y := by
  funext j
  unfold upd
  by_cases h : j = k
  · rw [if_pos h, if_pos h]
  · rw [if_neg h, if_neg h, if_neg h]
theorem upd_e {F : Nat → Int32} {k : Nat} {x : Int32} (h : F k = x) : upd F k x = F := by
  funext j
  unfold upd
  by_cases hj : j = k
  · rw [if_pos hj, hj, h]
  · rw [if_neg hj]
theorem upd_n {F : Nat → Int32} {k j : Nat} {x : Int32} (h : j ≠ k) : upd F k x j = F j := if_neg h
theorem upd_k {F : Nat → Int32} {k : Nat} {x : Int32} : upd F k x k = x := if_pos rfl
section Xs
variable {s : am_S} {B a n p i e q : Nat} {F T W : Nat → Int32} {x : Int32} {M : am_M} {l : List Int32} {V : Nat → Nat}
theorem xs_o (h : XSc s a F T W) : s.1 a = some (.inr (5, xsf a F)) := h 0 (by omega)
theorem xs_t (h : XSc s a F T W) : s.1 (a + 1) = some (.inl (.int, 500, .inl T)) := h 1 (by omega)
theorem xs_w (h : XSc s a F T W) : s.1 (a + 2) = some (.inl (.int, 3, .inl W)) := h 2 (by omega)
theorem xs_cls (h : XSc s a F T W) : am_cls s a = some 5 := cls_o (xs_o h)
theorem xs_0 (h : XSc s a F T W) : gA tb_ct s a 5 0 = some (some (a + 1)) := gA_o (xs_o h) rfl rfl rfl
theorem xs_1 (h : XSc s a F T W) : gA tb_ct s a 5 1 = some (some (a + 2)) := gA_o (xs_o h) rfl rfl rfl
theorem xs_2 (h : XSc s a F T W) : gI tb_ct s a 5 2 = some (F 2) := gI_o (xs_o h) rfl rfl rfl
theorem xs_3 (h : XSc s a F T W) : gI tb_ct s a 5 3 = some (F 3) := gI_o (xs_o h) rfl rfl rfl
theorem xs_4 (h : XSc s a F T W) : gI tb_ct s a 5 4 = some (F 4) := gI_o (xs_o h) rfl rfl rfl
theorem xs_5 (h : XSc s a F T W) : gI tb_ct s a 5 5 = some (F 5) := gI_o (xs_o h) rfl rfl rfl
theorem xs_6 (h : XSc s a F T W) : gI tb_ct s a 5 6 = some (F 6) := gI_o (xs_o h) rfl rfl rfl
theorem xs_7 (h : XSc s a F T W) : gI tb_ct s a 5 7 = some (F 7) := gI_o (xs_o h) rfl rfl rfl
theorem xs_8 (h : XSc s a F T W) : gI tb_ct s a 5 8 = some (F 8) := gI_o (xs_o h) rfl rfl rfl
theorem xs_st (h : XSc s a F T W) {F' : Nat → Int32} : am_set s a (.inr (5, xsf a F')) = xsS s a F' T W := by
  rw [show a = a + 0 from rfl, OV.set h (show 0 < 3 by omega)]
  refine ov_cg fun i _ => ?_
  rcases i with _ | i
  · rfl
  · rfl
theorem xs_p2 (h : XSc s a F T W) (hB : B ≤ a) : am_put tb_ct M B s (.int x) a 5 2 = some (xsS s a (upd F 2 x) T W) := by
  rw [pF_o (xs_o h) (Nat.le_of_ble_eq_true rfl) rfl rfl hB (Or.inl rfl), ← xs_st h]
  rfl
theorem xs_p3 (h : XSc s a F T W) (hB : B ≤ a) : am_put tb_ct M B s (.int x) a 5 3 = some (xsS s a (upd F 3 x) T W) := by
  rw [pF_o (xs_o h) (Nat.le_of_ble_eq_true rfl) rfl rfl hB (Or.inl rfl), ← xs_st h]
  rfl
theorem xs_p4 (h : XSc s a F T W) (hB : B ≤ a) : am_put tb_ct M B s (.int x) a 5 4 = some (xsS s a (upd F 4 x) T W) := by
  rw [pF_o (xs_o h) (Nat.le_of_ble_eq_true rfl) rfl rfl hB (Or.inl rfl), ← xs_st h]
  rfl
theorem xs_p5 (h : XSc s a F T W) (hB : B ≤ a) : am_put tb_ct M B s (.int x) a 5 5 = some (xsS s a (upd F 5 x) T W) := by
  rw [pF_o (xs_o h) (Nat.le_of_ble_eq_true rfl) rfl rfl hB (Or.inl rfl), ← xs_st h]
  rfl
theorem xs_p6 (h : XSc s a F T W) (hB : B ≤ a) : am_put tb_ct M B s (.int x) a 5 6 = some (xsS s a (upd F 6 x) T W) := by
  rw [pF_o (xs_o h) (Nat.le_of_ble_eq_true rfl) rfl rfl hB (Or.inl rfl), ← xs_st h]
  rfl
theorem xs_p7 (h : XSc s a F T W) (hB : B ≤ a) : am_put tb_ct M B s (.int x) a 5 7 = some (xsS s a (upd F 7 x) T W) := by
  rw [pF_o (xs_o h) (Nat.le_of_ble_eq_true rfl) rfl rfl hB (Or.inl rfl), ← xs_st h]
  rfl
theorem xs_p8 (h : XSc s a F T W) (hB : B ≤ a) : am_put tb_ct M B s (.int x) a 5 8 = some (xsS s a (upd F 8 x) T W) := by
  rw [pF_o (xs_o h) (Nat.le_of_ble_eq_true rfl) rfl rfl hB (Or.inl rfl), ← xs_st h]
  rfl
/-- a number written, a byte written -/
theorem xs_ww (h : XSc s a F T W) (hB : B ≤ a) (hi : i < 3) : wI B s (a + 2) (nI i) x = some (xsS s a F T (upd W i x)) := by
  rw [wI_o (xs_w h) hi (by omega) (by omega), OV.set h (show 2 < 3 by omega)]
  congr 1
  refine ov_cg fun j hj => ?_
  match j with
  | 0 => rfl
  | 1 => rfl
  | 2 => rfl
theorem xs_wt (h : XSc s a F T W) (hB : B ≤ a) (hi : i < 500) : wI B s (a + 1) (nI i) x = some (xsS s a F (upd T i x) W) := by
  rw [wI_o (xs_t h) hi (by omega) (by omega), OV.set h (show 1 < 3 by omega)]
  congr 1
  refine ov_cg fun j hj => ?_
  match j with
  | 0 => rfl
  | 1 => rfl
  | 2 => rfl
theorem xs_byte (h : XSc s a F T W) (h2 : F 2 = nI n) (hn : n ≤ 500) (hi : i < 2 ^ 31) : cl_ tb_ct tb_mt B K_X6_byteAt [.ref a, .int (nI i)] s = some (.inl (some (.int (byt T n i))), s) := by
  rw [in_X6_byteAt, dc_X6_byteAt_0, if_neg (nI_pos hi), xs_2 h, eI_s, h2]
  unfold byt
  by_cases c : i < n
  · rw [if_pos c, if_neg (nI_ge c (by omega)), if_neg (show ¬ (500 : Int32) ≤ nI i from nI_ge (b := 500) (by omega) (by omega)), xs_0 h, eA_s, aI_o (xs_t h) (by omega) (by omega), eI_s]
  · rw [if_neg c, if_pos (nI_le (by omega) hi)]
theorem xs_digit (h : XSc s a F T W) (h2 : F 2 = nI n) (hn : n ≤ 500) (hi : i < 2 ^ 31) : cl_ tb_ct tb_mt B K_X6_isDigitAt [.ref a, .int (nI i)] s = some (.inl (some (.int (if dgB (byt T n i) = true then 1 else 0))), s) := by
  rw [in_X6_isDigitAt, dc_X6_isDigitAt_0, xs_cls h, eC_s, xs_byte h h2 hn hi, cI_s]
  unfold dgB
  by_cases h1 : byt T n i < 48
  · rw [if_pos h1, decide_eq_true h1]
    rfl
  · by_cases h2 : (57 : Int32) < byt T n i
    · rw [if_neg h1, if_pos h2, decide_eq_true h2, decide_eq_false h1]
      rfl
    · rw [if_neg h1, if_neg h2, decide_eq_false h1, decide_eq_false h2]
      rfl
theorem xs_letter (h : XSc s a F T W) (h2 : F 2 = nI n) (hn : n ≤ 500) (hi : i < 2 ^ 31) : cl_ tb_ct tb_mt B K_X6_isLetterAt [.ref a, .int (nI i)] s = some (.inl (some (.int (if ltB (byt T n i) = true then 1 else 0))), s) := by
  rw [in_X6_isLetterAt, dc_X6_isLetterAt_0, xs_cls h, eC_s, xs_byte h h2 hn hi, cI_s]
  unfold ltB
  by_cases h1 : byt T n i < 97
  · rw [if_pos h1, decide_eq_true h1]
    rfl
  · by_cases h2 : (122 : Int32) < byt T n i
    · rw [if_neg h1, if_pos h2, decide_eq_true h2, decide_eq_false h1]
      rfl
    · rw [if_neg h1, if_neg h2, decide_eq_false h1, decide_eq_false h2]
      rfl
theorem xs_skip_lp (hB : B ≤ a) (hn : n ≤ 500) : ∀ k p s F, p + k = n → XSc s a F T W → F 2 = nI n → F 3 = nI p → ∃ s', rn_ tb_ct tb_mt B mm_X6_skipSpaces 0 [.ref a] [] s = some (.inl none, s') ∧ so s s' a (a + 3) ∧ XSc s' a (upd F 3 (nI (q_sp T n p))) T W := by
  intro k
  induction k with
  | zero =>
    intro p s F hp h h2 h3
    refine ⟨s, ?_, so_rfl, ?_⟩
    · rw [dc_X6_skipSpaces_0]
      simp only [xs_3 h, xs_2 h, eI_s, h2, h3]
      rw [if_pos (nI_le (by omega) (by omega))]
    · rw [show q_sp T n p = p by unfold q_sp; rw [show n - p = 0 by omega]; rfl, upd_e h3]
      exact h
  | succ k ih =>
    intro p s F hp h h2 h3
    have hb := xs_byte (B := B) h h2 hn (show p < 2 ^ 31 by omega)
    rw [show byt T n p = T p from if_pos (by omega)] at hb
    have eq : q_sp T n p = if T p = 32 then q_sp T n (p + 1) else p := by
      unfold q_sp
      rw [show n - p = (n - (p + 1)) + 1 by omega, fi_s]
      by_cases c : T p = 32
      · rw [if_pos c, decide_eq_true c]
        rfl
      · rw [if_neg c, decide_eq_false c]
        rfl
    by_cases c : T p = 32
    · obtain ⟨s', e1, e2, e3⟩ := ih (p + 1) (xsS s a (upd F 3 (nI (p + 1))) T W) (upd F 3 (nI (p + 1))) (by omega) OV.of ((upd_n (by omega)).trans h2) upd_k
      refine ⟨s', ?_, so_tr so_ov e2, ?_⟩
      · rw [dc_X6_skipSpaces_0]
        simp only [xs_3 h, xs_2 h, eI_s, h2, h3]
        rw [if_neg (nI_ge (by omega) (by omega)), xs_cls h, eC_s, hb, cI_s, if_pos c, xs_3 h, eI_s, h3, nI_1, xs_p3 h hB, eS_s]
        exact e1
      · rw [eq, if_pos c]
        rw [upd_s] at e3
        exact e3
    · refine ⟨s, ?_, so_rfl, ?_⟩
      · rw [dc_X6_skipSpaces_0]
        simp only [xs_3 h, xs_2 h, eI_s, h2, h3]
        rw [if_neg (nI_ge (by omega) (by omega)), xs_cls h, eC_s, hb, cI_s, if_neg c]
      · rw [eq, if_neg c, upd_e h3]
        exact h
theorem xs_skip (hB : B ≤ a) (hn : n ≤ 500) (h : XSc s a F T W) (h2 : F 2 = nI n) (h3 : F 3 = nI p) (hp : p ≤ n) : ∃ s', cl_ tb_ct tb_mt B K_X6_skipSpaces [.ref a] s = some (.inl none, s') ∧ so s s' a (a + 3) ∧ XSc s' a (upd F 3 (nI (q_sp T n p))) T W := by
  rw [in_X6_skipSpaces]
  exact xs_skip_lp hB hn (n - p) p s F (by omega) h h2 h3
/-! words -/
theorem xs_word_yes (hE : EVd B s) (h : XSc s a F T W) (h2 : F 2 = nI n) (h3 : F 3 = nI p) (hn : n ≤ 500) (hq : STR B s q l) (hp : p + l.length ≤ n) : ∀ k i w, i + k = l.length → (∀ j, i ≤ j → j < l.length → T (p + j) = l.getD j 0) → rn_ tb_ct tb_mt B mm_X6_isWord 17 [.ref a, .ref q, w, .int (nI i)] [] s = some (.inl (some (.int 1)), s) := by
  intro k
  induction k with
  | zero =>
    intro i w hi hm
    rw [dc_X6_isWord_17, str_cls hq, eC_s, str_len hE.1 hq, cI_s, if_pos (nI_le (by omega) (by omega))]
  | succ k ih =>
    intro i w hi hm
    have hb := xs_byte (B := B) h h2 hn (show p + i < 2 ^ 31 by omega)
    rw [show byt T n (p + i) = T (p + i) from if_pos (by omega), hm i (by omega) (by omega)] at hb
    rw [dc_X6_isWord_17, str_cls hq, eC_s, str_len hE.1 hq, cI_s, if_neg (nI_ge (by omega) (by omega)), str_cls hq, eC_s, str_at hE.1 hE.2.2.2 hq (by omega), cI_s, xs_3 h, eI_s, h3, xs_cls h, eC_s, nI_add, hb, cI_s, if_pos rfl, nI_1]
    exact ih (i + 1) am_un (by omega) fun j h4 h5 => hm j (by omega) h5
theorem xs_word_no (hE : EVd B s) (h : XSc s a F T W) (h2 : F 2 = nI n) (h3 : F 3 = nI p) (hn : n ≤ 500) (hq : STR B s q l) (hp : p + l.length ≤ n) : ∀ k i w, i + k = l.length → (∃ j, i ≤ j ∧ j < l.length ∧ T (p + j) ≠ l.getD j 0) → rn_ tb_ct tb_mt B mm_X6_isWord 17 [.ref a, .ref q, w, .int (nI i)] [] s = some (.inl (some (.int 0)), s) := by
  intro k
  induction k with
  | zero =>
    intro i w hi hm
    obtain ⟨j, h4, h5, -⟩ := hm
    omega
  | succ k ih =>
    intro i w hi hm
    have hb := xs_byte (B := B) h h2 hn (show p + i < 2 ^ 31 by omega)
    rw [show byt T n (p + i) = T (p + i) from if_pos (by omega)] at hb
    rw [dc_X6_isWord_17, str_cls hq, eC_s, str_len hE.1 hq, cI_s, if_neg (nI_ge (by omega) (by omega)), str_cls hq, eC_s, str_at hE.1 hE.2.2.2 hq (by omega), cI_s, xs_3 h, eI_s, h3, xs_cls h, eC_s, nI_add, hb, cI_s]
    by_cases c : l.getD i 0 = T (p + i)
    · rw [if_pos c, nI_1]
      obtain ⟨j, h4, h5, h6⟩ := hm
      exact ih (i + 1) am_un (by omega) ⟨j, by
        by_cases hj : j = i
        · subst hj
          exact absurd c.symm h6
        · omega, h5, h6⟩
    · rw [if_neg c]
theorem xs_word (hE : EVd B s) (h : XSc s a F T W) (h2 : F 2 = nI n) (h3 : F 3 = nI p) (hn : n ≤ 500) (hq : STR B s q l) (hp : p ≤ e) (he : e ≤ n) : cl_ tb_ct tb_mt B K_X6_isWord [.ref a, .ref q, .int (nI e)] s = some (.inl (some (.int (if q_wd T p e l = true then 1 else 0))), s) := by
  have hl := hq.2.2.2
  rw [in_X6_isWord, dc_X6_isWord_0, str_cls hq, eC_s, str_len hE.1 hq, cI_s, xs_3 h, eI_s, h3, nI_2 hp]
  have iff : q_wd T p e l = true ↔ e = p + l.length ∧ ∀ j, j < l.length → T (p + j) = l.getD j 0 := by
    unfold q_wd
    rw [Bool.and_eq_true, decide_eq_true_iff, decide_eq_true_iff]
  by_cases c : e = p + l.length
  · rw [if_pos (by rw [show e - p = l.length by omega]), ← nI_0]
    by_cases d : ∀ j, j < l.length → T (p + j) = l.getD j 0
    · rw [xs_word_yes hE h h2 h3 hn hq (by omega) l.length 0 _ (by omega) fun j _ hj => d j hj, if_pos (iff.mpr ⟨c, d⟩)]
    · rw [xs_word_no hE h h2 h3 hn hq (by omega) l.length 0 _ (by omega) (by
        apply Classical.byContradiction
        intro hc
        exact d fun j hj => Classical.byContradiction fun hne => hc ⟨j, Nat.zero_le _, hj, hne⟩), if_neg (fun hc => d (iff.mp hc).2), nI_0]
  · rw [if_neg (fun hc => c (by have := (nI_eq (by omega) (by omega)).mp hc; omega)), if_neg (fun hc => c (iff.mp hc).1)]
theorem xs_end (h : XSc s a F T W) (h2 : F 2 = nI n) (hn : n ≤ 500) : ∀ k i, i + k = n → rn_ tb_ct tb_mt B mm_X6_readVerb 5 [.ref a, .int (nI i), am_un, am_un] [] s = rn_ tb_ct tb_mt B mm_X6_readVerb 27 [.ref a, .int (nI (q_le T n i)), am_un, am_un] [] s := by
  intro k
  induction k with
  | zero =>
    intro i hi
    rw [dc_X6_readVerb_5, xs_2 h, eI_s, h2, if_pos (nI_le (by omega) (by omega)), show q_le T n i = i by unfold q_le; rw [show n - i = 0 by omega]; rfl]
  | succ k ih =>
    intro i hi
    have hb := xs_letter (B := B) h h2 hn (show i < 2 ^ 31 by omega)
    rw [show byt T n i = T i from if_pos (by omega)] at hb
    have eq : q_le T n i = if ltB (T i) = true then q_le T n (i + 1) else i := by
      unfold q_le
      rw [show n - i = (n - (i + 1)) + 1 by omega, fi_s]
      cases ltB (T i) <;> rfl
    rw [dc_X6_readVerb_5, xs_2 h, eI_s, h2, if_neg (nI_ge (by omega) (by omega)), xs_cls h, eC_s, hb, cI_s, eq]
    by_cases c : ltB (T i) = true
    · rw [if_pos c, if_pos c, if_neg (by decide), nI_1]
      exact ih (i + 1) (by omega)
    · rw [if_neg c, if_neg c, if_pos rfl]
theorem xs_verb_lp (hB : B ≤ a) (hE : EVd B s) (hV : EVv B s V) (h : XSc s a F T W) (h2 : F 2 = nI n) (h3 : F 3 = nI p) (hn : n ≤ 500) (hp : p ≤ e) (he : e ≤ n) : ∀ k i, i + k = 10 → rn_ tb_ct tb_mt B mm_X6_readVerb 29 [.ref a, .int (nI e), .int (nI i), am_un] [] s = if fi (fun v => q_wd T p e (vb_w v)) i k < 10 then some (.inl (some (.ref (V (fi (fun v => q_wd T p e (vb_w v)) i k)))), xsS s a (upd F 3 (nI e)) T W) else some (.inl (some .null), s) := by
  obtain ⟨⟨A, g, v1, v2, v3, v4⟩, v5, -⟩ := hV
  intro k
  induction k with
  | zero =>
    intro i hi
    rw [dc_X6_readVerb_29, v1, eK_s, al_o v3, eK_s, if_pos (show Int32.ofNat 10 ≤ nI i from nI_le (a := 10) (by omega) (by omega)), fi_0, if_neg (by omega)]
  | succ k ih =>
    intro i hi
    obtain ⟨w1, q, w2, w3⟩ := v5 i (by omega)
    rw [dc_X6_readVerb_29, v1, eK_s, al_o v3, eK_s, if_neg (show ¬ Int32.ofNat 10 ≤ nI i from nI_ge (b := 10) (by omega) (by omega)), eK_s, aA_o v3 (show i < 10 by omega) (by omega), v4 i (by omega), eA_s, gA_o w2 rfl rfl rfl, eA_s, xs_cls h, eC_s, xs_word hE h h2 h3 hn w3 hp he, cI_s, fi_s]
    by_cases c : q_wd T p e (vb_w i) = true
    · rw [if_pos c, if_pos c, if_neg (by decide), xs_p3 h hB, eS_s, if_pos (by omega)]
    · rw [if_neg c, if_neg c, if_pos rfl, dc_X6_readVerb_66, nI_1]
      exact ih (i + 1) (by omega)
theorem xs_verb (hB : B ≤ a) (hE : EVd B s) (hV : EVv B s V) (h : XSc s a F T W) (h2 : F 2 = nI n) (h3 : F 3 = nI p) (hn : n ≤ 500) (hp : p ≤ n) : cl_ tb_ct tb_mt B K_X6_readVerb [.ref a] s = if q_vb T p (q_le T n p) < 10 then some (.inl (some (.ref (V (q_vb T p (q_le T n p))))), xsS s a (upd F 3 (nI (q_le T n p))) T W) else some (.inl (some .null), s) := by
  have := q_le_le (T := T) hp
  rw [in_X6_readVerb, dc_X6_readVerb_0, xs_3 h, eI_s, h3, xs_end h h2 hn (n - p) p (by omega), dc_X6_readVerb_27]
  exact xs_verb_lp hB hE hV h h2 h3 hn this.1 this.2 10 0 (by omega)
end Xs
