/-! ===== Store: compaction ===== -/
theorem cn_s {p : Nat → Bool} {i k : Nat} : cn p i (k + 1) = (if p i = true then 1 else 0) + cn p (i + 1) k := rfl
theorem cn_add (p : Nat → Bool) : ∀ a b i, cn p i (a + b) = cn p i a + cn p (i + a) b
  | 0, b, i => by rw [Nat.zero_add, show cn p i 0 = 0 from rfl, Nat.zero_add, Nat.add_zero]
  | a + 1, b, i => by
    rw [show a + 1 + b = (a + b) + 1 by omega, cn_s, cn_s, cn_add p a b (i + 1), show i + 1 + a = i + (a + 1) by omega, Nat.add_assoc]
theorem cn_0 {p : Nat → Bool} : ∀ k i, (∀ j, i ≤ j → j < i + k → p j = false) → cn p i k = 0
  | 0, _, _ => rfl
  | k + 1, i, h => by
    unfold cn
    rw [h i (Nat.le_refl _) (by omega), cn_0 k (i + 1) fun j h1 h2 => h j (by omega) (by omega)]
    rfl
theorem cn_from {p : Nat → Bool} (nx g : Nat) : cn (fun i => decide (nx ≤ i) && p i) 0 g = cn p nx (g - nx) := by
  by_cases h : g ≤ nx
  · rw [show g - nx = 0 by omega, show cn p nx 0 = 0 from rfl]
    exact cn_0 g 0 fun j _ h2 => by
      rw [decide_eq_false (by omega)]
      rfl
  · have e : g = nx + (g - nx) := by omega
    conv => lhs; rw [e]
    rw [cn_add, cn_0 nx 0 fun j _ h2 => by
      rw [decide_eq_false (by omega)]
      rfl, Nat.zero_add, Nat.zero_add]
    exact cn_cg _ _ fun j h1 _ => by rw [decide_eq_true h1, Bool.true_and]
theorem fi_from {p : Nat → Bool} {nx n : Nat} (h : nx ≤ n) : fi (fun i => decide (nx ≤ i) && p i) 0 n = fi p nx (n - nx) := by
  have a := fi_le p (n - nx) nx
  refine fi_is (Nat.zero_le _) (by omega) (fun j _ h2 => ?_) (fun h2 => ?_)
  · by_cases hj : nx ≤ j
    · rw [fi_no p (n - nx) nx j hj h2, Bool.and_false]
    · rw [decide_eq_false hj]
      rfl
  · rw [decide_eq_true a.1, fi_yes p (n - nx) nx (by omega)]
    rfl
/-- a watch sees an event that it has not gone by -/
def sW (lost : Nat) (w e : Nat → Int32) (i : Nat) : Bool := !decide (nI (lost + i) < w 3) && seeB w e
theorem sW_eq {lost x i : Nat} {w e : Nat → Int32} (h3 : w 3 = nI x) (hx : x < 2 ^ 31) (hi : lost + i < 2 ^ 31) : sW lost w e i = (decide (x - lost ≤ i) && seeB w e) := by
  unfold sW
  rw [h3]
  by_cases h : x - lost ≤ i
  · rw [decide_eq_true h, decide_eq_false (nI_nlt (by omega) (by omega))]
    rfl
  · rw [decide_eq_false h, decide_eq_true (nI_lt (by omega) hx)]
    rfl
theorem seeB_cg {k k' e e' : Nat → Int32} (h0 : k 0 = k' 0) (h1 : k 1 = k' 1) (h2 : k 2 = k' 2) (e1 : e 1 = e' 1) (e2 : e 2 = e' 2) : seeB k e = seeB k' e' := by
  unfold seeB
  rw [h0, h1, h2, e1, e2]
def nN (x : Int32) : Nat := x.toInt.toNat
theorem nN_nI {n : Nat} (h : n < 2 ^ 31) : nN (nI n) = n := by
  unfold nN
  rw [nI_toInt h]
  rfl
theorem nI_nN {x : Int32} (h : ¬ x < 0) : nI (nN x) = x := by
  obtain ⟨j, hj, e⟩ := nI_of h
  rw [e, nN_nI hj]
/-! rows of keys and values that events lead from one to the next -/
def k2 (a b : Int32) : Nat → Int32
  | 0 => a
  | _ => b
def goOn (P : Nat × rowT) (e : Nat → Int32) : Nat × rowT :=
  if e 1 = 1 then (if pF P.2 P.1 (e 2) < P.1 then (P.1 - 1, delR P.2 (pF P.2 P.1 (e 2)) P.1) else P)
  else if pF P.2 P.1 (e 2) < P.1 then (P.1, va_up P.2 (pF P.2 P.1 (e 2)) (k2 (e 2) (e 3))) else (P.1 + 1, insR P.2 (pI P.2 P.1 (e 2)) P.1 (k2 (e 2) (e 3)))
def p_row (Z : nmT) (G : rwT) : Nat → Nat × rowT
  | 0 => (Z 12, G 1)
  | k + 1 => goOn (p_row Z G k) (G 2 k)
def p_many (Z : nmT) (G : rwT) (x : Int32) : Nat := fi (fun i => !decide (G 2 i 0 ≤ x)) 0 (Z 6)
theorem p_many_le {Z : nmT} {G : rwT} {x : Int32} : p_many Z G x ≤ Z 6 := fi_le0 _ _
def loW (lost g : Nat) (E : rowT) (w : Nat → Int32) : Nat → Int32 := upd w 4 (w 4 + nI (cn (fun i => sW lost w (E i) i) 0 g))
def p_co (Z : nmT) (G : rwT) (x : Int32) : nmT × rwT :=
  (va_up (va_up (va_up (va_up Z 12 (p_row Z G (p_many Z G x)).1) 6 (Z 6 - p_many Z G x)) 7 (Z 7 + p_many Z G x)) 1 (nN x),
   va_up (va_up (va_up G 1 (p_row Z G (p_many Z G x)).2) 4 (fun i => loW (Z 7) (p_many Z G x) (G 2) (G 4 i))) 2 (fun i => G 2 (i + p_many Z G x)))
section Co
variable {s s' : am_S} {B b r n i a : Nat} {Z Z' : nmT} {G : rwT} {M : am_M} {k l : Nat → Int32} {x : Int32} {E : rowT} {nx : Nat}
/-! Watch's methods over EW -/
theorem e_see {A : Nat → Nat} {C : rowT} (h4 : ∀ i, i < n → ∀ w, w < 7 → C (A i) w = E i w) (k : Nat → Int32) : ∀ j, j < n → seeB k (C (A j)) = seeB k (E j) := fun j hj => seeB_cg rfl rfl rfl (h4 j hj 1 (by omega)) (h4 j hj 2 (by omega))
theorem ww_waiting (h : W1 s a k l) (hE : EW s b n E) (hk : k 3 = nI nx) (hx : nx ≤ n) : cl_ tb_ct tb_mt B K_X11_waiting [.ref a, .ref b] s = some (.inl (some (.int (nI (cn (fun i => seeB k (E i)) nx (n - nx))))), s) := by
  obtain ⟨h1, A, C, h2, h3, h4⟩ := hE
  rw [w_waiting h h2 h3 h1 hk hx, cn_cg (n - nx) nx fun j _ hj => e_see h4 k j (by omega)]
theorem ww_fi {A : Nat → Nat} {C : rowT} (h4 : ∀ i, i < n → ∀ w, w < 7 → C (A i) w = E i w) (k : Nat → Int32) (hx : nx ≤ n) : fi (fun i => seeB k (C (A i))) nx (n - nx) = fi (fun i => seeB k (E i)) nx (n - nx) := fi_cg (n - nx) nx fun j _ hj => e_see h4 k j (by omega)
theorem ww_earliest (h : W1 s a k l) (hE : EW s b n E) (hk : k 3 = nI nx) (hx : nx ≤ n) : cl_ tb_ct tb_mt B K_X11_earliest [.ref a, .ref b] s = some (.inl (some (.int (if fi (fun i => seeB k (E i)) nx (n - nx) < n then E (fi (fun i => seeB k (E i)) nx (n - nx)) 0 else -1))), s) := by
  obtain ⟨h1, A, C, h2, h3, h4⟩ := hE
  rw [w_earliest h h2 h3 h1 hk hx, ww_fi h4 k hx]
  by_cases hf : fi (fun i => seeB k (E i)) nx (n - nx) < n
  · rw [if_pos hf, if_pos hf, h4 _ hf 0 (by omega)]
  · rw [if_neg hf, if_neg hf]
theorem ww_num_3 (h : W1 s a k l) (hE : EW s b n E) (hk : k 3 = nI nx) (hx : nx ≤ n) : cl_ tb_ct tb_mt B K_X11_number [.ref a, .int 3, .ref b] s = some (.inl (some (.int (nI (cn (fun i => seeB k (E i)) nx (n - nx))))), s) := by
  obtain ⟨h1, A, C, h2, h3, h4⟩ := hE
  rw [w_num_3 h h2 h3 h1 hk hx, cn_cg (n - nx) nx fun j _ hj => e_see h4 k j (by omega)]
theorem ww_num_5 (h : W1 s a k l) (hE : EW s b n E) (hk : k 3 = nI nx) (hx : nx ≤ n) : cl_ tb_ct tb_mt B K_X11_number [.ref a, .int 5, .ref b] s = some (.inl (some (.int (if k 5 ≤ 0 then (if fi (fun i => seeB k (E i)) nx (n - nx) < n then 1 else 0) else 2))), s) := by
  obtain ⟨h1, A, C, h2, h3, h4⟩ := hE
  rw [w_num_5 h h2 h3 h1 hk hx, ww_fi h4 k hx]
theorem ww_take_none (h : W1 s a k l) (hE : EW s b n E) (hk : k 3 = nI nx) (hx : nx ≤ n) (h5 : k 5 ≤ 0) (hf : ¬ fi (fun i => seeB k (E i)) nx (n - nx) < n) : cl_ tb_ct tb_mt B K_X11_takeFirst [.ref a, .ref b] s = some (.inl (some (.int (-1))), s) := by
  obtain ⟨h1, A, C, h2, h3, h4⟩ := hE
  exact w_take_none h h2 h3 h1 hk hx h5 (by rw [ww_fi h4 k hx]; exact hf)
theorem ww_take (h : W1 s a k l) (hE : EW s b n E) (hk : k 3 = nI nx) (hx : nx ≤ n) (h5 : k 5 ≤ 0) (hd : b + 154 ≤ a ∨ a + 2 ≤ b) (hB : B ≤ a) {q : Nat} (hq : fi (fun i => seeB k (E i)) nx (n - nx) = q) (hf : q < n) : ∃ l', (∀ w, w < 7 → l' w = E q w) ∧ cl_ tb_ct tb_mt B K_X11_takeFirst [.ref a, .ref b] s = some (.inl (some (.int (E q 0))), wS s a (upd (upd k 3 (nI (q + 1))) 4 (k 4 + 1)) l') := by
  obtain ⟨h1, A, C, h2, h3, h4⟩ := hE
  refine ⟨C (A q), h4 q hf, ?_⟩
  rw [w_take h h2 h3 h1 hk hx h5 hd hB ((ww_fi h4 k hx).trans hq) hf, h4 q hf 0 (by omega)]
theorem ww_lose (h : W1 s a k l) (hE : EW s b n E) (hk : k 3 = nI nx) (hx : nx ≤ n) {g : Nat} (hg : g ≤ n) (hd : b + 154 ≤ a ∨ a + 2 ≤ b) (hB : B ≤ a) : cl_ tb_ct tb_mt B K_X11_loseFirst [.ref a, .int (nI g), .ref b] s = some (.inl none, wS s a (upd (upd k 5 (k 5 + nI (cn (fun i => seeB k (E i)) nx (g - nx)))) 3 (nI (nx - g))) l) := by
  obtain ⟨h1, A, C, h2, h3, h4⟩ := hE
  rw [w_lose h h2 h3 h1 hk hx hg hd hB, cn_cg (g - nx) nx fun j _ hj => e_see h4 k j (by omega)]
/-- the watches that lose: the first i have done so -/
def lsC (A : Nat → Nat) (C : rowT) (E : rowT) (g i : Nat) : rowT → Prop := fun C' => (∀ j, j < i → C' (A j) = upd (upd (C (A j)) 5 (C (A j) 5 + nI (cn (fun q => seeB (C (A j)) (E q)) (nN (C (A j) 3)) (g - nN (C (A j) 3))))) 3 (nI (nN (C (A j) 3) - g))) ∧ ∀ j, i ≤ j → j < 8 → C' (A j) = C (A j)
theorem st_compact_lp {A : Nat → Nat} {C L : rowT} {g : Nat} {goal : Int32} (hB : B ≤ b) (hn : n ≤ 8) (hA : okA 8 A) (h5 : Z 5 = n) (hg : g ≤ Z 6) (hC : ∀ j, j < n → nI (nN (C (A j) 3)) = C (A j) 3 ∧ nN (C (A j) 3) ≤ Z 6) : ∀ k i s C', i + k = n → SO s b (sv r Z) → s.1 (b + 179) = some (arE "WatchedKeys$Watch" (fun j => b + 194 + 2 * j) A) → (∀ j, j < 8 → W1 s (b + 194 + 2 * j) (C' j) (L j)) → EW s (b + 25) (Z 6) E → lsC A C E g i C' → ∃ s' C'', rn_ tb_ct tb_mt B mm_X8_compactTo 11 [.ref b, .int goal, .int (nI g), .int (nI i), am_un] [] s = rn_ tb_ct tb_mt B mm_X8_compactTo 11 [.ref b, .int goal, .int (nI g), .int (nI n), am_un] [] s' ∧ so s s' (b + 194) (b + 210) ∧ (∀ j, j < 8 → W1 s' (b + 194 + 2 * j) (C'' j) (L j)) ∧ lsC A C E g n C'' := by
  intro k
  induction k with
  | zero =>
    intro i s C' hi ho ar hw hE hls
    have : i = n := by omega
    subst this
    exact ⟨s, C', rfl, so_rfl, hw, hls⟩
  | succ k ih =>
    intro i s C' hi ho ar hw hE hls
    have hin : i < n := by omega
    have hAi := hA.1 i (by omega)
    have w0 := hw _ hAi
    obtain ⟨c1, c2⟩ := hC i hin
    have eC := hls.2 i (Nat.le_refl _) (by omega)
    have g8 : gI tb_ct s b 7 8 = some (nI n) := h5 ▸ gI_o ho rfl rfl rfl
    have gw : gA tb_ct s b 7 2 = some (some (b + 179)) := gA_o ho rfl rfl rfl
    have ge : gA tb_ct s b 7 1 = some (some (b + 25)) := gA_o ho rfl rfl rfl
    have hat : cl_ tb_ct tb_mt B K_X8_watchAt [.ref b, .int (nI i)] s = some (.inl (some (.ref (b + 194 + 2 * A i))), s) := by
      rw [in_X8_watchAt, dc_X8_watchAt_0, if_neg (nI_pos (by omega))]
      simp only [g8, eI_s, if_neg (nI_ge hin (by omega)), if_neg (show ¬ (8 : Int32) ≤ nI i from nI_ge (b := 8) (by omega) (by omega)), gw, eA_s, ar_at ar (show i < 8 by omega)]
    have hl := ww_lose (B := B) w0 hE (by rw [eC, c1]) c2 hg (by omega) (by omega)
    rw [eC] at hl
    have o1 : so s (wS s (b + 194 + 2 * A i) (upd (upd (C (A i)) 5 (C (A i) 5 + nI (cn (fun q => seeB (C (A i)) (E q)) (nN (C (A i) 3)) (g - nN (C (A i) 3))))) 3 (nI (nN (C (A i) 3) - g))) (L (A i))) (b + 194) (b + 210) := so_up so_ov (by omega) (by omega)
    obtain ⟨s', C'', e1, e2, e3, e4⟩ := ih (i + 1) _ (va_up C' (A i) (upd (upd (C (A i)) 5 (C (A i) 5 + nI (cn (fun q => seeB (C (A i)) (E q)) (nN (C (A i) 3)) (g - nN (C (A i) 3))))) 3 (nI (nN (C (A i) 3) - g)))) (by omega) ((o1.1 b (by omega)).trans ho) ((o1.1 _ (by omega)).trans ar) (fun j hj => by
      by_cases hj2 : j = A i
      · subst hj2
        rw [va_us]
        exact OV.of
      · rw [va_un hj2]
        exact (hw j hj).at fun q _ _ => ov_o (by omega)) (hE.at fun q _ _ => o1.1 q (by omega)) ⟨fun j hj => by
      by_cases hj2 : j = i
      · subst hj2
        rw [va_us]
      · rw [va_un (fun e => hj2 (hA.2 j (by omega) i (by omega) e))]
        exact hls.1 j (by omega), fun j hj hj8 => by
      rw [va_un (fun e => absurd (hA.2 j hj8 i (by omega) e) (by omega))]
      exact hls.2 j (by omega) hj8⟩
    refine ⟨s', C'', ?_, so_tr o1 e2, e3, e4⟩
    rw [← e1]
    conv => lhs; rw [dc_X8_compactTo_11]
    simp only [g8, eI_s, if_neg (nI_ge hin (by omega)), cls_o ho, eC_s, hat, cA_s, ge, eA_s, w_cls w0, hl, cV_s]
    rw [dc_X8_compactTo_41, nI_1]
theorem st_compactTo (h : SR s b r Z G) (hB : B ≤ b) (hx : ¬ x < 0) (ht : Z 7 + Z 6 < 2 ^ 31) : ∃ s', cl_ tb_ct tb_mt B K_X8_compactTo [.ref b, .int x] s = some (.inl (some (.int (nI (p_many Z G x)))), s') ∧ so s s' b (b + 218) ∧ SR s' b r (p_co Z G x).1 (p_co Z G x).2 := by
  obtain ⟨hn, A, C, L, a1, a2, a3, a4⟩ := h.ww
  have hg : p_many Z G x ≤ Z 6 := p_many_le
  have hC : ∀ j, j < Z 5 → nI (nN (C (A j) 3)) = C (A j) 3 ∧ nN (C (A j) 3) ≤ Z 6 := fun j hj => by
    obtain ⟨-, -, -, ⟨y, y1, y2, y3⟩, -⟩ := a4 j hj
    rw [y3, nN_nI (by omega)]
    exact ⟨rfl, by omega⟩
  obtain ⟨s1, C1, e1, o1, w1, l1⟩ := st_compact_lp (B := B) (r := r) (goal := x) hB hn a2 rfl hg hC (Z 5) 0 s C (by omega) h.o a1 a3 h.ew ⟨fun j hj => by omega, fun j _ _ => rfl⟩
  have ho1 : SO s1 b (sv r Z) := (o1.1 b (by omega)).trans h.o
  have hE1 : EW s1 (b + 25) (Z 6) (G 2) := h.ew.at fun q _ _ => o1.1 q (by omega)
  have g8 : gI tb_ct s1 b 7 8 = some (nI (Z 5)) := gI_o ho1 rfl rfl rfl
  have ge : gA tb_ct s1 b 7 1 = some (some (b + 25)) := gA_o ho1 rfl rfl rfl
  obtain ⟨s2, e2, o2, k2⟩ := ew_dropFirst hE1 (show B ≤ b + 25 by omega) hg
  have ho2 : SO s2 b (sv r Z) := (o2.1 b (by omega)).trans ho1
  refine ⟨am_set s2 b (.inr (7, stO (upd (sv r Z) 6 x) b)), ?_, so_tr (so_tr (so_up o1 (by omega) (by omega)) (so_up o2 (by omega) (by omega))) (so_up so_set (by omega) (by omega)), ?_⟩
  · rw [in_X8_compactTo, dc_X8_compactTo_0]
    simp only [sr_e h, eA_s, sr_ec h, eC_s, ew_countTo h.ew, cI_s]
    rw [nI_0] at e1
    refine e1.trans ?_
    rw [dc_X8_compactTo_11]
    simp only [g8, eI_s, if_pos (nI_le (Nat.le_refl (Z 5)) (by omega)), ge, eA_s, ew_cls hE1, eC_s, e2, cV_s, so_p ho2 hB (show 5 ≤ 6 ∧ 6 ≤ 10 by omega), eS_s]
  · obtain ⟨b1, b2, b3, b4, b5, b6, b7, b8⟩ := h
    have of : ∀ q, q ≠ b → (q < b + 25 ∨ b + 179 ≤ q) → (q < b + 194 ∨ b + 210 ≤ q) → (am_set s2 b (.inr (7, stO (upd (sv r Z) 6 x) b))).1 q = s.1 q := fun q q1 q2 q3 => (set_ne q1).trans ((o2.1 q (by omega)).trans (o1.1 q (by omega)))
    refine ⟨SO.cg set_at fun k k1 k2 => ?_, b2.at fun q _ _ => of q (by omega) (by omega) (by omega), k2.at fun q _ _ => set_ne (by omega), ⟨hn, A, C1, L, (of _ (by omega) (by omega) (by omega)).trans a1, a2, fun j hj => (w1 j hj).at fun q _ _ => (set_ne (by omega)).trans (o2.1 q (by omega)), fun j hj => ?_⟩, b5.at (of _ (by omega) (by omega) (by omega)) fun q _ _ => of q (by omega) (by omega) (by omega), b6.at fun q _ _ => of q (by omega) (by omega) (by omega), b7.at fun q _ _ => of q (by omega) (by omega) (by omega), b8.at fun q _ _ => of q (by omega) (by omega) (by omega)⟩
    · match k, k1, k2 with
      | 5, _, _ => rfl
      | 6, _, _ => exact (nI_nN hx).symm
      | 7, _, _ => rfl
      | 8, _, _ => rfl
      | 9, _, _ => rfl
      | 10, _, _ => rfl
      | k + 11, _, k2 => omega
    · change j < Z 5 at hj
      obtain ⟨y0, y1, y2, ⟨y, ya, yb, yc⟩, y4, y5, y6⟩ := a4 j hj
      have ec := l1.1 j hj
      have en : nN (C (A j) 3) = y - Z 7 := by rw [yc, nN_nI (by omega)]
      rw [en] at ec
      change WL (Z 7 + p_many Z G x) ((Z 7 + p_many Z G x) + (Z 6 - p_many Z G x)) (C1 (A j)) (L (A j)) (loW (Z 7) (p_many Z G x) (G 2) (G 4 j))
      rw [ec]
      refine ⟨y0, y1, y2, ⟨y, ya, by omega, ?_⟩, y4, ?_, fun hh v hv => by
        rw [y6 hh v hv]
        unfold loW upd
        rw [if_neg (by omega)]⟩
      · change nI (y - Z 7 - p_many Z G x) = nI (y - (Z 7 + p_many Z G x))
        rw [Nat.sub_sub]
      · change C (A j) 5 + nI (cn (fun q => seeB (C (A j)) (G 2 q)) (y - Z 7) (p_many Z G x - (y - Z 7))) = G 4 j 4 + nI (cn (fun i => sW (Z 7) (G 4 j) (G 2 i) i) 0 (p_many Z G x))
        rw [y5, ← cn_from]
        refine congrArg (fun q => G 4 j 4 + nI q) (cn_cg _ _ fun q _ hq => ?_)
        rw [sW_eq ya (by omega) (by omega)]
        rw [seeB_cg y0 y1 y2 rfl rfl]
theorem st_compactFor (h : SR s b r Z G) (hB : B ≤ b) (hx : ¬ x < 0) (ht : Z 7 + Z 6 < 2 ^ 31) : (x ≤ nI (Z 1) → cl_ tb_ct tb_mt B K_X8_compactFor [.ref b, .int x] s = some (.inl (some (.int (-2000000001))), s)) ∧ (¬ x ≤ nI (Z 1) → ¬ x ≤ nI r → cl_ tb_ct tb_mt B K_X8_compactFor [.ref b, .int x] s = some (.inl (some (.int (-2000000002))), s)) ∧ (¬ x ≤ nI (Z 1) → x ≤ nI r → ∃ s', cl_ tb_ct tb_mt B K_X8_compactFor [.ref b, .int x] s = some (.inl (some (.int (nI (p_many Z G x)))), s') ∧ so s s' b (b + 218) ∧ SR s' b r (p_co Z G x).1 (p_co Z G x).2) := by
  refine ⟨fun h1 => ?_, fun h1 h2 => ?_, fun h1 h2 => ?_⟩
  · rw [in_X8_compactFor, dc_X8_compactFor_0]
    simp only [sr_6 h, eI_s, if_neg (Int32.not_lt.mpr h1)]
  · rw [in_X8_compactFor, dc_X8_compactFor_0]
    simp only [sr_6 h, eI_s, if_pos (Int32.not_le.mp h1), sr_5 h, if_neg h2]
  · obtain ⟨s', e, o, hs⟩ := st_compactTo h hB hx ht
    refine ⟨s', ?_, o, hs⟩
    rw [in_X8_compactFor, dc_X8_compactFor_0]
    simp only [sr_6 h, eI_s, if_pos (Int32.not_le.mp h1), sr_5 h, if_pos h2, sr_cls h, eC_s, e, cI_s]
/-- behind a change -/
def p_se : Nat → nmT × rwT → nmT × rwT
  | 0, σ => σ
  | k + 1, σ => if σ.1 6 ≤ 120 then σ else p_se k (p_co σ.1 σ.2 (σ.2 2 0 0))
theorem p_se_done {σ : nmT × rwT} (h : σ.1 6 ≤ 120) : ∀ k, p_se k σ = σ
  | 0 => rfl
  | k + 1 => by
    unfold p_se
    rw [if_pos h]
theorem st_settle_lp (hB : B ≤ b) : ∀ k i s w1 Z G, i + k = 152 → SR s b r Z G → Z 7 + Z 6 < 2 ^ 31 → (∀ j, j < Z 6 → ¬ G 2 j 0 < 0) → ∃ s', rn_ tb_ct tb_mt B mm_X8_endChange 45 [.ref b, w1, .int (nI i), am_un] [] s = some (.inl none, s') ∧ so s s' b (b + 218) ∧ SR s' b r (p_se k (Z, G)).1 (p_se k (Z, G)).2 := by
  intro k
  induction k with
  | zero =>
    intro i s w1 Z G hi h ht hv
    refine ⟨s, ?_, so_rfl, h⟩
    rw [dc_X8_endChange_45, if_pos (show (152 : Int32) ≤ nI i from nI_le (a := 152) (by omega) (by omega))]
  | succ k ih =>
    intro i s w1 Z G hi h ht hv
    unfold p_se
    have n6 := h.n6
    by_cases h6 : Z 6 ≤ 120
    · rw [if_pos h6]
      refine ⟨s, ?_, so_rfl, h⟩
      rw [dc_X8_endChange_45, if_neg (show ¬ (152 : Int32) ≤ nI i from nI_ge (b := 152) (by omega) (by omega))]
      simp only [sr_e h, eA_s, sr_en h, eI_s, if_pos (show nI (Z 6) ≤ (120 : Int32) from nI_le (b := 120) h6 (by omega))]
    · rw [if_neg h6]
      obtain ⟨a, ea, ca, -⟩ := ew_at (B := B) h.ew (show 0 < Z 6 by omega)
      rw [nI_0] at ea
      obtain ⟨s1, e1, o1, h1⟩ := st_compactTo (B := B) h hB (hv 0 (by omega)) ht
      have pm : p_many Z G (G 2 0 0) ≤ Z 6 := p_many_le
      obtain ⟨s2, e2, o2, h2⟩ := ih (i + 1) s1 am_un _ _ (by omega) h1 (by
        change (Z 7 + p_many Z G (G 2 0 0)) + (Z 6 - p_many Z G (G 2 0 0)) < 2 ^ 31
        omega) (fun j hj => hv _ (by
        change j < Z 6 - p_many Z G (G 2 0 0) at hj
        omega))
      refine ⟨s2, ?_, so_tr o1 o2, h2⟩
      rw [dc_X8_endChange_45, if_neg (show ¬ (152 : Int32) ≤ nI i from nI_ge (b := 152) (by omega) (by omega))]
      simp only [sr_e h, eA_s, sr_en h, eI_s, if_neg (show ¬ nI (Z 6) ≤ (120 : Int32) from nI_ge (a := 120) (by omega) (by omega)), sr_ec h, eC_s, ea, cA_s, ec_0 ca, sr_cls h, e1, cI_s]
      rw [← e2]
      exact (dc_X8_endChange_86 b (nI i) _ s1).trans (by rw [nI_1])
theorem st_endChange_no (h : SR s b r Z G) (hE : Z 6 = 0 ∨ G 2 (Z 6 - 1) 0 ≤ nI r) : cl_ tb_ct tb_mt B K_X8_endChange [.ref b] s = some (.inl none, s) := by
  have n6 := h.n6
  rw [in_X8_endChange, dc_X8_endChange_0]
  simp only [sr_e h, eA_s, sr_en h, eI_s, sr_ec h, eC_s]
  by_cases h0 : Z 6 = 0
  · rw [h0, show nI 0 - 1 = (-1 : Int32) by decide, ew_at_no h.ew (x := -1) (Or.inl (by decide))]
    simp only [cA_n]
  · obtain ⟨a, ea, ca, -⟩ := ew_at (B := B) h.ew (show Z 6 - 1 < Z 6 by omega)
    rw [nI_sub1 (by omega), ea]
    simp only [cA_s, ec_0 ca, eI_s, sr_5 h, if_neg (Int32.not_lt.mpr (hE.resolve_left h0))]
theorem st_endChange (h : SR s b r Z G) (hB : B ≤ b) (h0 : 0 < Z 6) (hE : nI r < G 2 (Z 6 - 1) 0) (ht : Z 7 + Z 6 < 2 ^ 31) (hv : ∀ j, j < Z 6 → ¬ G 2 j 0 < 0) : ∃ s', cl_ tb_ct tb_mt B K_X8_endChange [.ref b] s = some (.inl none, s') ∧ so s s' b (b + 218) ∧ SR s' b (r + 1) (p_se 152 (Z, G)).1 (p_se 152 (Z, G)).2 := by
  have n6 := h.n6
  obtain ⟨a, ea, ca, -⟩ := ew_at (B := B) h.ew (show Z 6 - 1 < Z 6 by omega)
  have h1 : SR (am_set s b (.inr (7, stO (upd (sv r Z) 5 (nI (r + 1))) b))) b (r + 1) Z G := h.setO ⟨rfl, rfl, rfl, rfl, rfl, rfl, rfl, rfl⟩ so_set (SO.cg set_at fun k k1 k2 => by
    match k, k1, k2 with
    | 5, _, _ => rfl
    | 6, _, _ => rfl
    | 7, _, _ => rfl
    | 8, _, _ => rfl
    | 9, _, _ => rfl
    | 10, _, _ => rfl
    | k + 11, _, k2 => omega)
  obtain ⟨s2, e2, o2, h2⟩ := st_settle_lp (B := B) hB 152 0 _ (.ref a) Z G (by omega) h1 ht hv
  refine ⟨s2, ?_, so_tr (so_up so_set (by omega) (by omega)) o2, h2⟩
  rw [in_X8_endChange, dc_X8_endChange_0]
  simp only [sr_e h, eA_s, sr_en h, eI_s, sr_ec h, eC_s]
  rw [nI_sub1 h0, ea]
  simp only [cA_s, ec_0 ca, eI_s, sr_5 h, if_pos hE, nI_1, so_p h.o hB (show 5 ≤ 5 ∧ 5 ≤ 10 by omega), eS_s]
  rw [nI_0] at e2
  exact e2
end Co
