/-! ===== WatchedKeys: calls (5): busiest; snapshots; what load told ===== -/
section Ce
variable {s s' : am_S} {B x nb sb lo u i a c n : Nat} {σ : stT} {key v l f t y z : Int32} {k : Nat → Int32}
theorem jd_fill_lp (hB : B ≤ a) (hn : n < 2 ^ 31) : ∀ k i s g, i + k = n → s.1 a = some (.inl (.int, n, .inl g)) → (∀ j, j < i → g j = y) → ∃ (s' : am_S) (g' : Nat → Int32), rn_ tb_ct tb_mt B mm_J7_fill_53178 5 [.ref a, .int y, .int (nI i), .int (nI n)] [] s = some (.inl none, s') ∧ so s s' a (a + 1) ∧ s'.1 a = some (.inl (.int, n, .inl g')) ∧ ∀ j, j < n → g' j = y := by
  intro k
  induction k with
  | zero =>
    intro i s g hi h hg
    refine ⟨s, g, ?_, so_rfl, h, fun j hj => hg j (by omega)⟩
    rw [dc_J7_fill_53178_5, if_pos (nI_le (show n ≤ i by omega) (by omega))]
  | succ k ih =>
    intro i s g hi h hg
    obtain ⟨s', g', e, o, z, w⟩ := ih (i + 1) (am_set s a (.inl (.int, n, .inl (upd g i y)))) (upd g i y) (by omega) set_at (fun j hj => by
      unfold upd
      by_cases hji : j = i
      · rw [if_pos hji]
      · rw [if_neg hji]
        exact hg j (by omega))
    refine ⟨s', g', ?_, ⟨fun q hq => (o.1 q hq).trans (set_ne (by omega)), o.2⟩, z, w⟩
    rw [dc_J7_fill_53178_5, if_neg (nI_ge (show i < n by omega) hn), wI_o h (show i < n by omega) hn hB, eS_s, nI_1]
    exact e
theorem jd_fill (hB : B ≤ a) (hn : n < 2 ^ 31) {g : Nat → Int32} (h : s.1 a = some (.inl (.int, n, .inl g))) : ∃ (s' : am_S) (g' : Nat → Int32), cl_ tb_ct tb_mt B K_J7_fill_53178 [.ref a, .int y] s = some (.inl none, s') ∧ so s s' a (a + 1) ∧ s'.1 a = some (.inl (.int, n, .inl g')) ∧ ∀ j, j < n → g' j = y := by
  obtain ⟨s', g', e, o, z, w⟩ := jd_fill_lp (B := B) (y := y) hB hn n 0 s g (by omega) h (fun j hj => absurd hj (Nat.not_lt_zero _))
  refine ⟨s', g', ?_, o, z, w⟩
  rw [in_J7_fill_53178, dc_J7_fill_53178_0, al_o h, eK_s]
  rw [nI_0] at e
  exact e
/-- what the events say of a key up to an event -/
theorem cn_snoc (p : Nat → Bool) (i : Nat) : cn p 0 (i + 1) = cn p 0 i + (if p i = true then 1 else 0) := by
  rw [cn_add, Nat.zero_add]
  rfl
theorem c_tally_lp (hB : B ≤ x) (hn : x < nb ∧ nb + 218 ≤ x + 437) (hik : ∀ e, e < σ.1 6 → kOk (σ.2 2 e 2)) (h6 : σ.1 6 ≤ 152) : ∀ m i s g, i + m = σ.1 6 → XO s x nb sb → SS s nb σ → s.1 (x + 491) = some (.inl (.int, 1000, .inl g)) → (∀ j, j < 1000 → g j = nI (cn (fun e => decide (σ.2 2 e 2 = nI j)) 0 i)) → ∃ (s' : am_S) (g' : Nat → Int32), rn_ tb_ct tb_mt B mm_X12_busiest 10 [.ref x, .int (nI i), am_un, am_un] [] s = rn_ tb_ct tb_mt B mm_X12_busiest 84 [.ref x, .int (-1), .int 0, .int 0] [] s' ∧ so s s' (x + 491) (x + 492) ∧ s'.1 (x + 491) = some (.inl (.int, 1000, .inl g')) ∧ ∀ j, j < 1000 → g' j = nI (q_wrs σ (nI j)) := by
  intro m
  induction m with
  | zero =>
    intro i s g hi ho hs ht hg
    refine ⟨s, g, ?_, so_rfl, ht, fun j hj => ?_⟩
    · rw [dc_X12_busiest_10]
      simp only [xo_0 ho, eA_s, sr_e hs, sr_en hs, eI_s]
      rw [if_pos (nI_le (show σ.1 6 ≤ i by omega) (by omega))]
    · rw [hg j hj, show i = σ.1 6 by omega]
      rfl
  | succ m ih =>
    intro i s g hi ho hs ht hg
    obtain ⟨a, e1, ec, -⟩ := ew_at (B := B) hs.ew (show i < σ.1 6 by omega)
    obtain ⟨p1, p2⟩ := hik i (by omega)
    obtain ⟨j0, hj0, ej⟩ := nI_of2 (M := 999) (n := 999) rfl p1 p2
    have ss0 : so s (am_set s (x + 491) (.inl (.int, 1000, .inl (upd g j0 (g j0 + 1))))) (x + 491) (x + 492) := so_set
    have hs' := hs.at (s' := am_set s (x + 491) (.inl (.int, 1000, .inl (upd g j0 (g j0 + 1))))) fun q _ _ => ss0.1 q (by omega)
    obtain ⟨s', g', e, o, z, w⟩ := ih (i + 1) (am_set s (x + 491) (.inl (.int, 1000, .inl (upd g j0 (g j0 + 1))))) (upd g j0 (g j0 + 1)) (by omega) ((ss0.1 x (by omega)).trans ho) hs' set_at (fun j hj => by
      rw [cn_snoc]
      unfold upd
      by_cases hjj : j = j0
      · subst hjj
        rw [if_pos rfl, hg j hj, if_pos (decide_eq_true ej), nI_1]
      · rw [if_neg hjj, hg j hj, if_neg (by
          rw [decide_eq_true_eq, ej, nI_eq (by omega) (by omega)]
          omega), Nat.add_zero])
    refine ⟨s', g', ?_, ⟨fun q hq => (o.1 q hq).trans (ss0.1 q hq), o.2⟩, z, w⟩
    rw [dc_X12_busiest_10]
    simp only [xo_0 ho, eA_s, sr_e hs, sr_en hs, eI_s, sr_ec hs, eC_s, e1, cA_s, ec_2 ec]
    rw [if_neg (nI_ge (show i < σ.1 6 by omega) (by omega)), if_neg p1]
    simp only [xo_7 ho, eA_s, al_o ht, eK_s]
    rw [ej, if_neg (show ¬ Int32.ofNat 1000 ≤ nI j0 from nI_ge (a := j0) (b := 1000) (by omega) (by omega)), aI_o ht (show j0 < 1000 by omega) (by omega), eI_s, wI_o ht (show j0 < 1000 by omega) (by omega) (show B ≤ x + 491 by omega), eS_s, dc_X12_busiest_72, nI_1]
    exact e
theorem c_best_lp {g : Nat → Int32} (ho : XO s x nb sb) (ht : s.1 (x + 491) = some (.inl (.int, 1000, .inl g))) : ∀ m i b mo, i + m = 1000 → rn_ tb_ct tb_mt B mm_X12_busiest 84 [.ref x, .int b, .int mo, .int (nI i)] [] s = some (.inl (some (.int (q_best g i m b mo))), s) := by
  intro m
  induction m with
  | zero =>
    intro i b mo hi
    rw [dc_X12_busiest_84]
    simp only [xo_7 ho, eA_s, al_o ht, eK_s]
    rw [if_pos (show Int32.ofNat 1000 ≤ nI i from nI_le (a := 1000) (by omega) (by omega))]
    rfl
  | succ m ih =>
    intro i b mo hi
    rw [dc_X12_busiest_84]
    simp only [xo_7 ho, eA_s, al_o ht, eK_s]
    rw [if_neg (show ¬ Int32.ofNat 1000 ≤ nI i from nI_ge (a := i) (b := 1000) (by omega) (by omega)), aI_o ht (show i < 1000 by omega) (by omega), eI_s]
    unfold q_best
    by_cases hc : g i ≤ mo
    · rw [if_pos hc, if_pos hc, dc_X12_busiest_112, nI_1]
      exact ih (i + 1) b mo (by omega)
    · rw [if_neg hc, if_neg hc, eI_s, dc_X12_busiest_112, nI_1]
      exact ih (i + 1) (nI i) (g i) (by omega)
theorem q_best_cg {T T' : Nat → Int32} : ∀ k i b m, (∀ j, i ≤ j → j < i + k → T j = T' j) → q_best T i k b m = q_best T' i k b m
  | 0, _, _, _, _ => rfl
  | k + 1, i, b, m, h => by
    unfold q_best
    rw [h i (by omega) (by omega), q_best_cg k (i + 1) b m fun j h1 h2 => h j (by omega) (by omega), q_best_cg k (i + 1) (nI i) (T' i) fun j h1 h2 => h j (by omega) (by omega)]
theorem c_busiest (h : CX B s x nb sb u σ) : CO s x nb (cl_ tb_ct tb_mt B K_X12_busiest [.ref x] s) true (.int (q_busy σ)) σ := by
  refine ⟨fun _ => ?_, fun hc => by cases hc⟩
  have hn := h.n
  have n6 := h.a.2.2.1
  obtain ⟨h1, h2, g, h3⟩ := h.p
  obtain ⟨s1, g1, e1, o1, z1, w1⟩ := jd_fill (B := B) (y := 0) (show B ≤ x + 491 by omega) (by omega) h3
  have x1 : XO s1 x nb sb := (o1.1 x (by omega)).trans h.o
  have y1 : SS s1 nb σ := h.ss.at fun q _ _ => o1.1 q (by omega)
  obtain ⟨s2, g2, e2, o2, z2, w2⟩ := c_tally_lp (B := B) (x := x) (nb := nb) (sb := sb) (σ := σ) hn.2.2.2 ⟨hn.1, hn.2.1⟩ (fun e he => (h.a.1.2.2.1 e he).1) (by omega) (σ.1 6) 0 s1 g1 (by omega) x1 y1 z1 (fun j hj => (w1 j hj).trans rfl)
  have x2 : XO s2 x nb sb := (o2.1 x (by omega)).trans x1
  refine ⟨s2, ?_, ⟨fun q _ q2 => (o2.1 q (by omega)).trans (o1.1 q (by omega)), o2.2.trans o1.2⟩, y1.at fun q _ _ => o2.1 q (by omega), ?_⟩
  · rw [in_X12_busiest, dc_X12_busiest_0]
    simp only [xo_7 h.o, eA_s, e1, cV_s]
    rw [nI_0] at e2
    rw [e2]
    have := c_best_lp (B := B) x2 z2 1000 0 (-1) 0 (by omega)
    rw [nI_0] at this
    rw [this, q_busy, q_best_cg 1000 0 (-1) 0 fun j _ hj => w2 j (by omega)]
  · obtain ⟨n1, K1, k1⟩ := h1
    obtain ⟨n2, K2, k2⟩ := h2
    exact ⟨⟨n1, K1, k1.at fun q _ _ => (o2.1 q (by omega)).trans (o1.1 q (by omega))⟩, ⟨n2, K2, k2.at fun q _ _ => (o2.1 q (by omega)).trans (o1.1 q (by omega))⟩, g2, z2⟩
/-! snapshots: a slot holds nothing, or a store above all that the constructor made -/
def q_slot (x lo : Nat) (D : Nat → Option (Nat × stT)) (s : am_S) : Prop := s.1 (x + 437) = some (.inl (.object "WatchedKeys$Store", 2, .inr (.inr (.inr (.inr fun i => (D i).map fun p => p.1))))) ∧ ∀ i, i < 2 → ∀ a τ, D i = some (a, τ) → lo ≤ a ∧ a + 218 ≤ s.2.1 ∧ SS s a τ ∧ ∀ j, j < 2 → j ≠ i → ∀ b τ', D j = some (b, τ') → a + 218 ≤ b ∨ b + 218 ≤ a
theorem nI_01 {y : Int32} (h1 : ¬ y < 0) (h2 : y < 2) : y = nI 0 ∨ y = nI 1 := by
  obtain ⟨j, hj, e⟩ := nI_of h1
  subst e
  have : j < 2 := (nI_ltI (b := 2) hj (by omega)).mp h2
  have : j = 0 ∨ j = 1 := by omega
  rcases this with e | e
  · rw [e]
    exact Or.inl rfl
  · rw [e]
    exact Or.inr rfl
theorem c_save_no (h : CX B s x nb sb u σ) {D : Nat → Option (Nat × stT)} (hd : q_slot x lo D s) (hy : y < 0 ∨ 2 ≤ y) : cl_ tb_ct tb_mt B K_X12_saveSnapshot [.ref x, .int y] s = some (.inr 0, am_bump s) := by
  rw [in_X12_saveSnapshot, dc_X12_saveSnapshot_0]
  by_cases h1 : y < 0
  · rw [if_pos h1, dc_X12_saveSnapshot_13]
    rfl
  · rw [if_neg h1]
    simp only [xo_2 h.o, eA_s, al_o hd.1, eK_s]
    rw [if_neg (show ¬ y < Int32.ofNat 2 from Int32.not_lt.mpr (hy.resolve_left h1)), dc_X12_saveSnapshot_13]
    rfl
theorem c_restore_no (h : CX B s x nb sb u σ) {D : Nat → Option (Nat × stT)} (hd : q_slot x lo D s) (hy : y < 0 ∨ 2 ≤ y) : cl_ tb_ct tb_mt B K_X12_restoreSnapshot [.ref x, .int y] s = some (.inr 0, am_bump s) := by
  rw [in_X12_restoreSnapshot, dc_X12_restoreSnapshot_0]
  by_cases h1 : y < 0
  · rw [if_pos h1, dc_X12_restoreSnapshot_13]
    rfl
  · rw [if_neg h1]
    simp only [xo_2 h.o, eA_s, al_o hd.1, eK_s]
    rw [if_neg (show ¬ y < Int32.ofNat 2 from Int32.not_lt.mpr (hy.resolve_left h1)), dc_X12_restoreSnapshot_13]
    rfl
theorem c_save47 {τ : stT} (hB : B ≤ x) (hn : x < nb ∧ nb + 218 ≤ x + 437) (ho : XO s x nb sb) (hs : SS s nb σ) (ht : SS s a τ) (ha : x + 492 ≤ a) : ∃ s', rn_ tb_ct tb_mt B mm_X12_saveSnapshot 47 [.ref x, .int y, .ref a] [] s = some (.inl (some (.int (nI (σ.1 0)))), s') ∧ so s s' a (a + 218) ∧ SS s' a σ := by
  obtain ⟨s', e, o, hh⟩ := st_copyFrom (B := B) (b := a) (c := nb) ht hs (Or.inl (by omega)) (by omega)
  refine ⟨s', ?_, o, hh⟩
  have hs' : SS s' nb σ := hs.at fun q _ _ => o.1 q (by omega)
  rw [dc_X12_saveSnapshot_47]
  simp only [xo_0 ho, eA_s, sr_cls ht, eC_s, e, cV_s, xo_0 (show XO s' x nb sb from (o.1 x (by omega)).trans ho), sr_5 hs', eI_s]
theorem c_save (h : CX B s x nb sb u σ) {D : Nat → Option (Nat × stT)} (hd : q_slot x lo D s) (hl : x + 492 ≤ lo) (hx : lo ≤ s.2.1) {g : Nat} (hg : g < 2) : ∃ s' a, cl_ tb_ct tb_mt B K_X12_saveSnapshot [.ref x, .int (nI g)] s = some (.inl (some (.int (nI (σ.1 0)))), s') ∧ q_slot x lo (va_up D g (some (a, σ))) s' ∧ (∀ q, q < s.2.1 → q ≠ x + 437 → (∀ b τ, D g = some (b, τ) → q < b ∨ b + 218 ≤ q) → s'.1 q = s.1 q) ∧ s.2.1 ≤ s'.2.1 ∧ s'.2.1 ≤ s.2.1 + 218 ∧ s.2.2.1 ≤ s'.2.2.1 ∧ s'.2.2.1 ≤ s.2.2.1 + 1612 ∧ s'.2.2.2 = s.2.2.2 := by
  have hn := h.n
  have e0 : ∀ R : am_R, (if nI g < 0 then rn_ tb_ct tb_mt B mm_X12_saveSnapshot 13 [.ref x, .int (nI g), am_un] [] s else R) = R := fun R => if_neg (nI_pos (by omega))
  cases hD : D g with
  | some p =>
    obtain ⟨a, τ⟩ := p
    obtain ⟨d1, d2, d3, d4⟩ := hd.2 g hg a τ hD
    obtain ⟨s', e, o, hh⟩ := c_save47 (B := B) (y := nI g) hn.2.2.2 ⟨hn.1, hn.2.1⟩ h.o h.ss d3 (by omega)
    have oe : s'.2 = s.2 := o.2
    refine ⟨s', a, ?_, ⟨?_, fun i hi b τ' hb => ?_⟩, fun q q1 q2 q3 => o.1 q (by have := q3 a τ rfl; omega), by rw [oe]; omega, by rw [oe]; omega, by rw [oe]; omega, by rw [oe]; omega, by rw [oe]⟩
    · rw [in_X12_saveSnapshot, dc_X12_saveSnapshot_0, e0]
      simp only [xo_2 h.o, eA_s, al_o hd.1, eK_s]
      rw [if_pos (show nI g < Int32.ofNat 2 from nI_lt (b := 2) hg (by omega)), aA_o hd.1 hg (by omega), hD]
      exact e
    · rw [o.1 _ (by omega), hd.1]
      refine congrArg (fun f => some (Sum.inl (FieldType.object "WatchedKeys$Store", 2, Sum.inr (Sum.inr (Sum.inr (Sum.inr f)))))) (funext fun i => ?_)
      by_cases hi : i = g
      · rw [hi, va_us, hD]
        rfl
      · rw [va_un hi]
    · rw [oe]
      by_cases hig : i = g
      · subst hig
        rw [va_us] at hb
        cases hb
        refine ⟨d1, d2, hh, fun j hj hji b τ' hb => ?_⟩
        rw [va_un hji] at hb
        exact d4 j hj hji b τ' hb
      · rw [va_un hig] at hb
        obtain ⟨f1, f2, f3, f4⟩ := hd.2 i hi b τ' hb
        have dis := f4 g hg (fun hc => hig hc.symm) a τ hD
        refine ⟨f1, f2, f3.at fun q _ _ => o.1 q (by omega), fun j hj hji b' τ2 hb' => ?_⟩
        by_cases hjg : j = g
        · subst hjg
          rw [va_us] at hb'
          cases hb'
          exact dis
        · rw [va_un hjg] at hb'
          exact f4 j hj hji b' τ2 hb'
  | none =>
    obtain ⟨s1, w1, z1, n1, f1, c1⟩ := nw_ex (s := s) s.2.1 rfl (.inr (7, [.null, .null, .null, .null, .null, .int 0, .int 0, .int 0, .int 0, .int 0, .int 0])) 11
    obtain ⟨s2, e2, a2, h2⟩ := st_init (B := B) (b := s.2.1) (by omega) z1 n1
    have b1 := c1 s.2.1 (Nat.le_refl _)
    have u2 : ∀ q, q < s.2.1 → s2.1 q = s.1 q := fun q hq => (a2.1 q hq).trans (f1 q (by omega))
    have q2 : s2.2.1 = s.2.1 + 218 := by rw [a2.2.1, n1]
    have r2 : s2.2.2.1 = s.2.2.1 + 1612 := by rw [a2.2.2.1, b1.2.2.1]
    have t2 : s2.2.2.2 = s.2.2.2 := a2.2.2.2.trans b1.2.2.2
    have x2 : XO s2 x nb sb := (u2 x (by omega)).trans h.o
    have y2 : SS s2 nb σ := h.ss.at fun q _ _ => u2 q (by omega)
    have v2 := (u2 (x + 437) (by omega)).trans hd.1
    obtain ⟨s3, w3, z3, n3, f3, c3⟩ := se_ex (s := s2) (x + 437) (.inl (.object "WatchedKeys$Store", 2, .inr (.inr (.inr (.inr (va_up (fun i => (D i).map fun p => p.1) g (some s.2.1)))))))
    have x3 : XO s3 x nb sb := (f3 x (by omega)).trans x2
    have y3 : SS s3 nb σ := y2.at fun q _ _ => f3 q (by omega)
    have h3 : SS s3 s.2.1 p_new := h2.at fun q _ _ => f3 q (by omega)
    obtain ⟨s', e, o, hh⟩ := c_save47 (B := B) (y := nI g) hn.2.2.2 ⟨hn.1, hn.2.1⟩ x3 y3 h3 (by omega)
    have oe : s'.2 = s2.2 := by
      rw [o.2, ← w3]
      rfl
    refine ⟨s', s.2.1, ?_, ⟨?_, fun i hi b τ' hb => ?_⟩, fun q q1 q2 _ => (o.1 q (by omega)).trans ((f3 q q2).trans (u2 q (by omega))), by rw [oe]; omega, by rw [oe]; omega, by rw [oe]; omega, by rw [oe]; omega, by rw [oe]; exact t2⟩
    · rw [in_X12_saveSnapshot, dc_X12_saveSnapshot_0, e0]
      simp only [xo_2 h.o, eA_s, al_o hd.1, eK_s]
      rw [if_pos (show nI g < Int32.ofNat 2 from nI_lt (b := 2) hg (by omega)), aA_o hd.1 hg (by omega), hD]
      simp only [Option.map_none, eA_n]
      rw [nwO_s df_7]
      change (fun b_5 s_6 => eC (am_cls s_6 b_5) 7 (cV (cl_ tb_ct tb_mt B K_X8_init [.ref b_5] s_6) _ xo)) s.2.1 (am_new s _ 11) = _
      rw [w1]
      dsimp only
      rw [cls_o z1, e2]
      simp only [eC_s, cV_s, xo_2 x2, eA_s]
      rw [wA_o (cv := 7) v2 (sr_cls h2) rfl hg (by omega) (show B ≤ x + 437 by omega), w3, eS_s]
      exact e
    · rw [o.1 _ (by omega), z3]
      refine congrArg (fun f => some (Sum.inl (FieldType.object "WatchedKeys$Store", 2, Sum.inr (Sum.inr (Sum.inr (Sum.inr f)))))) (funext fun i => ?_)
      by_cases hi : i = g
      · rw [hi, va_us, va_us]
        rfl
      · rw [va_un hi, va_un hi]
    · rw [oe, q2]
      by_cases hig : i = g
      · subst hig
        rw [va_us] at hb
        cases hb
        refine ⟨hx, Nat.le_refl _, hh, fun j hj hji b τ' hb => ?_⟩
        rw [va_un hji] at hb
        obtain ⟨f1, f2, -⟩ := hd.2 j hj b τ' hb
        omega
      · rw [va_un hig] at hb
        obtain ⟨m1, m2, m3, m4⟩ := hd.2 i hi b τ' hb
        refine ⟨m1, by omega, m3.at fun q _ _ => (o.1 q (by omega)).trans ((f3 q (by omega)).trans (u2 q (by omega))), fun j hj hji b' τ2 hb' => ?_⟩
        by_cases hjg : j = g
        · subst hjg
          rw [va_us] at hb'
          cases hb'
          omega
        · rw [va_un hjg] at hb'
          exact m4 j hj hji b' τ2 hb'
theorem c_restore (h : CX B s x nb sb u σ) {D : Nat → Option (Nat × stT)} (hd : q_slot x lo D s) (hl : x + 492 ≤ lo) {g : Nat} (hg : g < 2) : (D g = none → cl_ tb_ct tb_mt B K_X12_restoreSnapshot [.ref x, .int (nI g)] s = some (.inl (some (.int (-1))), s)) ∧ ∀ a τ, D g = some (a, τ) → ∃ s', cl_ tb_ct tb_mt B K_X12_restoreSnapshot [.ref x, .int (nI g)] s = some (.inl (some (.int (nI (τ.1 0)))), s') ∧ so s s' nb (nb + 218) ∧ SS s' nb τ := by
  have hn := h.n
  have e0 : ∀ R : am_R, (if nI g < 0 then rn_ tb_ct tb_mt B mm_X12_restoreSnapshot 13 [.ref x, .int (nI g), am_un] [] s else R) = R := fun R => if_neg (nI_pos (by omega))
  refine ⟨fun hD => ?_, fun a τ hD => ?_⟩
  · rw [in_X12_restoreSnapshot, dc_X12_restoreSnapshot_0, e0]
    simp only [xo_2 h.o, eA_s, al_o hd.1, eK_s]
    rw [if_pos (show nI g < Int32.ofNat 2 from nI_lt (b := 2) hg (by omega)), aA_o hd.1 hg (by omega), hD]
    rfl
  · obtain ⟨d1, d2, d3, d4⟩ := hd.2 g hg a τ hD
    obtain ⟨s', e, o, hh⟩ := st_copyFrom (B := B) (b := nb) (c := a) h.ss d3 (Or.inr (by omega)) hn.2.2.1
    refine ⟨s', ?_, o, hh⟩
    rw [in_X12_restoreSnapshot, dc_X12_restoreSnapshot_0, e0]
    simp only [xo_2 h.o, eA_s, al_o hd.1, eK_s]
    rw [if_pos (show nI g < Int32.ofNat 2 from nI_lt (b := 2) hg (by omega)), aA_o hd.1 hg (by omega), hD]
    simp only [Option.map_some, xo_0 h.o, eA_s, sr_cls h.ss, eC_s, e, cV_s, xo_0 (show XO s' x nb sb from (o.1 x (by omega)).trans h.o), sr_5 hh, eI_s]
end Ce
