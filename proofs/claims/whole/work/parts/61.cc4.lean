/-! ===== WatchedKeys: calls (4): watches, busiest ===== -/
def bIx (y : Int32) (n : Nat) : Bool := !decide (y < 0) && decide (y < nI n)
def p_watch (σ : stT) (f t y k : Int32) : Int32 × stT := if σ.1 5 = 8 then (-2, σ) else if ¬ y ≤ nI (σ.1 0 + 1) then (-2000000002, σ) else (nI (σ.1 5), (va_up σ.1 5 (σ.1 5 + 1), va_up σ.2 4 (va_up (σ.2 4) (σ.1 5) (w12 f t k (nI (σ.1 7 + p_first (σ.2 2) (σ.1 6) y))))))
def p_unw (σ : stT) (i : Nat) : stT := (va_up σ.1 5 (σ.1 5 - 1), va_up σ.2 4 (delR (σ.2 4) i (σ.1 5)))
def p_rws (σ : stT) (i : Nat) (y : Int32) : stT := upW σ i (upd (upd (σ.2 4 i) 4 0) 3 (nI (σ.1 7 + p_first (σ.2 2) (σ.1 6) y)))
def p_rew (σ : stT) (i : Nat) (y : Int32) : Int32 × stT := if ¬ y ≤ nI (σ.1 0 + 1) then (-2000000002, σ) else (nI (p_wt (p_rws σ i y) i), p_rws σ i y)
def p_adm (σ : stT) (i : Nat) : Int32 × stT := (σ.2 4 i 4, upW σ i (upd (σ.2 4 i) 4 0))
def q_safe (σ : stT) : Nat → Nat → Int32 → Int32
  | _, 0, m => m
  | i, k + 1, m => q_safe σ (i + 1) k (if p_ear σ i = -1 then m else if p_ear σ i < m then p_ear σ i else m)
def q_slow (σ : stT) : Nat → Nat → Int32 → Int32 → Int32
  | _, 0, b, _ => b
  | i, k + 1, b, m => if nI (p_wt σ i) ≤ m then q_slow σ (i + 1) k b m else q_slow σ (i + 1) k (nI i) (nI (p_wt σ i))
def q_sumW (σ : stT) : Nat → Nat → Nat
  | _, 0 => 0
  | i, k + 1 => p_wt σ i + q_sumW σ (i + 1) k
def q_lag (σ : stT) : UInt32 := if σ.1 5 = 0 then FP.fconst0 else FP.fdiv (FP.i2f (nI (q_sumW σ 0 (σ.1 5)))) (FP.i2f (nI (σ.1 5)))
def q_beh (σ : stT) (i : Nat) : Int32 := if p_ear σ i = -1 then 0 else (nI (σ.1 0) - p_ear σ i) + 1
def q_mis (σ : stT) (y : Int32) (i : Nat) : Bool := !decide (p_ear σ i = -1) && !decide (y < p_ear σ i)
section Cd
variable {s s' : am_S} {B x nb sb u i a c n : Nat} {σ : stT} {key v l f t y z : Int32} {k : Nat → Int32}
theorem bIxN (hn : n < 2 ^ 31) (h : bIx y n = true) : ∃ j, y = nI j ∧ j < n := by
  unfold bIx at h
  simp only [Bool.and_eq_true, Bool.not_eq_true', decide_eq_false_iff_not, decide_eq_true_eq] at h
  obtain ⟨j, hj, e⟩ := nI_of h.1
  subst e
  exact ⟨j, rfl, (nI_ltI hj hn).mp h.2⟩
theorem bIxF (h : bIx y n = false) : y < 0 ∨ nI n ≤ y := by
  unfold bIx at h
  by_cases h1 : y < 0
  · exact Or.inl h1
  · rw [decide_eq_false h1] at h
    simp only [Bool.not_false, Bool.true_and, decide_eq_false_iff_not] at h
    exact Or.inr (Int32.not_lt.mp h)
theorem c_needWatch_no (h : CX B s x nb sb u σ) (hy : bIx y (σ.1 5) = false) : cl_ tb_ct tb_mt B K_X12_needWatch [.ref x, .int y] s = some (.inr 1, am_bump s) := by
  rw [in_X12_needWatch, dc_X12_needWatch_0]
  simp only [xo_0 h.o, eA_s, sr_cls h.ss, eC_s, st_wat_no h.ss (bIxF hy), cA_n]
  rfl
theorem c_needWatch (h : CX B s x nb sb u σ) (ha : cl_ tb_ct tb_mt B K_X8_watchAt [.ref nb, .int (nI i)] s = some (.inl (some (.ref a)), s)) : cl_ tb_ct tb_mt B K_X12_needWatch [.ref x, .int (nI i)] s = some (.inl (some (.ref a)), s) := by
  rw [in_X12_needWatch, dc_X12_needWatch_0]
  simp only [xo_0 h.o, eA_s, sr_cls h.ss, eC_s, ha, cA_s]
theorem c_watch (h : CX B s x nb sb u σ) : CO s x nb (cl_ tb_ct tb_mt B K_X12_watch [.ref x, .int f, .int t, .int y, .int z] s) (bRange f t && (bNN y && bIn z 0 2)) (.int (p_watch σ f t y z).1) (p_watch σ f t y z).2 := by
  have e33 : CO s x nb (rn_ tb_ct tb_mt B mm_X12_watch 33 [.ref x, .int f, .int t, .int y, .int z] [.int 1] s) true (.int (p_watch σ f t y z).1) (p_watch σ f t y z).2 := by
    refine ⟨fun _ => h.ret ?_, fun hc => by cases hc⟩
    obtain ⟨c1, c2, c3⟩ := st_addWatch (B := B) h.ss h.n.2.2.1 h.tt f t y z
    have n5 := SR.n5 h.ss
    rw [dc_X12_watch_33, c_need1]
    unfold p_watch
    by_cases h8 : σ.1 5 = 8
    · rw [if_pos h8]
      refine ⟨s, ?_, so_rfl, h.ss⟩
      simp only [cV_s, xo_0 h.o, eA_s, sr_cls h.ss, eC_s, c1 h8, cI_s]
    · rw [if_neg h8]
      by_cases hy : y ≤ nI (σ.1 0 + 1)
      · rw [if_neg (fun hc => hc hy)]
        obtain ⟨s', e, o, hh⟩ := c3 (by omega) hy
        refine ⟨s', ?_, o, hh⟩
        simp only [cV_s, xo_0 h.o, eA_s, sr_cls h.ss, eC_s, e, cI_s]
      · rw [if_pos hy]
        refine ⟨s, ?_, so_rfl, h.ss⟩
        simp only [cV_s, xo_0 h.o, eA_s, sr_cls h.ss, eC_s, c2 (by omega) hy, cI_s]
  rw [in_X12_watch, dc_X12_watch_0]
  simp only [c_needRange, cVb]
  cases hk : bRange f t with
  | false => exact ⟨fun hc => (by cases hc), fun _ => rfl⟩
  | true =>
    simp only [if_true, Bool.true_and]
    by_cases hl : y < 0
    · rw [if_pos hl, dc_X12_watch_14, c_need0]
      refine ⟨fun hc => ?_, fun _ => rfl⟩
      rw [Bool.and_eq_true] at hc
      exact absurd hl (bNNN.mp hc.1)
    · rw [if_neg hl, dc_X12_watch_14, c_need1, bNNN.mpr hl]
      simp only [cV_s, Bool.true_and]
      have e32 : rn_ tb_ct tb_mt B mm_X12_watch 32 [.ref x, .int f, .int t, .int y, .int z] [] s = some (.inr 0, am_bump s) := by
        rw [dc_X12_watch_32, dc_X12_watch_33, c_need0]
        rfl
      have eb : bIn z 0 2 = (!decide (z < 0) && !decide ((2 : Int32) < z)) := rfl
      rw [eb]
      by_cases h1 : z < 0
      · rw [if_pos h1, decide_eq_true h1, e32]
        exact ⟨fun hc => (by cases hc), fun _ => rfl⟩
      · by_cases h2 : (2 : Int32) < z
        · rw [if_neg h1, if_pos h2, decide_eq_false h1, decide_eq_true h2, e32]
          exact ⟨fun hc => (by cases hc), fun _ => rfl⟩
        · rw [if_neg h1, if_neg h2, decide_eq_false h1, decide_eq_false h2]
          exact e33
theorem c_watchValue (h : CX B s x nb sb u σ) : CO2 s x nb (cl_ tb_ct tb_mt B K_X12_watchValue [.ref x, .int y, .int z] s) (bIx y (σ.1 5)) (bIn z 0 6) (.int (q_wv σ (nN y) z)) σ := by
  have n5 := SR.n5 h.ss
  have eb : bIn z 0 6 = (!decide (z < 0) && !decide ((6 : Int32) < z)) := rfl
  refine ⟨fun hc => ?_, fun h1 h2 => ?_, fun h1 h2 => ?_⟩
  · rw [in_X12_watchValue, dc_X12_watchValue_0]
    simp only [xo_cls h.o, eC_s, c_needWatch_no h hc, cA_x]
    rfl
  · obtain ⟨j, e, hj⟩ := bIxN (by omega) h1
    subst e
    obtain ⟨a, ea, -⟩ := st_wat (B := B) h.ss h.tt hj h.n.2.2.1
    have e20 : rn_ tb_ct tb_mt B mm_X12_watchValue 20 [.ref x, .int (nI j), .int z, va_rf (some a)] [] s = some (.inr 0, am_bump s) := by
      rw [dc_X12_watchValue_20]
      simp only [eA_s]
      rw [dc_X12_watchValue_21]
      simp only [eA_s]
      rw [c_need0]
      rfl
    rw [in_X12_watchValue, dc_X12_watchValue_0]
    simp only [xo_cls h.o, eC_s, c_needWatch h ea, cA_s, e20]
    by_cases z1 : z < 0
    · rw [if_pos z1]
    · by_cases z2 : (6 : Int32) < z
      · rw [if_neg z1, if_pos z2]
      · rw [eb, decide_eq_false z1, decide_eq_false z2] at h2
        cases h2
  · obtain ⟨j, e, hj⟩ := bIxN (by omega) h1
    subst e
    obtain ⟨w, hw, ew⟩ := bInN (m := 6) (by omega) h2
    rw [eb] at h2
    simp only [Bool.and_eq_true, Bool.not_eq_true', decide_eq_false_iff_not] at h2
    obtain ⟨a, ea, ca, -, -, hnum, -⟩ := st_wat (B := B) h.ss h.tt hj h.n.2.2.1
    refine h.same ?_
    rw [in_X12_watchValue, dc_X12_watchValue_0]
    simp only [xo_cls h.o, eC_s, c_needWatch h ea, cA_s]
    rw [if_neg h2.1, if_neg h2.2, dc_X12_watchValue_21, nN_nI (by omega), ew]
    simp only [eA_s, c_need1, cV_s, xo_0 h.o, sr_e h.ss, ca, eC_s, hnum w (by omega), cI_s]
theorem c_take (h : CX B s x nb sb u σ) : CO2 s x nb (cl_ tb_ct tb_mt B K_X12_take [.ref x, .int y] s) (bIx y (σ.1 5)) true (.int (p_take σ (nN y)).1) (p_take σ (nN y)).2 := by
  have n5 := SR.n5 h.ss
  refine ⟨fun hc => ?_, fun _ h2 => (by cases h2), fun h1 _ => ?_⟩
  · rw [in_X12_take, dc_X12_take_0]
    simp only [xo_cls h.o, eC_s, c_needWatch_no h hc, cA_x]
    rfl
  · obtain ⟨j, e, hj⟩ := bIxN (by omega) h1
    subst e
    obtain ⟨a, ea, ca, -, -, -, ⟨s', e, o, hh⟩, -⟩ := st_wat (B := B) h.ss h.tt hj h.n.2.2.1
    rw [nN_nI (by omega)]
    have h0 : (p_take σ j).2.1 0 = σ.1 0 := by
      unfold p_take
      split
      · rfl
      · split <;> rfl
    refine h.ret ⟨s', ?_, o, by unfold SS; rw [h0]; exact hh⟩
    rw [in_X12_take, dc_X12_take_0]
    simp only [xo_cls h.o, eC_s, c_needWatch h ea, cA_s, xo_0 h.o, eA_s, sr_e h.ss, ca, e, cI_s]
theorem c_taken (h : CX B s x nb sb u σ) : CO2 s x nb (cl_ tb_ct tb_mt B K_X12_taken [.ref x, .int y, .int z] s) (bIx y (σ.1 5)) (bIn z 0 5) (.int (if σ.2 4 (nN y) 5 = 0 then NOV else σ.2 4 (nN y) (6 + nN z))) σ := by
  have n5 := SR.n5 h.ss
  have eb : bIn z 0 5 = (!decide (z < 0) && !decide ((5 : Int32) < z)) := rfl
  refine ⟨fun hc => ?_, fun h1 h2 => ?_, fun h1 h2 => ?_⟩
  · rw [in_X12_taken, dc_X12_taken_0]
    simp only [xo_cls h.o, eC_s, c_needWatch_no h hc, cA_x]
    rfl
  · obtain ⟨j, e, hj⟩ := bIxN (by omega) h1
    subst e
    obtain ⟨a, ea, -⟩ := st_wat (B := B) h.ss h.tt hj h.n.2.2.1
    have e20 : rn_ tb_ct tb_mt B mm_X12_taken 19 [.ref x, .int (nI j), .int z, va_rf (some a)] [] s = some (.inr 0, am_bump s) := by
      rw [dc_X12_taken_19]
      simp only [eA_s]
      rw [dc_X12_taken_20]
      simp only [eA_s]
      rw [c_need0]
      rfl
    rw [in_X12_taken, dc_X12_taken_0]
    simp only [xo_cls h.o, eC_s, c_needWatch h ea, cA_s, e20]
    by_cases z1 : z < 0
    · rw [if_pos z1]
    · by_cases z2 : (5 : Int32) < z
      · rw [if_neg z1, if_pos z2]
      · rw [eb, decide_eq_false z1, decide_eq_false z2] at h2
        cases h2
  · obtain ⟨j, e, hj⟩ := bIxN (by omega) h1
    subst e
    obtain ⟨w, hw, ew⟩ := bInN (m := 5) (by omega) h2
    rw [eb] at h2
    simp only [Bool.and_eq_true, Bool.not_eq_true', decide_eq_false_iff_not] at h2
    obtain ⟨a, ea, ca, -, -, -, -, -, -, g4, c, g6, cc, hlast⟩ := st_wat (B := B) h.ss h.tt hj h.n.2.2.1
    refine h.same ?_
    rw [in_X12_taken, dc_X12_taken_0]
    simp only [xo_cls h.o, eC_s, c_needWatch h ea, cA_s]
    rw [if_neg h2.1, if_neg h2.2, dc_X12_taken_20, nN_nI (by omega), ew, nN_nI (by omega)]
    simp only [eA_s, c_need1, cV_s, g4, eI_s]
    by_cases h0 : σ.2 4 j 5 = 0
    · rw [if_pos h0, if_pos h0]
      rfl
    · rw [if_neg h0, if_neg h0]
      simp only [g6, eA_s, cc, eC_s, hlast h0 w (by omega), cI_s]
theorem c_admit (h : CX B s x nb sb u σ) : CO2 s x nb (cl_ tb_ct tb_mt B K_X12_admit [.ref x, .int y] s) (bIx y (σ.1 5)) true (.int (p_adm σ (nN y)).1) (p_adm σ (nN y)).2 := by
  have n5 := SR.n5 h.ss
  refine ⟨fun hc => ?_, fun _ h2 => (by cases h2), fun h1 _ => ?_⟩
  · rw [in_X12_admit, dc_X12_admit_0]
    simp only [xo_cls h.o, eC_s, c_needWatch_no h hc, cA_x]
    rfl
  · obtain ⟨j, e, hj⟩ := bIxN (by omega) h1
    subst e
    obtain ⟨a, ea, ca, -, -, -, -, ⟨s', e, o, hh⟩, -⟩ := st_wat (B := B) h.ss h.tt hj h.n.2.2.1
    rw [nN_nI (by omega)]
    refine h.ret ⟨s', ?_, o, hh⟩
    rw [in_X12_admit, dc_X12_admit_0]
    simp only [xo_cls h.o, eC_s, c_needWatch h ea, cA_s, ca, e, cI_s]
    rfl
theorem c_rewatch (h : CX B s x nb sb u σ) : CO2 s x nb (cl_ tb_ct tb_mt B K_X12_rewatch [.ref x, .int y, .int z] s) (bIx y (σ.1 5)) (bNN z) (.int (p_rew σ (nN y) z).1) (p_rew σ (nN y) z).2 := by
  have n5 := SR.n5 h.ss
  refine ⟨fun hc => ?_, fun h1 h2 => ?_, fun h1 h2 => ?_⟩
  · rw [in_X12_rewatch, dc_X12_rewatch_0]
    simp only [xo_cls h.o, eC_s, c_needWatch_no h hc, cA_x]
    rfl
  · obtain ⟨j, e, hj⟩ := bIxN (by omega) h1
    subst e
    obtain ⟨a, ea, -⟩ := st_wat (B := B) h.ss h.tt hj h.n.2.2.1
    have hz : z < 0 := Classical.not_not.mp (fun hc => by rw [bNNN.mpr hc] at h2; cases h2)
    rw [in_X12_rewatch, dc_X12_rewatch_0]
    simp only [xo_cls h.o, eC_s, c_needWatch h ea, cA_s]
    rw [if_pos hz, dc_X12_rewatch_15]
    simp only [eA_s]
    rw [c_need0]
    rfl
  · obtain ⟨j, e, hj⟩ := bIxN (by omega) h1
    subst e
    have hz := bNNN.mp h2
    obtain ⟨a, ea, ca, -, -, -, -, -, hb, -⟩ := st_wat (B := B) h.ss h.tt hj h.n.2.2.1
    rw [nN_nI (by omega)]
    have e1 : cl_ tb_ct tb_mt B K_X12_rewatch [.ref x, .int (nI j), .int z] s = rn_ tb_ct tb_mt B mm_X12_rewatch 15 [.ref x, .int (nI j), .int z, va_rf (some a)] [.int 1] s := by
      rw [in_X12_rewatch, dc_X12_rewatch_0]
      simp only [xo_cls h.o, eC_s, c_needWatch h ea, cA_s]
      rw [if_neg hz]
    rw [e1, dc_X12_rewatch_15]
    simp only [eA_s, c_need1, cV_s, xo_0 h.o, sr_cls h.ss, eC_s, st_tooLate h.ss, cI_s]
    unfold p_rew
    by_cases hy : z ≤ nI (σ.1 0 + 1)
    · obtain ⟨s', e, o, hh, ca', ew⟩ := hb (p_first (σ.2 2) (σ.1 6) z) p_first_le
      rw [if_pos hy, if_neg (show ¬ ¬ z ≤ nI (σ.1 0 + 1) from fun hc => hc hy)]
      refine h.ret ⟨s', ?_, o, hh⟩
      have hn := h.n
      have ho' : XO s' x nb sb := (o.1 x (by omega)).trans h.o
      simp only [if_true, st_firstFor h.ss, cI_s, ca, eC_s, e, cV_s, xo_0 ho', eA_s, sr_e hh, ca', ew]
      rfl
    · rw [if_neg hy, if_pos hy]
      refine h.same ?_
      simp only [if_neg (show ¬ (1 : Int32) = 0 by decide)]
theorem c_unwatch (h : CX B s x nb sb u σ) : CO2 s x nb (cl_ tb_ct tb_mt B K_X12_unwatch [.ref x, .int y] s) (bIx y (σ.1 5)) true (.int (nI (σ.1 5 - 1))) (p_unw σ (nN y)) := by
  have n5 := SR.n5 h.ss
  refine ⟨fun hc => ?_, fun _ h2 => (by cases h2), fun h1 _ => ?_⟩
  · rw [in_X12_unwatch, dc_X12_unwatch_0]
    simp only [xo_cls h.o, eC_s, c_needWatch_no h hc, cA_x]
    rfl
  · obtain ⟨j, e, hj⟩ := bIxN (by omega) h1
    subst e
    obtain ⟨a, ea, -⟩ := st_wat (B := B) h.ss h.tt hj h.n.2.2.1
    obtain ⟨s', e, o, hh⟩ := st_removeWatch (B := B) h.ss h.n.2.2.1 hj
    rw [nN_nI (by omega)]
    refine h.ret ⟨s', ?_, o, hh⟩
    have hn := h.n
    have ho' : XO s' x nb sb := (o.1 x (by omega)).trans h.o
    have e8 := sr_8 hh
    rw [in_X12_unwatch, dc_X12_unwatch_0]
    simp only [xo_cls h.o, eC_s, c_needWatch h ea, cA_s, xo_0 h.o, eA_s, sr_cls h.ss, e, cV_s, xo_0 ho', e8, eI_s]
    rfl
theorem c_behind (h : CX B s x nb sb u σ) : CO2 s x nb (cl_ tb_ct tb_mt B K_X12_behind [.ref x, .int y] s) (bIx y (σ.1 5)) true (.int (q_beh σ (nN y))) σ := by
  have n5 := SR.n5 h.ss
  refine ⟨fun hc => ?_, fun _ h2 => (by cases h2), fun h1 _ => ?_⟩
  · rw [in_X12_behind, dc_X12_behind_0]
    simp only [xo_cls h.o, eC_s, c_needWatch_no h hc, cA_x]
    rfl
  · obtain ⟨j, e, hj⟩ := bIxN (by omega) h1
    subst e
    obtain ⟨a, ea, ca, -, er, -⟩ := st_wat (B := B) h.ss h.tt hj h.n.2.2.1
    rw [nN_nI (by omega)]
    refine h.same ?_
    rw [in_X12_behind, dc_X12_behind_0]
    simp only [xo_cls h.o, eC_s, c_needWatch h ea, cA_s, xo_0 h.o, eA_s, sr_e h.ss, ca, er, cI_s, sr_5 h.ss, eI_s]
    unfold q_beh
    split <;> rfl
theorem c_safe (h : CX B s x nb sb u σ) : CO s x nb (cl_ tb_ct tb_mt B K_X12_safe [.ref x] s) true (.int (q_safe σ 0 (σ.1 5) (nI (σ.1 0) + 1) - 1)) σ := by
  have n5 := SR.n5 h.ss
  have lp : ∀ m i j, i + m = σ.1 5 → rn_ tb_ct tb_mt B mm_X12_safe 12 [.ref x, .int j, .int (nI i), am_un, am_un] [] s = some (.inl (some (.int (q_safe σ i m j - 1))), s) := by
    intro m
    induction m with
    | zero =>
      intro i j hi
      rw [dc_X12_safe_12]
      simp only [xo_0 h.o, eA_s, sr_8 h.ss, eI_s, if_pos (nI_le (show σ.1 5 ≤ i by omega) (by omega))]
      rfl
    | succ m ih =>
      intro i j hi
      obtain ⟨a, ea, ca, -, er, -⟩ := st_wat (B := B) h.ss h.tt (show i < σ.1 5 by omega) h.n.2.2.1
      have eq : q_safe σ i (m + 1) j = q_safe σ (i + 1) m (if p_ear σ i = -1 then j else if p_ear σ i < j then p_ear σ i else j) := rfl
      rw [dc_X12_safe_12, eq]
      simp only [xo_0 h.o, eA_s, sr_8 h.ss, eI_s, if_neg (nI_ge (show i < σ.1 5 by omega) (by omega)), sr_cls h.ss, eC_s, ea, cA_s, sr_e h.ss, ca, er, cI_s]
      rw [dc_X12_safe_51]
      by_cases h1 : p_ear σ i = -1
      · rw [if_pos h1, if_pos h1, dc_X12_safe_66, nI_1, ih (i + 1) _ (by omega)]
      · rw [if_neg h1, if_neg h1, dc_X12_safe_66, nI_1, ih (i + 1) _ (by omega)]
  refine ⟨fun _ => h.same ?_, fun hc => by cases hc⟩
  rw [in_X12_safe, dc_X12_safe_0]
  simp only [xo_0 h.o, eA_s, sr_5 h.ss, eI_s]
  have := lp (σ.1 5) 0 (nI (σ.1 0) + 1) (by omega)
  rw [nI_0] at this
  exact this
theorem c_missing (h : CX B s x nb sb u σ) : CO s x nb (cl_ tb_ct tb_mt B K_X12_missing [.ref x, .int y] s) (bNN y) (.int (nI (cn (q_mis σ y) 0 (σ.1 5)))) σ := by
  have n5 := SR.n5 h.ss
  have lp : ∀ m i j, i + m = σ.1 5 → rn_ tb_ct tb_mt B mm_X12_missing 16 [.ref x, .int y, .int (nI j), .int (nI i), am_un, am_un] [] s = some (.inl (some (.int (nI (j + cn (q_mis σ y) i m)))), s) := by
    intro m
    induction m with
    | zero =>
      intro i j hi
      rw [dc_X12_missing_16]
      simp only [xo_0 h.o, eA_s, sr_8 h.ss, eI_s, if_pos (nI_le (show σ.1 5 ≤ i by omega) (by omega))]
      rfl
    | succ m ih =>
      intro i j hi
      obtain ⟨a, ea, ca, -, er, -⟩ := st_wat (B := B) h.ss h.tt (show i < σ.1 5 by omega) h.n.2.2.1
      rw [dc_X12_missing_16]
      simp only [xo_0 h.o, eA_s, sr_8 h.ss, eI_s, if_neg (nI_ge (show i < σ.1 5 by omega) (by omega)), sr_cls h.ss, eC_s, ea, cA_s, sr_e h.ss, ca, er, cI_s]
      rw [dc_X12_missing_58, cn_s]
      unfold q_mis
      by_cases h1 : p_ear σ i = -1
      · rw [if_pos h1, dc_X12_missing_75, nI_1, ih (i + 1) _ (by omega), decide_eq_true h1]
        simp only [Bool.not_true, Bool.false_and, Bool.false_eq_true, if_false, Nat.zero_add]
        rfl
      · by_cases h2 : y < p_ear σ i
        · rw [if_neg h1, if_pos h2, dc_X12_missing_75, nI_1, ih (i + 1) _ (by omega), decide_eq_true h2]
          simp only [Bool.not_true, Bool.and_false, Bool.false_eq_true, if_false, Nat.zero_add]
          rfl
        · rw [if_neg h1, if_neg h2, dc_X12_missing_75, nI_1, nI_1, ih (i + 1) _ (by omega), decide_eq_false h1, decide_eq_false h2]
          simp only [Bool.not_false, Bool.and_self, if_true, Nat.add_assoc]
          rfl
  rw [in_X12_missing, dc_X12_missing_0]
  by_cases hl : y < 0
  · rw [if_pos hl, dc_X12_missing_9, c_need0]
    exact ⟨fun hc => absurd hl (bNNN.mp hc), fun _ => rfl⟩
  · rw [if_neg hl, dc_X12_missing_9, c_need1]
    refine ⟨fun _ => h.same ?_, fun hc => absurd (bNNN.mpr hl) (by rw [hc]; decide)⟩
    simp only [cV_s]
    have := lp (σ.1 5) 0 0 (by omega)
    rw [nI_0, Nat.zero_add] at this
    exact this
theorem c_slowest (h : CX B s x nb sb u σ) : CO s x nb (cl_ tb_ct tb_mt B K_X12_slowest [.ref x] s) true (.int (q_slow σ 0 (σ.1 5) (-1) 0)) σ := by
  have n5 := SR.n5 h.ss
  have lp : ∀ m i j q, i + m = σ.1 5 → rn_ tb_ct tb_mt B mm_X12_slowest 6 [.ref x, .int j, .int q, .int (nI i), am_un, am_un] [] s = some (.inl (some (.int (q_slow σ i m j q))), s) := by
    intro m
    induction m with
    | zero =>
      intro i j q hi
      rw [dc_X12_slowest_6]
      simp only [xo_0 h.o, eA_s, sr_8 h.ss, eI_s, if_pos (nI_le (show σ.1 5 ≤ i by omega) (by omega))]
      rfl
    | succ m ih =>
      intro i j q hi
      obtain ⟨a, ea, ca, ew, -⟩ := st_wat (B := B) h.ss h.tt (show i < σ.1 5 by omega) h.n.2.2.1
      have eq : q_slow σ i (m + 1) j q = if nI (p_wt σ i) ≤ q then q_slow σ (i + 1) m j q else q_slow σ (i + 1) m (nI i) (nI (p_wt σ i)) := rfl
      rw [dc_X12_slowest_6, eq]
      simp only [xo_0 h.o, eA_s, sr_8 h.ss, eI_s, if_neg (nI_ge (show i < σ.1 5 by omega) (by omega)), sr_cls h.ss, eC_s, ea, cA_s, sr_e h.ss, ca, ew, cI_s]
      rw [dc_X12_slowest_48]
      by_cases h1 : nI (p_wt σ i) ≤ q
      · rw [if_pos h1, if_pos h1, dc_X12_slowest_61, nI_1, ih (i + 1) _ _ (by omega)]
      · rw [if_neg h1, if_neg h1, dc_X12_slowest_61, nI_1, ih (i + 1) _ _ (by omega)]
  refine ⟨fun _ => h.same ?_, fun hc => by cases hc⟩
  rw [in_X12_slowest, dc_X12_slowest_0]
  have := lp (σ.1 5) 0 (-1) 0 (by omega)
  rw [nI_0] at this
  exact this
theorem q_sumW_le (h6 : σ.1 6 ≤ 152) : ∀ m i, q_sumW σ i m ≤ 152 * m
  | 0, _ => Nat.le_refl _
  | m + 1, i => by
    unfold q_sumW
    have a := q_sumW_le h6 m (i + 1)
    have b : p_wt σ i ≤ σ.1 6 := cn_le _ _ _
    omega
theorem c_meanLag (h : CX B s x nb sb u σ) : CO s x nb (cl_ tb_ct tb_mt B K_X12_meanLag [.ref x] s) true (.float (q_lag σ)) σ := by
  have n5 := SR.n5 h.ss
  have n6 := SR.n6 h.ss
  have lp : σ.1 5 ≠ 0 → ∀ m i j, i + m = σ.1 5 → j ≤ 152 * i → rn_ tb_ct tb_mt B mm_X12_meanLag 18 [.ref x, .int (nI (σ.1 5)), .int (nI j), .int (nI i), am_un] [] s = some (.inl (some (.float (FP.fdiv (FP.i2f (nI (j + q_sumW σ i m))) (FP.i2f (nI (σ.1 5)))))), s) := by
    intro h0 m
    induction m with
    | zero =>
      intro i j hi hj
      rw [dc_X12_meanLag_18, if_pos (nI_le (show σ.1 5 ≤ i by omega) (by omega)), if_pos ((q_fok (σ.1 5) (by omega) j (by omega)).resolve_left h0).1]
      rfl
    | succ m ih =>
      intro i j hi hj
      obtain ⟨a, ea, ca, ew, -⟩ := st_wat (B := B) h.ss h.tt (show i < σ.1 5 by omega) h.n.2.2.1
      have b : p_wt σ i ≤ σ.1 6 := cn_le _ _ _
      have eq : q_sumW σ i (m + 1) = p_wt σ i + q_sumW σ (i + 1) m := rfl
      rw [dc_X12_meanLag_18, if_neg (nI_ge (show i < σ.1 5 by omega) (by omega)), eq]
      simp only [xo_0 h.o, eA_s, sr_cls h.ss, eC_s, ea, cA_s, sr_e h.ss, ca, ew, cI_s]
      rw [dc_X12_meanLag_55, nI_1, nI_add, ih (i + 1) _ (by omega) (by omega), Nat.add_assoc]
  refine ⟨fun _ => h.same ?_, fun hc => by cases hc⟩
  rw [in_X12_meanLag, dc_X12_meanLag_0]
  simp only [xo_0 h.o, eA_s, sr_8 h.ss, eI_s]
  unfold q_lag
  by_cases h0 : σ.1 5 = 0
  · rw [if_pos h0, if_pos (show nI (σ.1 5) = 0 by rw [h0]; rfl)]
  · rw [if_neg h0, if_neg (nI_ne0 (by omega) (by omega))]
    have := lp h0 (σ.1 5) 0 0 (by omega) (Nat.le_refl _)
    rw [nI_0, Nat.zero_add] at this
    exact this
end Cd
