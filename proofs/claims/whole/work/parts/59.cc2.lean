/-! ===== WatchedKeys: calls (2): the state, an earlier state ===== -/
def q_count (σ : stT) (w : Nat) : Int32 := match w with
  | 0 => nI (σ.1 0)
  | 1 => nI (σ.1 1)
  | 2 => nI (σ.1 3)
  | 3 => nI (σ.1 4)
  | 4 => nI (σ.1 5)
  | 5 => nI (σ.1 6)
  | 6 => nI (σ.1 2)
  | 7 => nI (σ.1 9)
  | 8 => nI (σ.1 10)
  | _ => nI (σ.1 11)
def q_get (σ : stT) (key : Int32) (w : Nat) : Int32 := if isK σ key then σ.2 0 (pF (σ.2 0) (σ.1 3) key) (w + 1) else NOV
def q_lease (σ : stT) (l : Int32) (w : Nat) : Int32 := if pF (σ.2 3) (σ.1 4) l < σ.1 4 then (if w = 0 then σ.2 3 (pF (σ.2 3) (σ.1 4) l) 1 else if w = 1 then σ.2 3 (pF (σ.2 3) (σ.1 4) l) 2 else nI (cn (fun i => decide (σ.2 0 i 5 = l)) 0 (σ.1 3))) else -3
def q_expiry (σ : stT) (w : Int32) : Int32 := if σ.1 4 = 0 then -1 else if w = 0 then σ.2 3 (p_fe σ) 0 else σ.2 3 (p_fe σ) 2
def q_why (σ : stT) (y : Int32) : Int32 := whyN (σ.1 0) (σ.1 1) (askd (σ.1 0) y)
def q_P (σ : stT) (y : Int32) : Nat × rowT := p_then σ (askd (σ.1 0) y)
def q_then (P : Nat × rowT) (key : Int32) : Int32 := if pF P.2 P.1 key < P.1 then P.2 (pF P.2 P.1 key) 1 else NOV
def q_keyAt (P : Nat × rowT) (f t i : Int32) : Int32 := if i < 0 ∨ nI P.1 ≤ i then -1 else if pI P.2 P.1 f + nN i < P.1 ∧ ¬ t < P.2 (pI P.2 P.1 f + nN i) 0 then P.2 (pI P.2 P.1 f + nN i) 0 else -1
def q_sum (P : Nat × rowT) (f t : Int32) : Nat → Nat → Int64 → Int64
  | _, 0, j => j
  | i, k + 1, j => q_sum P f t (i + 1) k (if inR f t (P.2 i) = true then j + (P.2 i 1).toInt64 else j)
def q_dig (P : Nat × rowT) : Nat → Nat → Int32 → Int32
  | _, 0, j => j
  | i, k + 1, j => q_dig P (i + 1) k ((31 * (31 * j + P.2 i 0)) + P.2 i 1)
section Cb
variable {s s' : am_S} {B x nb sb u i p n : Nat} {σ : stT} {key v l f t y z : Int32} {P P' : Nat × rowT}
theorem bInN {m : Nat} (hm : m < 2 ^ 31) (h : bIn y 0 (nI m) = true) : ∃ j : Nat, j ≤ m ∧ y = nI j := by
  unfold bIn at h
  simp only [Bool.and_eq_true, Bool.not_eq_true', decide_eq_false_iff_not] at h
  obtain ⟨j, hj, e⟩ := nI_of2 (M := nI m) (n := m) (nI_toInt hm) h.1 (Int32.not_lt.mp h.2)
  exact ⟨j, hj, e⟩
theorem c_count (h : CX B s x nb sb u σ) : CO s x nb (cl_ tb_ct tb_mt B K_X12_count [.ref x, .int y] s) (bIn y 0 9) (.int (q_count σ (nN y))) σ := by
  have e14 : rn_ tb_ct tb_mt B mm_X12_count 14 [.ref x, .int y] [] s = some (.inr 0, am_bump s) := by
    rw [dc_X12_count_14, dc_X12_count_15, c_need0]
    rfl
  have eb : bIn y 0 9 = (!decide (y < 0) && !decide ((9 : Int32) < y)) := rfl
  rw [in_X12_count, dc_X12_count_0]
  by_cases h1 : y < 0
  · rw [if_pos h1, e14, eb, decide_eq_true h1]
    exact ⟨fun hc => (by cases hc), fun _ => rfl⟩
  · by_cases h2 : (9 : Int32) < y
    · rw [if_neg h1, if_pos h2, e14, eb, decide_eq_true h2, Bool.not_true, Bool.and_false]
      exact ⟨fun hc => (by cases hc), fun _ => rfl⟩
    · rw [if_neg h1, if_neg h2, dc_X12_count_15, c_need1]
      refine ⟨fun _ => h.same ?_, fun hc => ?_⟩
      · obtain ⟨j, hj, e⟩ := bInN (m := 9) (by omega) (by rw [show nI 9 = (9 : Int32) from rfl, eb, decide_eq_false h1, decide_eq_false h2]; rfl)
        subst e
        rw [nN_nI (by omega), nI_toInt (by omega)]
        simp only [cV_s, xo_0 h.o, eA_s, sr_5 h.ss, sr_6 h.ss, sr_7 h.ss, sr_8 h.ss, sr_9 h.ss, sr_k h.ss, sr_kn h.ss, sr_e h.ss, sr_en h.ss, sr_t h.ss, tw_n h.ss.tw, tw_s1 h.ss.tw, tw_s2 h.ss.tw, pw_n h.ss.p1, pw_n h.ss.p2, eI_s]
        match j with
        | 0 => rfl
        | 1 => rfl
        | 2 => rfl
        | 3 => rfl
        | 4 => rfl
        | 5 => rfl
        | 6 => rfl
        | 7 => rfl
        | 8 => rfl
        | 9 => rfl
        | j + 10 => omega
      · rw [eb, decide_eq_false h1, decide_eq_false h2] at hc
        cases hc
theorem c_get (h : CX B s x nb sb u σ) : CO s x nb (cl_ tb_ct tb_mt B K_X12_get [.ref x, .int key, .int y] s) (bKey key && bIn y 0 4) (.int (q_get σ key (nN y))) σ := by
  have e17 : rn_ tb_ct tb_mt B mm_X12_get 17 [.ref x, .int key, .int y, am_un] [] s = some (.inr 0, am_bump s) := by
    rw [dc_X12_get_17, dc_X12_get_18, c_need0]
    rfl
  have eb : bIn y 0 4 = (!decide (y < 0) && !decide ((4 : Int32) < y)) := rfl
  rw [in_X12_get, dc_X12_get_0]
  simp only [c_needKey, cVb]
  cases hk : bKey key with
  | false => exact ⟨fun hc => (by cases hc), fun _ => rfl⟩
  | true =>
    simp only [if_true, Bool.true_and]
    by_cases h1 : y < 0
    · rw [if_pos h1, e17, eb, decide_eq_true h1]
      exact ⟨fun hc => (by cases hc), fun _ => rfl⟩
    · by_cases h2 : (4 : Int32) < y
      · rw [if_neg h1, if_pos h2, e17, eb, decide_eq_true h2, Bool.not_true, Bool.and_false]
        exact ⟨fun hc => (by cases hc), fun _ => rfl⟩
      · rw [if_neg h1, if_neg h2, dc_X12_get_18, c_need1]
        refine ⟨fun _ => h.same ?_, fun hc => ?_⟩
        · obtain ⟨j, hj, e⟩ := bInN (m := 4) (by omega) (by rw [show nI 4 = (4 : Int32) from rfl, eb, decide_eq_false h1, decide_eq_false h2]; rfl)
          subst e
          rw [nN_nI (by omega)]
          simp only [cV_s, xo_0 h.o, eA_s, sr_k h.ss, sr_kc h.ss, eC_s]
          unfold q_get
          by_cases hf : isK σ key
          · obtain ⟨a, e1, hc⟩ := kw_find (B := B) h.ss.kw hf
            rw [if_pos hf]
            simp only [e1, cA_s, kc_cls hc, eC_s, kc_number hc (show j < 5 by omega), cI_s]
          · rw [if_neg hf]
            simp only [kw_find_no h.ss.kw hf, cA_n]
            rfl
        · rw [eb, decide_eq_false h1, decide_eq_false h2] at hc
          cases hc
theorem c_lease (h : CX B s x nb sb u σ) : CO s x nb (cl_ tb_ct tb_mt B K_X12_lease [.ref x, .int l, .int y] s) (bIn y 0 2) (.int (q_lease σ l (nN y))) σ := by
  have e13 : rn_ tb_ct tb_mt B mm_X12_lease 13 [.ref x, .int l, .int y, am_un] [] s = some (.inr 0, am_bump s) := by
    rw [dc_X12_lease_13, dc_X12_lease_14, c_need0]
    rfl
  have eb : bIn y 0 2 = (!decide (y < 0) && !decide ((2 : Int32) < y)) := rfl
  rw [in_X12_lease, dc_X12_lease_0]
  by_cases h1 : y < 0
  · rw [if_pos h1, e13, eb, decide_eq_true h1]
    exact ⟨fun hc => (by cases hc), fun _ => rfl⟩
  · by_cases h2 : (2 : Int32) < y
    · rw [if_neg h1, if_pos h2, e13, eb, decide_eq_true h2, Bool.not_true, Bool.and_false]
      exact ⟨fun hc => (by cases hc), fun _ => rfl⟩
    · rw [if_neg h1, if_neg h2, dc_X12_lease_14, c_need1]
      refine ⟨fun _ => h.same ?_, fun hc => ?_⟩
      · obtain ⟨j, hj, e⟩ := bInN (m := 2) (by omega) (by rw [show nI 2 = (2 : Int32) from rfl, eb, decide_eq_false h1, decide_eq_false h2]; rfl)
        subst e
        rw [nN_nI (by omega), nI_toInt (by omega)]
        simp only [cV_s, xo_0 h.o, eA_s, sr_cls h.ss, eC_s, st_findLease h.ss, cI_s]
        unfold q_lease
        by_cases hf : pF (σ.2 3) (σ.1 4) l < σ.1 4
        · obtain ⟨a, e1, c1, -⟩ := st_leaseAt (B := B) h.ss hf
          simp only [if_pos hf, e1, cA_s, l_1 c1, l_2 c1, eI_s, sr_k h.ss, eA_s, sr_kc h.ss, eC_s, kw_countWith h.ss.kw, cI_s]
          match j with
          | 0 => rfl
          | 1 => rfl
          | 2 =>
            rw [if_neg (by decide), if_neg (by decide)]
            simp only [xo_0 h.o, eA_s, sr_k h.ss, sr_kc h.ss, eC_s, kw_countWith h.ss.kw, cI_s]
            rfl
          | j + 3 => omega
        · simp only [if_neg hf, st_leaseAt_no h.ss (x := -1) (Or.inl (by decide)), cA_n]
      · rw [eb, decide_eq_false h1, decide_eq_false h2] at hc
        cases hc
theorem c_expiry (h : CX B s x nb sb u σ) : CO s x nb (cl_ tb_ct tb_mt B K_X12_expiry [.ref x, .int y] s) (bIn y 0 1) (.int (q_expiry σ y)) σ := by
  have n4 := SR.n4 h.ss
  have e14 : rn_ tb_ct tb_mt B mm_X12_expiry 14 [.ref x, .int y, am_un] [.int 1] s = some (.inl (some (.int (q_expiry σ y))), s) := by
    rw [dc_X12_expiry_14, c_need1]
    simp only [cV_s, xo_0 h.o, eA_s, sr_cls h.ss, eC_s, st_firstToEnd h.ss, cI_s]
    unfold q_expiry
    by_cases h0 : σ.1 4 = 0
    · have ef : feG (σ.2 3) 0 (σ.1 4) (-1) 0 = -1 := by
        rw [h0]
        rfl
      rw [ef, if_pos h0]
      simp only [st_leaseAt_no h.ss (x := -1) (Or.inl (by decide)), cA_n]
    · obtain ⟨f1, f2, f3, f4⟩ := p_fe_spec (σ := σ) (by omega) n4
      obtain ⟨a, e1, c1, -⟩ := st_leaseAt (B := B) h.ss f1
      rw [f2, if_neg h0]
      simp only [e1, cA_s, l_0 c1, l_2 c1, eI_s]
      split <;> rfl
  rw [in_X12_expiry, dc_X12_expiry_0]
  by_cases h0 : y = 0
  · rw [if_pos h0, dc_X12_expiry_9, e14]
    refine ⟨fun _ => h.same rfl, fun hc => ?_⟩
    subst h0
    cases hc
  · by_cases h1 : y = 1
    · rw [if_neg h0, if_pos h1, dc_X12_expiry_9, e14]
      refine ⟨fun _ => h.same rfl, fun hc => ?_⟩
      subst h1
      cases hc
    · rw [if_neg h0, if_neg h1, dc_X12_expiry_14, c_need0]
      refine ⟨fun hc => ?_, fun _ => rfl⟩
      obtain ⟨j, hj, e⟩ := bInN (m := 1) (by omega) hc
      match j, hj with
      | 0, _ => exact absurd e h0
      | 1, _ => exact absurd e h1
/-! an earlier state -/
theorem kp_find (h : KP s p P) : (pF P.2 P.1 key < P.1 → ∃ a, cl_ tb_ct tb_mt B K_X4_find [.ref p, .int key] s = some (.inl (some (.ref a)), s) ∧ gI tb_ct s a 2 1 = some (P.2 (pF P.2 P.1 key) 1)) ∧ (¬ pF P.2 P.1 key < P.1 → cl_ tb_ct tb_mt B K_X4_find [.ref p, .int key] s = some (.inl (some .null), s)) := by
  obtain ⟨K, h1, h2⟩ := h
  rw [← kp_pF h2]
  refine ⟨fun hf => ?_, fun hf => kw_find_no h1 hf⟩
  obtain ⟨a, e1, hc⟩ := kw_find (B := B) h1 hf
  exact ⟨a, e1, by rw [kc_1 hc, (h2 _ hf).2]⟩
theorem kp_at (h : KP s p P) (hi : i < P.1) : ∃ a, cl_ tb_ct tb_mt B K_X4_at [.ref p, .int (nI i)] s = some (.inl (some (.ref a)), s) ∧ am_cls s a = some 2 ∧ gI tb_ct s a 2 0 = some (P.2 i 0) ∧ gI tb_ct s a 2 1 = some (P.2 i 1) ∧ ∀ f t, cl_ tb_ct tb_mt B K_X3_isIn [.ref a, .int f, .int t] s = some (.inl (some (.int (if P.2 i 0 < f then 0 else if t < P.2 i 0 then 0 else 1))), s) := by
  obtain ⟨K, h1, h2⟩ := h
  obtain ⟨a, e1, hc⟩ := kw_at (B := B) h1 hi
  obtain ⟨v0, v1⟩ := h2 i hi
  refine ⟨a, e1, kc_cls hc, by rw [kc_0 hc, v0], by rw [kc_1 hc, v1], fun f t => by rw [kc_isIn hc, v0]⟩
theorem kp_at_no (h : KP s p P) (hx : y < 0 ∨ nI P.1 ≤ y) : cl_ tb_ct tb_mt B K_X4_at [.ref p, .int y] s = some (.inl (some .null), s) := by
  obtain ⟨K, h1, h2⟩ := h
  exact kw_at_no h1 hx
theorem kp_firstFrom (h : KP s p P) : cl_ tb_ct tb_mt B K_X4_firstFrom [.ref p, .int key] s = some (.inl (some (.int (nI (pI P.2 P.1 key)))), s) := by
  obtain ⟨K, h1, h2⟩ := h
  rw [kw_firstFrom h1, pI_cg fun i hi => (h2 i hi).1]
theorem kp_differences {p' : Nat} (h : KP s p P) (h' : KP s p' P') : cl_ tb_ct tb_mt B K_X4_differences [.ref p, .ref p'] s = some (.inl (some (.int (dfK P.2 P.1 P'.2 P'.1))), s) := by
  obtain ⟨K, h1, h2⟩ := h
  obtain ⟨K', h1', h2'⟩ := h'
  rw [kw_differences h1 h1']
  have e : ∀ key, pF K' P'.1 key = pF P'.2 P'.1 key := fun key => kp_pF h2'
  unfold dfK
  rw [cn_cg P.1 0 (p := fun i => decide (pF K' P'.1 (K i 0) < P'.1)) (q := fun i => decide (pF P'.2 P'.1 (P.2 i 0) < P'.1)) fun j _ hj => ?_, cn_cg P.1 0 (p := fun i => decide (pF K' P'.1 (K i 0) < P'.1) && decide (K' (pF K' P'.1 (K i 0)) 1 = K i 1)) (q := fun i => decide (pF P'.2 P'.1 (P.2 i 0) < P'.1) && decide (P'.2 (pF P'.2 P'.1 (P.2 i 0)) 1 = P.2 i 1)) fun j _ hj => ?_]
  · rw [e, (h2 j (by omega)).1, (h2 j (by omega)).2]
    by_cases hf : pF P'.2 P'.1 (P.2 j 0) < P'.1
    · rw [(h2' _ hf).2]
    · rw [decide_eq_false hf]
      rfl
  · rw [e, (h2 j (by omega)).1]
theorem KP.pst (h : KP s (x + 443) P) (h2 : ∃ n K, KW s (x + 467) n K) (h3 : ∃ f, s.1 (x + 491) = some (.inl (.int, 1000, .inl f))) : PST s x := by
  obtain ⟨K, h1⟩ := h.kw
  exact ⟨⟨_, _, h1⟩, h2, h3⟩
/-- the state asked for: recalled -/
theorem c_rec (h : CX B s x nb sb u σ) (y : Int32) : (q_why σ y ≠ 0 → cl_ tb_ct tb_mt B K_X8_recall [.ref nb, .int y, .ref (x + 443)] s = some (.inl (some (.int (q_why σ y))), s)) ∧ (q_why σ y = 0 → ∃ s', cl_ tb_ct tb_mt B K_X8_recall [.ref nb, .int y, .ref (x + 443)] s = some (.inl (some (.int 0)), s') ∧ so s s' (x + 443) (x + 467) ∧ KP s' (x + 443) (q_P σ y) ∧ XO s' x nb sb ∧ SS s' nb σ ∧ fr s s' x nb ∧ PST s' x) := by
  have hn := h.n
  obtain ⟨⟨n, K0, h1⟩, h2, g, h3⟩ := h.p
  obtain ⟨c1, c2⟩ := st_recall (B := B) h.ss h.a.1.1 (show B ≤ x + 443 by omega) (Or.inr (by omega)) h1 y
  refine ⟨c1, fun hw => ?_⟩
  obtain ⟨s', e, o, k⟩ := c2 hw
  obtain ⟨n', K', h2'⟩ := h2
  exact ⟨s', e, o, k, (o.1 x (by omega)).trans h.o, SR.at h.ss fun q _ _ => o.1 q (by omega), ⟨fun q _ h5 => o.1 q (by omega), o.2⟩, KP.pst k ⟨n', K', h2'.at fun q _ _ => o.1 q (by omega)⟩ ⟨g, (o.1 _ (by omega)).trans h3⟩⟩
theorem c_getAt (h : CX B s x nb sb u σ) : CO s x nb (cl_ tb_ct tb_mt B K_X12_getAt [.ref x, .int key, .int y] s) (bKey key && bNN y) (.int (if q_why σ y = 0 then q_then (q_P σ y) key else q_why σ y)) σ := by
  rw [in_X12_getAt, dc_X12_getAt_0]
  simp only [c_needKey, cVb]
  cases hk : bKey key with
  | false => exact ⟨fun hc => (by cases hc), fun _ => rfl⟩
  | true =>
    simp only [if_true, Bool.true_and]
    by_cases hl : y < 0
    · rw [if_pos hl, dc_X12_getAt_13, c_need0]
      exact ⟨fun hc => absurd hl (bNNN.mp hc), fun _ => rfl⟩
    · rw [if_neg hl, dc_X12_getAt_13, c_need1]
      refine ⟨fun _ => ?_, fun hc => absurd (bNNN.mpr hl) (by rw [hc]; decide)⟩
      obtain ⟨c1, c2⟩ := c_rec h y
      by_cases hw : q_why σ y = 0
      · obtain ⟨s', e, o, k, ho, hs, hf, hp⟩ := c2 hw
        refine ⟨s', ?_, hf, hs, hp⟩
        obtain ⟨f1, f2⟩ := kp_find (B := B) (key := key) k
        rw [if_pos hw]
        simp only [cV_s, xo_0 h.o, eA_s, xo_5 h.o, sr_cls h.ss, eC_s, e, cI_s, if_true, xo_5 ho, kp_cls k]
        unfold q_then
        by_cases hq : pF (q_P σ y).2 (q_P σ y).1 key < (q_P σ y).1
        · obtain ⟨a, e1, e2⟩ := f1 hq
          rw [if_pos hq]
          simp only [e1, cA_s, e2, eI_s]
        · rw [if_neg hq]
          simp only [f2 hq, cA_n]
          rfl
      · rw [if_neg hw]
        refine h.same ?_
        simp only [cV_s, xo_0 h.o, eA_s, xo_5 h.o, sr_cls h.ss, eC_s, c1 hw, cI_s, if_neg hw]
theorem c_keysAt (h : CX B s x nb sb u σ) : CO s x nb (cl_ tb_ct tb_mt B K_X12_keysAt [.ref x, .int f, .int t, .int y] s) (bRange f t && bNN y) (.int (if q_why σ y = 0 then nI (pI (q_P σ y).2 (q_P σ y).1 (t + 1)) - nI (pI (q_P σ y).2 (q_P σ y).1 f) else q_why σ y)) σ := by
  rw [in_X12_keysAt, dc_X12_keysAt_0]
  simp only [c_needRange, cVb]
  cases hk : bRange f t with
  | false => exact ⟨fun hc => (by cases hc), fun _ => rfl⟩
  | true =>
    simp only [if_true, Bool.true_and]
    by_cases hl : y < 0
    · rw [if_pos hl, dc_X12_keysAt_14, c_need0]
      exact ⟨fun hc => absurd hl (bNNN.mp hc), fun _ => rfl⟩
    · rw [if_neg hl, dc_X12_keysAt_14, c_need1]
      refine ⟨fun _ => ?_, fun hc => absurd (bNNN.mpr hl) (by rw [hc]; decide)⟩
      obtain ⟨c1, c2⟩ := c_rec h y
      by_cases hw : q_why σ y = 0
      · obtain ⟨s', e, o, k, ho, hs, hf, hp⟩ := c2 hw
        refine ⟨s', ?_, hf, hs, hp⟩
        rw [if_pos hw]
        simp only [cV_s, xo_0 h.o, eA_s, xo_5 h.o, sr_cls h.ss, eC_s, e, cI_s, if_true, xo_5 ho, kp_cls k, kp_firstFrom k]
      · rw [if_neg hw]
        refine h.same ?_
        simp only [cV_s, xo_0 h.o, eA_s, xo_5 h.o, sr_cls h.ss, eC_s, c1 hw, cI_s, if_neg hw]
theorem c_keyAt (h : CX B s x nb sb u σ) : CO s x nb (cl_ tb_ct tb_mt B K_X12_keyAt [.ref x, .int f, .int t, .int z, .int y] s) (bRange f t && bNN y) (.int (if q_why σ y = 0 then q_keyAt (q_P σ y) f t z else q_why σ y)) σ := by
  rw [in_X12_keyAt, dc_X12_keyAt_0]
  simp only [c_needRange, cVb]
  cases hk : bRange f t with
  | false => exact ⟨fun hc => (by cases hc), fun _ => rfl⟩
  | true =>
    simp only [if_true, Bool.true_and]
    by_cases hl : y < 0
    · rw [if_pos hl, dc_X12_keyAt_15, c_need0]
      exact ⟨fun hc => absurd hl (bNNN.mp hc), fun _ => rfl⟩
    · rw [if_neg hl, dc_X12_keyAt_15, c_need1]
      refine ⟨fun _ => ?_, fun hc => absurd (bNNN.mpr hl) (by rw [hc]; decide)⟩
      obtain ⟨c1, c2⟩ := c_rec h y
      by_cases hw : q_why σ y = 0
      · obtain ⟨s', e, o, k, ho, hs, hf, hp⟩ := c2 hw
        refine ⟨s', ?_, hf, hs, hp⟩
        have hP16 : (q_P σ y).1 ≤ 16 := (p_then_ok h.a _).2.1
        rw [if_pos hw]
        simp only [cV_s, xo_0 h.o, eA_s, xo_5 h.o, sr_cls h.ss, eC_s, e, cI_s, if_true]
        unfold q_keyAt
        by_cases h1 : z < 0
        · rw [if_pos h1, if_pos (Or.inl h1)]
        · rw [if_neg h1]
          simp only [xo_5 ho, eA_s, kp_n k, eI_s]
          by_cases h2 : z < nI (q_P σ y).1
          · rw [if_pos h2, if_neg (show ¬ (z < 0 ∨ nI (q_P σ y).1 ≤ z) from fun hc => hc.elim h1 (Int32.not_le.mpr h2))]
            obtain ⟨j, hj, ej⟩ := nI_of h1
            subst ej
            have hj2 : j < (q_P σ y).1 := (nI_ltI hj (by omega)).mp h2
            have hple : pI (q_P σ y).2 (q_P σ y).1 f ≤ (q_P σ y).1 := pI_le
            rw [nN_nI hj]
            simp only [kp_cls k, eC_s, kp_firstFrom k, cI_s, nI_add]
            by_cases h3 : pI (q_P σ y).2 (q_P σ y).1 f + j < (q_P σ y).1
            · obtain ⟨a, e1, -, e3, -⟩ := kp_at (B := B) k h3
              simp only [e1, cA_s, e3, eI_s]
              by_cases h4 : t < (q_P σ y).2 (pI (q_P σ y).2 (q_P σ y).1 f + j) 0
              · rw [if_pos h4, if_neg (fun hc => hc.2 h4)]
              · rw [if_neg h4, if_pos ⟨h3, h4⟩]
            · rw [if_neg (fun hc => h3 hc.1)]
              simp only [kp_at_no k (y := nI (pI (q_P σ y).2 (q_P σ y).1 f + j)) (Or.inr (nI_le (by omega) (by omega))), cA_n]
          · rw [if_neg h2, if_pos (Or.inr (Int32.not_lt.mp h2))]
      · rw [if_neg hw]
        refine h.same ?_
        simp only [cV_s, xo_0 h.o, eA_s, xo_5 h.o, sr_cls h.ss, eC_s, c1 hw, cI_s, if_neg hw]
theorem c_sum_lp (ho : XO s x nb sb) (k : KP s (x + 443) P) (hP : P.1 ≤ 22) : ∀ m i j w3 w4, i + m = P.1 → rn_ tb_ct tb_mt B mm_X12_sumAt 46 [.ref x, .int f, .int t, w3, w4, .long j, am_un, .int (nI i), am_un] [] s = some (.inl (some (.long (q_sum P f t i m j))), s) := by
  intro m
  induction m with
  | zero =>
    intro i j w3 w4 hi
    rw [dc_X12_sumAt_46]
    simp only [xo_5 ho, eA_s, kp_n k, eI_s, if_pos (nI_le (show P.1 ≤ i by omega) (by omega))]
    rfl
  | succ m ih =>
    intro i j w3 w4 hi
    obtain ⟨a, e1, e2, e3, e4, e5⟩ := kp_at (B := B) k (show i < P.1 by omega)
    rw [dc_X12_sumAt_46]
    simp only [xo_5 ho, eA_s, kp_n k, eI_s, if_neg (nI_ge (show i < P.1 by omega) (by omega)), kp_cls k, eC_s, e1, cA_s, e2, e5, cI_s]
    have eq : q_sum P f t i (m + 1) j = q_sum P f t (i + 1) m (if inR f t (P.2 i) = true then j + (P.2 i 1).toInt64 else j) := rfl
    rw [eq]
    unfold inR
    by_cases h1 : P.2 i 0 < f
    · rw [decide_eq_true h1]
      simp only [if_pos h1, if_true, Bool.not_true, Bool.false_and, Bool.false_eq_true, if_false]
      rw [dc_X12_sumAt_95, nI_1, ih (i + 1) j _ _ (by omega)]
    · by_cases h2 : t < P.2 i 0
      · rw [decide_eq_true h2]
        simp only [if_neg h1, if_pos h2, if_true, Bool.not_true, Bool.and_false, Bool.false_eq_true, if_false]
        rw [dc_X12_sumAt_95, nI_1, ih (i + 1) j _ _ (by omega)]
      · rw [decide_eq_false h1, decide_eq_false h2]
        simp only [if_neg h1, if_neg h2, if_neg (show ¬ (1 : Int32) = 0 by decide), e4, eI_s, Bool.not_false, Bool.and_self, if_true]
        rw [dc_X12_sumAt_95, nI_1, ih (i + 1) _ _ _ (by omega)]
theorem c_sumAt (h : CX B s x nb sb u σ) : CO s x nb (cl_ tb_ct tb_mt B K_X12_sumAt [.ref x, .int f, .int t, .int y] s) (bRange f t && bNN y) (.long (if q_why σ y = 0 then q_sum (q_P σ y) f t 0 (q_P σ y).1 0 else (q_why σ y).toInt64)) σ := by
  rw [in_X12_sumAt, dc_X12_sumAt_0]
  simp only [c_needRange, cVb]
  cases hk : bRange f t with
  | false => exact ⟨fun hc => (by cases hc), fun _ => rfl⟩
  | true =>
    simp only [if_true, Bool.true_and]
    by_cases hl : y < 0
    · rw [if_pos hl, dc_X12_sumAt_14, c_need0]
      exact ⟨fun hc => absurd hl (bNNN.mp hc), fun _ => rfl⟩
    · rw [if_neg hl, dc_X12_sumAt_14, c_need1]
      refine ⟨fun _ => ?_, fun hc => absurd (bNNN.mpr hl) (by rw [hc]; decide)⟩
      obtain ⟨c1, c2⟩ := c_rec h y
      by_cases hw : q_why σ y = 0
      · obtain ⟨s', e, o, k, ho, hs, hf, hp⟩ := c2 hw
        refine ⟨s', ?_, hf, hs, hp⟩
        have hP16 : (q_P σ y).1 ≤ 16 := (p_then_ok h.a _).2.1
        rw [if_pos hw]
        simp only [cV_s, xo_0 h.o, eA_s, xo_5 h.o, sr_cls h.ss, eC_s, e, cI_s, if_true]
        exact c_sum_lp ho k (by omega) (q_P σ y).1 0 0 _ _ (by omega)
      · rw [if_neg hw]
        refine h.same ?_
        simp only [cV_s, xo_0 h.o, eA_s, xo_5 h.o, sr_cls h.ss, eC_s, c1 hw, cI_s, if_neg hw]
theorem c_dig_lp (ho : XO s x nb sb) (k : KP s (x + 443) P) (hP : P.1 ≤ 22) : ∀ m i j w1, i + m = P.1 → rn_ tb_ct tb_mt B mm_X12_digest 34 [.ref x, w1, .int j, .int (nI i), am_un] [] s = some (.inl (some (.int (q_dig P i m j))), s) := by
  intro m
  induction m with
  | zero =>
    intro i j w1 hi
    rw [dc_X12_digest_34]
    simp only [xo_5 ho, eA_s, kp_n k, eI_s, if_pos (nI_le (show P.1 ≤ i by omega) (by omega))]
    rfl
  | succ m ih =>
    intro i j w1 hi
    obtain ⟨a, e1, e2, e3, e4, e5⟩ := kp_at (B := B) k (show i < P.1 by omega)
    rw [dc_X12_digest_34]
    simp only [xo_5 ho, eA_s, kp_n k, eI_s, if_neg (nI_ge (show i < P.1 by omega) (by omega)), kp_cls k, eC_s, e1, cA_s, e3, e4]
    rw [dc_X12_digest_82, nI_1, ih (i + 1) _ _ (by omega)]
    rfl
theorem c_digest (h : CX B s x nb sb u σ) : CO s x nb (cl_ tb_ct tb_mt B K_X12_digest [.ref x, .int y] s) (bNN y) (.int (if q_why σ y = 0 then q_dig (q_P σ y) 0 (q_P σ y).1 17 else 0)) σ := by
  rw [in_X12_digest, dc_X12_digest_0]
  by_cases hl : y < 0
  · rw [if_pos hl, dc_X12_digest_9, c_need0]
    exact ⟨fun hc => absurd hl (bNNN.mp hc), fun _ => rfl⟩
  · rw [if_neg hl, dc_X12_digest_9, c_need1]
    refine ⟨fun _ => ?_, fun hc => absurd (bNNN.mpr hl) (by rw [hc]; decide)⟩
    obtain ⟨c1, c2⟩ := c_rec h y
    by_cases hw : q_why σ y = 0
    · obtain ⟨s', e, o, k, ho, hs, hf, hp⟩ := c2 hw
      refine ⟨s', ?_, hf, hs, hp⟩
      have hP16 : (q_P σ y).1 ≤ 16 := (p_then_ok h.a _).2.1
      rw [if_pos hw]
      simp only [cV_s, xo_0 h.o, eA_s, xo_5 h.o, sr_cls h.ss, eC_s, e, cI_s, if_true]
      exact c_dig_lp ho k (by omega) (q_P σ y).1 0 17 _ (by omega)
    · rw [if_neg hw]
      refine h.same ?_
      simp only [cV_s, xo_0 h.o, eA_s, xo_5 h.o, sr_cls h.ss, eC_s, c1 hw, cI_s, if_neg hw]
theorem c_changed (h : CX B s x nb sb u σ) : CO s x nb (cl_ tb_ct tb_mt B K_X12_changed [.ref x, .int y, .int z] s) (bNN y && bNN z) (.int (if q_why σ y = 0 then (if q_why σ z = 0 then dfK (q_P σ y).2 (q_P σ y).1 (q_P σ z).2 (q_P σ z).1 else q_why σ z) else q_why σ y)) σ := by
  have e12 : rn_ tb_ct tb_mt B mm_X12_changed 12 [.ref x, .int y, .int z, am_un] [] s = some (.inr 0, am_bump s) := by
    rw [dc_X12_changed_12, dc_X12_changed_13, c_need0]
    rfl
  rw [in_X12_changed, dc_X12_changed_0]
  by_cases h1 : y < 0
  · rw [if_pos h1, e12]
    refine ⟨fun hc => ?_, fun _ => rfl⟩
    rw [Bool.and_eq_true] at hc
    exact absurd h1 (bNNN.mp hc.1)
  · by_cases h2 : z < 0
    · rw [if_neg h1, if_pos h2, e12]
      refine ⟨fun hc => ?_, fun _ => rfl⟩
      rw [Bool.and_eq_true] at hc
      exact absurd h2 (bNNN.mp hc.2)
    · rw [if_neg h1, if_neg h2, dc_X12_changed_13, c_need1]
      refine ⟨fun _ => ?_, fun hc => ?_⟩
      · obtain ⟨c1, c2⟩ := c_rec h y
        by_cases hw : q_why σ y = 0
        · obtain ⟨s', e, o, k, ho, hs, hf, hp⟩ := c2 hw
          have hn := h.n
          obtain ⟨-, ⟨n, K0, h1'⟩, g, h3⟩ := hp
          obtain ⟨d1, d2⟩ := st_recall (B := B) hs h.a.1.1 (show B ≤ x + 467 by omega) (Or.inr (by omega)) h1' z
          rw [if_pos hw]
          by_cases hw2 : q_why σ z = 0
          · obtain ⟨s2, e2, o2, k2⟩ := d2 hw2
            have ho2 : XO s2 x nb sb := (o2.1 x (by omega)).trans ho
            have k3 := k.at fun q _ _ => o2.1 q (by omega)
            obtain ⟨K4, k4⟩ := k2.kw
            refine ⟨s2, ?_, ⟨fun q q1 q2 => (o2.1 q (by omega)).trans (hf.1 q q1 q2), o2.2.trans hf.2⟩, SR.at hs fun q _ _ => o2.1 q (by omega), KP.pst k3 ⟨_, _, k4⟩ ⟨g, (o2.1 _ (by omega)).trans h3⟩⟩
            rw [if_pos hw2]
            simp only [cV_s, xo_0 h.o, eA_s, xo_5 h.o, sr_cls h.ss, eC_s, e, cI_s, if_true, xo_0 ho, xo_6 ho, sr_cls hs, e2]
            rw [dc_X12_changed_46, if_pos rfl]
            simp only [xo_5 ho2, xo_6 ho2, eA_s, kp_cls k3, eC_s]
            rw [kp_differences k3 k2]
            rfl
          · refine ⟨s', ?_, hf, hs, KP.pst k ⟨n, K0, h1'⟩ ⟨g, h3⟩⟩
            rw [if_neg hw2]
            have d1' := d1 hw2
            change _ = some (Sum.inl (some (Value.int (q_why σ z))), s') at d1'
            simp only [cV_s, xo_0 h.o, eA_s, xo_5 h.o, sr_cls h.ss, eC_s, e, cI_s, if_true, xo_0 ho, xo_6 ho, sr_cls hs, d1']
            rw [dc_X12_changed_46, if_neg hw2]
        · rw [if_neg hw]
          refine h.same ?_
          simp only [cV_s, xo_0 h.o, eA_s, xo_5 h.o, sr_cls h.ss, eC_s, c1 hw, cI_s, if_neg hw]
          rw [dc_X12_changed_46, if_neg hw]
      · have a1 := bNNN.mpr h1
        have a2 := bNNN.mpr h2
        rw [a1, a2] at hc
        cases hc
theorem c_revert (h : CX B s x nb sb u σ) : CO s x nb (cl_ tb_ct tb_mt B K_X12_revert [.ref x, .int y] s) (!decide (y < 1)) (.int (p_revert σ y).1) (p_revert σ y).2 := by
  rw [in_X12_revert, dc_X12_revert_0]
  by_cases hy : y < 1
  · rw [if_pos hy, decide_eq_true hy, dc_X12_revert_10, c_need0]
    exact ⟨fun hc => (by cases hc), fun _ => rfl⟩
  · rw [if_neg hy, decide_eq_false hy, dc_X12_revert_10, c_need1]
    refine ⟨fun _ => ?_, fun hc => by cases hc⟩
    have hn := h.n
    obtain ⟨⟨n, K0, h1⟩, ⟨n2, K2, h2⟩, g, h3⟩ := h.p
    obtain ⟨s', e, o, hh, n', K', hk⟩ := st_revert (B := B) (x := y) h.ss h.a (by have := h.uu; omega) hn.2.2.1 (show B ≤ x + 443 by omega) (Or.inr (by omega)) h1 (fun hc => hy (by rw [hc]; decide))
    refine ⟨s', ?_, ⟨fun q q1 q2 => o.1 q q1 (by omega), o.2⟩, hh, ⟨n', K', hk⟩, ⟨n2, K2, h2.at fun q _ _ => o.1 q (by omega) (by omega)⟩, g, (o.1 _ (by omega) (by omega)).trans h3⟩
    simp only [cV_s, xo_0 h.o, eA_s, xo_5 h.o, sr_cls h.ss, eC_s, e, cI_s]
end Cb
