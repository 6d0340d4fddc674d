/-! ===== the model: calls of watches (2) ===== -/
section Mx
variable {s s' : am_S} {B m i j n e c u : Nat} {v v' : Nat → Int32} {F F' : mrT} {g g' : Nat → Int32} {x y z f t l key : Int32} {σ σ' : stT} {R : Nat → Int32} {a : Value}
theorem m_watch_lp (hB : B ≤ m) (hi : i < 8) : ∀ k w g, w + k = 12 → ∃ g', rn_ tb_ct tb_mt B mm_X13_watch 90 [.ref m, .int f, .int t, .int y, .int z, .int (nI i), .int (nI w)] [] (moS s m v (m1 F g)) = rn_ tb_ct tb_mt B mm_X13_watch 90 [.ref m, .int f, .int t, .int y, .int z, .int (nI i), .int (nI 12)] [] (moS s m v (m1 F g')) ∧ (∀ q, (q < 1173 + 12 * i + w ∨ 1173 + 12 * i + 12 ≤ q) → g' q = g q) ∧ ∀ w', w ≤ w' → w' < 12 → g' (1173 + 12 * i + w') = 0 := by
  intro k
  induction k with
  | zero =>
    intro w g hw
    obtain rfl : w = 12 := by omega
    exact ⟨g, rfl, fun _ _ => rfl, fun w' a b => by omega⟩
  | succ k ih =>
    intro w g hw
    obtain ⟨g', e1, o1, r1⟩ := ih (w + 1) (upd g (1173 + 12 * i + w) 0) (by omega)
    refine ⟨g', ?_, fun q hq => ?_, fun w' a b => ?_⟩
    · rw [← e1, dc_X13_watch_90, if_neg (show ¬ (12 : Int32) ≤ nI w from nI_ge (b := 12) (by omega) (by omega)), mo_cs, eC_s, mk_sets hB (by omega), cV_s, nI_1]
    · rw [o1 q (by omega), upd_n (by omega)]
    · by_cases c : w' = w
      · subst c
        rw [o1 _ (by omega), upd_k]
      · exact r1 w' (by omega) b
theorem m_watch (h : MM B s m v F σ) (h0 : σ.1 0 < 2 ^ 30) : MR s m v F (cl_ tb_ct tb_mt B K_X13_watch [.ref m, .int f, .int t, .int y, .int z] s) (if (bRange f t && (bNN y && bIn z 0 2)) = true then 0 else 1) (if (bRange f t && (bNN y && bIn z 0 2)) = true then .int (p_watch σ f t y z).1 else .int 0) (if (bRange f t && (bNN y && bIn z 0 2)) = true then (p_watch σ f t y z).2 else σ) := by
  have e : cl_ tb_ct tb_mt B K_X13_watch [.ref m, .int f, .int t, .int y, .int z] s = rn_ tb_ct tb_mt B mm_X13_watch 31 [.ref m, .int f, .int t, .int y, .int z, am_un, am_un] [.int (if (bRange f t && (bNN y && bIn z 0 2)) = true then 1 else 0), .ref m] s := by
    rw [in_X13_watch, dc_X13_watch_0, mi_isRange, cI_s, if_b]
    cases bRange f t with
    | false => rw [if_neg (by decide), dc_X13_watch_30]; rfl
    | true =>
      rw [if_pos rfl, mi_in z 0 2 (j2 := 0) (j4 := 2) rfl rfl, cI_s, if_b]
      cases bIn z 0 2 with
      | false => rw [if_neg (by decide), dc_X13_watch_30, Bool.and_false]; rfl
      | true =>
        rw [if_pos rfl]
        by_cases c : y < 0
        · rw [if_pos c, dc_X13_watch_30, show bNN y = false by unfold bNN; rw [decide_eq_true c]; rfl]
          rfl
        · rw [if_neg c, bNNN.mpr c]
          rfl
  rw [e, dc_X13_watch_31, mo_cls h.1, eC_s]
  refine mi_call h (fun ok => ?_) fun _ => rfl
  rw [Bool.and_eq_true, Bool.and_eq_true] at ok
  have hy := bNNN.mp ok.2.1
  have h' := h.p4 (x := 0)
  have hB := h.2.2.2
  have h5 := h.2.2.1.2.2.2.2.1
  rw [mo_0s, eA_s, show (5 : Int32) = nI 5 from rfl, h'.gz (by omega), eI_s]
  unfold p_watch
  by_cases c8 : σ.1 5 = 8
  · rw [if_pos (show nI (σ.1 5) = (8 : Int32) by rw [c8]; rfl), if_pos c8]
    exact MR.in h'.1 h'.2.1 upd_k rfl
  · rw [if_neg (show ¬ nI (σ.1 5) = (8 : Int32) from fun hc => c8 ((nI_eq (b := 8) (by omega) (by omega)).mp hc)), if_neg c8, eA_s, h'.gz0, eI_s]
    by_cases c : y ≤ nI (σ.1 0 + 1)
    · rw [if_pos ((st_le hy h0).mpr c), if_neg (fun hc => hc c), eA_s, h'.gz (by omega), eI_s, eA_s, h'.gz (by omega), eI_s, nI_1, mw1 h'.1 hB (by omega), eS_s]
      obtain ⟨g', e1, o1, r1⟩ := m_watch_lp (s := moS s m (upd v 4 0) F) (v := upd v 4 0) (F := F) (B := B) (f := f) (t := t) (y := y) (z := z) hB (show σ.1 5 < 8 by omega) 12 0 (upd (F 1) 5 (nI (σ.1 5 + 1))) rfl
      rw [nI_0] at e1
      have g5 : g' 5 = nI (σ.1 5 + 1) := (o1 5 (by omega)).trans upd_k
      have go : ∀ q, q ≠ 5 → (q < 1173 + 12 * σ.1 5 ∨ 1173 + 12 * σ.1 5 + 12 ≤ q) → g' q = F 1 q := fun q q5 qr => (o1 q (by omega)).trans (upd_n q5)
      have f1 : FR (upd (upd (upd g' (1173 + 12 * σ.1 5) f) (1173 + 12 * σ.1 5 + 1) t) (1173 + 12 * σ.1 5 + 2) z) (va_up σ.1 5 (σ.1 5 + 1), va_up σ.2 4 (va_up (σ.2 4) (σ.1 5) fun w => upd (upd (upd g' (1173 + 12 * σ.1 5) f) (1173 + 12 * σ.1 5 + 1) t) (1173 + 12 * σ.1 5 + 2) z (1173 + 12 * σ.1 5 + w))) := h.2.1.wnew h.2.2.1 (by omega) (by rw [upd_n (by omega), upd_n (by omega), upd_n (by omega), g5]) (fun q q5 qr => by rw [upd_n (by omega), upd_n (by omega), upd_n (by omega), go q q5 qr]) fun w _ => rfl
      have hz2 : SZ (va_up σ.1 5 (σ.1 5 + 1), va_up σ.2 4 (va_up (σ.2 4) (σ.1 5) fun w => upd (upd (upd g' (1173 + 12 * σ.1 5) f) (1173 + 12 * σ.1 5 + 1) t) (1173 + 12 * σ.1 5 + 2) z (1173 + 12 * σ.1 5 + w))) := ⟨h.2.2.1.1, h.2.2.1.2.1, h.2.2.1.2.2.1, h.2.2.1.2.2.2.1, show σ.1 5 + 1 ≤ 8 by omega, h.2.2.1.2.2.2.2.2⟩
      have es := mk_starts (s := moS s m (upd v 4 0) F) (v := upd v 4 0) (F := F) (i := σ.1 5) (x := y) hB f1 hz2 hy (by omega)
      have es' : cl_ tb_ct tb_mt B K_X13_starts [.ref m, .int (nI (σ.1 5)), .int y] (moS (moS s m (upd v 4 0) F) m (upd v 4 0) (m1 F (upd (upd (upd g' (1173 + 12 * σ.1 5) f) (1173 + 12 * σ.1 5 + 1) t) (1173 + 12 * σ.1 5 + 2) z))) = some (.inl none, moS (moS s m (upd v 4 0) F) m (upd v 4 0) (m1 F (upd (upd (upd (upd g' (1173 + 12 * σ.1 5) f) (1173 + 12 * σ.1 5 + 1) t) (1173 + 12 * σ.1 5 + 2) z) (1173 + 12 * σ.1 5 + 3) (nI (σ.1 7 + p_first (σ.2 2) (σ.1 6) y))))) := es
      rw [e1, dc_X13_watch_90, if_pos (show (12 : Int32) ≤ nI 12 from Int32.le_refl _), mo_cs, eC_s, mk_sets0 hB (by omega), cV_s, mo_cs, eC_s, show (1 : Int32) = nI 1 from rfl, mk_sets hB (by omega), cV_s, mo_cs, eC_s, show (2 : Int32) = nI 2 from rfl, mk_sets hB (by omega), cV_s, mo_cs, eC_s, es', cV_s]
      refine MR.k1 ?_ upd_k rfl
      refine h.2.1.wnew h.2.2.1 (by omega) (by rw [upd_n (by omega), upd_n (by omega), upd_n (by omega), upd_n (by omega), g5]) (fun q q5 qr => by rw [upd_n (by omega), upd_n (by omega), upd_n (by omega), upd_n (by omega), go q q5 qr]) fun w hw => ?_
      match w, hw with
      | 0, _ =>
        rw [upd_n (by omega), upd_n (by omega), upd_n (by omega)]
        exact upd_k
      | 1, _ => rw [upd_n (by omega), upd_n (by omega), upd_k]; rfl
      | 2, _ => rw [upd_n (by omega), upd_k]; rfl
      | 3, _ => rw [upd_k]; rfl
      | w + 4, hw =>
        rw [upd_n (by omega), upd_n (by omega), upd_n (by omega), upd_n (by omega), r1 _ (by omega) hw]
        rfl
    · rw [if_neg (fun hc => c ((st_le hy h0).mp hc)), if_pos c]
      exact MR.in h'.1 h'.2.1 upd_k rfl
theorem wt_ff : 0 < p_wt σ i ↔ p_ff σ i < σ.1 6 := by
  constructor
  · intro h
    obtain ⟨j, a, b, c⟩ := cn_ex _ _ h
    apply Nat.lt_of_not_le
    intro hc
    have := fi_no (p_sw σ i) (σ.1 6) 0 j a (show j < p_ff σ i by omega)
    rw [c] at this
    cases this
  · intro h
    have := fi_yes (p_sw σ i) (σ.1 6) 0 (by rw [Nat.zero_add]; exact h)
    exact cn_pos _ _ (p_ff σ i) (Nat.zero_le _) (by omega) this
theorem m_watchValue (h : MM B s m v F σ) (ht : σ.1 7 + σ.1 6 < 2 ^ 31) : MR s m v F (cl_ tb_ct tb_mt B K_X13_watchValue [.ref m, .int y, .int z] s) (if bIx y (σ.1 5) = true then (if bIn z 0 6 = true then 0 else 2) else 1) (if bIx y (σ.1 5) = true then (if bIn z 0 6 = true then .int (q_wv σ (nN y) z) else .int 0) else .int 0) (if bIx y (σ.1 5) = true then (if bIn z 0 6 = true then σ else σ) else σ) := by
  have h5 := h.2.2.1.2.2.2.2.1
  have h6 := h.2.2.1.2.2.1
  rw [in_X13_watchValue, dc_X13_watchValue_0, mo_cls h.1, eC_s, mk_isWatch h, cI_s, mo_cls h.1, eC_s]
  have h' := h.p4 (x := 0)
  have key : ∀ (ok2 : Bool), ok2 = bIn z 0 6 → bIx y (σ.1 5) = true → MR (moS s m (upd v 4 0) F) m (upd v 4 0) F (cI (cl_ tb_ct tb_mt B K_X13_in [.long z.toInt64, .long (0 : Int64), .long (6 : Int64)] (moS s m (upd v 4 0) F)) (fun x_6 s_5 => eC (am_cls s_5 m) 11 (cI (cl_ tb_ct tb_mt B K_X13_isThrown [.ref m, .int x_6, .int (2 : Int32)] s_5) (fun x_8 s_7 => if x_8 = 0 then sw z.toInt 3 [eC (am_cls s_7 m) 11 (cI (cl_ tb_ct tb_mt B K_X13_waiting [.ref m, .int y] s_7) (fun x_10 s_9 => some (.inl (some (.int x_10)), s_9)) xo), eC (am_cls s_7 m) 11 (cI (cl_ tb_ct tb_mt B K_X13_watchAt [.ref m, .int y, .int (5 : Int32)] s_7) (fun x_12 s_11 => some (.inl (some (.int x_12)), s_11)) xo), eC (am_cls s_7 m) 11 (cI (cl_ tb_ct tb_mt B K_X13_watchAt [.ref m, .int y, .int (4 : Int32)] s_7) (fun x_14 s_13 => if x_14 ≤ 0 then eC (am_cls s_13 m) 11 (cI (cl_ tb_ct tb_mt B K_X13_waiting [.ref m, .int y] s_13) (fun x_16 s_15 => if x_16 ≤ 0 then some (.inl (some (.int (0 : Int32))), s_15) else some (.inl (some (.int (1 : Int32))), s_15)) xo) else some (.inl (some (.int (2 : Int32))), s_13)) xo), eC (am_cls s_7 m) 11 (cI (cl_ tb_ct tb_mt B K_X13_watchAt [.ref m, .int y, .int (4 : Int32)] s_7) (fun x_18 s_17 => some (.inl (some (.int x_18)), s_17)) xo)] (eC (am_cls s_7 m) 11 (cI (cl_ tb_ct tb_mt B K_X13_watchAt [.ref m, .int y, .int z] s_7) (fun x_20 s_19 => some (.inl (some (.int x_20)), s_19)) xo)) else some (.inl (some (.int (0 : Int32))), s_7)) xo)) xo) (if ok2 = true then 0 else 2) (if ok2 = true then .int (q_wv σ (nN y) z) else .int 0) (if ok2 = true then σ else σ) := by
    intro ok2 e2 ok
    rw [mi_in z 0 6 (j2 := 0) (j4 := 6) rfl rfl, cI_s, ← e2, mo_cs, eC_s]
    refine mi_call h' (fun ok' => MR.in OV.of h.2.1 upd_k ?_) fun _ => rfl
    obtain ⟨j, rfl, hj⟩ := bIxN (by omega) ok
    obtain ⟨w, hw, rfl⟩ := bInN (m := 6) (by omega) (e2 ▸ ok')
    have h2 := h'.p4 (x := 0)
    have b : p_wt σ j ≤ σ.1 6 := cn_le _ _ _
    rw [nN_nI (by omega), nI_toInt (by omega), mo_cs, eC_s, eC_s, eC_s, eC_s, eC_s, mk_waiting h2 hj ht, cI_s, show (5 : Int32) = nI 5 from rfl, show (4 : Int32) = nI 4 from rfl, mk_wat h2 hj (by omega), mk_wat h2 hj (by omega), mk_wat h2 hj (by omega), cI_s, cI_s, cI_s, cI_s]
    match w, hw with
    | 0, _ => rfl
    | 1, _ => rfl
    | 2, _ => rfl
    | 3, _ => rfl
    | 4, _ => rfl
    | 5, _ =>
      show (if σ.2 4 j 4 ≤ 0 then eC (am_cls (moS (moS s m (upd v 4 0) F) m (upd (upd v 4 0) 4 0) F) m) 11 (cI (cl_ tb_ct tb_mt B K_X13_waiting [.ref m, .int (nI j)] (moS (moS s m (upd v 4 0) F) m (upd (upd v 4 0) 4 0) F)) (fun x_16 s_15 => if x_16 ≤ 0 then some (.inl (some (.int (0 : Int32))), s_15) else some (.inl (some (.int (1 : Int32))), s_15)) xo) else some (.inl (some (.int (2 : Int32))), moS (moS s m (upd v 4 0) F) m (upd (upd v 4 0) 4 0) F)) = some (.inl (some (.int (if 0 < σ.2 4 j 4 then 2 else if p_ff σ j < σ.1 6 then 1 else 0))), moS (moS s m (upd v 4 0) F) m (upd (upd v 4 0) 4 0) F)
      by_cases c : 0 < σ.2 4 j 4
      · rw [if_neg (Int32.not_le.mpr c), if_pos c]
      · rw [if_pos (Int32.not_lt.mp c), if_neg c, mo_cs, eC_s, mk_waiting h2 hj ht, cI_s]
        by_cases d : p_ff σ j < σ.1 6
        · have := wt_ff.mpr d
          rw [if_pos d, if_neg (show ¬ nI (p_wt σ j) ≤ 0 from nI_ge (b := p_wt σ j) (a := 0) this (by omega))]
        · have : p_wt σ j = 0 := Nat.eq_zero_of_not_pos fun hc => d (wt_ff.mp hc)
          rw [if_neg d, this, if_pos (show nI 0 ≤ 0 from Int32.le_refl _)]
    | 6, _ => rfl
  refine mi_call2 h (fun ok ok2 => ?_) (fun ok ok2 => ?_) fun _ => rfl
  · have := key _ rfl ok
    rw [ok2] at this
    exact this
  · have := key _ rfl ok
    rw [ok2] at this
    exact this
/-! the earliest event of a watch -/
theorem ear_of (hI : IK σ.1 σ.2) : (p_ff σ i < σ.1 6 → ∃ re : Nat, σ.2 2 (p_ff σ i) 0 = nI re ∧ 1 ≤ re ∧ re ≤ σ.1 0 ∧ p_ear σ i = nI re) ∧ (¬ p_ff σ i < σ.1 6 → p_ear σ i = -1) := by
  unfold p_ear
  refine ⟨fun c => ?_, fun c => if_neg c⟩
  obtain ⟨-, -, re, d1, d2, d3⟩ := hI.2.2.1 _ c
  exact ⟨re, d1, by omega, d3, by rw [if_pos c, d1]⟩
theorem m_behind (h : MM B s m v F σ) (ht : σ.1 7 + σ.1 6 < 2 ^ 31) (hI : IK σ.1 σ.2) : MR s m v F (cl_ tb_ct tb_mt B K_X13_behind [.ref m, .int y] s) (if bIx y (σ.1 5) = true then 0 else 1) (if bIx y (σ.1 5) = true then .int (q_beh σ (nN y)) else .int 0) (if bIx y (σ.1 5) = true then σ else σ) := by
  have h5 := h.2.2.1.2.2.2.2.1
  have h6 := h.2.2.1.2.2.1
  have h0 := hI.h0
  rw [in_X13_behind, dc_X13_behind_0, mo_cls h.1, eC_s, mk_isWatch h, cI_s, mo_cls h.1, eC_s]
  refine mi_call h (fun ok => MR.in OV.of h.2.1 upd_k ?_) fun _ => rfl
  obtain ⟨j, rfl, hj⟩ := bIxN (by omega) ok
  have h' := h.p4 (x := 0)
  rw [nN_nI (by omega), mo_cs, eC_s, mk_firstOf h' hj ht, cI_s]
  unfold q_beh
  obtain ⟨a1, a2⟩ := ear_of (i := j) hI
  by_cases c : p_ff σ j < σ.1 6
  · obtain ⟨re, b1, b2, b3, b4⟩ := a1 c
    have e0 : cl_ tb_ct tb_mt B K_X13_eventAt [.ref m, .int (nI (p_ff σ j)), .int 0] (moS s m (upd v 4 0) F) = _ := mk_event (w := 0) h' c (by omega)
    rw [if_pos c, if_neg (nI_m1 (by omega)), mo_0s, eA_s, h'.gz0, eI_s, mo_cs, eC_s, e0, cI_s, b1, b4, if_neg (nI_m1 (by omega))]
  · rw [if_neg c, if_pos rfl, a2 c, if_pos rfl]
theorem m_safe (h : MM B s m v F σ) (ht : σ.1 7 + σ.1 6 < 2 ^ 31) (hI : IK σ.1 σ.2) : MR s m v F (cl_ tb_ct tb_mt B K_X13_safe [.ref m] s) 0 (.int (q_safe σ 0 (σ.1 5) (nI (σ.1 0) + 1) - 1)) σ := by
  have h5 := h.2.2.1.2.2.2.2.1
  have h6 := h.2.2.1.2.2.1
  have h0 := hI.h0
  have h' := h.p4 (x := 0)
  have lp : ∀ k i c, i + k = σ.1 5 → 1 ≤ c → c ≤ σ.1 0 + 1 → rn_ tb_ct tb_mt B mm_X13_safe 14 [.ref m, .int (nI (c - 1)), .int (nI i), am_un] [] (moS s m (upd v 4 0) F) = some (.inl (some (.int (q_safe σ i k (nI c) - 1))), moS s m (upd v 4 0) F) := by
    intro k
    induction k with
    | zero =>
      intro i c hi hc1 hc2
      rw [dc_X13_safe_14, mo_0s, eA_s, show (5 : Int32) = nI 5 from rfl, h'.gz (by omega), eI_s, if_pos (nI_le (by omega) (by omega)), ← nI_sub1 hc1]
      rfl
    | succ k ih =>
      intro i c hi hc1 hc2
      rw [dc_X13_safe_14, mo_0s, eA_s, show (5 : Int32) = nI 5 from rfl, h'.gz (by omega), eI_s, if_neg (nI_ge (by omega) (by omega)), mo_cs, eC_s, mk_firstOf h' (by omega) ht, cI_s]
      obtain ⟨a1, a2⟩ := ear_of (i := i) hI
      have eq : q_safe σ i (k + 1) (nI c) = q_safe σ (i + 1) k (if p_ear σ i = -1 then nI c else if p_ear σ i < nI c then p_ear σ i else nI c) := rfl
      rw [eq]
      by_cases d : p_ff σ i < σ.1 6
      · obtain ⟨re, b1, b2, b3, b4⟩ := a1 d
        have e0 : cl_ tb_ct tb_mt B K_X13_eventAt [.ref m, .int (nI (p_ff σ i)), .int 0] (moS s m (upd v 4 0) F) = _ := mk_event (w := 0) h' d (by omega)
        rw [if_pos d, if_neg (nI_m1 (by omega)), mo_cs, eC_s, e0, cI_s, b1, b4, if_neg (nI_m1 (by omega)), dc_X13_safe_51, nI_sub1 b2, nI_1]
        by_cases r : re < c
        · rw [if_pos (nI_lt (show re - 1 < c - 1 by omega) (by omega)), if_pos (nI_lt r (by omega))]
          exact ih (i + 1) re (by omega) b2 (by omega)
        · rw [if_neg (nI_nlt (show c - 1 ≤ re - 1 by omega) (by omega)), if_neg (nI_nlt (show c ≤ re by omega) (by omega))]
          exact ih (i + 1) c (by omega) hc1 hc2
      · rw [if_neg d, if_pos rfl, a2 d, if_pos rfl, dc_X13_safe_51, nI_1]
        exact ih (i + 1) c (by omega) hc1 hc2
  rw [in_X13_safe, dc_X13_safe_0, mp_4 h.1 h.2.2.2, eS_s, mo_0s, eA_s, h'.gz0, eI_s, nI_1]
  have e := lp (σ.1 5) 0 (σ.1 0 + 1) (by omega) (by omega) (by omega)
  rw [nI_0, Nat.add_sub_cancel] at e
  exact ⟨_, _, F, e, so_ov, OV.of, h.2.1, KM.p (by omega), upd_k⟩
theorem m_missing (h : MM B s m v F σ) (ht : σ.1 7 + σ.1 6 < 2 ^ 31) (hI : IK σ.1 σ.2) : MR s m v F (cl_ tb_ct tb_mt B K_X13_missing [.ref m, .int y] s) (if bNN y = true then 0 else 1) (if bNN y = true then .int (nI (cn (q_mis σ y) 0 (σ.1 5))) else .int 0) (if bNN y = true then σ else σ) := by
  have h5 := h.2.2.1.2.2.2.2.1
  have h6 := h.2.2.1.2.2.1
  have h0 := hI.h0
  have h' := h.p4 (x := 0)
  have e : cl_ tb_ct tb_mt B K_X13_missing [.ref m, .int y] s = rn_ tb_ct tb_mt B mm_X13_missing 10 [.ref m, .int y, am_un, am_un, am_un] [.int (if bNN y = true then 1 else 0), .ref m] s := by
    rw [in_X13_missing, dc_X13_missing_0]
    by_cases c : y < 0
    · rw [if_pos c, show bNN y = false by unfold bNN; rw [decide_eq_true c]; rfl]
      rfl
    · rw [if_neg c, bNNN.mpr c]
      rfl
  have lp : ∀ k i j, i + k = σ.1 5 → rn_ tb_ct tb_mt B mm_X13_missing 23 [.ref m, .int y, .int (nI j), .int (nI i), am_un] [] (moS s m (upd v 4 0) F) = some (.inl (some (.int (nI (j + cn (q_mis σ y) i k)))), moS s m (upd v 4 0) F) := by
    intro k
    induction k with
    | zero =>
      intro i j hi
      rw [dc_X13_missing_23, mo_0s, eA_s, show (5 : Int32) = nI 5 from rfl, h'.gz (by omega), eI_s, if_pos (nI_le (by omega) (by omega))]
      rfl
    | succ k ih =>
      intro i j hi
      rw [dc_X13_missing_23, mo_0s, eA_s, show (5 : Int32) = nI 5 from rfl, h'.gz (by omega), eI_s, if_neg (nI_ge (by omega) (by omega)), mo_cs, eC_s, mk_firstOf h' (by omega) ht, cI_s, cn_s]
      obtain ⟨a1, a2⟩ := ear_of (i := i) hI
      by_cases d : p_ff σ i < σ.1 6
      · obtain ⟨re, b1, b2, b3, b4⟩ := a1 d
        have e0 : cl_ tb_ct tb_mt B K_X13_eventAt [.ref m, .int (nI (p_ff σ i)), .int 0] (moS s m (upd v 4 0) F) = _ := mk_event (w := 0) h' d (by omega)
        rw [if_pos d, if_neg (nI_m1 (by omega)), mo_cs, eC_s, e0, cI_s, b1]
        by_cases r : y < nI re
        · have eb : q_mis σ y i = false := by
            unfold q_mis
            rw [b4, decide_eq_true r, Bool.not_true, Bool.and_false]
          rw [if_pos r, dc_X13_missing_62, dc_X13_missing_63, Int32.add_zero, nI_1, ih (i + 1) j (by omega), eb, if_neg (by decide), Nat.zero_add]
        · have eb : q_mis σ y i = true := by
            unfold q_mis
            rw [b4, decide_eq_false r, decide_eq_false (nI_m1 (by omega))]
            rfl
          rw [if_neg r, dc_X13_missing_63, nI_1, nI_1, ih (i + 1) (j + 1) (by omega), eb, if_pos rfl, Nat.add_assoc]
      · have eb : q_mis σ y i = false := by
          unfold q_mis
          rw [a2 d, decide_eq_true rfl]
          rfl
        rw [if_neg d, if_pos rfl, dc_X13_missing_62, dc_X13_missing_63, Int32.add_zero, nI_1, ih (i + 1) j (by omega), eb, if_neg (by decide), Nat.zero_add]
  rw [e, dc_X13_missing_10, mo_cls h.1, eC_s]
  refine mi_call h (fun ok => MR.in OV.of h.2.1 upd_k ?_) fun _ => rfl
  have := lp (σ.1 5) 0 0 (by omega)
  rw [nI_0, Nat.zero_add] at this
  exact this
theorem m_slowest (h : MM B s m v F σ) (ht : σ.1 7 + σ.1 6 < 2 ^ 31) : MR s m v F (cl_ tb_ct tb_mt B K_X13_slowest [.ref m] s) 0 (.int (q_slow σ 0 (σ.1 5) (-1) 0)) σ := by
  have h5 := h.2.2.1.2.2.2.2.1
  have h' := h.p4 (x := 0)
  have lp : ∀ k i b mm w4, i + k = σ.1 5 → rn_ tb_ct tb_mt B mm_X13_slowest 11 [.ref m, .int b, .int mm, .int (nI i), w4] [] (moS s m (upd v 4 0) F) = some (.inl (some (.int (q_slow σ i k b mm))), moS s m (upd v 4 0) F) := by
    intro k
    induction k with
    | zero =>
      intro i b mm w4 hi
      rw [dc_X13_slowest_11, mo_0s, eA_s, show (5 : Int32) = nI 5 from rfl, h'.gz (by omega), eI_s, if_pos (nI_le (by omega) (by omega))]
      rfl
    | succ k ih =>
      intro i b mm w4 hi
      have eq : q_slow σ i (k + 1) b mm = if nI (p_wt σ i) ≤ mm then q_slow σ (i + 1) k b mm else q_slow σ (i + 1) k (nI i) (nI (p_wt σ i)) := rfl
      rw [dc_X13_slowest_11, mo_0s, eA_s, show (5 : Int32) = nI 5 from rfl, h'.gz (by omega), eI_s, if_neg (nI_ge (by omega) (by omega)), mo_cs, eC_s, mk_waiting h' (by omega) ht, cI_s, eq]
      by_cases c : nI (p_wt σ i) ≤ mm
      · rw [if_pos c, if_pos c, dc_X13_slowest_39, if_neg (Int32.not_lt.mpr c), nI_1]
        exact ih (i + 1) _ _ _ (by omega)
      · rw [if_neg c, if_neg c, dc_X13_slowest_39, if_pos (Int32.not_le.mp c), nI_1]
        exact ih (i + 1) _ _ _ (by omega)
  rw [in_X13_slowest, dc_X13_slowest_0, mp_4 h.1 h.2.2.2, eS_s]
  have e := lp (σ.1 5) 0 (-1) 0 am_un (by omega)
  rw [nI_0] at e
  exact ⟨_, _, F, e, so_ov, OV.of, h.2.1, KM.p (by omega), upd_k⟩
theorem m_meanLag (h : MM B s m v F σ) (ht : σ.1 7 + σ.1 6 < 2 ^ 31) : MR s m v F (cl_ tb_ct tb_mt B K_X13_meanLag [.ref m] s) 0 (.float (q_lag σ)) σ := by
  have h5 := h.2.2.1.2.2.2.2.1
  have h6 := h.2.2.1.2.2.1
  have h' := h.p4 (x := 0)
  have lp : ∀ k i j, i + k = σ.1 5 → j ≤ 152 * i → rn_ tb_ct tb_mt B mm_X13_meanLag 9 [.ref m, .int (nI j), .int (nI i)] [] (moS s m (upd v 4 0) F) = some (.inl (some (.float (if σ.1 5 = 0 then FP.fconst0 else FP.fdiv (FP.i2f (nI (j + q_sumW σ i k))) (FP.i2f (nI (σ.1 5)))))), moS s m (upd v 4 0) F) := by
    intro k
    induction k with
    | zero =>
      intro i j hi hj
      rw [dc_X13_meanLag_9, mo_0s, eA_s, show (5 : Int32) = nI 5 from rfl, h'.gz (by omega), eI_s, if_pos (nI_le (by omega) (by omega)), eA_s, h'.gz (by omega), eI_s]
      by_cases d : σ.1 5 = 0
      · rw [if_pos (show nI (σ.1 5) = 0 from by rw [d]; rfl), dc_X13_meanLag_56, if_pos d]
      · rw [if_neg (show ¬ nI (σ.1 5) = 0 from fun hc => d ((nI_eq (a := σ.1 5) (b := 0) (by omega) (by omega)).mp hc)), eA_s, h'.gz (by omega), eI_s, if_pos ((q_fok (σ.1 5) (by omega) j (by omega)).resolve_left d).1, dc_X13_meanLag_56, if_neg d]
        rfl
    | succ k ih =>
      intro i j hi hj
      have b : p_wt σ i ≤ σ.1 6 := cn_le _ _ _
      have eq : q_sumW σ i (k + 1) = p_wt σ i + q_sumW σ (i + 1) k := rfl
      rw [dc_X13_meanLag_9, mo_0s, eA_s, show (5 : Int32) = nI 5 from rfl, h'.gz (by omega), eI_s, if_neg (nI_ge (by omega) (by omega)), mo_cs, eC_s, mk_waiting h' (by omega) ht, cI_s, nI_add, nI_1, ih (i + 1) _ (by omega) (by omega), eq, Nat.add_assoc]
  rw [in_X13_meanLag, dc_X13_meanLag_0, mp_4 h.1 h.2.2.2, eS_s]
  have e0 := lp (σ.1 5) 0 0 (by omega) (Nat.zero_le _)
  rw [Nat.zero_add, nI_0] at e0
  refine ⟨_, _, F, e0, so_ov, OV.of, h.2.1, KM.p (by omega), upd_k⟩
end Mx
