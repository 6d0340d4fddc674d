/-! ===== the model: calls of watches ===== -/
section Mx
variable {s s' : am_S} {B m i j n e c u : Nat} {v v' : Nat → Int32} {F F' : mrT} {g g' : Nat → Int32} {x y z f t k l key : Int32} {σ σ' : stT} {R : Nat → Int32} {a : Value}
theorem mk_sets1 {w : Nat} (hB : B ≤ m) (hj : 1173 + 12 * i + w < 1329) : cl_ tb_ct tb_mt B K_X13_sets [.ref m, .int (nI i), .int (nI w), .int x] (moS s m v F) = some (.inl none, moS s m v (m1 F (upd (F 1) (1173 + 12 * i + w) x))) := by
  have e := mk_sets (s := s) (v := v) (F := F) (g := F 1) (x := x) hB hj
  rw [m1_id rfl] at e
  exact e
theorem mk_setsM {w : Nat} (h : MO s m v F) (hB : B ≤ m) (hj : 1173 + 12 * i + w < 1329) : cl_ tb_ct tb_mt B K_X13_sets [.ref m, .int (nI i), .int (nI w), .int x] s = some (.inl none, moS s m v (m1 F (upd (F 1) (1173 + 12 * i + w) x))) := by
  have e := mk_sets1 (s := s) (v := v) (F := F) (x := x) hB hj
  rw [mo_self h] at e
  exact e
theorem mk_evr {w : Nat} (hj : 189 + 6 * e + w < 1329) : cl_ tb_ct tb_mt B K_X13_eventAt [.ref m, .int (nI e), .int (nI w)] (moS s m v (m1 F g)) = some (.inl (some (.int (g (189 + 6 * e + w)))), moS s m v (m1 F g)) := by
  rw [in_X13_eventAt, dc_X13_eventAt_0, mo_0s, eA_s]
  simp only [nn0, nn1, nn2, nn3, nn4, nn5, nn6, nn7, nn8, nn9, nn10, nn11, nn12, nn13, nn15, nn16, nn18, nn28, nn45, nn48, nn57, nn58, nn59, nn97, nn120, nn122, nn157, nn189, nn500, nn999, nn1000, nn1149, nn1173, nn1269, nn1293, nn1311, nn1329, nn9999, nI_add, nI_mul]
  rw [mr2 hj, eI_s]
theorem mk_evr0 (hj : 189 + 6 * e < 1329) : cl_ tb_ct tb_mt B K_X13_eventAt [.ref m, .int (nI e), .int 0] (moS s m v (m1 F g)) = some (.inl (some (.int (g (189 + 6 * e)))), moS s m v (m1 F g)) := by
  have h := mk_evr (s := s) (B := B) (m := m) (v := v) (F := F) (g := g) (e := e) (w := 0) hj
  rw [nI_0] at h
  exact h
theorem mk_sets0 (hB : B ≤ m) (hj : 1173 + 12 * i < 1329) : cl_ tb_ct tb_mt B K_X13_sets [.ref m, .int (nI i), .int 0, .int x] (moS s m v (m1 F g)) = some (.inl none, moS s m v (m1 F (upd g (1173 + 12 * i) x))) := by
  have h := mk_sets (s := s) (v := v) (F := F) (g := g) (x := x) (i := i) (w := 0) hB hj
  rw [nI_0] at h
  exact h
theorem mk_war {w : Nat} (hj : 1173 + 12 * i + w < 1329) : cl_ tb_ct tb_mt B K_X13_watchAt [.ref m, .int (nI i), .int (nI w)] (moS s m v (m1 F g)) = some (.inl (some (.int (g (1173 + 12 * i + w)))), moS s m v (m1 F g)) := by
  rw [in_X13_watchAt, dc_X13_watchAt_0, mo_0s, eA_s]
  simp only [nn0, nn1, nn2, nn3, nn4, nn5, nn6, nn7, nn8, nn9, nn10, nn11, nn12, nn13, nn15, nn16, nn18, nn28, nn45, nn48, nn57, nn58, nn59, nn97, nn120, nn122, nn157, nn189, nn500, nn999, nn1000, nn1149, nn1173, nn1269, nn1293, nn1311, nn1329, nn9999, nI_add, nI_mul]
  rw [mr2 hj, eI_s]
theorem FR.wnew (h : FR g σ) (hz : SZ σ) (h8 : σ.1 5 < 8) (hc : g' 5 = nI (σ.1 5 + 1)) (hg : ∀ q, q ≠ 5 → (q < 1173 + 12 * σ.1 5 ∨ 1173 + 12 * σ.1 5 + 12 ≤ q) → g' q = g q) (hr : ∀ w, w < 12 → g' (1173 + 12 * σ.1 5 + w) = R w) : FR g' (va_up σ.1 5 (σ.1 5 + 1), va_up σ.2 4 (va_up (σ.2 4) (σ.1 5) R)) := by
  refine h.t4 hz (fun k k5 kr => hg k k5 (by omega)) hc (fun q w hq hw => ?_)
  by_cases c : q = σ.1 5
  · subst c
    rw [va_us]
    exact hr w hw
  · rw [va_un c, hg _ (by omega) (by omega)]
    exact h.2.2.2.2.2.1 q w (by omega) hw
theorem FR.wr (h : FR g σ) (hi : i < σ.1 5) {w : Nat} (hw : w < 12) : g (1173 + 12 * i + w) = σ.2 4 i w := h.2.2.2.2.2.1 i w hi hw
theorem m_admit (h : MM B s m v F σ) : MR s m v F (cl_ tb_ct tb_mt B K_X13_admit [.ref m, .int y] s) (if bIx y (σ.1 5) = true then 0 else 1) (if bIx y (σ.1 5) = true then .int (p_adm σ (nN y)).1 else .int 0) (if bIx y (σ.1 5) = true then (p_adm σ (nN y)).2 else σ) := by
  have h5 := h.2.2.1.2.2.2.2.1
  have hB := h.2.2.2
  rw [in_X13_admit, dc_X13_admit_0, mo_cls h.1, eC_s, mk_isWatch h, cI_s, mo_cls h.1, eC_s]
  refine mi_call h (fun ok => ?_) fun _ => rfl
  obtain ⟨j, rfl, hj⟩ := bIxN (by omega) ok
  have h' := h.p4 (x := 0)
  rw [nN_nI (by omega), mo_cs, eC_s, show (4 : Int32) = nI 4 from rfl, mk_wat h' hj (by omega), cI_s, mo_cs, eC_s, mk_setsM h'.1 hB (by omega), cV_s]
  unfold p_adm
  refine MR.k1 (g := upd (F 1) (1173 + 12 * j + 4) 0) ?_ upd_k rfl
  refine h.2.1.wrow h.2.2.1 hj (fun q hq => upd_n (by omega)) fun w hw => ?_
  by_cases cw : w = 4
  · subst cw
    rw [upd_k, upd_k]
  · rw [upd_n (by omega), upd_n cw]
    exact h.2.1.wr hj hw
theorem m_taken (h : MM B s m v F σ) : MR s m v F (cl_ tb_ct tb_mt B K_X13_taken [.ref m, .int y, .int z] s) (if bIx y (σ.1 5) = true then (if bIn z 0 5 = true then 0 else 2) else 1) (if bIx y (σ.1 5) = true then (if bIn z 0 5 = true then .int (if σ.2 4 (nN y) 5 = 0 then NOV else σ.2 4 (nN y) (6 + nN z)) else .int 0) else .int 0) (if bIx y (σ.1 5) = true then (if bIn z 0 5 = true then σ else σ) else σ) := by
  have h5 := h.2.2.1.2.2.2.2.1
  rw [in_X13_taken, dc_X13_taken_0, mo_cls h.1, eC_s, mk_isWatch h, cI_s, mo_cls h.1, eC_s]
  have h' := h.p4 (x := 0)
  have key : ∀ (ok2 : Bool), ok2 = bIn z 0 5 → bIx y (σ.1 5) = true → MR (moS s m (upd v 4 0) F) m (upd v 4 0) F (cI (cl_ tb_ct tb_mt B K_X13_in [.long z.toInt64, .long (0 : Int64), .long (5 : Int64)] (moS s m (upd v 4 0) F)) (fun x_8 s_7 => eC (am_cls s_7 m) 11 (cI (cl_ tb_ct tb_mt B K_X13_isThrown [.ref m, .int x_8, .int (2 : Int32)] s_7) (fun x_10 s_9 => if x_10 = 0 then eC (am_cls s_9 m) 11 (cI (cl_ tb_ct tb_mt B K_X13_watchAt [.ref m, .int y, .int (5 : Int32)] s_9) (fun x_12 s_11 => if x_12 = 0 then some (.inl (some (.int (-(2000000000 : Int32)))), s_11) else eC (am_cls s_11 m) 11 (cI (cl_ tb_ct tb_mt B K_X13_watchAt [.ref m, .int y, .int ((6 : Int32) + z)] s_11) (fun x_14 s_13 => some (.inl (some (.int x_14)), s_13)) xo)) xo) else some (.inl (some (.int (0 : Int32))), s_9)) xo)) xo) (if ok2 = true then 0 else 2) (if ok2 = true then .int (if σ.2 4 (nN y) 5 = 0 then NOV else σ.2 4 (nN y) (6 + nN z)) else .int 0) (if ok2 = true then σ else σ) := by
    intro ok2 e2 ok
    rw [mi_in z 0 5 (j2 := 0) (j4 := 5) rfl rfl, cI_s, ← e2, mo_cs, eC_s]
    refine mi_call h' (fun ok' => MR.in OV.of h.2.1 upd_k ?_) fun _ => rfl
    obtain ⟨j, rfl, hj⟩ := bIxN (by omega) ok
    obtain ⟨w, hw, rfl⟩ := bInN (m := 5) (by omega) (e2 ▸ ok')
    rw [mo_cs, eC_s, show (5 : Int32) = nI 5 from rfl, mk_wat (h'.p4 (x := 0)) hj (by omega), cI_s, nN_nI (by omega), nN_nI (by omega)]
    by_cases c : σ.2 4 j 5 = 0
    · rw [if_pos c, if_pos c]
      rfl
    · rw [if_neg c, if_neg c, mo_cs, eC_s, show (6 : Int32) = nI 6 from rfl, nI_add, mk_wat (h'.p4 (x := 0)) hj (by omega), cI_s]
  refine mi_call2 h (fun ok ok2 => ?_) (fun ok ok2 => ?_) fun _ => rfl
  · have := key _ rfl ok
    rw [ok2] at this
    exact this
  · have := key _ rfl ok
    rw [ok2] at this
    exact this
/-- what is taken is put down -/
theorem m_take_lp (hB : B ≤ m) (hi : i < 8) (he : e < 160) : ∀ k w g, w + k = 6 → ∃ g', rn_ tb_ct tb_mt B mm_X13_take 42 [.ref m, .int (nI i), .int (nI e), .int (nI w)] [] (moS s m v (m1 F g)) = rn_ tb_ct tb_mt B mm_X13_take 42 [.ref m, .int (nI i), .int (nI e), .int (nI 6)] [] (moS s m v (m1 F g')) ∧ (∀ q, (q < 1173 + 12 * i + 6 + w ∨ 1173 + 12 * i + 12 ≤ q) → g' q = g q) ∧ ∀ w', w ≤ w' → w' < 6 → g' (1173 + 12 * i + 6 + w') = g (189 + 6 * e + w') := by
  intro k
  induction k with
  | zero =>
    intro w g hw
    obtain rfl : w = 6 := by omega
    exact ⟨g, rfl, fun _ _ => rfl, fun w' a b => by omega⟩
  | succ k ih =>
    intro w g hw
    obtain ⟨g', e1, o1, r1⟩ := ih (w + 1) (upd g (1173 + 12 * i + 6 + w) (g (189 + 6 * e + w))) (by omega)
    refine ⟨g', ?_, fun q hq => ?_, fun w' a b => ?_⟩
    · rw [← e1, dc_X13_take_42, if_neg (show ¬ (6 : Int32) ≤ nI w from nI_ge (b := 6) (by omega) (by omega)), mo_cs, eC_s, mk_evr (by omega), cI_s, mo_cs, eC_s, show (6 : Int32) = nI 6 from rfl, nI_add, mk_sets hB (by omega), cV_s, nI_1, show 1173 + 12 * i + (6 + w) = 1173 + 12 * i + 6 + w by omega]
    · rw [o1 q (by omega), upd_n (by omega)]
    · by_cases c : w' = w
      · subst c
        rw [o1 _ (by omega), upd_k]
      · rw [r1 w' (by omega) b, upd_n (by omega)]
theorem m_take (h : MM B s m v F σ) (ht : σ.1 7 + σ.1 6 < 2 ^ 31) : MR s m v F (cl_ tb_ct tb_mt B K_X13_take [.ref m, .int y] s) (if bIx y (σ.1 5) = true then 0 else 1) (if bIx y (σ.1 5) = true then .int (p_take σ (nN y)).1 else .int 0) (if bIx y (σ.1 5) = true then (p_take σ (nN y)).2 else σ) := by
  have h5 := h.2.2.1.2.2.2.2.1
  have h6 := h.2.2.1.2.2.1
  have hB := h.2.2.2
  rw [in_X13_take, dc_X13_take_0, mo_cls h.1, eC_s, mk_isWatch h, cI_s, mo_cls h.1, eC_s]
  refine mi_call h (fun ok => ?_) fun _ => rfl
  obtain ⟨j, rfl, hj⟩ := bIxN (by omega) ok
  have h' := h.p4 (x := 0)
  rw [nN_nI (by omega), mo_cs, eC_s, show (4 : Int32) = nI 4 from rfl, mk_wat h' hj (by omega), cI_s]
  unfold p_take
  by_cases c1 : 0 < σ.2 4 j 4
  · rw [if_neg (Int32.not_le.mpr c1), if_pos c1]
    exact MR.in h'.1 h'.2.1 upd_k rfl
  · rw [if_pos (Int32.not_lt.mp c1), if_neg c1, mo_cs, eC_s, mk_firstOf h' hj ht, cI_s]
    by_cases c2 : p_ff σ j < σ.1 6
    · rw [if_pos c2, if_neg (nI_m1 (by omega)), if_pos c2]
      obtain ⟨g', e1, o1, r1⟩ := m_take_lp (s := moS s m (upd v 4 0) F) (v := upd v 4 0) (F := F) (B := B) hB (show j < 8 by omega) (show p_ff σ j < 160 by omega) 6 0 (F 1) rfl
      rw [m1_id rfl, nI_0, mo_self h'.1] at e1
      have g7 : g' 7 = nI (σ.1 7) := (o1 7 (by omega)).trans (h.2.1.1 7 (by omega))
      have gw : ∀ w, w < 6 → g' (1173 + 12 * j + w) = σ.2 4 j w := fun w hw => (o1 _ (by omega)).trans (h.2.1.wr hj (by omega))
      have gr : ∀ w, w < 6 → g' (1173 + 12 * j + 6 + w) = σ.2 2 (p_ff σ j) w := fun w hw => (r1 w (by omega) hw).trans (h.2.1.2.2.2.1 _ w c2 hw)
      have ge : g' (189 + 6 * p_ff σ j) = σ.2 2 (p_ff σ j) 0 := (o1 _ (by omega)).trans (h.2.1.2.2.2.1 _ 0 c2 (by omega))
      rw [e1, dc_X13_take_42, if_pos (show (6 : Int32) ≤ nI 6 from Int32.le_refl _), mo_0s, eA_s, show (7 : Int32) = nI 7 from rfl, mr2 (by omega), eI_s, g7, nI_add, nI_1, mo_cs, eC_s, show (3 : Int32) = nI 3 from rfl, mk_sets hB (by omega), cV_s, mo_cs, eC_s, show (5 : Int32) = nI 5 from rfl, mk_war (by omega), cI_s, upd_n (by omega), gw 5 (by omega), mo_cs, eC_s, mk_sets hB (by omega), cV_s, mo_cs, eC_s, mk_evr0 (by omega), cI_s, upd_n (by omega), upd_n (by omega), ge]
      refine MR.k1 ?_ upd_k rfl
      refine h.2.1.wrow h.2.2.1 hj (fun q hq => ?_) fun w hw => ?_
      · rw [upd_n (by omega), upd_n (by omega), o1 q (by omega)]
      · unfold tkW
        by_cases w3 : w = 3
        · subst w3
          rw [if_pos rfl, upd_n (by omega), upd_k]
        · rw [if_neg w3]
          by_cases w5 : w = 5
          · subst w5
            rw [if_pos rfl, upd_k]
          · rw [if_neg w5, upd_n (by omega), upd_n (by omega)]
            by_cases w6 : 6 ≤ w ∧ w < 12
            · rw [if_pos w6, ← gr (w - 6) (by omega)]
              congr 1
              omega
            · rw [if_neg w6]
              exact gw w (by omega)
    · rw [if_neg c2, if_pos rfl, if_neg c2]
      exact MR.in h'.1 h'.2.1 upd_k rfl
theorem m_unwatch (h : MM B s m v F σ) : MR s m v F (cl_ tb_ct tb_mt B K_X13_unwatch [.ref m, .int y] s) (if bIx y (σ.1 5) = true then 0 else 1) (if bIx y (σ.1 5) = true then .int (nI (σ.1 5 - 1)) else .int 0) (if bIx y (σ.1 5) = true then p_unw σ (nN y) else σ) := by
  have h5 := h.2.2.1.2.2.2.2.1
  have hB := h.2.2.2
  rw [in_X13_unwatch, dc_X13_unwatch_0, mo_cls h.1, eC_s, mk_isWatch h, cI_s, mo_cls h.1, eC_s]
  refine mi_call h (fun ok => ?_) fun _ => rfl
  obtain ⟨j, rfl, hj⟩ := bIxN (by omega) ok
  have h' := h.p4 (x := 0)
  have ed := mv_dn (s := moS s m (upd v 4 0) F) (v := upd v 4 0) (F := F) (g := F 1) (b := 1173) (w := 12) (p := j) (n := σ.1 5) hB (by omega) (by omega) (by omega)
  rw [m1_id rfl, mo_self h'.1] at ed
  have g5 : shD (F 1) 1173 12 (12 * j) (12 * (σ.1 5 - 1)) 5 = nI (σ.1 5) := (if_neg (by omega)).trans (h.2.1.1 5 (by omega))
  rw [nN_nI (by omega), mo_0s, eA_s, show (5 : Int32) = nI 5 from rfl, h'.gz (by omega), eI_s, mo_cs, eC_s, show (1173 : Int32) = nI 1173 from rfl, show (12 : Int32) = nI 12 from rfl, ed, cV_s, mo_0s, eA_s, mr2 (by omega), eI_s, g5, nI_sub1 (by omega), mw2 hB (by omega), eS_s, mo_0s, eA_s, mr2 (by omega), eI_s, upd_k]
  refine MR.k1 ?_ upd_k rfl
  unfold p_unw
  refine h.2.1.t4 h.2.2.1 (fun q q5 qr => ?_) upd_k (fun q w hq hw => ?_)
  · rw [upd_n q5]
    exact if_neg (by omega)
  · rw [upd_n (by omega)]
    unfold shD delR
    by_cases c : j ≤ q ∧ q + 1 < σ.1 5
    · rw [if_pos c, if_pos (by omega), show 1173 + 12 * q + w + 12 = 1173 + 12 * (q + 1) + w by omega]
      exact h.2.1.wr (by omega) hw
    · rw [if_neg c, if_neg (by omega)]
      exact h.2.1.wr (by omega) hw
theorem st_le (h0 : ¬ z < 0) (hr : n < 2 ^ 30) : z - 1 ≤ nI n ↔ z ≤ nI (n + 1) := by
  obtain ⟨k, hk, rfl⟩ := nI_of h0
  rcases Nat.eq_zero_or_pos k with c | c
  · subst c
    refine ⟨fun _ => nI_le (Nat.zero_le _) (by omega), fun _ => ?_⟩
    rw [nI_dI, dI_0, Int32.le_iff_toInt_le, nI_toInt (by omega), show (-1 : Int32).toInt = -1 from rfl]
    omega
  · rw [nI_sub1 c, nI_leI (by omega) (by omega), nI_leI hk (by omega)]
    omega
theorem m_rewatch (h : MM B s m v F σ) (ht : σ.1 7 + σ.1 6 < 2 ^ 31) (h0 : σ.1 0 < 2 ^ 30) : MR s m v F (cl_ tb_ct tb_mt B K_X13_rewatch [.ref m, .int y, .int z] s) (if bIx y (σ.1 5) = true then (if bNN z = true then 0 else 2) else 1) (if bIx y (σ.1 5) = true then (if bNN z = true then .int (p_rew σ (nN y) z).1 else .int 0) else .int 0) (if bIx y (σ.1 5) = true then (if bNN z = true then (p_rew σ (nN y) z).2 else σ) else σ) := by
  have h5 := h.2.2.1.2.2.2.2.1
  have hB := h.2.2.2
  rw [in_X13_rewatch, dc_X13_rewatch_0, mo_cls h.1, eC_s, mk_isWatch h, cI_s, mo_cls h.1, eC_s]
  have h' := h.p4 (x := 0)
  have key : ∀ (ok2 : Bool), ok2 = bNN z → bIx y (σ.1 5) = true → MR (moS s m (upd v 4 0) F) m (upd v 4 0) F (if z < 0 then rn_ tb_ct tb_mt B mm_X13_rewatch 23 [.ref m, .int y, .int z] [.int (0 : Int32), .ref m] (moS s m (upd v 4 0) F) else rn_ tb_ct tb_mt B mm_X13_rewatch 23 [.ref m, .int y, .int z] [.int (1 : Int32), .ref m] (moS s m (upd v 4 0) F)) (if ok2 = true then 0 else 2) (if ok2 = true then .int (p_rew σ (nN y) z).1 else .int 0) (if ok2 = true then (p_rew σ (nN y) z).2 else σ) := by
    intro ok2 e2 ok
    have e : (if z < 0 then rn_ tb_ct tb_mt B mm_X13_rewatch 23 [.ref m, .int y, .int z] [.int (0 : Int32), .ref m] (moS s m (upd v 4 0) F) else rn_ tb_ct tb_mt B mm_X13_rewatch 23 [.ref m, .int y, .int z] [.int (1 : Int32), .ref m] (moS s m (upd v 4 0) F)) = rn_ tb_ct tb_mt B mm_X13_rewatch 23 [.ref m, .int y, .int z] [.int (if ok2 = true then 1 else 0), .ref m] (moS s m (upd v 4 0) F) := by
      rw [e2]
      by_cases c : z < 0
      · rw [if_pos c, show bNN z = false by unfold bNN; rw [decide_eq_true c]; rfl]
        rfl
      · rw [if_neg c, bNNN.mpr c]
        rfl
    rw [e, dc_X13_rewatch_23, mo_cs, eC_s]
    refine mi_call h' (fun ok' => ?_) fun _ => rfl
    obtain ⟨j, rfl, hj⟩ := bIxN (by omega) ok
    have hz0 := bNNN.mp (e2 ▸ ok')
    have h2 := h'.p4 (x := 0)
    rw [nN_nI (by omega), mo_0s, eA_s, show aI (moS (moS s m (upd v 4 0) F) m (upd (upd v 4 0) 4 0) F) (m + 1) 0 = some (nI (σ.1 0)) from h2.gz (i := 0) (by omega), eI_s]
    unfold p_rew
    by_cases c : z ≤ nI (σ.1 0 + 1)
    · have f1 : FR (upd (F 1) (1173 + 12 * j + 4) 0) (upW σ j (upd (σ.2 4 j) 4 0)) := h.2.1.wrow h.2.2.1 hj (fun q hq => upd_n (by omega)) fun w hw => by
        by_cases cw : w = 4
        · subst cw
          rw [upd_k, upd_k]
        · rw [upd_n (by omega), upd_n cw]
          exact h.2.1.wr hj hw
      have f2 : FR (upd (upd (F 1) (1173 + 12 * j + 4) 0) (1173 + 12 * j + 3) (nI (σ.1 7 + p_first (σ.2 2) (σ.1 6) z))) (p_rws σ j z) := h.2.1.wrow h.2.2.1 hj (fun q hq => by rw [upd_n (by omega), upd_n (by omega)]) fun w hw => by
        by_cases c3 : w = 3
        · subst c3
          rw [upd_k, upd_k]
        · rw [upd_n (by omega), upd_n c3]
          by_cases cw : w = 4
          · subst cw
            rw [upd_k, upd_k]
          · rw [upd_n (by omega), upd_n cw]
            exact h.2.1.wr hj hw
      have es := mk_starts (s := moS (moS s m (upd v 4 0) F) m (upd (upd v 4 0) 4 0) F) (v := upd (upd v 4 0) 4 0) (F := F) (i := j) (x := z) hB f1 (show SZ (upW σ j (upd (σ.2 4 j) 4 0)) from h.2.2.1) hz0 (by omega)
      have hM : MM B (moS (moS (moS s m (upd v 4 0) F) m (upd (upd v 4 0) 4 0) F) m (upd (upd v 4 0) 4 0) (m1 F (upd (upd (F 1) (1173 + 12 * j + 4) 0) (1173 + 12 * j + 3) (nI (σ.1 7 + p_first (σ.2 2) (σ.1 6) z))))) m (upd (upd v 4 0) 4 0) (m1 F (upd (upd (F 1) (1173 + 12 * j + 4) 0) (1173 + 12 * j + 3) (nI (σ.1 7 + p_first (σ.2 2) (σ.1 6) z)))) (p_rws σ j z) := MM.st hB f2 (show SZ (p_rws σ j z) from h.2.2.1)
      have es' : cl_ tb_ct tb_mt B K_X13_starts [.ref m, .int (nI j), .int z] (moS (moS (moS s m (upd v 4 0) F) m (upd (upd v 4 0) 4 0) F) m (upd (upd v 4 0) 4 0) (m1 F (upd (F 1) (1173 + 12 * j + 4) 0))) = some (.inl none, moS (moS (moS s m (upd v 4 0) F) m (upd (upd v 4 0) 4 0) F) m (upd (upd v 4 0) 4 0) (m1 F (upd (upd (F 1) (1173 + 12 * j + 4) 0) (1173 + 12 * j + 3) (nI (σ.1 7 + p_first (σ.2 2) (σ.1 6) z))))) := es
      rw [if_pos ((st_le hz0 h0).mpr c), if_neg (fun hc => hc c), mo_cs, eC_s, show (4 : Int32) = nI 4 from rfl, mk_setsM h2.1 hB (by omega), cV_s, mo_cs, eC_s, es', cV_s, mo_cs, eC_s, mk_waiting hM (show j < (p_rws σ j z).1 5 from hj) ht, cI_s]
      exact MR.k1 f2 upd_k rfl
    · rw [if_neg (fun hc => c ((st_le hz0 h0).mp hc)), if_pos c]
      exact MR.in h2.1 h2.2.1 upd_k rfl
  refine mi_call2 h (fun ok ok2 => ?_) (fun ok ok2 => ?_) fun _ => rfl
  · have := key _ rfl ok
    rw [ok2] at this
    exact this
  · have := key _ rfl ok
    rw [ok2] at this
    exact this
end Mx
