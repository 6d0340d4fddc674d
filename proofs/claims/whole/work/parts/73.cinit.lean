/-! ===== WatchedKeys' constructor ===== -/
section Ci
variable {s : am_S} {B a x : Nat}
theorem df_5 : am_dfl tb_ct 5 = [.null, .null, .int 0, .int 0, .int 0, .int 0, .int 0, .int 0, .int 0] := rfl
theorem df_10 : am_dfl tb_ct 10 = [.null, .null, .null, .null, .null, .null, .null, .null] := rfl
theorem df_12 : am_dfl tb_ct 12 = [.null, .int 0, .int 0, .int 0] := rfl
theorem xs_init (hB : B ≤ a) (h : s.1 a = some (.inr (5, [.null, .null, .int 0, .int 0, .int 0, .int 0, .int 0, .int 0, .int 0]))) (hn : s.2.1 = a + 1) : ∃ s', cl_ tb_ct tb_mt B K_X6_init [.ref a] s = some (.inl none, s') ∧ ax s s' a 2 503 ∧ XSc s' a (fun _ => 0) (fun _ => 0) (fun _ => 0) := by
  obtain ⟨s1, w1, z1, n1, f1, c1⟩ := nw_ex (s := s) (a + 1) hn (.inl (.int, 500, .inl fun _ => 0)) 500
  obtain ⟨s2, w2, z2, n2, f2, c2⟩ := put_ex (B := B) (M := mm_X6_init) (v := a + 1) (k := 0) ((f1 a (by omega)).trans h) (Nat.le_of_ble_eq_true rfl) rfl rfl hB (Or.inr rfl)
  obtain ⟨s3, w3, z3, n3, f3, c3⟩ := nw_ex (s := s2) (a + 2) (n2.trans n1) (.inl (.int, 3, .inl fun _ => 0)) 3
  obtain ⟨s4, w4, z4, n4, f4, c4⟩ := put_ex (B := B) (M := mm_X6_init) (v := a + 2) (k := 1) ((f3 a (by omega)).trans z2) (Nat.le_of_ble_eq_true rfl) rfl rfl hB (Or.inr rfl)
  refine ⟨s4, ?_, ax_tr (c1 a (by omega)) (ax_tr c2 (ax_tr (c3 a (by omega)) c4)), fun j hj => ?_⟩
  · rw [in_X6_init, dc_X6_init_0]
    rw [show (500 : Int32) = nI 500 from rfl, nwI_s (by omega), hn, w1, w2]
    simp only [eS_s]
    rw [show (3 : Int32) = nI 3 from rfl, nwI_s (by omega), n2.trans n1, w3, w4]
    rfl
  · match j with
    | 0 => exact z4
    | 1 => exact (f4 (a + 1) (by omega)).trans ((f3 (a + 1) (by omega)).trans ((f2 (a + 1) (by omega)).trans z1))
    | 2 => exact (f4 (a + 2) (by omega)).trans z3
    | j + 3 => omega
theorem c_init1 (hB : B ≤ x) (h : s.1 x = some (.inr (10, [.null, .null, .null, .null, .null, .null, .null, .null]))) (hn : s.2.1 = x + 1) : ∃ s4, rn_ tb_ct tb_mt B mm_X12_init 0 [.ref x] [] s = nwO tb_ct s4 12 (fun b_16 s_17 => eC (am_cls s_17 b_16) 12 (cV (cl_ tb_ct tb_mt B K_J4_init_da8c8 [.ref b_16] s_17) (fun s_18 => eS (am_put tb_ct mm_X12_init B s_18 (.ref b_16) x 10 4) (fun s_19 => nwO tb_ct s_19 3 (fun b_20 s_21 => eC (am_cls s_21 b_20) 3 (cV (cl_ tb_ct tb_mt B K_X4_init [.ref b_20] s_21) (fun s_22 => eS (am_put tb_ct mm_X12_init B s_22 (.ref b_20) x 10 5) (fun s_23 => nwO tb_ct s_23 3 (fun b_24 s_25 => eC (am_cls s_25 b_24) 3 (cV (cl_ tb_ct tb_mt B K_X4_init [.ref b_24] s_25) (fun s_26 => eS (am_put tb_ct mm_X12_init B s_26 (.ref b_24) x 10 6) (fun s_27 => nwI .int s_27 (1000 : Int32) (fun b_28 s_29 => eS (am_put tb_ct mm_X12_init B s_29 (.ref b_28) x 10 7) (fun s_30 => some (.inl none, s_30))))) xo)))) xo)))) xo)) ∧ ax s s4 x 440 3738 ∧ s4.1 x = some (.inr (10, [.ref (x + 1), .ref (x + 219), .ref (x + 437), .ref (x + 438), .null, .null, .null, .null])) ∧ s4.2.1 = x + 441 ∧ SS s4 (x + 1) p_new ∧ SS s4 (x + 219) p_new ∧ s4.1 (x + 437) = some (.inl (.object "WatchedKeys$Store", 2, .inr (.inr (.inr (.inr fun _ => none))))) ∧ XSc s4 (x + 438) (fun _ => 0) (fun _ => 0) (fun _ => 0) := by
  obtain ⟨s1a, w1a, z1a, n1a, f1a, c1a⟩ := nw_ex (s := s) (x + 1) hn (.inr (7, [.null, .null, .null, .null, .null, .int 0, .int 0, .int 0, .int 0, .int 0, .int 0])) 11
  obtain ⟨s1b, e1b, a1b, k1b⟩ := st_init (B := B) (b := x + 1) (Nat.le_trans hB (Nat.le_add_right _ _)) z1a n1a
  have n1b : s1b.2.1 = x + 219 := by rw [a1b.2.1, n1a]
  obtain ⟨s1, w1, z1, n1, f1, c1⟩ := put_ex (B := B) (M := mm_X12_init) (v := x + 1) (k := 0) ((a1b.1 x (Nat.lt_add_of_pos_right (by decide))).trans ((f1a x (Nat.ne_of_lt (Nat.lt_add_of_pos_right (by decide)))).trans h)) (Nat.le_of_ble_eq_true rfl) rfl rfl hB (Or.inr rfl)
  have A1 := ax_tr (c1a x (Nat.le_add_right _ _)) (ax_tr (ax_dn a1b (Nat.le_add_right _ _)) c1)
  have F1 : ∀ q, x < q → q < x + 1 → s1.1 q = s.1 q := fun q h1 h2 => (f1 q (Nat.ne_of_gt h1)).trans ((a1b.1 q h2).trans (f1a q (Nat.ne_of_lt h2)))
  obtain ⟨s2a, w2a, z2a, n2a, f2a, c2a⟩ := nw_ex (s := s1) (x + 219) (n1.trans n1b) (.inr (7, [.null, .null, .null, .null, .null, .int 0, .int 0, .int 0, .int 0, .int 0, .int 0])) 11
  obtain ⟨s2b, e2b, a2b, k2b⟩ := st_init (B := B) (b := x + 219) (Nat.le_trans hB (Nat.le_add_right _ _)) z2a n2a
  have n2b : s2b.2.1 = x + 437 := by rw [a2b.2.1, n2a]
  obtain ⟨s2, w2, z2, n2, f2, c2⟩ := put_ex (B := B) (M := mm_X12_init) (v := x + 219) (k := 1) ((a2b.1 x (Nat.lt_add_of_pos_right (by decide))).trans ((f2a x (Nat.ne_of_lt (Nat.lt_add_of_pos_right (by decide)))).trans z1)) (Nat.le_of_ble_eq_true rfl) rfl rfl hB (Or.inr rfl)
  have A2 := ax_tr A1 (ax_tr (c2a x (Nat.le_add_right _ _)) (ax_tr (ax_dn a2b (Nat.le_add_right _ _)) c2))
  have F2 : ∀ q, x < q → q < x + 219 → s2.1 q = s1.1 q := fun q h1 h2 => (f2 q (Nat.ne_of_gt h1)).trans ((a2b.1 q h2).trans (f2a q (Nat.ne_of_lt h2)))
  obtain ⟨s3a, w3a, z3a, n3a, f3a, c3a⟩ := nw_ex (s := s2) (x + 437) (n2.trans n2b) (.inl (.object "WatchedKeys$Store", 2, .inr (.inr (.inr (.inr fun _ => none))))) 2
  have n3b : s3a.2.1 = x + 438 := n3a
  obtain ⟨s3, w3, z3, n3, f3, c3⟩ := put_ex (B := B) (M := mm_X12_init) (v := x + 437) (k := 2) ((f3a x (Nat.ne_of_lt (Nat.lt_add_of_pos_right (by decide)))).trans z2) (Nat.le_of_ble_eq_true rfl) rfl rfl hB (Or.inr rfl)
  have A3 := ax_tr A2 (ax_tr (c3a x (Nat.le_add_right _ _)) c3)
  have F3 : ∀ q, x < q → q < x + 437 → s3.1 q = s2.1 q := fun q h1 h2 => (f3 q (Nat.ne_of_gt h1)).trans (f3a q (Nat.ne_of_lt h2))
  obtain ⟨s4a, w4a, z4a, n4a, f4a, c4a⟩ := nw_ex (s := s3) (x + 438) (n3.trans n3b) (.inr (5, [.null, .null, .int 0, .int 0, .int 0, .int 0, .int 0, .int 0, .int 0])) 9
  obtain ⟨s4b, e4b, a4b, k4b⟩ := xs_init (B := B) (a := x + 438) (Nat.le_trans hB (Nat.le_add_right _ _)) z4a n4a
  have n4b : s4b.2.1 = x + 441 := by rw [a4b.2.1, n4a]
  obtain ⟨s4, w4, z4, n4, f4, c4⟩ := put_ex (B := B) (M := mm_X12_init) (v := x + 438) (k := 3) ((a4b.1 x (Nat.lt_add_of_pos_right (by decide))).trans ((f4a x (Nat.ne_of_lt (Nat.lt_add_of_pos_right (by decide)))).trans z3)) (Nat.le_of_ble_eq_true rfl) rfl rfl hB (Or.inr rfl)
  have A4 := ax_tr A3 (ax_tr (c4a x (Nat.le_add_right _ _)) (ax_tr (ax_dn a4b (Nat.le_add_right _ _)) c4))
  have F4 : ∀ q, x < q → q < x + 438 → s4.1 q = s3.1 q := fun q h1 h2 => (f4 q (Nat.ne_of_gt h1)).trans ((a4b.1 q h2).trans (f4a q (Nat.ne_of_lt h2)))
  have G1 : ∀ q, x < q → q < x + 219 → s4.1 q = s1.1 q := fun q h1 h2 => (F4 q h1 (Nat.lt_of_lt_of_le h2 (Nat.add_le_add_left (by decide) x))).trans ((F3 q h1 (Nat.lt_of_lt_of_le h2 (Nat.add_le_add_left (by decide) x))).trans (F2 q h1 h2))
  have G2 : ∀ q, x < q → q < x + 437 → s4.1 q = s2.1 q := fun q h1 h2 => (F4 q h1 (Nat.lt_of_lt_of_le h2 (Nat.add_le_add_left (by decide) x))).trans (F3 q h1 h2)
  refine ⟨s4, ?_, A4, z4, n4.trans n4b, ?_, ?_, ?_, ?_⟩
  · rw [dc_X12_init_0]
    rw [nwO_s df_7]
    change (fun b_1 s_2 => eC (am_cls s_2 b_1) 7 (cV (cl_ tb_ct tb_mt B K_X8_init [.ref b_1] s_2) _ xo)) s.2.1 (am_new s _ 11) = _
    rw [hn, w1a]
    dsimp only
    rw [cls_o z1a, e1b]
    simp only [eC_s, cV_s, w1, eS_s]
    rw [nwO_s df_7]
    change (fun b_1 s_2 => eC (am_cls s_2 b_1) 7 (cV (cl_ tb_ct tb_mt B K_X8_init [.ref b_1] s_2) _ xo)) s1.2.1 (am_new s1 _ 11) = _
    rw [n1.trans n1b, w2a]
    dsimp only
    rw [cls_o z2a, e2b]
    simp only [eC_s, cV_s, w2, eS_s]
    rw [show (2 : Int32) = nI 2 from rfl, nwA_s (by omega), n2.trans n2b, w3a, w3]
    simp only [eS_s]
    rw [nwO_s df_5]
    change (fun b_1 s_2 => eC (am_cls s_2 b_1) 5 (cV (cl_ tb_ct tb_mt B K_X6_init [.ref b_1] s_2) _ xo)) s3.2.1 (am_new s3 _ 9) = _
    rw [n3.trans n3b, w4a]
    dsimp only
    rw [cls_o z4a, e4b]
    simp only [eC_s, cV_s, w4, eS_s]
  · exact k1b.at fun q h1 h2 => (G1 q (by omega) (by omega)).trans (f1 q (by omega))
  · exact k2b.at fun q h1 h2 => (G2 q (by omega) (by omega)).trans (f2 q (by omega))
  · exact (F4 _ (by omega) (by omega)).trans ((f3 _ (by omega)).trans z3a)
  · exact OV.at k4b fun q h1 h2 => f4 q (by omega)
theorem c_init2 {s4 : am_S} (hB : B ≤ x) (hE : EVd B s4) (z4 : s4.1 x = some (.inr (10, [.ref (x + 1), .ref (x + 219), .ref (x + 437), .ref (x + 438), .null, .null, .null, .null]))) (n4 : s4.2.1 = x + 441) : ∃ s', nwO tb_ct s4 12 (fun b_16 s_17 => eC (am_cls s_17 b_16) 12 (cV (cl_ tb_ct tb_mt B K_J4_init_da8c8 [.ref b_16] s_17) (fun s_18 => eS (am_put tb_ct mm_X12_init B s_18 (.ref b_16) x 10 4) (fun s_19 => nwO tb_ct s_19 3 (fun b_20 s_21 => eC (am_cls s_21 b_20) 3 (cV (cl_ tb_ct tb_mt B K_X4_init [.ref b_20] s_21) (fun s_22 => eS (am_put tb_ct mm_X12_init B s_22 (.ref b_20) x 10 5) (fun s_23 => nwO tb_ct s_23 3 (fun b_24 s_25 => eC (am_cls s_25 b_24) 3 (cV (cl_ tb_ct tb_mt B K_X4_init [.ref b_24] s_25) (fun s_26 => eS (am_put tb_ct mm_X12_init B s_26 (.ref b_24) x 10 6) (fun s_27 => nwI .int s_27 (1000 : Int32) (fun b_28 s_29 => eS (am_put tb_ct mm_X12_init B s_29 (.ref b_28) x 10 7) (fun s_30 => some (.inl none, s_30))))) xo)))) xo)))) xo)) = some (.inl none, s') ∧ ax s4 s' x 51 1332 ∧ XO s' x (x + 1) (x + 219) ∧ (∀ q, x < q → q < x + 441 → s'.1 q = s4.1 q) ∧ SBs B s' (x + 441) (x + 442) 16 [] ∧ PST s' x := by
  obtain ⟨s5a, w5a, z5a, n5a, f5a, c5a⟩ := nw_ex (s := s4) (x + 441) n4 (.inr (12, [.null, .int 0, .int 0, .int 0])) 4
  have E5 : EVd B s5a := hE.at (fun q hq => ((c5a x (Nat.le_add_right _ _)).1 q (Nat.lt_of_lt_of_le hq hB)).trans rfl) ((c5a x (Nat.le_add_right _ _)).2.2.2.trans rfl)
  obtain ⟨s5b, e5b, a5b, k5b⟩ := sb_init (B := B) (a := x + 441) E5 (Nat.le_trans hB (Nat.le_add_right _ _)) z5a n5a
  have n5b : s5b.2.1 = x + 443 := by rw [a5b.2.1, n5a]
  obtain ⟨s5, w5, z5, n5, f5, c5⟩ := put_ex (B := B) (M := mm_X12_init) (v := x + 441) (k := 4) ((a5b.1 x (Nat.lt_add_of_pos_right (by decide))).trans ((f5a x (Nat.ne_of_lt (Nat.lt_add_of_pos_right (by decide)))).trans z4)) (Nat.le_of_ble_eq_true rfl) rfl rfl hB (Or.inr rfl)
  have A5 := id (ax_tr (c5a x (Nat.le_add_right _ _)) (ax_tr (ax_dn a5b (Nat.le_add_right _ _)) c5))
  have F5 : ∀ q, x < q → q < x + 441 → s5.1 q = s4.1 q := fun q h1 h2 => (f5 q (Nat.ne_of_gt h1)).trans ((a5b.1 q h2).trans (f5a q (Nat.ne_of_lt h2)))
  obtain ⟨s6a, w6a, z6a, n6a, f6a, c6a⟩ := nw_ex (s := s5) (x + 443) (n5.trans n5b) (.inr (3, [.null, .int 0])) 2
  obtain ⟨s6b, e6b, a6b, k6b⟩ := kr_init (B := B) (a := x + 443) (Nat.le_trans hB (Nat.le_add_right _ _)) z6a n6a (fun _ _ => 0)
  have n6b : s6b.2.1 = x + 467 := by rw [a6b.2.1, n6a]
  obtain ⟨s6, w6, z6, n6, f6, c6⟩ := put_ex (B := B) (M := mm_X12_init) (v := x + 443) (k := 5) ((a6b.1 x (Nat.lt_add_of_pos_right (by decide))).trans ((f6a x (Nat.ne_of_lt (Nat.lt_add_of_pos_right (by decide)))).trans z5)) (Nat.le_of_ble_eq_true rfl) rfl rfl hB (Or.inr rfl)
  have A6 := ax_tr A5 (ax_tr (c6a x (Nat.le_add_right _ _)) (ax_tr (ax_dn a6b (Nat.le_add_right _ _)) c6))
  have F6 : ∀ q, x < q → q < x + 443 → s6.1 q = s5.1 q := fun q h1 h2 => (f6 q (Nat.ne_of_gt h1)).trans ((a6b.1 q h2).trans (f6a q (Nat.ne_of_lt h2)))
  obtain ⟨s7a, w7a, z7a, n7a, f7a, c7a⟩ := nw_ex (s := s6) (x + 467) (n6.trans n6b) (.inr (3, [.null, .int 0])) 2
  obtain ⟨s7b, e7b, a7b, k7b⟩ := kr_init (B := B) (a := x + 467) (Nat.le_trans hB (Nat.le_add_right _ _)) z7a n7a (fun _ _ => 0)
  have n7b : s7b.2.1 = x + 491 := by rw [a7b.2.1, n7a]
  obtain ⟨s7, w7, z7, n7, f7, c7⟩ := put_ex (B := B) (M := mm_X12_init) (v := x + 467) (k := 6) ((a7b.1 x (Nat.lt_add_of_pos_right (by decide))).trans ((f7a x (Nat.ne_of_lt (Nat.lt_add_of_pos_right (by decide)))).trans z6)) (Nat.le_of_ble_eq_true rfl) rfl rfl hB (Or.inr rfl)
  have A7 := ax_tr A6 (ax_tr (c7a x (Nat.le_add_right _ _)) (ax_tr (ax_dn a7b (Nat.le_add_right _ _)) c7))
  have F7 : ∀ q, x < q → q < x + 467 → s7.1 q = s6.1 q := fun q h1 h2 => (f7 q (Nat.ne_of_gt h1)).trans ((a7b.1 q h2).trans (f7a q (Nat.ne_of_lt h2)))
  obtain ⟨s8a, w8a, z8a, n8a, f8a, c8a⟩ := nw_ex (s := s7) (x + 491) (n7.trans n7b) (.inl (.int, 1000, .inl fun _ => 0)) 1000
  have n8b : s8a.2.1 = x + 492 := n8a
  obtain ⟨s8, w8, z8, n8, f8, c8⟩ := put_ex (B := B) (M := mm_X12_init) (v := x + 491) (k := 7) ((f8a x (Nat.ne_of_lt (Nat.lt_add_of_pos_right (by decide)))).trans z7) (Nat.le_of_ble_eq_true rfl) rfl rfl hB (Or.inr rfl)
  have A8 := ax_tr A7 (ax_tr (c8a x (Nat.le_add_right _ _)) c8)
  have F8 : ∀ q, x < q → q < x + 491 → s8.1 q = s7.1 q := fun q h1 h2 => (f8 q (Nat.ne_of_gt h1)).trans (f8a q (Nat.ne_of_lt h2))
  have G5 : ∀ q, x < q → q < x + 443 → s8.1 q = s5.1 q := fun q h1 h2 => (F8 q h1 (Nat.lt_of_lt_of_le h2 (Nat.add_le_add_left (by decide) x))).trans ((F7 q h1 (Nat.lt_of_lt_of_le h2 (Nat.add_le_add_left (by decide) x))).trans (F6 q h1 h2))
  have G6 : ∀ q, x < q → q < x + 467 → s8.1 q = s6.1 q := fun q h1 h2 => (F8 q h1 (Nat.lt_of_lt_of_le h2 (Nat.add_le_add_left (by decide) x))).trans (F7 q h1 h2)
  have G7 : ∀ q, x < q → q < x + 491 → s8.1 q = s7.1 q := fun q h1 h2 => F8 q h1 h2
  refine ⟨s8, ?_, A8, z8, fun q h1 h2 => (G5 q h1 (Nat.lt_of_lt_of_le h2 (Nat.add_le_add_left (by decide) x))).trans (F5 q h1 h2), ?_, ?_⟩
  · rw [nwO_s df_12]
    change (fun b_1 s_2 => eC (am_cls s_2 b_1) 12 (cV (cl_ tb_ct tb_mt B K_J4_init_da8c8 [.ref b_1] s_2) _ xo)) s4.2.1 (am_new s4 _ 4) = _
    rw [n4, w5a]
    dsimp only
    rw [cls_o z5a, e5b]
    simp only [eC_s, cV_s, w5, eS_s]
    rw [nwO_s df_3]
    change (fun b_1 s_2 => eC (am_cls s_2 b_1) 3 (cV (cl_ tb_ct tb_mt B K_X4_init [.ref b_1] s_2) _ xo)) s5.2.1 (am_new s5 _ 2) = _
    rw [n5.trans n5b, w6a]
    dsimp only
    rw [cls_o z6a, e6b]
    simp only [eC_s, cV_s, w6, eS_s]
    rw [nwO_s df_3]
    change (fun b_1 s_2 => eC (am_cls s_2 b_1) 3 (cV (cl_ tb_ct tb_mt B K_X4_init [.ref b_1] s_2) _ xo)) s6.2.1 (am_new s6 _ 2) = _
    rw [n6.trans n6b, w7a]
    dsimp only
    rw [cls_o z7a, e7b]
    simp only [eC_s, cV_s, w7, eS_s]
    rw [show (1000 : Int32) = nI 1000 from rfl, nwI_s (by omega), n7.trans n7b, w8a, w8]
    simp only [eS_s]
  · obtain ⟨⟨ml, j1⟩, ⟨g, j2, j3⟩, j4, j5, j6, j7, j8, j9, j10⟩ := k5b
    have hn8 := A8.2.1
    exact ⟨⟨ml, (G5 _ (by omega) (by omega)).trans ((f5 _ (by omega)).trans j1)⟩, ⟨g, (G5 _ (by omega) (by omega)).trans ((f5 _ (by omega)).trans j2), j3⟩, j4, j5, j6, j7, j8, by omega, by omega⟩
  · exact ⟨⟨0, _, k6b.at fun q h1 h2 => (G6 q (by omega) (by omega)).trans (f6 q (by omega))⟩, ⟨0, _, k7b.at fun q h1 h2 => (G7 q (by omega) (by omega)).trans (f7 q (by omega))⟩, fun _ => 0, (f8 _ (by omega)).trans z8a⟩
theorem c_init (hB : B ≤ x) (h : s.1 x = some (.inr (10, [.null, .null, .null, .null, .null, .null, .null, .null]))) (hn : s.2.1 = x + 1) (hE : EVd B s) : ∃ s', cl_ tb_ct tb_mt B K_X12_init [.ref x] s = some (.inl none, s') ∧ ax s s' x 491 5070 ∧ XO s' x (x + 1) (x + 219) ∧ SS s' (x + 1) p_new ∧ SS s' (x + 219) p_new ∧ s'.1 (x + 437) = some (.inl (.object "WatchedKeys$Store", 2, .inr (.inr (.inr (.inr fun _ => none))))) ∧ XSc s' (x + 438) (fun _ => 0) (fun _ => 0) (fun _ => 0) ∧ SBs B s' (x + 441) (x + 442) 16 [] ∧ PST s' x := by
  obtain ⟨s4, e4, a4, z4, n4, y1, y2, y3, y4⟩ := c_init1 (B := B) hB h hn
  obtain ⟨s8, e8, a8, z8, f8, S8, p8⟩ := c_init2 (B := B) hB (hE.at (fun q hq => a4.1 q (Nat.lt_of_lt_of_le hq hB)) a4.2.2.2) z4 n4
  refine ⟨s8, ?_, ax_tr a4 a8, z8, y1.at fun q h1 h2 => f8 q (by omega) (by omega), y2.at fun q h1 h2 => f8 q (by omega) (by omega), (f8 _ (by omega) (by omega)).trans y3, OV.at y4 fun q h1 h2 => f8 q (by omega) (by omega), S8, p8⟩
  rw [in_X12_init, e4]
  exact e8
end Ci
