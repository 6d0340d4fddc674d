set_option maxRecDepth 20000 in
theorem in_L_law {B : Nat} (a0 : Nat) (s : am_S) : cl_ tb_ct tb_mt B K_L_law [.ref a0] s = rn_ tb_ct tb_mt B mm_L_law 0 [.ref a0, am_un, am_un, am_un, am_un, am_un, am_un, am_un, am_un] [] s := cl_in rfl rfl rfl rfl
set_option maxRecDepth 20000 in
theorem dc_L_law_0 {B : Nat} (a0 : Nat) (s : am_S) : rn_ tb_ct tb_mt B mm_L_law 0 [.ref a0, am_un, am_un, am_un, am_un, am_un, am_un, am_un, am_un] [] s = nwO tb_ct s 10 (fun b_1 s_2 => eC (am_cls s_2 b_1) 10 (cV (cl_ tb_ct tb_mt B K_X12_init [.ref b_1] s_2) (fun s_3 => nwO tb_ct s_3 11 (fun b_4 s_5 => eC (am_cls s_5 b_4) 11 (cV (cl_ tb_ct tb_mt B K_X13_init [.ref b_4] s_5) (fun s_6 => nwI .long s_6 (1 : Int32) (fun b_7 s_8 => rn_ tb_ct tb_mt B mm_L_law 23 [.ref a0, .ref b_1, .ref b_4, .ref b_7, .int (0 : Int32), am_un, am_un, am_un, am_un] [] s_8)) xo))) xo)) := by
  refine Eq.trans (rn_new (L' := [.ref a0, am_un, am_un, am_un, am_un, am_un, am_un, am_un, am_un]) rfl rfl) ?_
  refine nwO_c (fun b_1 s_2 => ?_)
  refine Eq.trans (rn_go 1 (pc' := 4) (L' := [.ref a0, am_un, am_un, am_un, am_un, am_un, am_un, am_un, am_un]) (st' := [.ref b_1, .ref b_1]) rfl) ?_
  refine Eq.trans (rn_spe (L' := [.ref a0, am_un, am_un, am_un, am_un, am_un, am_un, am_un, am_un]) (as := []) (rest := [.ref b_1]) rfl rfl (by decide) rfl rfl rfl (Nat.le_of_ble_eq_true rfl) (by decide) (by decide)) ?_
  refine eC_c ?_
  refine Eq.trans (cW_V rfl rfl) ?_
  refine cV_c (fun s_3 => ?_) (xh_nil rfl)
  refine Eq.trans (rn_go 1 (pc' := 8) (L' := [.ref a0, .ref b_1, am_un, am_un, am_un, am_un, am_un, am_un, am_un]) (st' := []) rfl) ?_
  refine Eq.trans (rn_new (L' := [.ref a0, .ref b_1, am_un, am_un, am_un, am_un, am_un, am_un, am_un]) rfl rfl) ?_
  refine nwO_c (fun b_4 s_5 => ?_)
  refine Eq.trans (rn_go 1 (pc' := 12) (L' := [.ref a0, .ref b_1, am_un, am_un, am_un, am_un, am_un, am_un, am_un]) (st' := [.ref b_4, .ref b_4]) rfl) ?_
  refine Eq.trans (rn_spe (L' := [.ref a0, .ref b_1, am_un, am_un, am_un, am_un, am_un, am_un, am_un]) (as := []) (rest := [.ref b_4]) rfl rfl (by decide) rfl rfl rfl (Nat.le_of_ble_eq_true rfl) (by decide) (by decide)) ?_
  refine eC_c ?_
  refine Eq.trans (cW_V rfl rfl) ?_
  refine cV_c (fun s_6 => ?_) (xh_nil rfl)
  refine Eq.trans (rn_go 2 (pc' := 17) (L' := [.ref a0, .ref b_1, .ref b_4, am_un, am_un, am_un, am_un, am_un, am_un]) (st' := [.int (1 : Int32)]) rfl) ?_
  refine Eq.trans (rn_nwI (L' := [.ref a0, .ref b_1, .ref b_4, am_un, am_un, am_un, am_un, am_un, am_un]) rfl rfl) ?_
  refine nwI_c (fun b_7 s_8 => ?_)
  exact rn_go 3 (pc' := 23) (L' := [.ref a0, .ref b_1, .ref b_4, .ref b_7, .int (0 : Int32), am_un, am_un, am_un, am_un]) (st' := []) rfl
set_option maxRecDepth 20000 in
theorem dc_L_law_23 {B : Nat} (a0 : Nat) (a1 : Nat) (a2 : Nat) (a3 : Nat) (x4 : Int32) (s : am_S) : rn_ tb_ct tb_mt B mm_L_law 23 [.ref a0, .ref a1, .ref a2, .ref a3, .int x4, am_un, am_un, am_un, am_un] [] s = eK (am_len s a0) (fun n_1 => if ((Int32.ofNat n_1) - (5 : Int32)) < x4 then some (.inl (some (.int (1 : Int32))), s) else eI (aI s a0 x4) (fun x_2 => sw (x_2 &&& (63 : Int32)).toInt (0) [rn_ tb_ct tb_mt B mm_L_law 272 [.ref a0, .ref a1, .ref a2, .ref a3, .int x4, am_un, am_un, am_un, am_un] [] s, rn_ tb_ct tb_mt B mm_L_law 329 [.ref a0, .ref a1, .ref a2, .ref a3, .int x4, am_un, am_un, am_un, am_un] [] s, rn_ tb_ct tb_mt B mm_L_law 342 [.ref a0, .ref a1, .ref a2, .ref a3, .int x4, am_un, am_un, am_un, am_un] [] s, rn_ tb_ct tb_mt B mm_L_law 355 [.ref a0, .ref a1, .ref a2, .ref a3, .int x4, am_un, am_un, am_un, am_un] [] s, rn_ tb_ct tb_mt B mm_L_law 368 [.ref a0, .ref a1, .ref a2, .ref a3, .int x4, am_un, am_un, am_un, am_un] [] s, rn_ tb_ct tb_mt B mm_L_law 424 [.ref a0, .ref a1, .ref a2, .ref a3, .int x4, am_un, am_un, am_un, am_un] [] s, rn_ tb_ct tb_mt B mm_L_law 492 [.ref a0, .ref a1, .ref a2, .ref a3, .int x4, am_un, am_un, am_un, am_un] [] s, rn_ tb_ct tb_mt B mm_L_law 560 [.ref a0, .ref a1, .ref a2, .ref a3, .int x4, am_un, am_un, am_un, am_un] [] s, rn_ tb_ct tb_mt B mm_L_law 640 [.ref a0, .ref a1, .ref a2, .ref a3, .int x4, am_un, am_un, am_un, am_un] [] s, rn_ tb_ct tb_mt B mm_L_law 732 [.ref a0, .ref a1, .ref a2, .ref a3, .int x4, am_un, am_un, am_un, am_un] [] s, rn_ tb_ct tb_mt B mm_L_law 811 [.ref a0, .ref a1, .ref a2, .ref a3, .int x4, am_un, am_un, am_un, am_un] [] s, rn_ tb_ct tb_mt B mm_L_law 879 [.ref a0, .ref a1, .ref a2, .ref a3, .int x4, am_un, am_un, am_un, am_un] [] s, rn_ tb_ct tb_mt B mm_L_law 935 [.ref a0, .ref a1, .ref a2, .ref a3, .int x4, am_un, am_un, am_un, am_un] [] s, rn_ tb_ct tb_mt B mm_L_law 1003 [.ref a0, .ref a1, .ref a2, .ref a3, .int x4, am_un, am_un, am_un, am_un] [] s, rn_ tb_ct tb_mt B mm_L_law 1071 [.ref a0, .ref a1, .ref a2, .ref a3, .int x4, am_un, am_un, am_un, am_un] [] s, rn_ tb_ct tb_mt B mm_L_law 1127 [.ref a0, .ref a1, .ref a2, .ref a3, .int x4, am_un, am_un, am_un, am_un] [] s, rn_ tb_ct tb_mt B mm_L_law 1140 [.ref a0, .ref a1, .ref a2, .ref a3, .int x4, am_un, am_un, am_un, am_un] [] s, rn_ tb_ct tb_mt B mm_L_law 1181 [.ref a0, .ref a1, .ref a2, .ref a3, .int x4, am_un, am_un, am_un, am_un] [] s, rn_ tb_ct tb_mt B mm_L_law 1249 [.ref a0, .ref a1, .ref a2, .ref a3, .int x4, am_un, am_un, am_un, am_un] [] s, rn_ tb_ct tb_mt B mm_L_law 1329 [.ref a0, .ref a1, .ref a2, .ref a3, .int x4, am_un, am_un, am_un, am_un] [] s, rn_ tb_ct tb_mt B mm_L_law 1409 [.ref a0, .ref a1, .ref a2, .ref a3, .int x4, am_un, am_un, am_un, am_un] [] s, rn_ tb_ct tb_mt B mm_L_law 1489 [.ref a0, .ref a1, .ref a2, .ref a3, .int x4, am_un, am_un, am_un, am_un] [] s, rn_ tb_ct tb_mt B mm_L_law 1557 [.ref a0, .ref a1, .ref a2, .ref a3, .int x4, am_un, am_un, am_un, am_un] [] s, rn_ tb_ct tb_mt B mm_L_law 1613 [.ref a0, .ref a1, .ref a2, .ref a3, .int x4, am_un, am_un, am_un, am_un] [] s, rn_ tb_ct tb_mt B mm_L_law 1669 [.ref a0, .ref a1, .ref a2, .ref a3, .int x4, am_un, am_un, am_un, am_un] [] s, rn_ tb_ct tb_mt B mm_L_law 1737 [.ref a0, .ref a1, .ref a2, .ref a3, .int x4, am_un, am_un, am_un, am_un] [] s, rn_ tb_ct tb_mt B mm_L_law 1829 [.ref a0, .ref a1, .ref a2, .ref a3, .int x4, am_un, am_un, am_un, am_un] [] s, rn_ tb_ct tb_mt B mm_L_law 1897 [.ref a0, .ref a1, .ref a2, .ref a3, .int x4, am_un, am_un, am_un, am_un] [] s, rn_ tb_ct tb_mt B mm_L_law 1953 [.ref a0, .ref a1, .ref a2, .ref a3, .int x4, am_un, am_un, am_un, am_un] [] s, rn_ tb_ct tb_mt B mm_L_law 2021 [.ref a0, .ref a1, .ref a2, .ref a3, .int x4, am_un, am_un, am_un, am_un] [] s, rn_ tb_ct tb_mt B mm_L_law 2077 [.ref a0, .ref a1, .ref a2, .ref a3, .int x4, am_un, am_un, am_un, am_un] [] s, rn_ tb_ct tb_mt B mm_L_law 2145 [.ref a0, .ref a1, .ref a2, .ref a3, .int x4, am_un, am_un, am_un, am_un] [] s, rn_ tb_ct tb_mt B mm_L_law 2201 [.ref a0, .ref a1, .ref a2, .ref a3, .int x4, am_un, am_un, am_un, am_un] [] s, rn_ tb_ct tb_mt B mm_L_law 2214 [.ref a0, .ref a1, .ref a2, .ref a3, .int x4, am_un, am_un, am_un, am_un] [] s, rn_ tb_ct tb_mt B mm_L_law 2270 [.ref a0, .ref a1, .ref a2, .ref a3, .int x4, am_un, am_un, am_un, am_un] [] s, rn_ tb_ct tb_mt B mm_L_law 2283 [.ref a0, .ref a1, .ref a2, .ref a3, .int x4, am_un, am_un, am_un, am_un] [] s, rn_ tb_ct tb_mt B mm_L_law 2339 [.ref a0, .ref a1, .ref a2, .ref a3, .int x4, am_un, am_un, am_un, am_un] [] s, rn_ tb_ct tb_mt B mm_L_law 2382 [.ref a0, .ref a1, .ref a2, .ref a3, .int x4, am_un, am_un, am_un, am_un] [] s, rn_ tb_ct tb_mt B mm_L_law 2438 [.ref a0, .ref a1, .ref a2, .ref a3, .int x4, am_un, am_un, am_un, am_un] [] s, rn_ tb_ct tb_mt B mm_L_law 2506 [.ref a0, .ref a1, .ref a2, .ref a3, .int x4, am_un, am_un, am_un, am_un] [] s, rn_ tb_ct tb_mt B mm_L_law 2531 [.ref a0, .ref a1, .ref a2, .ref a3, .int x4, am_un, am_un, am_un, am_un] [] s, rn_ tb_ct tb_mt B mm_L_law 2556 [.ref a0, .ref a1, .ref a2, .ref a3, .int x4, am_un, am_un, am_un, am_un] [] s, rn_ tb_ct tb_mt B mm_L_law 2612 [.ref a0, .ref a1, .ref a2, .ref a3, .int x4, am_un, am_un, am_un, am_un] [] s, rn_ tb_ct tb_mt B mm_L_law 2668 [.ref a0, .ref a1, .ref a2, .ref a3, .int x4, am_un, am_un, am_un, am_un] [] s, rn_ tb_ct tb_mt B mm_L_law 2724 [.ref a0, .ref a1, .ref a2, .ref a3, .int x4, am_un, am_un, am_un, am_un] [] s, rn_ tb_ct tb_mt B mm_L_law 2816 [.ref a0, .ref a1, .ref a2, .ref a3, .int x4, am_un, am_un, am_un, am_un] [] s, rn_ tb_ct tb_mt B mm_L_law 2896 [.ref a0, .ref a1, .ref a2, .ref a3, .int x4, am_un, am_un, am_un, am_un] [] s, rn_ tb_ct tb_mt B mm_L_law 2976 [.ref a0, .ref a1, .ref a2, .ref a3, .int x4, am_un, am_un, am_un, am_un] [] s, rn_ tb_ct tb_mt B mm_L_law 2989 [.ref a0, .ref a1, .ref a2, .ref a3, .int x4, am_un, am_un, am_un, am_un] [] s, rn_ tb_ct tb_mt B mm_L_law 3002 [.ref a0, .ref a1, .ref a2, .ref a3, .int x4, am_un, am_un, am_un, am_un] [] s, rn_ tb_ct tb_mt B mm_L_law 3015 [.ref a0, .ref a1, .ref a2, .ref a3, .int x4, am_un, am_un, am_un, am_un] [] s, rn_ tb_ct tb_mt B mm_L_law 3028 [.ref a0, .ref a1, .ref a2, .ref a3, .int x4, am_un, am_un, am_un, am_un] [] s, rn_ tb_ct tb_mt B mm_L_law 3084 [.ref a0, .ref a1, .ref a2, .ref a3, .int x4, am_un, am_un, am_un, am_un] [] s, rn_ tb_ct tb_mt B mm_L_law 3109 [.ref a0, .ref a1, .ref a2, .ref a3, .int x4, am_un, am_un, am_un, am_un] [] s, rn_ tb_ct tb_mt B mm_L_law 3165 [.ref a0, .ref a1, .ref a2, .ref a3, .int x4, am_un, am_un, am_un, am_un] [] s] (rn_ tb_ct tb_mt B mm_L_law 3221 [.ref a0, .ref a1, .ref a2, .ref a3, .int x4, am_un, am_un, am_un, am_un] [] s))) := by
  refine Eq.trans (rn_go 2 (pc' := 26) (L' := [.ref a0, .ref a1, .ref a2, .ref a3, .int x4, am_un, am_un, am_un, am_un]) (st' := [.ref a0, .int x4]) rfl) ?_
  refine Eq.trans (rn_al (L' := [.ref a0, .ref a1, .ref a2, .ref a3, .int x4, am_un, am_un, am_un, am_un]) rfl rfl) ?_
  refine eK_c (fun n_1 => ?_)
  refine Eq.trans (rn_go 2 (pc' := 29) (L' := [.ref a0, .ref a1, .ref a2, .ref a3, .int x4, am_un, am_un, am_un, am_un]) (st' := [.int ((Int32.ofNat n_1) - (5 : Int32)), .int x4]) rfl) ?_
  refine Eq.trans (rn_icgt (L' := [.ref a0, .ref a1, .ref a2, .ref a3, .int x4, am_un, am_un, am_un, am_un]) rfl rfl) ?_
  refine if_c ?_ ?_
  · refine Eq.trans (rn_go 1 (pc' := 3228) (L' := [.ref a0, .ref a1, .ref a2, .ref a3, .int x4, am_un, am_un, am_un, am_un]) (st' := [.int (1 : Int32)]) rfl) ?_
    exact rn_retI rfl rfl rfl
  · refine Eq.trans (rn_go 2 (pc' := 35) (L' := [.ref a0, .ref a1, .ref a2, .ref a3, .int x4, am_un, am_un, am_un, am_un]) (st' := [.int x4, .ref a0]) rfl) ?_
    refine Eq.trans (rn_aI (L' := [.ref a0, .ref a1, .ref a2, .ref a3, .int x4, am_un, am_un, am_un, am_un]) rfl rfl) ?_
    refine eI_c (fun x_2 => ?_)
    refine Eq.trans (rn_go 2 (pc' := 39) (L' := [.ref a0, .ref a1, .ref a2, .ref a3, .int x4, am_un, am_un, am_un, am_un]) (st' := [.int (x_2 &&& (63 : Int32))]) rfl) ?_
    refine Eq.trans (rn_tsw (L' := [.ref a0, .ref a1, .ref a2, .ref a3, .int x4, am_un, am_un, am_un, am_un]) (ts := [272, 329, 342, 355, 368, 424, 492, 560, 640, 732, 811, 879, 935, 1003, 1071, 1127, 1140, 1181, 1249, 1329, 1409, 1489, 1557, 1613, 1669, 1737, 1829, 1897, 1953, 2021, 2077, 2145, 2201, 2214, 2270, 2283, 2339, 2382, 2438, 2506, 2531, 2556, 2612, 2668, 2724, 2816, 2896, 2976, 2989, 3002, 3015, 3028, 3084, 3109, 3165]) (td := 3221) rfl rfl (by decide) rfl rfl) ?_
    refine sw_c ?_ ?_
    · refine cons_c ?_ ?_
      · rfl
      refine cons_c ?_ ?_
      · rfl
      refine cons_c ?_ ?_
      · rfl
      refine cons_c ?_ ?_
      · rfl
      refine cons_c ?_ ?_
      · rfl
      refine cons_c ?_ ?_
      · rfl
      refine cons_c ?_ ?_
      · rfl
      refine cons_c ?_ ?_
      · rfl
      refine cons_c ?_ ?_
      · rfl
      refine cons_c ?_ ?_
      · rfl
      refine cons_c ?_ ?_
      · rfl
      refine cons_c ?_ ?_
      · rfl
      refine cons_c ?_ ?_
      · rfl
      refine cons_c ?_ ?_
      · rfl
      refine cons_c ?_ ?_
      · rfl
      refine cons_c ?_ ?_
      · rfl
      refine cons_c ?_ ?_
      · rfl
      refine cons_c ?_ ?_
      · rfl
      refine cons_c ?_ ?_
      · rfl
      refine cons_c ?_ ?_
      · rfl
      refine cons_c ?_ ?_
      · rfl
      refine cons_c ?_ ?_
      · rfl
      refine cons_c ?_ ?_
      · rfl
      refine cons_c ?_ ?_
      · rfl
      refine cons_c ?_ ?_
      · rfl
      refine cons_c ?_ ?_
      · rfl
      refine cons_c ?_ ?_
      · rfl
      refine cons_c ?_ ?_
      · rfl
      refine cons_c ?_ ?_
      · rfl
      refine cons_c ?_ ?_
      · rfl
      refine cons_c ?_ ?_
      · rfl
      refine cons_c ?_ ?_
      · rfl
      refine cons_c ?_ ?_
      · rfl
      refine cons_c ?_ ?_
      · rfl
      refine cons_c ?_ ?_
      · rfl
      refine cons_c ?_ ?_
      · rfl
      refine cons_c ?_ ?_
      · rfl
      refine cons_c ?_ ?_
      · rfl
      refine cons_c ?_ ?_
      · rfl
      refine cons_c ?_ ?_
      · rfl
      refine cons_c ?_ ?_
      · rfl
      refine cons_c ?_ ?_
      · rfl
      refine cons_c ?_ ?_
      · rfl
      refine cons_c ?_ ?_
      · rfl
      refine cons_c ?_ ?_
      · rfl
      refine cons_c ?_ ?_
      · rfl
      refine cons_c ?_ ?_
      · rfl
      refine cons_c ?_ ?_
      · rfl
      refine cons_c ?_ ?_
      · rfl
      refine cons_c ?_ ?_
      · rfl
      refine cons_c ?_ ?_
      · rfl
      refine cons_c ?_ ?_
      · rfl
      refine cons_c ?_ ?_
      · rfl
      refine cons_c ?_ ?_
      · rfl
      refine cons_c ?_ ?_
      · rfl
      rfl
    · rfl
set_option maxRecDepth 20000 in
theorem dc_L_law_272 {B : Nat} (a0 : Nat) (a1 : Nat) (a2 : Nat) (a3 : Nat) (x4 : Int32) (s : am_S) : rn_ tb_ct tb_mt B mm_L_law 272 [.ref a0, .ref a1, .ref a2, .ref a3, .int x4, am_un, am_un, am_un, am_un] [] s = eI (aI s a0 (x4 + (1 : Int32))) (fun x_1 => eI (aI s a0 (x4 + (2 : Int32))) (fun x_2 => eC (am_cls s a1) 10 (cI (cl_ tb_ct tb_mt B K_X12_append [.ref a1, .long ((x_1.toInt64 <<< ((32 : Int32).toInt64 &&& 63)) ||| (x_2.toInt64 &&& (4294967295 : Int64)))] s) (fun x_4 s_3 => eI (aI s_3 a0 (x4 + (1 : Int32))) (fun x_5 => eI (aI s_3 a0 (x4 + (2 : Int32))) (fun x_6 => eC (am_cls s_3 a2) 11 (cI (cl_ tb_ct tb_mt B K_X13_append [.ref a2, .long ((x_5.toInt64 <<< ((32 : Int32).toInt64 &&& 63)) ||| (x_6.toInt64 &&& (4294967295 : Int64)))] s_3) (fun x_8 s_7 => if x_4 = x_8 then rn_ tb_ct tb_mt B mm_L_law 3221 [.ref a0, .ref a1, .ref a2, .ref a3, .int x4, am_un, am_un, am_un, am_un] [] s_7 else some (.inl (some (.int (0 : Int32))), s_7)) xo)))) xo))) := by
  refine Eq.trans (rn_go 5 (pc' := 278) (L' := [.ref a0, .ref a1, .ref a2, .ref a3, .int x4, am_un, am_un, am_un, am_un]) (st' := [.int (x4 + (1 : Int32)), .ref a0, .ref a1]) rfl) ?_
  refine Eq.trans (rn_aI (L' := [.ref a0, .ref a1, .ref a2, .ref a3, .int x4, am_un, am_un, am_un, am_un]) rfl rfl) ?_
  refine eI_c (fun x_1 => ?_)
  refine Eq.trans (rn_go 7 (pc' := 288) (L' := [.ref a0, .ref a1, .ref a2, .ref a3, .int x4, am_un, am_un, am_un, am_un]) (st' := [.int (x4 + (2 : Int32)), .ref a0, .long (x_1.toInt64 <<< ((32 : Int32).toInt64 &&& 63)), .ref a1]) rfl) ?_
  refine Eq.trans (rn_aI (L' := [.ref a0, .ref a1, .ref a2, .ref a3, .int x4, am_un, am_un, am_un, am_un]) rfl rfl) ?_
  refine eI_c (fun x_2 => ?_)
  refine Eq.trans (rn_go 4 (pc' := 295) (L' := [.ref a0, .ref a1, .ref a2, .ref a3, .int x4, am_un, am_un, am_un, am_un]) (st' := [.long ((x_1.toInt64 <<< ((32 : Int32).toInt64 &&& 63)) ||| (x_2.toInt64 &&& (4294967295 : Int64))), .ref a1]) rfl) ?_
  refine Eq.trans (rn_vir (L' := [.ref a0, .ref a1, .ref a2, .ref a3, .int x4, am_un, am_un, am_un, am_un]) (as := [.long ((x_1.toInt64 <<< ((32 : Int32).toInt64 &&& 63)) ||| (x_2.toInt64 &&& (4294967295 : Int64)))]) (rest := []) rfl rfl rfl rfl rfl (Nat.le_of_ble_eq_true rfl) (by decide) (by decide)) ?_
  refine eC_c ?_
  refine Eq.trans (cW_I rfl rfl rfl) ?_
  refine cI_c (fun x_4 s_3 => ?_) (xh_nil rfl)
  refine Eq.trans (rn_go 5 (pc' := 304) (L' := [.ref a0, .ref a1, .ref a2, .ref a3, .int x4, am_un, am_un, am_un, am_un]) (st' := [.int (x4 + (1 : Int32)), .ref a0, .ref a2, .int x_4]) rfl) ?_
  refine Eq.trans (rn_aI (L' := [.ref a0, .ref a1, .ref a2, .ref a3, .int x4, am_un, am_un, am_un, am_un]) rfl rfl) ?_
  refine eI_c (fun x_5 => ?_)
  refine Eq.trans (rn_go 7 (pc' := 314) (L' := [.ref a0, .ref a1, .ref a2, .ref a3, .int x4, am_un, am_un, am_un, am_un]) (st' := [.int (x4 + (2 : Int32)), .ref a0, .long (x_5.toInt64 <<< ((32 : Int32).toInt64 &&& 63)), .ref a2, .int x_4]) rfl) ?_
  refine Eq.trans (rn_aI (L' := [.ref a0, .ref a1, .ref a2, .ref a3, .int x4, am_un, am_un, am_un, am_un]) rfl rfl) ?_
  refine eI_c (fun x_6 => ?_)
  refine Eq.trans (rn_go 4 (pc' := 321) (L' := [.ref a0, .ref a1, .ref a2, .ref a3, .int x4, am_un, am_un, am_un, am_un]) (st' := [.long ((x_5.toInt64 <<< ((32 : Int32).toInt64 &&& 63)) ||| (x_6.toInt64 &&& (4294967295 : Int64))), .ref a2, .int x_4]) rfl) ?_
  refine Eq.trans (rn_vir (L' := [.ref a0, .ref a1, .ref a2, .ref a3, .int x4, am_un, am_un, am_un, am_un]) (as := [.long ((x_5.toInt64 <<< ((32 : Int32).toInt64 &&& 63)) ||| (x_6.toInt64 &&& (4294967295 : Int64)))]) (rest := [.int x_4]) rfl rfl rfl rfl rfl (Nat.le_of_ble_eq_true rfl) (by decide) (by decide)) ?_
  refine eC_c ?_
  refine Eq.trans (cW_I rfl rfl rfl) ?_
  refine cI_c (fun x_8 s_7 => ?_) (xh_nil rfl)
  refine Eq.trans (rn_iceq (L' := [.ref a0, .ref a1, .ref a2, .ref a3, .int x4, am_un, am_un, am_un, am_un]) rfl rfl) ?_
  refine if_c ?_ ?_
  · rfl
  · refine Eq.trans (rn_go 1 (pc' := 328) (L' := [.ref a0, .ref a1, .ref a2, .ref a3, .int x4, am_un, am_un, am_un, am_un]) (st' := [.int (0 : Int32)]) rfl) ?_
    exact rn_retI rfl rfl rfl
set_option maxRecDepth 20000 in
theorem dc_L_law_329 {B : Nat} (a0 : Nat) (a1 : Nat) (a2 : Nat) (a3 : Nat) (x4 : Int32) (s : am_S) : rn_ tb_ct tb_mt B mm_L_law 329 [.ref a0, .ref a1, .ref a2, .ref a3, .int x4, am_un, am_un, am_un, am_un] [] s = eC (am_cls s a1) 10 (cI (cl_ tb_ct tb_mt B K_X12_load [.ref a1] s) (fun x_2 s_1 => eC (am_cls s_1 a2) 11 (cI (cl_ tb_ct tb_mt B K_X13_load [.ref a2] s_1) (fun x_4 s_3 => if x_2 = x_4 then rn_ tb_ct tb_mt B mm_L_law 3221 [.ref a0, .ref a1, .ref a2, .ref a3, .int x4, am_un, am_un, am_un, am_un] [] s_3 else some (.inl (some (.int (0 : Int32))), s_3)) xo)) xo) := by
  refine Eq.trans (rn_go 1 (pc' := 330) (L' := [.ref a0, .ref a1, .ref a2, .ref a3, .int x4, am_un, am_un, am_un, am_un]) (st' := [.ref a1]) rfl) ?_
  refine Eq.trans (rn_vir (L' := [.ref a0, .ref a1, .ref a2, .ref a3, .int x4, am_un, am_un, am_un, am_un]) (as := []) (rest := []) rfl rfl rfl rfl rfl (Nat.le_of_ble_eq_true rfl) (by decide) (by decide)) ?_
  refine eC_c ?_
  refine Eq.trans (cW_I rfl rfl rfl) ?_
  refine cI_c (fun x_2 s_1 => ?_) (xh_nil rfl)
  refine Eq.trans (rn_go 1 (pc' := 334) (L' := [.ref a0, .ref a1, .ref a2, .ref a3, .int x4, am_un, am_un, am_un, am_un]) (st' := [.ref a2, .int x_2]) rfl) ?_
  refine Eq.trans (rn_vir (L' := [.ref a0, .ref a1, .ref a2, .ref a3, .int x4, am_un, am_un, am_un, am_un]) (as := []) (rest := [.int x_2]) rfl rfl rfl rfl rfl (Nat.le_of_ble_eq_true rfl) (by decide) (by decide)) ?_
  refine eC_c ?_
  refine Eq.trans (cW_I rfl rfl rfl) ?_
  refine cI_c (fun x_4 s_3 => ?_) (xh_nil rfl)
  refine Eq.trans (rn_iceq (L' := [.ref a0, .ref a1, .ref a2, .ref a3, .int x4, am_un, am_un, am_un, am_un]) rfl rfl) ?_
  refine if_c ?_ ?_
  · rfl
  · refine Eq.trans (rn_go 1 (pc' := 341) (L' := [.ref a0, .ref a1, .ref a2, .ref a3, .int x4, am_un, am_un, am_un, am_un]) (st' := [.int (0 : Int32)]) rfl) ?_
    exact rn_retI rfl rfl rfl
set_option maxRecDepth 20000 in
theorem dc_L_law_342 {B : Nat} (a0 : Nat) (a1 : Nat) (a2 : Nat) (a3 : Nat) (x4 : Int32) (s : am_S) : rn_ tb_ct tb_mt B mm_L_law 342 [.ref a0, .ref a1, .ref a2, .ref a3, .int x4, am_un, am_un, am_un, am_un] [] s = eC (am_cls s a1) 10 (cI (cl_ tb_ct tb_mt B K_X12_loadError [.ref a1] s) (fun x_2 s_1 => eC (am_cls s_1 a2) 11 (cI (cl_ tb_ct tb_mt B K_X13_loadError [.ref a2] s_1) (fun x_4 s_3 => if x_2 = x_4 then rn_ tb_ct tb_mt B mm_L_law 3221 [.ref a0, .ref a1, .ref a2, .ref a3, .int x4, am_un, am_un, am_un, am_un] [] s_3 else some (.inl (some (.int (0 : Int32))), s_3)) xo)) xo) := by
  refine Eq.trans (rn_go 1 (pc' := 343) (L' := [.ref a0, .ref a1, .ref a2, .ref a3, .int x4, am_un, am_un, am_un, am_un]) (st' := [.ref a1]) rfl) ?_
  refine Eq.trans (rn_vir (L' := [.ref a0, .ref a1, .ref a2, .ref a3, .int x4, am_un, am_un, am_un, am_un]) (as := []) (rest := []) rfl rfl rfl rfl rfl (Nat.le_of_ble_eq_true rfl) (by decide) (by decide)) ?_
  refine eC_c ?_
  refine Eq.trans (cW_I rfl rfl rfl) ?_
  refine cI_c (fun x_2 s_1 => ?_) (xh_nil rfl)
  refine Eq.trans (rn_go 1 (pc' := 347) (L' := [.ref a0, .ref a1, .ref a2, .ref a3, .int x4, am_un, am_un, am_un, am_un]) (st' := [.ref a2, .int x_2]) rfl) ?_
  refine Eq.trans (rn_vir (L' := [.ref a0, .ref a1, .ref a2, .ref a3, .int x4, am_un, am_un, am_un, am_un]) (as := []) (rest := [.int x_2]) rfl rfl rfl rfl rfl (Nat.le_of_ble_eq_true rfl) (by decide) (by decide)) ?_
  refine eC_c ?_
  refine Eq.trans (cW_I rfl rfl rfl) ?_
  refine cI_c (fun x_4 s_3 => ?_) (xh_nil rfl)
  refine Eq.trans (rn_iceq (L' := [.ref a0, .ref a1, .ref a2, .ref a3, .int x4, am_un, am_un, am_un, am_un]) rfl rfl) ?_
  refine if_c ?_ ?_
  · rfl
  · refine Eq.trans (rn_go 1 (pc' := 354) (L' := [.ref a0, .ref a1, .ref a2, .ref a3, .int x4, am_un, am_un, am_un, am_un]) (st' := [.int (0 : Int32)]) rfl) ?_
    exact rn_retI rfl rfl rfl
set_option maxRecDepth 20000 in
theorem dc_L_law_355 {B : Nat} (a0 : Nat) (a1 : Nat) (a2 : Nat) (a3 : Nat) (x4 : Int32) (s : am_S) : rn_ tb_ct tb_mt B mm_L_law 355 [.ref a0, .ref a1, .ref a2, .ref a3, .int x4, am_un, am_un, am_un, am_un] [] s = eC (am_cls s a1) 10 (cI (cl_ tb_ct tb_mt B K_X12_loadStatement [.ref a1] s) (fun x_2 s_1 => eC (am_cls s_1 a2) 11 (cI (cl_ tb_ct tb_mt B K_X13_loadStatement [.ref a2] s_1) (fun x_4 s_3 => if x_2 = x_4 then rn_ tb_ct tb_mt B mm_L_law 3221 [.ref a0, .ref a1, .ref a2, .ref a3, .int x4, am_un, am_un, am_un, am_un] [] s_3 else some (.inl (some (.int (0 : Int32))), s_3)) xo)) xo) := by
  refine Eq.trans (rn_go 1 (pc' := 356) (L' := [.ref a0, .ref a1, .ref a2, .ref a3, .int x4, am_un, am_un, am_un, am_un]) (st' := [.ref a1]) rfl) ?_
  refine Eq.trans (rn_vir (L' := [.ref a0, .ref a1, .ref a2, .ref a3, .int x4, am_un, am_un, am_un, am_un]) (as := []) (rest := []) rfl rfl rfl rfl rfl (Nat.le_of_ble_eq_true rfl) (by decide) (by decide)) ?_
  refine eC_c ?_
  refine Eq.trans (cW_I rfl rfl rfl) ?_
  refine cI_c (fun x_2 s_1 => ?_) (xh_nil rfl)
  refine Eq.trans (rn_go 1 (pc' := 360) (L' := [.ref a0, .ref a1, .ref a2, .ref a3, .int x4, am_un, am_un, am_un, am_un]) (st' := [.ref a2, .int x_2]) rfl) ?_
  refine Eq.trans (rn_vir (L' := [.ref a0, .ref a1, .ref a2, .ref a3, .int x4, am_un, am_un, am_un, am_un]) (as := []) (rest := [.int x_2]) rfl rfl rfl rfl rfl (Nat.le_of_ble_eq_true rfl) (by decide) (by decide)) ?_
  refine eC_c ?_
  refine Eq.trans (cW_I rfl rfl rfl) ?_
  refine cI_c (fun x_4 s_3 => ?_) (xh_nil rfl)
  refine Eq.trans (rn_iceq (L' := [.ref a0, .ref a1, .ref a2, .ref a3, .int x4, am_un, am_un, am_un, am_un]) rfl rfl) ?_
  refine if_c ?_ ?_
  · rfl
  · refine Eq.trans (rn_go 1 (pc' := 367) (L' := [.ref a0, .ref a1, .ref a2, .ref a3, .int x4, am_un, am_un, am_un, am_un]) (st' := [.int (0 : Int32)]) rfl) ?_
    exact rn_retI rfl rfl rfl
set_option maxRecDepth 20000 in
theorem dc_L_law_368 {B : Nat} (a0 : Nat) (a1 : Nat) (a2 : Nat) (a3 : Nat) (x4 : Int32) (s : am_S) : rn_ tb_ct tb_mt B mm_L_law 368 [.ref a0, .ref a1, .ref a2, .ref a3, .int x4, am_un, am_un, am_un, am_un] [] s = eI (aI s a0 (x4 + (1 : Int32))) (fun x_1 => cI (cl_ tb_ct tb_mt B K_L_count [.ref a1, .int x_1, .ref a3] s) (fun x_3 s_2 => eI (aI s_2 a0 (x4 + (1 : Int32))) (fun x_4 => eC (am_cls s_2 a2) 11 (cI (cl_ tb_ct tb_mt B K_X13_count [.ref a2, .int x_4] s_2) (fun x_6 s_5 => eC (am_cls s_5 a2) 11 (cI (cl_ tb_ct tb_mt B K_X13_thrown [.ref a2] s_5) (fun x_8 s_7 => if x_8 = x_3 then if x_3 = 0 then eJ (aJ s_7 a3 (0 : Int32)) (fun x_9 => if (lg_cmp x_9 x_6.toInt64) = 0 then rn_ tb_ct tb_mt B mm_L_law 421 [.ref a0, .ref a1, .ref a2, .ref a3, .int x4, .int x_3, .int x_6, am_un, am_un] [] s_7 else some (.inl (some (.int (0 : Int32))), s_7)) else rn_ tb_ct tb_mt B mm_L_law 421 [.ref a0, .ref a1, .ref a2, .ref a3, .int x4, .int x_3, .int x_6, am_un, am_un] [] s_7 else some (.inl (some (.int (0 : Int32))), s_7)) xo)) xo))) xo) := by
  refine Eq.trans (rn_go 5 (pc' := 374) (L' := [.ref a0, .ref a1, .ref a2, .ref a3, .int x4, am_un, am_un, am_un, am_un]) (st' := [.int (x4 + (1 : Int32)), .ref a0, .ref a1]) rfl) ?_
  refine Eq.trans (rn_aI (L' := [.ref a0, .ref a1, .ref a2, .ref a3, .int x4, am_un, am_un, am_un, am_un]) rfl rfl) ?_
  refine eI_c (fun x_1 => ?_)
  refine Eq.trans (rn_go 1 (pc' := 376) (L' := [.ref a0, .ref a1, .ref a2, .ref a3, .int x4, am_un, am_un, am_un, am_un]) (st' := [.ref a3, .int x_1, .ref a1]) rfl) ?_
  refine Eq.trans (rn_sta (L' := [.ref a0, .ref a1, .ref a2, .ref a3, .int x4, am_un, am_un, am_un, am_un]) (as := [.ref a1, .int x_1, .ref a3]) (rest := []) rfl rfl rfl rfl rfl (Nat.le_of_ble_eq_true rfl) (by decide) rfl) ?_
  refine Eq.trans (cW_I rfl rfl rfl) ?_
  refine cI_c (fun x_3 s_2 => ?_) (xh_nil rfl)
  refine Eq.trans (rn_go 6 (pc' := 387) (L' := [.ref a0, .ref a1, .ref a2, .ref a3, .int x4, .int x_3, am_un, am_un, am_un]) (st' := [.int (x4 + (1 : Int32)), .ref a0, .ref a2]) rfl) ?_
  refine Eq.trans (rn_aI (L' := [.ref a0, .ref a1, .ref a2, .ref a3, .int x4, .int x_3, am_un, am_un, am_un]) rfl rfl) ?_
  refine eI_c (fun x_4 => ?_)
  refine Eq.trans (rn_vir (L' := [.ref a0, .ref a1, .ref a2, .ref a3, .int x4, .int x_3, am_un, am_un, am_un]) (as := [.int x_4]) (rest := []) rfl rfl rfl rfl rfl (Nat.le_of_ble_eq_true rfl) (by decide) (by decide)) ?_
  refine eC_c ?_
  refine Eq.trans (cW_I rfl rfl rfl) ?_
  refine cI_c (fun x_6 s_5 => ?_) (xh_nil rfl)
  refine Eq.trans (rn_go 2 (pc' := 394) (L' := [.ref a0, .ref a1, .ref a2, .ref a3, .int x4, .int x_3, .int x_6, am_un, am_un]) (st' := [.ref a2]) rfl) ?_
  refine Eq.trans (rn_vir (L' := [.ref a0, .ref a1, .ref a2, .ref a3, .int x4, .int x_3, .int x_6, am_un, am_un]) (as := []) (rest := []) rfl rfl rfl rfl rfl (Nat.le_of_ble_eq_true rfl) (by decide) (by decide)) ?_
  refine eC_c ?_
  refine Eq.trans (cW_I rfl rfl rfl) ?_
  refine cI_c (fun x_8 s_7 => ?_) (xh_nil rfl)
  refine Eq.trans (rn_go 1 (pc' := 399) (L' := [.ref a0, .ref a1, .ref a2, .ref a3, .int x4, .int x_3, .int x_6, am_un, am_un]) (st' := [.int x_3, .int x_8]) rfl) ?_
  refine Eq.trans (rn_iceq (L' := [.ref a0, .ref a1, .ref a2, .ref a3, .int x4, .int x_3, .int x_6, am_un, am_un]) rfl rfl) ?_
  refine if_c ?_ ?_
  · refine Eq.trans (rn_go 1 (pc' := 406) (L' := [.ref a0, .ref a1, .ref a2, .ref a3, .int x4, .int x_3, .int x_6, am_un, am_un]) (st' := [.int x_3]) rfl) ?_
    refine Eq.trans (rn_ifne (L' := [.ref a0, .ref a1, .ref a2, .ref a3, .int x4, .int x_3, .int x_6, am_un, am_un]) rfl rfl) ?_
    refine if_c ?_ ?_
    · refine Eq.trans (rn_go 2 (pc' := 411) (L' := [.ref a0, .ref a1, .ref a2, .ref a3, .int x4, .int x_3, .int x_6, am_un, am_un]) (st' := [.int (0 : Int32), .ref a3]) rfl) ?_
      refine Eq.trans (rn_aJ (L' := [.ref a0, .ref a1, .ref a2, .ref a3, .int x4, .int x_3, .int x_6, am_un, am_un]) rfl rfl) ?_
      refine eJ_c (fun x_9 => ?_)
      refine Eq.trans (rn_go 3 (pc' := 416) (L' := [.ref a0, .ref a1, .ref a2, .ref a3, .int x4, .int x_3, .int x_6, am_un, am_un]) (st' := [.int (lg_cmp x_9 x_6.toInt64)]) rfl) ?_
      refine Eq.trans (rn_ifeq (L' := [.ref a0, .ref a1, .ref a2, .ref a3, .int x4, .int x_3, .int x_6, am_un, am_un]) rfl rfl) ?_
      refine if_c ?_ ?_
      · rfl
      · refine Eq.trans (rn_go 1 (pc' := 420) (L' := [.ref a0, .ref a1, .ref a2, .ref a3, .int x4, .int x_3, .int x_6, am_un, am_un]) (st' := [.int (0 : Int32)]) rfl) ?_
        exact rn_retI rfl rfl rfl
    · rfl
  · refine Eq.trans (rn_go 1 (pc' := 403) (L' := [.ref a0, .ref a1, .ref a2, .ref a3, .int x4, .int x_3, .int x_6, am_un, am_un]) (st' := [.int (0 : Int32)]) rfl) ?_
    exact rn_retI rfl rfl rfl
set_option maxRecDepth 20000 in
theorem dc_L_law_421 {B : Nat} (a0 : Nat) (a1 : Nat) (a2 : Nat) (a3 : Nat) (x4 : Int32) (w5 : Value) (w6 : Value) (s : am_S) : rn_ tb_ct tb_mt B mm_L_law 421 [.ref a0, .ref a1, .ref a2, .ref a3, .int x4, w5, w6, am_un, am_un] [] s = rn_ tb_ct tb_mt B mm_L_law 3221 [.ref a0, .ref a1, .ref a2, .ref a3, .int x4, am_un, am_un, am_un, am_un] [] s := by
  exact rn_go 1 (pc' := 3221) (L' := [.ref a0, .ref a1, .ref a2, .ref a3, .int x4, am_un, am_un, am_un, am_un]) (st' := []) rfl
set_option maxRecDepth 20000 in
theorem dc_L_law_424 {B : Nat} (a0 : Nat) (a1 : Nat) (a2 : Nat) (a3 : Nat) (x4 : Int32) (s : am_S) : rn_ tb_ct tb_mt B mm_L_law 424 [.ref a0, .ref a1, .ref a2, .ref a3, .int x4, am_un, am_un, am_un, am_un] [] s = eI (aI s a0 (x4 + (1 : Int32))) (fun x_1 => eI (aI s a0 (x4 + (2 : Int32))) (fun x_2 => cI (cl_ tb_ct tb_mt B K_L_get [.ref a1, .int x_1, .int x_2, .ref a3] s) (fun x_4 s_3 => eI (aI s_3 a0 (x4 + (1 : Int32))) (fun x_5 => eI (aI s_3 a0 (x4 + (2 : Int32))) (fun x_6 => eC (am_cls s_3 a2) 11 (cI (cl_ tb_ct tb_mt B K_X13_get [.ref a2, .int x_5, .int x_6] s_3) (fun x_8 s_7 => eC (am_cls s_7 a2) 11 (cI (cl_ tb_ct tb_mt B K_X13_thrown [.ref a2] s_7) (fun x_10 s_9 => if x_10 = x_4 then if x_4 = 0 then eJ (aJ s_9 a3 (0 : Int32)) (fun x_11 => if (lg_cmp x_11 x_8.toInt64) = 0 then rn_ tb_ct tb_mt B mm_L_law 489 [.ref a0, .ref a1, .ref a2, .ref a3, .int x4, .int x_4, .int x_8, am_un, am_un] [] s_9 else some (.inl (some (.int (0 : Int32))), s_9)) else rn_ tb_ct tb_mt B mm_L_law 489 [.ref a0, .ref a1, .ref a2, .ref a3, .int x4, .int x_4, .int x_8, am_un, am_un] [] s_9 else some (.inl (some (.int (0 : Int32))), s_9)) xo)) xo)))) xo)) := by
  refine Eq.trans (rn_go 5 (pc' := 430) (L' := [.ref a0, .ref a1, .ref a2, .ref a3, .int x4, am_un, am_un, am_un, am_un]) (st' := [.int (x4 + (1 : Int32)), .ref a0, .ref a1]) rfl) ?_
  refine Eq.trans (rn_aI (L' := [.ref a0, .ref a1, .ref a2, .ref a3, .int x4, am_un, am_un, am_un, am_un]) rfl rfl) ?_
  refine eI_c (fun x_1 => ?_)
  refine Eq.trans (rn_go 4 (pc' := 436) (L' := [.ref a0, .ref a1, .ref a2, .ref a3, .int x4, am_un, am_un, am_un, am_un]) (st' := [.int (x4 + (2 : Int32)), .ref a0, .int x_1, .ref a1]) rfl) ?_
  refine Eq.trans (rn_aI (L' := [.ref a0, .ref a1, .ref a2, .ref a3, .int x4, am_un, am_un, am_un, am_un]) rfl rfl) ?_
  refine eI_c (fun x_2 => ?_)
  refine Eq.trans (rn_go 1 (pc' := 438) (L' := [.ref a0, .ref a1, .ref a2, .ref a3, .int x4, am_un, am_un, am_un, am_un]) (st' := [.ref a3, .int x_2, .int x_1, .ref a1]) rfl) ?_
  refine Eq.trans (rn_sta (L' := [.ref a0, .ref a1, .ref a2, .ref a3, .int x4, am_un, am_un, am_un, am_un]) (as := [.ref a1, .int x_1, .int x_2, .ref a3]) (rest := []) rfl rfl rfl rfl rfl (Nat.le_of_ble_eq_true rfl) (by decide) rfl) ?_
  refine Eq.trans (cW_I rfl rfl rfl) ?_
  refine cI_c (fun x_4 s_3 => ?_) (xh_nil rfl)
  refine Eq.trans (rn_go 6 (pc' := 449) (L' := [.ref a0, .ref a1, .ref a2, .ref a3, .int x4, .int x_4, am_un, am_un, am_un]) (st' := [.int (x4 + (1 : Int32)), .ref a0, .ref a2]) rfl) ?_
  refine Eq.trans (rn_aI (L' := [.ref a0, .ref a1, .ref a2, .ref a3, .int x4, .int x_4, am_un, am_un, am_un]) rfl rfl) ?_
  refine eI_c (fun x_5 => ?_)
  refine Eq.trans (rn_go 4 (pc' := 455) (L' := [.ref a0, .ref a1, .ref a2, .ref a3, .int x4, .int x_4, am_un, am_un, am_un]) (st' := [.int (x4 + (2 : Int32)), .ref a0, .int x_5, .ref a2]) rfl) ?_
  refine Eq.trans (rn_aI (L' := [.ref a0, .ref a1, .ref a2, .ref a3, .int x4, .int x_4, am_un, am_un, am_un]) rfl rfl) ?_
  refine eI_c (fun x_6 => ?_)
  refine Eq.trans (rn_vir (L' := [.ref a0, .ref a1, .ref a2, .ref a3, .int x4, .int x_4, am_un, am_un, am_un]) (as := [.int x_5, .int x_6]) (rest := []) rfl rfl rfl rfl rfl (Nat.le_of_ble_eq_true rfl) (by decide) (by decide)) ?_
  refine eC_c ?_
  refine Eq.trans (cW_I rfl rfl rfl) ?_
  refine cI_c (fun x_8 s_7 => ?_) (xh_nil rfl)
  refine Eq.trans (rn_go 2 (pc' := 462) (L' := [.ref a0, .ref a1, .ref a2, .ref a3, .int x4, .int x_4, .int x_8, am_un, am_un]) (st' := [.ref a2]) rfl) ?_
  refine Eq.trans (rn_vir (L' := [.ref a0, .ref a1, .ref a2, .ref a3, .int x4, .int x_4, .int x_8, am_un, am_un]) (as := []) (rest := []) rfl rfl rfl rfl rfl (Nat.le_of_ble_eq_true rfl) (by decide) (by decide)) ?_
  refine eC_c ?_
  refine Eq.trans (cW_I rfl rfl rfl) ?_
  refine cI_c (fun x_10 s_9 => ?_) (xh_nil rfl)
  refine Eq.trans (rn_go 1 (pc' := 467) (L' := [.ref a0, .ref a1, .ref a2, .ref a3, .int x4, .int x_4, .int x_8, am_un, am_un]) (st' := [.int x_4, .int x_10]) rfl) ?_
  refine Eq.trans (rn_iceq (L' := [.ref a0, .ref a1, .ref a2, .ref a3, .int x4, .int x_4, .int x_8, am_un, am_un]) rfl rfl) ?_
  refine if_c ?_ ?_
  · refine Eq.trans (rn_go 1 (pc' := 474) (L' := [.ref a0, .ref a1, .ref a2, .ref a3, .int x4, .int x_4, .int x_8, am_un, am_un]) (st' := [.int x_4]) rfl) ?_
    refine Eq.trans (rn_ifne (L' := [.ref a0, .ref a1, .ref a2, .ref a3, .int x4, .int x_4, .int x_8, am_un, am_un]) rfl rfl) ?_
    refine if_c ?_ ?_
    · refine Eq.trans (rn_go 2 (pc' := 479) (L' := [.ref a0, .ref a1, .ref a2, .ref a3, .int x4, .int x_4, .int x_8, am_un, am_un]) (st' := [.int (0 : Int32), .ref a3]) rfl) ?_
      refine Eq.trans (rn_aJ (L' := [.ref a0, .ref a1, .ref a2, .ref a3, .int x4, .int x_4, .int x_8, am_un, am_un]) rfl rfl) ?_
      refine eJ_c (fun x_11 => ?_)
      refine Eq.trans (rn_go 3 (pc' := 484) (L' := [.ref a0, .ref a1, .ref a2, .ref a3, .int x4, .int x_4, .int x_8, am_un, am_un]) (st' := [.int (lg_cmp x_11 x_8.toInt64)]) rfl) ?_
      refine Eq.trans (rn_ifeq (L' := [.ref a0, .ref a1, .ref a2, .ref a3, .int x4, .int x_4, .int x_8, am_un, am_un]) rfl rfl) ?_
      refine if_c ?_ ?_
      · rfl
      · refine Eq.trans (rn_go 1 (pc' := 488) (L' := [.ref a0, .ref a1, .ref a2, .ref a3, .int x4, .int x_4, .int x_8, am_un, am_un]) (st' := [.int (0 : Int32)]) rfl) ?_
        exact rn_retI rfl rfl rfl
    · rfl
  · refine Eq.trans (rn_go 1 (pc' := 471) (L' := [.ref a0, .ref a1, .ref a2, .ref a3, .int x4, .int x_4, .int x_8, am_un, am_un]) (st' := [.int (0 : Int32)]) rfl) ?_
    exact rn_retI rfl rfl rfl
set_option maxRecDepth 20000 in
theorem dc_L_law_489 {B : Nat} (a0 : Nat) (a1 : Nat) (a2 : Nat) (a3 : Nat) (x4 : Int32) (w5 : Value) (w6 : Value) (s : am_S) : rn_ tb_ct tb_mt B mm_L_law 489 [.ref a0, .ref a1, .ref a2, .ref a3, .int x4, w5, w6, am_un, am_un] [] s = rn_ tb_ct tb_mt B mm_L_law 3221 [.ref a0, .ref a1, .ref a2, .ref a3, .int x4, am_un, am_un, am_un, am_un] [] s := by
  exact rn_go 1 (pc' := 3221) (L' := [.ref a0, .ref a1, .ref a2, .ref a3, .int x4, am_un, am_un, am_un, am_un]) (st' := []) rfl
set_option maxRecDepth 20000 in
theorem dc_L_law_492 {B : Nat} (a0 : Nat) (a1 : Nat) (a2 : Nat) (a3 : Nat) (x4 : Int32) (s : am_S) : rn_ tb_ct tb_mt B mm_L_law 492 [.ref a0, .ref a1, .ref a2, .ref a3, .int x4, am_un, am_un, am_un, am_un] [] s = eI (aI s a0 (x4 + (1 : Int32))) (fun x_1 => eI (aI s a0 (x4 + (2 : Int32))) (fun x_2 => cI (cl_ tb_ct tb_mt B K_L_getAt [.ref a1, .int x_1, .int x_2, .ref a3] s) (fun x_4 s_3 => eI (aI s_3 a0 (x4 + (1 : Int32))) (fun x_5 => eI (aI s_3 a0 (x4 + (2 : Int32))) (fun x_6 => eC (am_cls s_3 a2) 11 (cI (cl_ tb_ct tb_mt B K_X13_getAt [.ref a2, .int x_5, .int x_6] s_3) (fun x_8 s_7 => eC (am_cls s_7 a2) 11 (cI (cl_ tb_ct tb_mt B K_X13_thrown [.ref a2] s_7) (fun x_10 s_9 => if x_10 = x_4 then if x_4 = 0 then eJ (aJ s_9 a3 (0 : Int32)) (fun x_11 => if (lg_cmp x_11 x_8.toInt64) = 0 then rn_ tb_ct tb_mt B mm_L_law 557 [.ref a0, .ref a1, .ref a2, .ref a3, .int x4, .int x_4, .int x_8, am_un, am_un] [] s_9 else some (.inl (some (.int (0 : Int32))), s_9)) else rn_ tb_ct tb_mt B mm_L_law 557 [.ref a0, .ref a1, .ref a2, .ref a3, .int x4, .int x_4, .int x_8, am_un, am_un] [] s_9 else some (.inl (some (.int (0 : Int32))), s_9)) xo)) xo)))) xo)) := by
  refine Eq.trans (rn_go 5 (pc' := 498) (L' := [.ref a0, .ref a1, .ref a2, .ref a3, .int x4, am_un, am_un, am_un, am_un]) (st' := [.int (x4 + (1 : Int32)), .ref a0, .ref a1]) rfl) ?_
  refine Eq.trans (rn_aI (L' := [.ref a0, .ref a1, .ref a2, .ref a3, .int x4, am_un, am_un, am_un, am_un]) rfl rfl) ?_
  refine eI_c (fun x_1 => ?_)
  refine Eq.trans (rn_go 4 (pc' := 504) (L' := [.ref a0, .ref a1, .ref a2, .ref a3, .int x4, am_un, am_un, am_un, am_un]) (st' := [.int (x4 + (2 : Int32)), .ref a0, .int x_1, .ref a1]) rfl) ?_
  refine Eq.trans (rn_aI (L' := [.ref a0, .ref a1, .ref a2, .ref a3, .int x4, am_un, am_un, am_un, am_un]) rfl rfl) ?_
  refine eI_c (fun x_2 => ?_)
  refine Eq.trans (rn_go 1 (pc' := 506) (L' := [.ref a0, .ref a1, .ref a2, .ref a3, .int x4, am_un, am_un, am_un, am_un]) (st' := [.ref a3, .int x_2, .int x_1, .ref a1]) rfl) ?_
  refine Eq.trans (rn_sta (L' := [.ref a0, .ref a1, .ref a2, .ref a3, .int x4, am_un, am_un, am_un, am_un]) (as := [.ref a1, .int x_1, .int x_2, .ref a3]) (rest := []) rfl rfl rfl rfl rfl (Nat.le_of_ble_eq_true rfl) (by decide) rfl) ?_
  refine Eq.trans (cW_I rfl rfl rfl) ?_
  refine cI_c (fun x_4 s_3 => ?_) (xh_nil rfl)
  refine Eq.trans (rn_go 6 (pc' := 517) (L' := [.ref a0, .ref a1, .ref a2, .ref a3, .int x4, .int x_4, am_un, am_un, am_un]) (st' := [.int (x4 + (1 : Int32)), .ref a0, .ref a2]) rfl) ?_
  refine Eq.trans (rn_aI (L' := [.ref a0, .ref a1, .ref a2, .ref a3, .int x4, .int x_4, am_un, am_un, am_un]) rfl rfl) ?_
  refine eI_c (fun x_5 => ?_)
  refine Eq.trans (rn_go 4 (pc' := 523) (L' := [.ref a0, .ref a1, .ref a2, .ref a3, .int x4, .int x_4, am_un, am_un, am_un]) (st' := [.int (x4 + (2 : Int32)), .ref a0, .int x_5, .ref a2]) rfl) ?_
  refine Eq.trans (rn_aI (L' := [.ref a0, .ref a1, .ref a2, .ref a3, .int x4, .int x_4, am_un, am_un, am_un]) rfl rfl) ?_
  refine eI_c (fun x_6 => ?_)
  refine Eq.trans (rn_vir (L' := [.ref a0, .ref a1, .ref a2, .ref a3, .int x4, .int x_4, am_un, am_un, am_un]) (as := [.int x_5, .int x_6]) (rest := []) rfl rfl rfl rfl rfl (Nat.le_of_ble_eq_true rfl) (by decide) (by decide)) ?_
  refine eC_c ?_
  refine Eq.trans (cW_I rfl rfl rfl) ?_
  refine cI_c (fun x_8 s_7 => ?_) (xh_nil rfl)
  refine Eq.trans (rn_go 2 (pc' := 530) (L' := [.ref a0, .ref a1, .ref a2, .ref a3, .int x4, .int x_4, .int x_8, am_un, am_un]) (st' := [.ref a2]) rfl) ?_
  refine Eq.trans (rn_vir (L' := [.ref a0, .ref a1, .ref a2, .ref a3, .int x4, .int x_4, .int x_8, am_un, am_un]) (as := []) (rest := []) rfl rfl rfl rfl rfl (Nat.le_of_ble_eq_true rfl) (by decide) (by decide)) ?_
  refine eC_c ?_
  refine Eq.trans (cW_I rfl rfl rfl) ?_
  refine cI_c (fun x_10 s_9 => ?_) (xh_nil rfl)
  refine Eq.trans (rn_go 1 (pc' := 535) (L' := [.ref a0, .ref a1, .ref a2, .ref a3, .int x4, .int x_4, .int x_8, am_un, am_un]) (st' := [.int x_4, .int x_10]) rfl) ?_
  refine Eq.trans (rn_iceq (L' := [.ref a0, .ref a1, .ref a2, .ref a3, .int x4, .int x_4, .int x_8, am_un, am_un]) rfl rfl) ?_
  refine if_c ?_ ?_
  · refine Eq.trans (rn_go 1 (pc' := 542) (L' := [.ref a0, .ref a1, .ref a2, .ref a3, .int x4, .int x_4, .int x_8, am_un, am_un]) (st' := [.int x_4]) rfl) ?_
    refine Eq.trans (rn_ifne (L' := [.ref a0, .ref a1, .ref a2, .ref a3, .int x4, .int x_4, .int x_8, am_un, am_un]) rfl rfl) ?_
    refine if_c ?_ ?_
    · refine Eq.trans (rn_go 2 (pc' := 547) (L' := [.ref a0, .ref a1, .ref a2, .ref a3, .int x4, .int x_4, .int x_8, am_un, am_un]) (st' := [.int (0 : Int32), .ref a3]) rfl) ?_
      refine Eq.trans (rn_aJ (L' := [.ref a0, .ref a1, .ref a2, .ref a3, .int x4, .int x_4, .int x_8, am_un, am_un]) rfl rfl) ?_
      refine eJ_c (fun x_11 => ?_)
      refine Eq.trans (rn_go 3 (pc' := 552) (L' := [.ref a0, .ref a1, .ref a2, .ref a3, .int x4, .int x_4, .int x_8, am_un, am_un]) (st' := [.int (lg_cmp x_11 x_8.toInt64)]) rfl) ?_
      refine Eq.trans (rn_ifeq (L' := [.ref a0, .ref a1, .ref a2, .ref a3, .int x4, .int x_4, .int x_8, am_un, am_un]) rfl rfl) ?_
      refine if_c ?_ ?_
      · rfl
      · refine Eq.trans (rn_go 1 (pc' := 556) (L' := [.ref a0, .ref a1, .ref a2, .ref a3, .int x4, .int x_4, .int x_8, am_un, am_un]) (st' := [.int (0 : Int32)]) rfl) ?_
        exact rn_retI rfl rfl rfl
    · rfl
  · refine Eq.trans (rn_go 1 (pc' := 539) (L' := [.ref a0, .ref a1, .ref a2, .ref a3, .int x4, .int x_4, .int x_8, am_un, am_un]) (st' := [.int (0 : Int32)]) rfl) ?_
    exact rn_retI rfl rfl rfl
set_option maxRecDepth 20000 in
theorem dc_L_law_557 {B : Nat} (a0 : Nat) (a1 : Nat) (a2 : Nat) (a3 : Nat) (x4 : Int32) (w5 : Value) (w6 : Value) (s : am_S) : rn_ tb_ct tb_mt B mm_L_law 557 [.ref a0, .ref a1, .ref a2, .ref a3, .int x4, w5, w6, am_un, am_un] [] s = rn_ tb_ct tb_mt B mm_L_law 3221 [.ref a0, .ref a1, .ref a2, .ref a3, .int x4, am_un, am_un, am_un, am_un] [] s := by
  exact rn_go 1 (pc' := 3221) (L' := [.ref a0, .ref a1, .ref a2, .ref a3, .int x4, am_un, am_un, am_un, am_un]) (st' := []) rfl
set_option maxRecDepth 20000 in
theorem dc_L_law_560 {B : Nat} (a0 : Nat) (a1 : Nat) (a2 : Nat) (a3 : Nat) (x4 : Int32) (s : am_S) : rn_ tb_ct tb_mt B mm_L_law 560 [.ref a0, .ref a1, .ref a2, .ref a3, .int x4, am_un, am_un, am_un, am_un] [] s = eI (aI s a0 (x4 + (1 : Int32))) (fun x_1 => eI (aI s a0 (x4 + (2 : Int32))) (fun x_2 => eI (aI s a0 (x4 + (3 : Int32))) (fun x_3 => cI (cl_ tb_ct tb_mt B K_L_keysAt [.ref a1, .int x_1, .int x_2, .int x_3, .ref a3] s) (fun x_5 s_4 => eI (aI s_4 a0 (x4 + (1 : Int32))) (fun x_6 => eI (aI s_4 a0 (x4 + (2 : Int32))) (fun x_7 => eI (aI s_4 a0 (x4 + (3 : Int32))) (fun x_8 => eC (am_cls s_4 a2) 11 (cI (cl_ tb_ct tb_mt B K_X13_keysAt [.ref a2, .int x_6, .int x_7, .int x_8] s_4) (fun x_10 s_9 => eC (am_cls s_9 a2) 11 (cI (cl_ tb_ct tb_mt B K_X13_thrown [.ref a2] s_9) (fun x_12 s_11 => if x_12 = x_5 then if x_5 = 0 then eJ (aJ s_11 a3 (0 : Int32)) (fun x_13 => if (lg_cmp x_13 x_10.toInt64) = 0 then rn_ tb_ct tb_mt B mm_L_law 637 [.ref a0, .ref a1, .ref a2, .ref a3, .int x4, .int x_5, .int x_10, am_un, am_un] [] s_11 else some (.inl (some (.int (0 : Int32))), s_11)) else rn_ tb_ct tb_mt B mm_L_law 637 [.ref a0, .ref a1, .ref a2, .ref a3, .int x4, .int x_5, .int x_10, am_un, am_un] [] s_11 else some (.inl (some (.int (0 : Int32))), s_11)) xo)) xo))))) xo))) := by
  refine Eq.trans (rn_go 5 (pc' := 566) (L' := [.ref a0, .ref a1, .ref a2, .ref a3, .int x4, am_un, am_un, am_un, am_un]) (st' := [.int (x4 + (1 : Int32)), .ref a0, .ref a1]) rfl) ?_
  refine Eq.trans (rn_aI (L' := [.ref a0, .ref a1, .ref a2, .ref a3, .int x4, am_un, am_un, am_un, am_un]) rfl rfl) ?_
  refine eI_c (fun x_1 => ?_)
  refine Eq.trans (rn_go 4 (pc' := 572) (L' := [.ref a0, .ref a1, .ref a2, .ref a3, .int x4, am_un, am_un, am_un, am_un]) (st' := [.int (x4 + (2 : Int32)), .ref a0, .int x_1, .ref a1]) rfl) ?_
  refine Eq.trans (rn_aI (L' := [.ref a0, .ref a1, .ref a2, .ref a3, .int x4, am_un, am_un, am_un, am_un]) rfl rfl) ?_
  refine eI_c (fun x_2 => ?_)
  refine Eq.trans (rn_go 4 (pc' := 578) (L' := [.ref a0, .ref a1, .ref a2, .ref a3, .int x4, am_un, am_un, am_un, am_un]) (st' := [.int (x4 + (3 : Int32)), .ref a0, .int x_2, .int x_1, .ref a1]) rfl) ?_
  refine Eq.trans (rn_aI (L' := [.ref a0, .ref a1, .ref a2, .ref a3, .int x4, am_un, am_un, am_un, am_un]) rfl rfl) ?_
  refine eI_c (fun x_3 => ?_)
  refine Eq.trans (rn_go 1 (pc' := 580) (L' := [.ref a0, .ref a1, .ref a2, .ref a3, .int x4, am_un, am_un, am_un, am_un]) (st' := [.ref a3, .int x_3, .int x_2, .int x_1, .ref a1]) rfl) ?_
  refine Eq.trans (rn_sta (L' := [.ref a0, .ref a1, .ref a2, .ref a3, .int x4, am_un, am_un, am_un, am_un]) (as := [.ref a1, .int x_1, .int x_2, .int x_3, .ref a3]) (rest := []) rfl rfl rfl rfl rfl (Nat.le_of_ble_eq_true rfl) (by decide) rfl) ?_
  refine Eq.trans (cW_I rfl rfl rfl) ?_
  refine cI_c (fun x_5 s_4 => ?_) (xh_nil rfl)
  refine Eq.trans (rn_go 6 (pc' := 591) (L' := [.ref a0, .ref a1, .ref a2, .ref a3, .int x4, .int x_5, am_un, am_un, am_un]) (st' := [.int (x4 + (1 : Int32)), .ref a0, .ref a2]) rfl) ?_
  refine Eq.trans (rn_aI (L' := [.ref a0, .ref a1, .ref a2, .ref a3, .int x4, .int x_5, am_un, am_un, am_un]) rfl rfl) ?_
  refine eI_c (fun x_6 => ?_)
  refine Eq.trans (rn_go 4 (pc' := 597) (L' := [.ref a0, .ref a1, .ref a2, .ref a3, .int x4, .int x_5, am_un, am_un, am_un]) (st' := [.int (x4 + (2 : Int32)), .ref a0, .int x_6, .ref a2]) rfl) ?_
  refine Eq.trans (rn_aI (L' := [.ref a0, .ref a1, .ref a2, .ref a3, .int x4, .int x_5, am_un, am_un, am_un]) rfl rfl) ?_
  refine eI_c (fun x_7 => ?_)
  refine Eq.trans (rn_go 4 (pc' := 603) (L' := [.ref a0, .ref a1, .ref a2, .ref a3, .int x4, .int x_5, am_un, am_un, am_un]) (st' := [.int (x4 + (3 : Int32)), .ref a0, .int x_7, .int x_6, .ref a2]) rfl) ?_
  refine Eq.trans (rn_aI (L' := [.ref a0, .ref a1, .ref a2, .ref a3, .int x4, .int x_5, am_un, am_un, am_un]) rfl rfl) ?_
  refine eI_c (fun x_8 => ?_)
  refine Eq.trans (rn_vir (L' := [.ref a0, .ref a1, .ref a2, .ref a3, .int x4, .int x_5, am_un, am_un, am_un]) (as := [.int x_6, .int x_7, .int x_8]) (rest := []) rfl rfl rfl rfl rfl (Nat.le_of_ble_eq_true rfl) (by decide) (by decide)) ?_
  refine eC_c ?_
  refine Eq.trans (cW_I rfl rfl rfl) ?_
  refine cI_c (fun x_10 s_9 => ?_) (xh_nil rfl)
  refine Eq.trans (rn_go 2 (pc' := 610) (L' := [.ref a0, .ref a1, .ref a2, .ref a3, .int x4, .int x_5, .int x_10, am_un, am_un]) (st' := [.ref a2]) rfl) ?_
  refine Eq.trans (rn_vir (L' := [.ref a0, .ref a1, .ref a2, .ref a3, .int x4, .int x_5, .int x_10, am_un, am_un]) (as := []) (rest := []) rfl rfl rfl rfl rfl (Nat.le_of_ble_eq_true rfl) (by decide) (by decide)) ?_
  refine eC_c ?_
  refine Eq.trans (cW_I rfl rfl rfl) ?_
  refine cI_c (fun x_12 s_11 => ?_) (xh_nil rfl)
  refine Eq.trans (rn_go 1 (pc' := 615) (L' := [.ref a0, .ref a1, .ref a2, .ref a3, .int x4, .int x_5, .int x_10, am_un, am_un]) (st' := [.int x_5, .int x_12]) rfl) ?_
  refine Eq.trans (rn_iceq (L' := [.ref a0, .ref a1, .ref a2, .ref a3, .int x4, .int x_5, .int x_10, am_un, am_un]) rfl rfl) ?_
  refine if_c ?_ ?_
  · refine Eq.trans (rn_go 1 (pc' := 622) (L' := [.ref a0, .ref a1, .ref a2, .ref a3, .int x4, .int x_5, .int x_10, am_un, am_un]) (st' := [.int x_5]) rfl) ?_
    refine Eq.trans (rn_ifne (L' := [.ref a0, .ref a1, .ref a2, .ref a3, .int x4, .int x_5, .int x_10, am_un, am_un]) rfl rfl) ?_
    refine if_c ?_ ?_
    · refine Eq.trans (rn_go 2 (pc' := 627) (L' := [.ref a0, .ref a1, .ref a2, .ref a3, .int x4, .int x_5, .int x_10, am_un, am_un]) (st' := [.int (0 : Int32), .ref a3]) rfl) ?_
      refine Eq.trans (rn_aJ (L' := [.ref a0, .ref a1, .ref a2, .ref a3, .int x4, .int x_5, .int x_10, am_un, am_un]) rfl rfl) ?_
      refine eJ_c (fun x_13 => ?_)
      refine Eq.trans (rn_go 3 (pc' := 632) (L' := [.ref a0, .ref a1, .ref a2, .ref a3, .int x4, .int x_5, .int x_10, am_un, am_un]) (st' := [.int (lg_cmp x_13 x_10.toInt64)]) rfl) ?_
      refine Eq.trans (rn_ifeq (L' := [.ref a0, .ref a1, .ref a2, .ref a3, .int x4, .int x_5, .int x_10, am_un, am_un]) rfl rfl) ?_
      refine if_c ?_ ?_
      · rfl
      · refine Eq.trans (rn_go 1 (pc' := 636) (L' := [.ref a0, .ref a1, .ref a2, .ref a3, .int x4, .int x_5, .int x_10, am_un, am_un]) (st' := [.int (0 : Int32)]) rfl) ?_
        exact rn_retI rfl rfl rfl
    · rfl
  · refine Eq.trans (rn_go 1 (pc' := 619) (L' := [.ref a0, .ref a1, .ref a2, .ref a3, .int x4, .int x_5, .int x_10, am_un, am_un]) (st' := [.int (0 : Int32)]) rfl) ?_
    exact rn_retI rfl rfl rfl
set_option maxRecDepth 20000 in
theorem dc_L_law_637 {B : Nat} (a0 : Nat) (a1 : Nat) (a2 : Nat) (a3 : Nat) (x4 : Int32) (w5 : Value) (w6 : Value) (s : am_S) : rn_ tb_ct tb_mt B mm_L_law 637 [.ref a0, .ref a1, .ref a2, .ref a3, .int x4, w5, w6, am_un, am_un] [] s = rn_ tb_ct tb_mt B mm_L_law 3221 [.ref a0, .ref a1, .ref a2, .ref a3, .int x4, am_un, am_un, am_un, am_un] [] s := by
  exact rn_go 1 (pc' := 3221) (L' := [.ref a0, .ref a1, .ref a2, .ref a3, .int x4, am_un, am_un, am_un, am_un]) (st' := []) rfl
set_option maxRecDepth 20000 in
theorem dc_L_law_640 {B : Nat} (a0 : Nat) (a1 : Nat) (a2 : Nat) (a3 : Nat) (x4 : Int32) (s : am_S) : rn_ tb_ct tb_mt B mm_L_law 640 [.ref a0, .ref a1, .ref a2, .ref a3, .int x4, am_un, am_un, am_un, am_un] [] s = eI (aI s a0 (x4 + (1 : Int32))) (fun x_1 => eI (aI s a0 (x4 + (2 : Int32))) (fun x_2 => eI (aI s a0 (x4 + (3 : Int32))) (fun x_3 => eI (aI s a0 (x4 + (4 : Int32))) (fun x_4 => cI (cl_ tb_ct tb_mt B K_L_keyAt [.ref a1, .int x_1, .int x_2, .int x_3, .int x_4, .ref a3] s) (fun x_6 s_5 => eI (aI s_5 a0 (x4 + (1 : Int32))) (fun x_7 => eI (aI s_5 a0 (x4 + (2 : Int32))) (fun x_8 => eI (aI s_5 a0 (x4 + (3 : Int32))) (fun x_9 => eI (aI s_5 a0 (x4 + (4 : Int32))) (fun x_10 => eC (am_cls s_5 a2) 11 (cI (cl_ tb_ct tb_mt B K_X13_keyAt_ [.ref a2, .int x_7, .int x_8, .int x_9, .int x_10] s_5) (fun x_12 s_11 => eC (am_cls s_11 a2) 11 (cI (cl_ tb_ct tb_mt B K_X13_thrown [.ref a2] s_11) (fun x_14 s_13 => if x_14 = x_6 then if x_6 = 0 then eJ (aJ s_13 a3 (0 : Int32)) (fun x_15 => if (lg_cmp x_15 x_12.toInt64) = 0 then rn_ tb_ct tb_mt B mm_L_law 729 [.ref a0, .ref a1, .ref a2, .ref a3, .int x4, .int x_6, .int x_12, am_un, am_un] [] s_13 else some (.inl (some (.int (0 : Int32))), s_13)) else rn_ tb_ct tb_mt B mm_L_law 729 [.ref a0, .ref a1, .ref a2, .ref a3, .int x4, .int x_6, .int x_12, am_un, am_un] [] s_13 else some (.inl (some (.int (0 : Int32))), s_13)) xo)) xo)))))) xo)))) := by
  refine Eq.trans (rn_go 5 (pc' := 646) (L' := [.ref a0, .ref a1, .ref a2, .ref a3, .int x4, am_un, am_un, am_un, am_un]) (st' := [.int (x4 + (1 : Int32)), .ref a0, .ref a1]) rfl) ?_
  refine Eq.trans (rn_aI (L' := [.ref a0, .ref a1, .ref a2, .ref a3, .int x4, am_un, am_un, am_un, am_un]) rfl rfl) ?_
  refine eI_c (fun x_1 => ?_)
  refine Eq.trans (rn_go 4 (pc' := 652) (L' := [.ref a0, .ref a1, .ref a2, .ref a3, .int x4, am_un, am_un, am_un, am_un]) (st' := [.int (x4 + (2 : Int32)), .ref a0, .int x_1, .ref a1]) rfl) ?_
  refine Eq.trans (rn_aI (L' := [.ref a0, .ref a1, .ref a2, .ref a3, .int x4, am_un, am_un, am_un, am_un]) rfl rfl) ?_
  refine eI_c (fun x_2 => ?_)
  refine Eq.trans (rn_go 4 (pc' := 658) (L' := [.ref a0, .ref a1, .ref a2, .ref a3, .int x4, am_un, am_un, am_un, am_un]) (st' := [.int (x4 + (3 : Int32)), .ref a0, .int x_2, .int x_1, .ref a1]) rfl) ?_
  refine Eq.trans (rn_aI (L' := [.ref a0, .ref a1, .ref a2, .ref a3, .int x4, am_un, am_un, am_un, am_un]) rfl rfl) ?_
  refine eI_c (fun x_3 => ?_)
  refine Eq.trans (rn_go 4 (pc' := 664) (L' := [.ref a0, .ref a1, .ref a2, .ref a3, .int x4, am_un, am_un, am_un, am_un]) (st' := [.int (x4 + (4 : Int32)), .ref a0, .int x_3, .int x_2, .int x_1, .ref a1]) rfl) ?_
  refine Eq.trans (rn_aI (L' := [.ref a0, .ref a1, .ref a2, .ref a3, .int x4, am_un, am_un, am_un, am_un]) rfl rfl) ?_
  refine eI_c (fun x_4 => ?_)
  refine Eq.trans (rn_go 1 (pc' := 666) (L' := [.ref a0, .ref a1, .ref a2, .ref a3, .int x4, am_un, am_un, am_un, am_un]) (st' := [.ref a3, .int x_4, .int x_3, .int x_2, .int x_1, .ref a1]) rfl) ?_
  refine Eq.trans (rn_sta (L' := [.ref a0, .ref a1, .ref a2, .ref a3, .int x4, am_un, am_un, am_un, am_un]) (as := [.ref a1, .int x_1, .int x_2, .int x_3, .int x_4, .ref a3]) (rest := []) rfl rfl rfl rfl rfl (Nat.le_of_ble_eq_true rfl) (by decide) rfl) ?_
  refine Eq.trans (cW_I rfl rfl rfl) ?_
  refine cI_c (fun x_6 s_5 => ?_) (xh_nil rfl)
  refine Eq.trans (rn_go 6 (pc' := 677) (L' := [.ref a0, .ref a1, .ref a2, .ref a3, .int x4, .int x_6, am_un, am_un, am_un]) (st' := [.int (x4 + (1 : Int32)), .ref a0, .ref a2]) rfl) ?_
  refine Eq.trans (rn_aI (L' := [.ref a0, .ref a1, .ref a2, .ref a3, .int x4, .int x_6, am_un, am_un, am_un]) rfl rfl) ?_
  refine eI_c (fun x_7 => ?_)
  refine Eq.trans (rn_go 4 (pc' := 683) (L' := [.ref a0, .ref a1, .ref a2, .ref a3, .int x4, .int x_6, am_un, am_un, am_un]) (st' := [.int (x4 + (2 : Int32)), .ref a0, .int x_7, .ref a2]) rfl) ?_
  refine Eq.trans (rn_aI (L' := [.ref a0, .ref a1, .ref a2, .ref a3, .int x4, .int x_6, am_un, am_un, am_un]) rfl rfl) ?_
  refine eI_c (fun x_8 => ?_)
  refine Eq.trans (rn_go 4 (pc' := 689) (L' := [.ref a0, .ref a1, .ref a2, .ref a3, .int x4, .int x_6, am_un, am_un, am_un]) (st' := [.int (x4 + (3 : Int32)), .ref a0, .int x_8, .int x_7, .ref a2]) rfl) ?_
  refine Eq.trans (rn_aI (L' := [.ref a0, .ref a1, .ref a2, .ref a3, .int x4, .int x_6, am_un, am_un, am_un]) rfl rfl) ?_
  refine eI_c (fun x_9 => ?_)
  refine Eq.trans (rn_go 4 (pc' := 695) (L' := [.ref a0, .ref a1, .ref a2, .ref a3, .int x4, .int x_6, am_un, am_un, am_un]) (st' := [.int (x4 + (4 : Int32)), .ref a0, .int x_9, .int x_8, .int x_7, .ref a2]) rfl) ?_
  refine Eq.trans (rn_aI (L' := [.ref a0, .ref a1, .ref a2, .ref a3, .int x4, .int x_6, am_un, am_un, am_un]) rfl rfl) ?_
  refine eI_c (fun x_10 => ?_)
  refine Eq.trans (rn_vir (L' := [.ref a0, .ref a1, .ref a2, .ref a3, .int x4, .int x_6, am_un, am_un, am_un]) (as := [.int x_7, .int x_8, .int x_9, .int x_10]) (rest := []) rfl rfl rfl rfl rfl (Nat.le_of_ble_eq_true rfl) (by decide) (by decide)) ?_
  refine eC_c ?_
  refine Eq.trans (cW_I rfl rfl rfl) ?_
  refine cI_c (fun x_12 s_11 => ?_) (xh_nil rfl)
  refine Eq.trans (rn_go 2 (pc' := 702) (L' := [.ref a0, .ref a1, .ref a2, .ref a3, .int x4, .int x_6, .int x_12, am_un, am_un]) (st' := [.ref a2]) rfl) ?_
  refine Eq.trans (rn_vir (L' := [.ref a0, .ref a1, .ref a2, .ref a3, .int x4, .int x_6, .int x_12, am_un, am_un]) (as := []) (rest := []) rfl rfl rfl rfl rfl (Nat.le_of_ble_eq_true rfl) (by decide) (by decide)) ?_
  refine eC_c ?_
  refine Eq.trans (cW_I rfl rfl rfl) ?_
  refine cI_c (fun x_14 s_13 => ?_) (xh_nil rfl)
  refine Eq.trans (rn_go 1 (pc' := 707) (L' := [.ref a0, .ref a1, .ref a2, .ref a3, .int x4, .int x_6, .int x_12, am_un, am_un]) (st' := [.int x_6, .int x_14]) rfl) ?_
  refine Eq.trans (rn_iceq (L' := [.ref a0, .ref a1, .ref a2, .ref a3, .int x4, .int x_6, .int x_12, am_un, am_un]) rfl rfl) ?_
  refine if_c ?_ ?_
  · refine Eq.trans (rn_go 1 (pc' := 714) (L' := [.ref a0, .ref a1, .ref a2, .ref a3, .int x4, .int x_6, .int x_12, am_un, am_un]) (st' := [.int x_6]) rfl) ?_
    refine Eq.trans (rn_ifne (L' := [.ref a0, .ref a1, .ref a2, .ref a3, .int x4, .int x_6, .int x_12, am_un, am_un]) rfl rfl) ?_
    refine if_c ?_ ?_
    · refine Eq.trans (rn_go 2 (pc' := 719) (L' := [.ref a0, .ref a1, .ref a2, .ref a3, .int x4, .int x_6, .int x_12, am_un, am_un]) (st' := [.int (0 : Int32), .ref a3]) rfl) ?_
      refine Eq.trans (rn_aJ (L' := [.ref a0, .ref a1, .ref a2, .ref a3, .int x4, .int x_6, .int x_12, am_un, am_un]) rfl rfl) ?_
      refine eJ_c (fun x_15 => ?_)
      refine Eq.trans (rn_go 3 (pc' := 724) (L' := [.ref a0, .ref a1, .ref a2, .ref a3, .int x4, .int x_6, .int x_12, am_un, am_un]) (st' := [.int (lg_cmp x_15 x_12.toInt64)]) rfl) ?_
      refine Eq.trans (rn_ifeq (L' := [.ref a0, .ref a1, .ref a2, .ref a3, .int x4, .int x_6, .int x_12, am_un, am_un]) rfl rfl) ?_
      refine if_c ?_ ?_
      · rfl
      · refine Eq.trans (rn_go 1 (pc' := 728) (L' := [.ref a0, .ref a1, .ref a2, .ref a3, .int x4, .int x_6, .int x_12, am_un, am_un]) (st' := [.int (0 : Int32)]) rfl) ?_
        exact rn_retI rfl rfl rfl
    · rfl
  · refine Eq.trans (rn_go 1 (pc' := 711) (L' := [.ref a0, .ref a1, .ref a2, .ref a3, .int x4, .int x_6, .int x_12, am_un, am_un]) (st' := [.int (0 : Int32)]) rfl) ?_
    exact rn_retI rfl rfl rfl
set_option maxRecDepth 20000 in
theorem dc_L_law_729 {B : Nat} (a0 : Nat) (a1 : Nat) (a2 : Nat) (a3 : Nat) (x4 : Int32) (w5 : Value) (w6 : Value) (s : am_S) : rn_ tb_ct tb_mt B mm_L_law 729 [.ref a0, .ref a1, .ref a2, .ref a3, .int x4, w5, w6, am_un, am_un] [] s = rn_ tb_ct tb_mt B mm_L_law 3221 [.ref a0, .ref a1, .ref a2, .ref a3, .int x4, am_un, am_un, am_un, am_un] [] s := by
  exact rn_go 1 (pc' := 3221) (L' := [.ref a0, .ref a1, .ref a2, .ref a3, .int x4, am_un, am_un, am_un, am_un]) (st' := []) rfl
set_option maxRecDepth 20000 in
theorem dc_L_law_732 {B : Nat} (a0 : Nat) (a1 : Nat) (a2 : Nat) (a3 : Nat) (x4 : Int32) (s : am_S) : rn_ tb_ct tb_mt B mm_L_law 732 [.ref a0, .ref a1, .ref a2, .ref a3, .int x4, am_un, am_un, am_un, am_un] [] s = eI (aI s a0 (x4 + (1 : Int32))) (fun x_1 => eI (aI s a0 (x4 + (2 : Int32))) (fun x_2 => eI (aI s a0 (x4 + (3 : Int32))) (fun x_3 => cI (cl_ tb_ct tb_mt B K_L_sumAt [.ref a1, .int x_1, .int x_2, .int x_3, .ref a3] s) (fun x_5 s_4 => eI (aI s_4 a0 (x4 + (1 : Int32))) (fun x_6 => eI (aI s_4 a0 (x4 + (2 : Int32))) (fun x_7 => eI (aI s_4 a0 (x4 + (3 : Int32))) (fun x_8 => eC (am_cls s_4 a2) 11 (cJ (cl_ tb_ct tb_mt B K_X13_sumAt [.ref a2, .int x_6, .int x_7, .int x_8] s_4) (fun x_10 s_9 => eC (am_cls s_9 a2) 11 (cI (cl_ tb_ct tb_mt B K_X13_thrown [.ref a2] s_9) (fun x_12 s_11 => if x_12 = x_5 then if x_5 = 0 then eJ (aJ s_11 a3 (0 : Int32)) (fun x_13 => if (lg_cmp x_13 x_10) = 0 then rn_ tb_ct tb_mt B mm_L_law 808 [.ref a0, .ref a1, .ref a2, .ref a3, .int x4, .int x_5, .long x_10, am_un, am_un] [] s_11 else some (.inl (some (.int (0 : Int32))), s_11)) else rn_ tb_ct tb_mt B mm_L_law 808 [.ref a0, .ref a1, .ref a2, .ref a3, .int x4, .int x_5, .long x_10, am_un, am_un] [] s_11 else some (.inl (some (.int (0 : Int32))), s_11)) xo)) xo))))) xo))) := by
  refine Eq.trans (rn_go 5 (pc' := 738) (L' := [.ref a0, .ref a1, .ref a2, .ref a3, .int x4, am_un, am_un, am_un, am_un]) (st' := [.int (x4 + (1 : Int32)), .ref a0, .ref a1]) rfl) ?_
  refine Eq.trans (rn_aI (L' := [.ref a0, .ref a1, .ref a2, .ref a3, .int x4, am_un, am_un, am_un, am_un]) rfl rfl) ?_
  refine eI_c (fun x_1 => ?_)
  refine Eq.trans (rn_go 4 (pc' := 744) (L' := [.ref a0, .ref a1, .ref a2, .ref a3, .int x4, am_un, am_un, am_un, am_un]) (st' := [.int (x4 + (2 : Int32)), .ref a0, .int x_1, .ref a1]) rfl) ?_
  refine Eq.trans (rn_aI (L' := [.ref a0, .ref a1, .ref a2, .ref a3, .int x4, am_un, am_un, am_un, am_un]) rfl rfl) ?_
  refine eI_c (fun x_2 => ?_)
  refine Eq.trans (rn_go 4 (pc' := 750) (L' := [.ref a0, .ref a1, .ref a2, .ref a3, .int x4, am_un, am_un, am_un, am_un]) (st' := [.int (x4 + (3 : Int32)), .ref a0, .int x_2, .int x_1, .ref a1]) rfl) ?_
  refine Eq.trans (rn_aI (L' := [.ref a0, .ref a1, .ref a2, .ref a3, .int x4, am_un, am_un, am_un, am_un]) rfl rfl) ?_
  refine eI_c (fun x_3 => ?_)
  refine Eq.trans (rn_go 1 (pc' := 752) (L' := [.ref a0, .ref a1, .ref a2, .ref a3, .int x4, am_un, am_un, am_un, am_un]) (st' := [.ref a3, .int x_3, .int x_2, .int x_1, .ref a1]) rfl) ?_
  refine Eq.trans (rn_sta (L' := [.ref a0, .ref a1, .ref a2, .ref a3, .int x4, am_un, am_un, am_un, am_un]) (as := [.ref a1, .int x_1, .int x_2, .int x_3, .ref a3]) (rest := []) rfl rfl rfl rfl rfl (Nat.le_of_ble_eq_true rfl) (by decide) rfl) ?_
  refine Eq.trans (cW_I rfl rfl rfl) ?_
  refine cI_c (fun x_5 s_4 => ?_) (xh_nil rfl)
  refine Eq.trans (rn_go 6 (pc' := 763) (L' := [.ref a0, .ref a1, .ref a2, .ref a3, .int x4, .int x_5, am_un, am_un, am_un]) (st' := [.int (x4 + (1 : Int32)), .ref a0, .ref a2]) rfl) ?_
  refine Eq.trans (rn_aI (L' := [.ref a0, .ref a1, .ref a2, .ref a3, .int x4, .int x_5, am_un, am_un, am_un]) rfl rfl) ?_
  refine eI_c (fun x_6 => ?_)
  refine Eq.trans (rn_go 4 (pc' := 769) (L' := [.ref a0, .ref a1, .ref a2, .ref a3, .int x4, .int x_5, am_un, am_un, am_un]) (st' := [.int (x4 + (2 : Int32)), .ref a0, .int x_6, .ref a2]) rfl) ?_
  refine Eq.trans (rn_aI (L' := [.ref a0, .ref a1, .ref a2, .ref a3, .int x4, .int x_5, am_un, am_un, am_un]) rfl rfl) ?_
  refine eI_c (fun x_7 => ?_)
  refine Eq.trans (rn_go 4 (pc' := 775) (L' := [.ref a0, .ref a1, .ref a2, .ref a3, .int x4, .int x_5, am_un, am_un, am_un]) (st' := [.int (x4 + (3 : Int32)), .ref a0, .int x_7, .int x_6, .ref a2]) rfl) ?_
  refine Eq.trans (rn_aI (L' := [.ref a0, .ref a1, .ref a2, .ref a3, .int x4, .int x_5, am_un, am_un, am_un]) rfl rfl) ?_
  refine eI_c (fun x_8 => ?_)
  refine Eq.trans (rn_vir (L' := [.ref a0, .ref a1, .ref a2, .ref a3, .int x4, .int x_5, am_un, am_un, am_un]) (as := [.int x_6, .int x_7, .int x_8]) (rest := []) rfl rfl rfl rfl rfl (Nat.le_of_ble_eq_true rfl) (by decide) (by decide)) ?_
  refine eC_c ?_
  refine Eq.trans (cW_J rfl rfl) ?_
  refine cJ_c (fun x_10 s_9 => ?_) (xh_nil rfl)
  refine Eq.trans (rn_go 2 (pc' := 782) (L' := [.ref a0, .ref a1, .ref a2, .ref a3, .int x4, .int x_5, .long x_10, am_un, am_un]) (st' := [.ref a2]) rfl) ?_
  refine Eq.trans (rn_vir (L' := [.ref a0, .ref a1, .ref a2, .ref a3, .int x4, .int x_5, .long x_10, am_un, am_un]) (as := []) (rest := []) rfl rfl rfl rfl rfl (Nat.le_of_ble_eq_true rfl) (by decide) (by decide)) ?_
  refine eC_c ?_
  refine Eq.trans (cW_I rfl rfl rfl) ?_
  refine cI_c (fun x_12 s_11 => ?_) (xh_nil rfl)
  refine Eq.trans (rn_go 1 (pc' := 787) (L' := [.ref a0, .ref a1, .ref a2, .ref a3, .int x4, .int x_5, .long x_10, am_un, am_un]) (st' := [.int x_5, .int x_12]) rfl) ?_
  refine Eq.trans (rn_iceq (L' := [.ref a0, .ref a1, .ref a2, .ref a3, .int x4, .int x_5, .long x_10, am_un, am_un]) rfl rfl) ?_
  refine if_c ?_ ?_
  · refine Eq.trans (rn_go 1 (pc' := 794) (L' := [.ref a0, .ref a1, .ref a2, .ref a3, .int x4, .int x_5, .long x_10, am_un, am_un]) (st' := [.int x_5]) rfl) ?_
    refine Eq.trans (rn_ifne (L' := [.ref a0, .ref a1, .ref a2, .ref a3, .int x4, .int x_5, .long x_10, am_un, am_un]) rfl rfl) ?_
    refine if_c ?_ ?_
    · refine Eq.trans (rn_go 2 (pc' := 799) (L' := [.ref a0, .ref a1, .ref a2, .ref a3, .int x4, .int x_5, .long x_10, am_un, am_un]) (st' := [.int (0 : Int32), .ref a3]) rfl) ?_
      refine Eq.trans (rn_aJ (L' := [.ref a0, .ref a1, .ref a2, .ref a3, .int x4, .int x_5, .long x_10, am_un, am_un]) rfl rfl) ?_
      refine eJ_c (fun x_13 => ?_)
      refine Eq.trans (rn_go 2 (pc' := 803) (L' := [.ref a0, .ref a1, .ref a2, .ref a3, .int x4, .int x_5, .long x_10, am_un, am_un]) (st' := [.int (lg_cmp x_13 x_10)]) rfl) ?_
      refine Eq.trans (rn_ifeq (L' := [.ref a0, .ref a1, .ref a2, .ref a3, .int x4, .int x_5, .long x_10, am_un, am_un]) rfl rfl) ?_
      refine if_c ?_ ?_
      · rfl
      · refine Eq.trans (rn_go 1 (pc' := 807) (L' := [.ref a0, .ref a1, .ref a2, .ref a3, .int x4, .int x_5, .long x_10, am_un, am_un]) (st' := [.int (0 : Int32)]) rfl) ?_
        exact rn_retI rfl rfl rfl
    · rfl
  · refine Eq.trans (rn_go 1 (pc' := 791) (L' := [.ref a0, .ref a1, .ref a2, .ref a3, .int x4, .int x_5, .long x_10, am_un, am_un]) (st' := [.int (0 : Int32)]) rfl) ?_
    exact rn_retI rfl rfl rfl
set_option maxRecDepth 20000 in
theorem dc_L_law_808 {B : Nat} (a0 : Nat) (a1 : Nat) (a2 : Nat) (a3 : Nat) (x4 : Int32) (w5 : Value) (w6 : Value) (s : am_S) : rn_ tb_ct tb_mt B mm_L_law 808 [.ref a0, .ref a1, .ref a2, .ref a3, .int x4, w5, w6, am_un, am_un] [] s = rn_ tb_ct tb_mt B mm_L_law 3221 [.ref a0, .ref a1, .ref a2, .ref a3, .int x4, am_un, am_un, am_un, am_un] [] s := by
  exact rn_go 1 (pc' := 3221) (L' := [.ref a0, .ref a1, .ref a2, .ref a3, .int x4, am_un, am_un, am_un, am_un]) (st' := []) rfl
set_option maxRecDepth 20000 in
theorem dc_L_law_811 {B : Nat} (a0 : Nat) (a1 : Nat) (a2 : Nat) (a3 : Nat) (x4 : Int32) (s : am_S) : rn_ tb_ct tb_mt B mm_L_law 811 [.ref a0, .ref a1, .ref a2, .ref a3, .int x4, am_un, am_un, am_un, am_un] [] s = eI (aI s a0 (x4 + (1 : Int32))) (fun x_1 => eI (aI s a0 (x4 + (2 : Int32))) (fun x_2 => cI (cl_ tb_ct tb_mt B K_L_changed [.ref a1, .int x_1, .int x_2, .ref a3] s) (fun x_4 s_3 => eI (aI s_3 a0 (x4 + (1 : Int32))) (fun x_5 => eI (aI s_3 a0 (x4 + (2 : Int32))) (fun x_6 => eC (am_cls s_3 a2) 11 (cI (cl_ tb_ct tb_mt B K_X13_changed [.ref a2, .int x_5, .int x_6] s_3) (fun x_8 s_7 => eC (am_cls s_7 a2) 11 (cI (cl_ tb_ct tb_mt B K_X13_thrown [.ref a2] s_7) (fun x_10 s_9 => if x_10 = x_4 then if x_4 = 0 then eJ (aJ s_9 a3 (0 : Int32)) (fun x_11 => if (lg_cmp x_11 x_8.toInt64) = 0 then rn_ tb_ct tb_mt B mm_L_law 876 [.ref a0, .ref a1, .ref a2, .ref a3, .int x4, .int x_4, .int x_8, am_un, am_un] [] s_9 else some (.inl (some (.int (0 : Int32))), s_9)) else rn_ tb_ct tb_mt B mm_L_law 876 [.ref a0, .ref a1, .ref a2, .ref a3, .int x4, .int x_4, .int x_8, am_un, am_un] [] s_9 else some (.inl (some (.int (0 : Int32))), s_9)) xo)) xo)))) xo)) := by
  refine Eq.trans (rn_go 5 (pc' := 817) (L' := [.ref a0, .ref a1, .ref a2, .ref a3, .int x4, am_un, am_un, am_un, am_un]) (st' := [.int (x4 + (1 : Int32)), .ref a0, .ref a1]) rfl) ?_
  refine Eq.trans (rn_aI (L' := [.ref a0, .ref a1, .ref a2, .ref a3, .int x4, am_un, am_un, am_un, am_un]) rfl rfl) ?_
  refine eI_c (fun x_1 => ?_)
  refine Eq.trans (rn_go 4 (pc' := 823) (L' := [.ref a0, .ref a1, .ref a2, .ref a3, .int x4, am_un, am_un, am_un, am_un]) (st' := [.int (x4 + (2 : Int32)), .ref a0, .int x_1, .ref a1]) rfl) ?_
  refine Eq.trans (rn_aI (L' := [.ref a0, .ref a1, .ref a2, .ref a3, .int x4, am_un, am_un, am_un, am_un]) rfl rfl) ?_
  refine eI_c (fun x_2 => ?_)
  refine Eq.trans (rn_go 1 (pc' := 825) (L' := [.ref a0, .ref a1, .ref a2, .ref a3, .int x4, am_un, am_un, am_un, am_un]) (st' := [.ref a3, .int x_2, .int x_1, .ref a1]) rfl) ?_
  refine Eq.trans (rn_sta (L' := [.ref a0, .ref a1, .ref a2, .ref a3, .int x4, am_un, am_un, am_un, am_un]) (as := [.ref a1, .int x_1, .int x_2, .ref a3]) (rest := []) rfl rfl rfl rfl rfl (Nat.le_of_ble_eq_true rfl) (by decide) rfl) ?_
  refine Eq.trans (cW_I rfl rfl rfl) ?_
  refine cI_c (fun x_4 s_3 => ?_) (xh_nil rfl)
  refine Eq.trans (rn_go 6 (pc' := 836) (L' := [.ref a0, .ref a1, .ref a2, .ref a3, .int x4, .int x_4, am_un, am_un, am_un]) (st' := [.int (x4 + (1 : Int32)), .ref a0, .ref a2]) rfl) ?_
  refine Eq.trans (rn_aI (L' := [.ref a0, .ref a1, .ref a2, .ref a3, .int x4, .int x_4, am_un, am_un, am_un]) rfl rfl) ?_
  refine eI_c (fun x_5 => ?_)
  refine Eq.trans (rn_go 4 (pc' := 842) (L' := [.ref a0, .ref a1, .ref a2, .ref a3, .int x4, .int x_4, am_un, am_un, am_un]) (st' := [.int (x4 + (2 : Int32)), .ref a0, .int x_5, .ref a2]) rfl) ?_
  refine Eq.trans (rn_aI (L' := [.ref a0, .ref a1, .ref a2, .ref a3, .int x4, .int x_4, am_un, am_un, am_un]) rfl rfl) ?_
  refine eI_c (fun x_6 => ?_)
  refine Eq.trans (rn_vir (L' := [.ref a0, .ref a1, .ref a2, .ref a3, .int x4, .int x_4, am_un, am_un, am_un]) (as := [.int x_5, .int x_6]) (rest := []) rfl rfl rfl rfl rfl (Nat.le_of_ble_eq_true rfl) (by decide) (by decide)) ?_
  refine eC_c ?_
  refine Eq.trans (cW_I rfl rfl rfl) ?_
  refine cI_c (fun x_8 s_7 => ?_) (xh_nil rfl)
  refine Eq.trans (rn_go 2 (pc' := 849) (L' := [.ref a0, .ref a1, .ref a2, .ref a3, .int x4, .int x_4, .int x_8, am_un, am_un]) (st' := [.ref a2]) rfl) ?_
  refine Eq.trans (rn_vir (L' := [.ref a0, .ref a1, .ref a2, .ref a3, .int x4, .int x_4, .int x_8, am_un, am_un]) (as := []) (rest := []) rfl rfl rfl rfl rfl (Nat.le_of_ble_eq_true rfl) (by decide) (by decide)) ?_
  refine eC_c ?_
  refine Eq.trans (cW_I rfl rfl rfl) ?_
  refine cI_c (fun x_10 s_9 => ?_) (xh_nil rfl)
  refine Eq.trans (rn_go 1 (pc' := 854) (L' := [.ref a0, .ref a1, .ref a2, .ref a3, .int x4, .int x_4, .int x_8, am_un, am_un]) (st' := [.int x_4, .int x_10]) rfl) ?_
  refine Eq.trans (rn_iceq (L' := [.ref a0, .ref a1, .ref a2, .ref a3, .int x4, .int x_4, .int x_8, am_un, am_un]) rfl rfl) ?_
  refine if_c ?_ ?_
  · refine Eq.trans (rn_go 1 (pc' := 861) (L' := [.ref a0, .ref a1, .ref a2, .ref a3, .int x4, .int x_4, .int x_8, am_un, am_un]) (st' := [.int x_4]) rfl) ?_
    refine Eq.trans (rn_ifne (L' := [.ref a0, .ref a1, .ref a2, .ref a3, .int x4, .int x_4, .int x_8, am_un, am_un]) rfl rfl) ?_
    refine if_c ?_ ?_
    · refine Eq.trans (rn_go 2 (pc' := 866) (L' := [.ref a0, .ref a1, .ref a2, .ref a3, .int x4, .int x_4, .int x_8, am_un, am_un]) (st' := [.int (0 : Int32), .ref a3]) rfl) ?_
      refine Eq.trans (rn_aJ (L' := [.ref a0, .ref a1, .ref a2, .ref a3, .int x4, .int x_4, .int x_8, am_un, am_un]) rfl rfl) ?_
      refine eJ_c (fun x_11 => ?_)
      refine Eq.trans (rn_go 3 (pc' := 871) (L' := [.ref a0, .ref a1, .ref a2, .ref a3, .int x4, .int x_4, .int x_8, am_un, am_un]) (st' := [.int (lg_cmp x_11 x_8.toInt64)]) rfl) ?_
      refine Eq.trans (rn_ifeq (L' := [.ref a0, .ref a1, .ref a2, .ref a3, .int x4, .int x_4, .int x_8, am_un, am_un]) rfl rfl) ?_
      refine if_c ?_ ?_
      · rfl
      · refine Eq.trans (rn_go 1 (pc' := 875) (L' := [.ref a0, .ref a1, .ref a2, .ref a3, .int x4, .int x_4, .int x_8, am_un, am_un]) (st' := [.int (0 : Int32)]) rfl) ?_
        exact rn_retI rfl rfl rfl
    · rfl
  · refine Eq.trans (rn_go 1 (pc' := 858) (L' := [.ref a0, .ref a1, .ref a2, .ref a3, .int x4, .int x_4, .int x_8, am_un, am_un]) (st' := [.int (0 : Int32)]) rfl) ?_
    exact rn_retI rfl rfl rfl
set_option maxRecDepth 20000 in
theorem dc_L_law_876 {B : Nat} (a0 : Nat) (a1 : Nat) (a2 : Nat) (a3 : Nat) (x4 : Int32) (w5 : Value) (w6 : Value) (s : am_S) : rn_ tb_ct tb_mt B mm_L_law 876 [.ref a0, .ref a1, .ref a2, .ref a3, .int x4, w5, w6, am_un, am_un] [] s = rn_ tb_ct tb_mt B mm_L_law 3221 [.ref a0, .ref a1, .ref a2, .ref a3, .int x4, am_un, am_un, am_un, am_un] [] s := by
  exact rn_go 1 (pc' := 3221) (L' := [.ref a0, .ref a1, .ref a2, .ref a3, .int x4, am_un, am_un, am_un, am_un]) (st' := []) rfl
set_option maxRecDepth 20000 in
theorem dc_L_law_879 {B : Nat} (a0 : Nat) (a1 : Nat) (a2 : Nat) (a3 : Nat) (x4 : Int32) (s : am_S) : rn_ tb_ct tb_mt B mm_L_law 879 [.ref a0, .ref a1, .ref a2, .ref a3, .int x4, am_un, am_un, am_un, am_un] [] s = eI (aI s a0 (x4 + (1 : Int32))) (fun x_1 => cI (cl_ tb_ct tb_mt B K_L_digest [.ref a1, .int x_1, .ref a3] s) (fun x_3 s_2 => eI (aI s_2 a0 (x4 + (1 : Int32))) (fun x_4 => eC (am_cls s_2 a2) 11 (cI (cl_ tb_ct tb_mt B K_X13_digest [.ref a2, .int x_4] s_2) (fun x_6 s_5 => eC (am_cls s_5 a2) 11 (cI (cl_ tb_ct tb_mt B K_X13_thrown [.ref a2] s_5) (fun x_8 s_7 => if x_8 = x_3 then if x_3 = 0 then eJ (aJ s_7 a3 (0 : Int32)) (fun x_9 => if (lg_cmp x_9 x_6.toInt64) = 0 then rn_ tb_ct tb_mt B mm_L_law 932 [.ref a0, .ref a1, .ref a2, .ref a3, .int x4, .int x_3, .int x_6, am_un, am_un] [] s_7 else some (.inl (some (.int (0 : Int32))), s_7)) else rn_ tb_ct tb_mt B mm_L_law 932 [.ref a0, .ref a1, .ref a2, .ref a3, .int x4, .int x_3, .int x_6, am_un, am_un] [] s_7 else some (.inl (some (.int (0 : Int32))), s_7)) xo)) xo))) xo) := by
  refine Eq.trans (rn_go 5 (pc' := 885) (L' := [.ref a0, .ref a1, .ref a2, .ref a3, .int x4, am_un, am_un, am_un, am_un]) (st' := [.int (x4 + (1 : Int32)), .ref a0, .ref a1]) rfl) ?_
  refine Eq.trans (rn_aI (L' := [.ref a0, .ref a1, .ref a2, .ref a3, .int x4, am_un, am_un, am_un, am_un]) rfl rfl) ?_
  refine eI_c (fun x_1 => ?_)
  refine Eq.trans (rn_go 1 (pc' := 887) (L' := [.ref a0, .ref a1, .ref a2, .ref a3, .int x4, am_un, am_un, am_un, am_un]) (st' := [.ref a3, .int x_1, .ref a1]) rfl) ?_
  refine Eq.trans (rn_sta (L' := [.ref a0, .ref a1, .ref a2, .ref a3, .int x4, am_un, am_un, am_un, am_un]) (as := [.ref a1, .int x_1, .ref a3]) (rest := []) rfl rfl rfl rfl rfl (Nat.le_of_ble_eq_true rfl) (by decide) rfl) ?_
  refine Eq.trans (cW_I rfl rfl rfl) ?_
  refine cI_c (fun x_3 s_2 => ?_) (xh_nil rfl)
  refine Eq.trans (rn_go 6 (pc' := 898) (L' := [.ref a0, .ref a1, .ref a2, .ref a3, .int x4, .int x_3, am_un, am_un, am_un]) (st' := [.int (x4 + (1 : Int32)), .ref a0, .ref a2]) rfl) ?_
  refine Eq.trans (rn_aI (L' := [.ref a0, .ref a1, .ref a2, .ref a3, .int x4, .int x_3, am_un, am_un, am_un]) rfl rfl) ?_
  refine eI_c (fun x_4 => ?_)
  refine Eq.trans (rn_vir (L' := [.ref a0, .ref a1, .ref a2, .ref a3, .int x4, .int x_3, am_un, am_un, am_un]) (as := [.int x_4]) (rest := []) rfl rfl rfl rfl rfl (Nat.le_of_ble_eq_true rfl) (by decide) (by decide)) ?_
  refine eC_c ?_
  refine Eq.trans (cW_I rfl rfl rfl) ?_
  refine cI_c (fun x_6 s_5 => ?_) (xh_nil rfl)
  refine Eq.trans (rn_go 2 (pc' := 905) (L' := [.ref a0, .ref a1, .ref a2, .ref a3, .int x4, .int x_3, .int x_6, am_un, am_un]) (st' := [.ref a2]) rfl) ?_
  refine Eq.trans (rn_vir (L' := [.ref a0, .ref a1, .ref a2, .ref a3, .int x4, .int x_3, .int x_6, am_un, am_un]) (as := []) (rest := []) rfl rfl rfl rfl rfl (Nat.le_of_ble_eq_true rfl) (by decide) (by decide)) ?_
  refine eC_c ?_
  refine Eq.trans (cW_I rfl rfl rfl) ?_
  refine cI_c (fun x_8 s_7 => ?_) (xh_nil rfl)
  refine Eq.trans (rn_go 1 (pc' := 910) (L' := [.ref a0, .ref a1, .ref a2, .ref a3, .int x4, .int x_3, .int x_6, am_un, am_un]) (st' := [.int x_3, .int x_8]) rfl) ?_
  refine Eq.trans (rn_iceq (L' := [.ref a0, .ref a1, .ref a2, .ref a3, .int x4, .int x_3, .int x_6, am_un, am_un]) rfl rfl) ?_
  refine if_c ?_ ?_
  · refine Eq.trans (rn_go 1 (pc' := 917) (L' := [.ref a0, .ref a1, .ref a2, .ref a3, .int x4, .int x_3, .int x_6, am_un, am_un]) (st' := [.int x_3]) rfl) ?_
    refine Eq.trans (rn_ifne (L' := [.ref a0, .ref a1, .ref a2, .ref a3, .int x4, .int x_3, .int x_6, am_un, am_un]) rfl rfl) ?_
    refine if_c ?_ ?_
    · refine Eq.trans (rn_go 2 (pc' := 922) (L' := [.ref a0, .ref a1, .ref a2, .ref a3, .int x4, .int x_3, .int x_6, am_un, am_un]) (st' := [.int (0 : Int32), .ref a3]) rfl) ?_
      refine Eq.trans (rn_aJ (L' := [.ref a0, .ref a1, .ref a2, .ref a3, .int x4, .int x_3, .int x_6, am_un, am_un]) rfl rfl) ?_
      refine eJ_c (fun x_9 => ?_)
      refine Eq.trans (rn_go 3 (pc' := 927) (L' := [.ref a0, .ref a1, .ref a2, .ref a3, .int x4, .int x_3, .int x_6, am_un, am_un]) (st' := [.int (lg_cmp x_9 x_6.toInt64)]) rfl) ?_
      refine Eq.trans (rn_ifeq (L' := [.ref a0, .ref a1, .ref a2, .ref a3, .int x4, .int x_3, .int x_6, am_un, am_un]) rfl rfl) ?_
      refine if_c ?_ ?_
      · rfl
      · refine Eq.trans (rn_go 1 (pc' := 931) (L' := [.ref a0, .ref a1, .ref a2, .ref a3, .int x4, .int x_3, .int x_6, am_un, am_un]) (st' := [.int (0 : Int32)]) rfl) ?_
        exact rn_retI rfl rfl rfl
    · rfl
  · refine Eq.trans (rn_go 1 (pc' := 914) (L' := [.ref a0, .ref a1, .ref a2, .ref a3, .int x4, .int x_3, .int x_6, am_un, am_un]) (st' := [.int (0 : Int32)]) rfl) ?_
    exact rn_retI rfl rfl rfl
set_option maxRecDepth 20000 in
theorem dc_L_law_932 {B : Nat} (a0 : Nat) (a1 : Nat) (a2 : Nat) (a3 : Nat) (x4 : Int32) (w5 : Value) (w6 : Value) (s : am_S) : rn_ tb_ct tb_mt B mm_L_law 932 [.ref a0, .ref a1, .ref a2, .ref a3, .int x4, w5, w6, am_un, am_un] [] s = rn_ tb_ct tb_mt B mm_L_law 3221 [.ref a0, .ref a1, .ref a2, .ref a3, .int x4, am_un, am_un, am_un, am_un] [] s := by
  exact rn_go 1 (pc' := 3221) (L' := [.ref a0, .ref a1, .ref a2, .ref a3, .int x4, am_un, am_un, am_un, am_un]) (st' := []) rfl
set_option maxRecDepth 20000 in
theorem dc_L_law_935 {B : Nat} (a0 : Nat) (a1 : Nat) (a2 : Nat) (a3 : Nat) (x4 : Int32) (s : am_S) : rn_ tb_ct tb_mt B mm_L_law 935 [.ref a0, .ref a1, .ref a2, .ref a3, .int x4, am_un, am_un, am_un, am_un] [] s = eI (aI s a0 (x4 + (1 : Int32))) (fun x_1 => eI (aI s a0 (x4 + (2 : Int32))) (fun x_2 => cI (cl_ tb_ct tb_mt B K_L_versionAt [.ref a1, .int x_1, .int x_2, .ref a3] s) (fun x_4 s_3 => eI (aI s_3 a0 (x4 + (1 : Int32))) (fun x_5 => eI (aI s_3 a0 (x4 + (2 : Int32))) (fun x_6 => eC (am_cls s_3 a2) 11 (cI (cl_ tb_ct tb_mt B K_X13_versionAt [.ref a2, .int x_5, .int x_6] s_3) (fun x_8 s_7 => eC (am_cls s_7 a2) 11 (cI (cl_ tb_ct tb_mt B K_X13_thrown [.ref a2] s_7) (fun x_10 s_9 => if x_10 = x_4 then if x_4 = 0 then eJ (aJ s_9 a3 (0 : Int32)) (fun x_11 => if (lg_cmp x_11 x_8.toInt64) = 0 then rn_ tb_ct tb_mt B mm_L_law 1000 [.ref a0, .ref a1, .ref a2, .ref a3, .int x4, .int x_4, .int x_8, am_un, am_un] [] s_9 else some (.inl (some (.int (0 : Int32))), s_9)) else rn_ tb_ct tb_mt B mm_L_law 1000 [.ref a0, .ref a1, .ref a2, .ref a3, .int x4, .int x_4, .int x_8, am_un, am_un] [] s_9 else some (.inl (some (.int (0 : Int32))), s_9)) xo)) xo)))) xo)) := by
  refine Eq.trans (rn_go 5 (pc' := 941) (L' := [.ref a0, .ref a1, .ref a2, .ref a3, .int x4, am_un, am_un, am_un, am_un]) (st' := [.int (x4 + (1 : Int32)), .ref a0, .ref a1]) rfl) ?_
  refine Eq.trans (rn_aI (L' := [.ref a0, .ref a1, .ref a2, .ref a3, .int x4, am_un, am_un, am_un, am_un]) rfl rfl) ?_
  refine eI_c (fun x_1 => ?_)
  refine Eq.trans (rn_go 4 (pc' := 947) (L' := [.ref a0, .ref a1, .ref a2, .ref a3, .int x4, am_un, am_un, am_un, am_un]) (st' := [.int (x4 + (2 : Int32)), .ref a0, .int x_1, .ref a1]) rfl) ?_
  refine Eq.trans (rn_aI (L' := [.ref a0, .ref a1, .ref a2, .ref a3, .int x4, am_un, am_un, am_un, am_un]) rfl rfl) ?_
  refine eI_c (fun x_2 => ?_)
  refine Eq.trans (rn_go 1 (pc' := 949) (L' := [.ref a0, .ref a1, .ref a2, .ref a3, .int x4, am_un, am_un, am_un, am_un]) (st' := [.ref a3, .int x_2, .int x_1, .ref a1]) rfl) ?_
  refine Eq.trans (rn_sta (L' := [.ref a0, .ref a1, .ref a2, .ref a3, .int x4, am_un, am_un, am_un, am_un]) (as := [.ref a1, .int x_1, .int x_2, .ref a3]) (rest := []) rfl rfl rfl rfl rfl (Nat.le_of_ble_eq_true rfl) (by decide) rfl) ?_
  refine Eq.trans (cW_I rfl rfl rfl) ?_
  refine cI_c (fun x_4 s_3 => ?_) (xh_nil rfl)
  refine Eq.trans (rn_go 6 (pc' := 960) (L' := [.ref a0, .ref a1, .ref a2, .ref a3, .int x4, .int x_4, am_un, am_un, am_un]) (st' := [.int (x4 + (1 : Int32)), .ref a0, .ref a2]) rfl) ?_
  refine Eq.trans (rn_aI (L' := [.ref a0, .ref a1, .ref a2, .ref a3, .int x4, .int x_4, am_un, am_un, am_un]) rfl rfl) ?_
  refine eI_c (fun x_5 => ?_)
  refine Eq.trans (rn_go 4 (pc' := 966) (L' := [.ref a0, .ref a1, .ref a2, .ref a3, .int x4, .int x_4, am_un, am_un, am_un]) (st' := [.int (x4 + (2 : Int32)), .ref a0, .int x_5, .ref a2]) rfl) ?_
  refine Eq.trans (rn_aI (L' := [.ref a0, .ref a1, .ref a2, .ref a3, .int x4, .int x_4, am_un, am_un, am_un]) rfl rfl) ?_
  refine eI_c (fun x_6 => ?_)
  refine Eq.trans (rn_vir (L' := [.ref a0, .ref a1, .ref a2, .ref a3, .int x4, .int x_4, am_un, am_un, am_un]) (as := [.int x_5, .int x_6]) (rest := []) rfl rfl rfl rfl rfl (Nat.le_of_ble_eq_true rfl) (by decide) (by decide)) ?_
  refine eC_c ?_
  refine Eq.trans (cW_I rfl rfl rfl) ?_
  refine cI_c (fun x_8 s_7 => ?_) (xh_nil rfl)
  refine Eq.trans (rn_go 2 (pc' := 973) (L' := [.ref a0, .ref a1, .ref a2, .ref a3, .int x4, .int x_4, .int x_8, am_un, am_un]) (st' := [.ref a2]) rfl) ?_
  refine Eq.trans (rn_vir (L' := [.ref a0, .ref a1, .ref a2, .ref a3, .int x4, .int x_4, .int x_8, am_un, am_un]) (as := []) (rest := []) rfl rfl rfl rfl rfl (Nat.le_of_ble_eq_true rfl) (by decide) (by decide)) ?_
  refine eC_c ?_
  refine Eq.trans (cW_I rfl rfl rfl) ?_
  refine cI_c (fun x_10 s_9 => ?_) (xh_nil rfl)
  refine Eq.trans (rn_go 1 (pc' := 978) (L' := [.ref a0, .ref a1, .ref a2, .ref a3, .int x4, .int x_4, .int x_8, am_un, am_un]) (st' := [.int x_4, .int x_10]) rfl) ?_
  refine Eq.trans (rn_iceq (L' := [.ref a0, .ref a1, .ref a2, .ref a3, .int x4, .int x_4, .int x_8, am_un, am_un]) rfl rfl) ?_
  refine if_c ?_ ?_
  · refine Eq.trans (rn_go 1 (pc' := 985) (L' := [.ref a0, .ref a1, .ref a2, .ref a3, .int x4, .int x_4, .int x_8, am_un, am_un]) (st' := [.int x_4]) rfl) ?_
    refine Eq.trans (rn_ifne (L' := [.ref a0, .ref a1, .ref a2, .ref a3, .int x4, .int x_4, .int x_8, am_un, am_un]) rfl rfl) ?_
    refine if_c ?_ ?_
    · refine Eq.trans (rn_go 2 (pc' := 990) (L' := [.ref a0, .ref a1, .ref a2, .ref a3, .int x4, .int x_4, .int x_8, am_un, am_un]) (st' := [.int (0 : Int32), .ref a3]) rfl) ?_
      refine Eq.trans (rn_aJ (L' := [.ref a0, .ref a1, .ref a2, .ref a3, .int x4, .int x_4, .int x_8, am_un, am_un]) rfl rfl) ?_
      refine eJ_c (fun x_11 => ?_)
      refine Eq.trans (rn_go 3 (pc' := 995) (L' := [.ref a0, .ref a1, .ref a2, .ref a3, .int x4, .int x_4, .int x_8, am_un, am_un]) (st' := [.int (lg_cmp x_11 x_8.toInt64)]) rfl) ?_
      refine Eq.trans (rn_ifeq (L' := [.ref a0, .ref a1, .ref a2, .ref a3, .int x4, .int x_4, .int x_8, am_un, am_un]) rfl rfl) ?_
      refine if_c ?_ ?_
      · rfl
      · refine Eq.trans (rn_go 1 (pc' := 999) (L' := [.ref a0, .ref a1, .ref a2, .ref a3, .int x4, .int x_4, .int x_8, am_un, am_un]) (st' := [.int (0 : Int32)]) rfl) ?_
        exact rn_retI rfl rfl rfl
    · rfl
  · refine Eq.trans (rn_go 1 (pc' := 982) (L' := [.ref a0, .ref a1, .ref a2, .ref a3, .int x4, .int x_4, .int x_8, am_un, am_un]) (st' := [.int (0 : Int32)]) rfl) ?_
    exact rn_retI rfl rfl rfl
set_option maxRecDepth 20000 in
theorem dc_L_law_1000 {B : Nat} (a0 : Nat) (a1 : Nat) (a2 : Nat) (a3 : Nat) (x4 : Int32) (w5 : Value) (w6 : Value) (s : am_S) : rn_ tb_ct tb_mt B mm_L_law 1000 [.ref a0, .ref a1, .ref a2, .ref a3, .int x4, w5, w6, am_un, am_un] [] s = rn_ tb_ct tb_mt B mm_L_law 3221 [.ref a0, .ref a1, .ref a2, .ref a3, .int x4, am_un, am_un, am_un, am_un] [] s := by
  exact rn_go 1 (pc' := 3221) (L' := [.ref a0, .ref a1, .ref a2, .ref a3, .int x4, am_un, am_un, am_un, am_un]) (st' := []) rfl
set_option maxRecDepth 20000 in
theorem dc_L_law_1003 {B : Nat} (a0 : Nat) (a1 : Nat) (a2 : Nat) (a3 : Nat) (x4 : Int32) (s : am_S) : rn_ tb_ct tb_mt B mm_L_law 1003 [.ref a0, .ref a1, .ref a2, .ref a3, .int x4, am_un, am_un, am_un, am_un] [] s = eI (aI s a0 (x4 + (1 : Int32))) (fun x_1 => eI (aI s a0 (x4 + (2 : Int32))) (fun x_2 => cI (cl_ tb_ct tb_mt B K_L_event [.ref a1, .int x_1, .int x_2, .ref a3] s) (fun x_4 s_3 => eI (aI s_3 a0 (x4 + (1 : Int32))) (fun x_5 => eI (aI s_3 a0 (x4 + (2 : Int32))) (fun x_6 => eC (am_cls s_3 a2) 11 (cI (cl_ tb_ct tb_mt B K_X13_event [.ref a2, .int x_5, .int x_6] s_3) (fun x_8 s_7 => eC (am_cls s_7 a2) 11 (cI (cl_ tb_ct tb_mt B K_X13_thrown [.ref a2] s_7) (fun x_10 s_9 => if x_10 = x_4 then if x_4 = 0 then eJ (aJ s_9 a3 (0 : Int32)) (fun x_11 => if (lg_cmp x_11 x_8.toInt64) = 0 then rn_ tb_ct tb_mt B mm_L_law 1068 [.ref a0, .ref a1, .ref a2, .ref a3, .int x4, .int x_4, .int x_8, am_un, am_un] [] s_9 else some (.inl (some (.int (0 : Int32))), s_9)) else rn_ tb_ct tb_mt B mm_L_law 1068 [.ref a0, .ref a1, .ref a2, .ref a3, .int x4, .int x_4, .int x_8, am_un, am_un] [] s_9 else some (.inl (some (.int (0 : Int32))), s_9)) xo)) xo)))) xo)) := by
  refine Eq.trans (rn_go 5 (pc' := 1009) (L' := [.ref a0, .ref a1, .ref a2, .ref a3, .int x4, am_un, am_un, am_un, am_un]) (st' := [.int (x4 + (1 : Int32)), .ref a0, .ref a1]) rfl) ?_
  refine Eq.trans (rn_aI (L' := [.ref a0, .ref a1, .ref a2, .ref a3, .int x4, am_un, am_un, am_un, am_un]) rfl rfl) ?_
  refine eI_c (fun x_1 => ?_)
  refine Eq.trans (rn_go 4 (pc' := 1015) (L' := [.ref a0, .ref a1, .ref a2, .ref a3, .int x4, am_un, am_un, am_un, am_un]) (st' := [.int (x4 + (2 : Int32)), .ref a0, .int x_1, .ref a1]) rfl) ?_
  refine Eq.trans (rn_aI (L' := [.ref a0, .ref a1, .ref a2, .ref a3, .int x4, am_un, am_un, am_un, am_un]) rfl rfl) ?_
  refine eI_c (fun x_2 => ?_)
  refine Eq.trans (rn_go 1 (pc' := 1017) (L' := [.ref a0, .ref a1, .ref a2, .ref a3, .int x4, am_un, am_un, am_un, am_un]) (st' := [.ref a3, .int x_2, .int x_1, .ref a1]) rfl) ?_
  refine Eq.trans (rn_sta (L' := [.ref a0, .ref a1, .ref a2, .ref a3, .int x4, am_un, am_un, am_un, am_un]) (as := [.ref a1, .int x_1, .int x_2, .ref a3]) (rest := []) rfl rfl rfl rfl rfl (Nat.le_of_ble_eq_true rfl) (by decide) rfl) ?_
  refine Eq.trans (cW_I rfl rfl rfl) ?_
  refine cI_c (fun x_4 s_3 => ?_) (xh_nil rfl)
  refine Eq.trans (rn_go 6 (pc' := 1028) (L' := [.ref a0, .ref a1, .ref a2, .ref a3, .int x4, .int x_4, am_un, am_un, am_un]) (st' := [.int (x4 + (1 : Int32)), .ref a0, .ref a2]) rfl) ?_
  refine Eq.trans (rn_aI (L' := [.ref a0, .ref a1, .ref a2, .ref a3, .int x4, .int x_4, am_un, am_un, am_un]) rfl rfl) ?_
  refine eI_c (fun x_5 => ?_)
  refine Eq.trans (rn_go 4 (pc' := 1034) (L' := [.ref a0, .ref a1, .ref a2, .ref a3, .int x4, .int x_4, am_un, am_un, am_un]) (st' := [.int (x4 + (2 : Int32)), .ref a0, .int x_5, .ref a2]) rfl) ?_
  refine Eq.trans (rn_aI (L' := [.ref a0, .ref a1, .ref a2, .ref a3, .int x4, .int x_4, am_un, am_un, am_un]) rfl rfl) ?_
  refine eI_c (fun x_6 => ?_)
  refine Eq.trans (rn_vir (L' := [.ref a0, .ref a1, .ref a2, .ref a3, .int x4, .int x_4, am_un, am_un, am_un]) (as := [.int x_5, .int x_6]) (rest := []) rfl rfl rfl rfl rfl (Nat.le_of_ble_eq_true rfl) (by decide) (by decide)) ?_
  refine eC_c ?_
  refine Eq.trans (cW_I rfl rfl rfl) ?_
  refine cI_c (fun x_8 s_7 => ?_) (xh_nil rfl)
  refine Eq.trans (rn_go 2 (pc' := 1041) (L' := [.ref a0, .ref a1, .ref a2, .ref a3, .int x4, .int x_4, .int x_8, am_un, am_un]) (st' := [.ref a2]) rfl) ?_
  refine Eq.trans (rn_vir (L' := [.ref a0, .ref a1, .ref a2, .ref a3, .int x4, .int x_4, .int x_8, am_un, am_un]) (as := []) (rest := []) rfl rfl rfl rfl rfl (Nat.le_of_ble_eq_true rfl) (by decide) (by decide)) ?_
  refine eC_c ?_
  refine Eq.trans (cW_I rfl rfl rfl) ?_
  refine cI_c (fun x_10 s_9 => ?_) (xh_nil rfl)
  refine Eq.trans (rn_go 1 (pc' := 1046) (L' := [.ref a0, .ref a1, .ref a2, .ref a3, .int x4, .int x_4, .int x_8, am_un, am_un]) (st' := [.int x_4, .int x_10]) rfl) ?_
  refine Eq.trans (rn_iceq (L' := [.ref a0, .ref a1, .ref a2, .ref a3, .int x4, .int x_4, .int x_8, am_un, am_un]) rfl rfl) ?_
  refine if_c ?_ ?_
  · refine Eq.trans (rn_go 1 (pc' := 1053) (L' := [.ref a0, .ref a1, .ref a2, .ref a3, .int x4, .int x_4, .int x_8, am_un, am_un]) (st' := [.int x_4]) rfl) ?_
    refine Eq.trans (rn_ifne (L' := [.ref a0, .ref a1, .ref a2, .ref a3, .int x4, .int x_4, .int x_8, am_un, am_un]) rfl rfl) ?_
    refine if_c ?_ ?_
    · refine Eq.trans (rn_go 2 (pc' := 1058) (L' := [.ref a0, .ref a1, .ref a2, .ref a3, .int x4, .int x_4, .int x_8, am_un, am_un]) (st' := [.int (0 : Int32), .ref a3]) rfl) ?_
      refine Eq.trans (rn_aJ (L' := [.ref a0, .ref a1, .ref a2, .ref a3, .int x4, .int x_4, .int x_8, am_un, am_un]) rfl rfl) ?_
      refine eJ_c (fun x_11 => ?_)
      refine Eq.trans (rn_go 3 (pc' := 1063) (L' := [.ref a0, .ref a1, .ref a2, .ref a3, .int x4, .int x_4, .int x_8, am_un, am_un]) (st' := [.int (lg_cmp x_11 x_8.toInt64)]) rfl) ?_
      refine Eq.trans (rn_ifeq (L' := [.ref a0, .ref a1, .ref a2, .ref a3, .int x4, .int x_4, .int x_8, am_un, am_un]) rfl rfl) ?_
      refine if_c ?_ ?_
      · rfl
      · refine Eq.trans (rn_go 1 (pc' := 1067) (L' := [.ref a0, .ref a1, .ref a2, .ref a3, .int x4, .int x_4, .int x_8, am_un, am_un]) (st' := [.int (0 : Int32)]) rfl) ?_
        exact rn_retI rfl rfl rfl
    · rfl
  · refine Eq.trans (rn_go 1 (pc' := 1050) (L' := [.ref a0, .ref a1, .ref a2, .ref a3, .int x4, .int x_4, .int x_8, am_un, am_un]) (st' := [.int (0 : Int32)]) rfl) ?_
    exact rn_retI rfl rfl rfl
set_option maxRecDepth 20000 in
theorem dc_L_law_1068 {B : Nat} (a0 : Nat) (a1 : Nat) (a2 : Nat) (a3 : Nat) (x4 : Int32) (w5 : Value) (w6 : Value) (s : am_S) : rn_ tb_ct tb_mt B mm_L_law 1068 [.ref a0, .ref a1, .ref a2, .ref a3, .int x4, w5, w6, am_un, am_un] [] s = rn_ tb_ct tb_mt B mm_L_law 3221 [.ref a0, .ref a1, .ref a2, .ref a3, .int x4, am_un, am_un, am_un, am_un] [] s := by
  exact rn_go 1 (pc' := 3221) (L' := [.ref a0, .ref a1, .ref a2, .ref a3, .int x4, am_un, am_un, am_un, am_un]) (st' := []) rfl
set_option maxRecDepth 20000 in
theorem dc_L_law_1071 {B : Nat} (a0 : Nat) (a1 : Nat) (a2 : Nat) (a3 : Nat) (x4 : Int32) (s : am_S) : rn_ tb_ct tb_mt B mm_L_law 1071 [.ref a0, .ref a1, .ref a2, .ref a3, .int x4, am_un, am_un, am_un, am_un] [] s = eI (aI s a0 (x4 + (1 : Int32))) (fun x_1 => cI (cl_ tb_ct tb_mt B K_L_writes [.ref a1, .int x_1, .ref a3] s) (fun x_3 s_2 => eI (aI s_2 a0 (x4 + (1 : Int32))) (fun x_4 => eC (am_cls s_2 a2) 11 (cI (cl_ tb_ct tb_mt B K_X13_writes_ [.ref a2, .int x_4] s_2) (fun x_6 s_5 => eC (am_cls s_5 a2) 11 (cI (cl_ tb_ct tb_mt B K_X13_thrown [.ref a2] s_5) (fun x_8 s_7 => if x_8 = x_3 then if x_3 = 0 then eJ (aJ s_7 a3 (0 : Int32)) (fun x_9 => if (lg_cmp x_9 x_6.toInt64) = 0 then rn_ tb_ct tb_mt B mm_L_law 1124 [.ref a0, .ref a1, .ref a2, .ref a3, .int x4, .int x_3, .int x_6, am_un, am_un] [] s_7 else some (.inl (some (.int (0 : Int32))), s_7)) else rn_ tb_ct tb_mt B mm_L_law 1124 [.ref a0, .ref a1, .ref a2, .ref a3, .int x4, .int x_3, .int x_6, am_un, am_un] [] s_7 else some (.inl (some (.int (0 : Int32))), s_7)) xo)) xo))) xo) := by
  refine Eq.trans (rn_go 5 (pc' := 1077) (L' := [.ref a0, .ref a1, .ref a2, .ref a3, .int x4, am_un, am_un, am_un, am_un]) (st' := [.int (x4 + (1 : Int32)), .ref a0, .ref a1]) rfl) ?_
  refine Eq.trans (rn_aI (L' := [.ref a0, .ref a1, .ref a2, .ref a3, .int x4, am_un, am_un, am_un, am_un]) rfl rfl) ?_
  refine eI_c (fun x_1 => ?_)
  refine Eq.trans (rn_go 1 (pc' := 1079) (L' := [.ref a0, .ref a1, .ref a2, .ref a3, .int x4, am_un, am_un, am_un, am_un]) (st' := [.ref a3, .int x_1, .ref a1]) rfl) ?_
  refine Eq.trans (rn_sta (L' := [.ref a0, .ref a1, .ref a2, .ref a3, .int x4, am_un, am_un, am_un, am_un]) (as := [.ref a1, .int x_1, .ref a3]) (rest := []) rfl rfl rfl rfl rfl (Nat.le_of_ble_eq_true rfl) (by decide) rfl) ?_
  refine Eq.trans (cW_I rfl rfl rfl) ?_
  refine cI_c (fun x_3 s_2 => ?_) (xh_nil rfl)
  refine Eq.trans (rn_go 6 (pc' := 1090) (L' := [.ref a0, .ref a1, .ref a2, .ref a3, .int x4, .int x_3, am_un, am_un, am_un]) (st' := [.int (x4 + (1 : Int32)), .ref a0, .ref a2]) rfl) ?_
  refine Eq.trans (rn_aI (L' := [.ref a0, .ref a1, .ref a2, .ref a3, .int x4, .int x_3, am_un, am_un, am_un]) rfl rfl) ?_
  refine eI_c (fun x_4 => ?_)
  refine Eq.trans (rn_vir (L' := [.ref a0, .ref a1, .ref a2, .ref a3, .int x4, .int x_3, am_un, am_un, am_un]) (as := [.int x_4]) (rest := []) rfl rfl rfl rfl rfl (Nat.le_of_ble_eq_true rfl) (by decide) (by decide)) ?_
  refine eC_c ?_
  refine Eq.trans (cW_I rfl rfl rfl) ?_
  refine cI_c (fun x_6 s_5 => ?_) (xh_nil rfl)
  refine Eq.trans (rn_go 2 (pc' := 1097) (L' := [.ref a0, .ref a1, .ref a2, .ref a3, .int x4, .int x_3, .int x_6, am_un, am_un]) (st' := [.ref a2]) rfl) ?_
  refine Eq.trans (rn_vir (L' := [.ref a0, .ref a1, .ref a2, .ref a3, .int x4, .int x_3, .int x_6, am_un, am_un]) (as := []) (rest := []) rfl rfl rfl rfl rfl (Nat.le_of_ble_eq_true rfl) (by decide) (by decide)) ?_
  refine eC_c ?_
  refine Eq.trans (cW_I rfl rfl rfl) ?_
  refine cI_c (fun x_8 s_7 => ?_) (xh_nil rfl)
  refine Eq.trans (rn_go 1 (pc' := 1102) (L' := [.ref a0, .ref a1, .ref a2, .ref a3, .int x4, .int x_3, .int x_6, am_un, am_un]) (st' := [.int x_3, .int x_8]) rfl) ?_
  refine Eq.trans (rn_iceq (L' := [.ref a0, .ref a1, .ref a2, .ref a3, .int x4, .int x_3, .int x_6, am_un, am_un]) rfl rfl) ?_
  refine if_c ?_ ?_
  · refine Eq.trans (rn_go 1 (pc' := 1109) (L' := [.ref a0, .ref a1, .ref a2, .ref a3, .int x4, .int x_3, .int x_6, am_un, am_un]) (st' := [.int x_3]) rfl) ?_
    refine Eq.trans (rn_ifne (L' := [.ref a0, .ref a1, .ref a2, .ref a3, .int x4, .int x_3, .int x_6, am_un, am_un]) rfl rfl) ?_
    refine if_c ?_ ?_
    · refine Eq.trans (rn_go 2 (pc' := 1114) (L' := [.ref a0, .ref a1, .ref a2, .ref a3, .int x4, .int x_3, .int x_6, am_un, am_un]) (st' := [.int (0 : Int32), .ref a3]) rfl) ?_
      refine Eq.trans (rn_aJ (L' := [.ref a0, .ref a1, .ref a2, .ref a3, .int x4, .int x_3, .int x_6, am_un, am_un]) rfl rfl) ?_
      refine eJ_c (fun x_9 => ?_)
      refine Eq.trans (rn_go 3 (pc' := 1119) (L' := [.ref a0, .ref a1, .ref a2, .ref a3, .int x4, .int x_3, .int x_6, am_un, am_un]) (st' := [.int (lg_cmp x_9 x_6.toInt64)]) rfl) ?_
      refine Eq.trans (rn_ifeq (L' := [.ref a0, .ref a1, .ref a2, .ref a3, .int x4, .int x_3, .int x_6, am_un, am_un]) rfl rfl) ?_
      refine if_c ?_ ?_
      · rfl
      · refine Eq.trans (rn_go 1 (pc' := 1123) (L' := [.ref a0, .ref a1, .ref a2, .ref a3, .int x4, .int x_3, .int x_6, am_un, am_un]) (st' := [.int (0 : Int32)]) rfl) ?_
        exact rn_retI rfl rfl rfl
    · rfl
  · refine Eq.trans (rn_go 1 (pc' := 1106) (L' := [.ref a0, .ref a1, .ref a2, .ref a3, .int x4, .int x_3, .int x_6, am_un, am_un]) (st' := [.int (0 : Int32)]) rfl) ?_
    exact rn_retI rfl rfl rfl
set_option maxRecDepth 20000 in
theorem dc_L_law_1124 {B : Nat} (a0 : Nat) (a1 : Nat) (a2 : Nat) (a3 : Nat) (x4 : Int32) (w5 : Value) (w6 : Value) (s : am_S) : rn_ tb_ct tb_mt B mm_L_law 1124 [.ref a0, .ref a1, .ref a2, .ref a3, .int x4, w5, w6, am_un, am_un] [] s = rn_ tb_ct tb_mt B mm_L_law 3221 [.ref a0, .ref a1, .ref a2, .ref a3, .int x4, am_un, am_un, am_un, am_un] [] s := by
  exact rn_go 1 (pc' := 3221) (L' := [.ref a0, .ref a1, .ref a2, .ref a3, .int x4, am_un, am_un, am_un, am_un]) (st' := []) rfl
set_option maxRecDepth 20000 in
theorem dc_L_law_1127 {B : Nat} (a0 : Nat) (a1 : Nat) (a2 : Nat) (a3 : Nat) (x4 : Int32) (s : am_S) : rn_ tb_ct tb_mt B mm_L_law 1127 [.ref a0, .ref a1, .ref a2, .ref a3, .int x4, am_un, am_un, am_un, am_un] [] s = eC (am_cls s a1) 10 (cI (cl_ tb_ct tb_mt B K_X12_busiest [.ref a1] s) (fun x_2 s_1 => eC (am_cls s_1 a2) 11 (cI (cl_ tb_ct tb_mt B K_X13_busiest [.ref a2] s_1) (fun x_4 s_3 => if x_2 = x_4 then rn_ tb_ct tb_mt B mm_L_law 3221 [.ref a0, .ref a1, .ref a2, .ref a3, .int x4, am_un, am_un, am_un, am_un] [] s_3 else some (.inl (some (.int (0 : Int32))), s_3)) xo)) xo) := by
  refine Eq.trans (rn_go 1 (pc' := 1128) (L' := [.ref a0, .ref a1, .ref a2, .ref a3, .int x4, am_un, am_un, am_un, am_un]) (st' := [.ref a1]) rfl) ?_
  refine Eq.trans (rn_vir (L' := [.ref a0, .ref a1, .ref a2, .ref a3, .int x4, am_un, am_un, am_un, am_un]) (as := []) (rest := []) rfl rfl rfl rfl rfl (Nat.le_of_ble_eq_true rfl) (by decide) (by decide)) ?_
  refine eC_c ?_
  refine Eq.trans (cW_I rfl rfl rfl) ?_
  refine cI_c (fun x_2 s_1 => ?_) (xh_nil rfl)
  refine Eq.trans (rn_go 1 (pc' := 1132) (L' := [.ref a0, .ref a1, .ref a2, .ref a3, .int x4, am_un, am_un, am_un, am_un]) (st' := [.ref a2, .int x_2]) rfl) ?_
  refine Eq.trans (rn_vir (L' := [.ref a0, .ref a1, .ref a2, .ref a3, .int x4, am_un, am_un, am_un, am_un]) (as := []) (rest := [.int x_2]) rfl rfl rfl rfl rfl (Nat.le_of_ble_eq_true rfl) (by decide) (by decide)) ?_
  refine eC_c ?_
  refine Eq.trans (cW_I rfl rfl rfl) ?_
  refine cI_c (fun x_4 s_3 => ?_) (xh_nil rfl)
  refine Eq.trans (rn_iceq (L' := [.ref a0, .ref a1, .ref a2, .ref a3, .int x4, am_un, am_un, am_un, am_un]) rfl rfl) ?_
  refine if_c ?_ ?_
  · rfl
  · refine Eq.trans (rn_go 1 (pc' := 1139) (L' := [.ref a0, .ref a1, .ref a2, .ref a3, .int x4, am_un, am_un, am_un, am_un]) (st' := [.int (0 : Int32)]) rfl) ?_
    exact rn_retI rfl rfl rfl
set_option maxRecDepth 20000 in
theorem dc_L_law_1140 {B : Nat} (a0 : Nat) (a1 : Nat) (a2 : Nat) (a3 : Nat) (x4 : Int32) (s : am_S) : rn_ tb_ct tb_mt B mm_L_law 1140 [.ref a0, .ref a1, .ref a2, .ref a3, .int x4, am_un, am_un, am_un, am_un] [] s = eC (am_cls s a1) 10 (cD (cl_ tb_ct tb_mt B K_X12_deletedPart [.ref a1] s) (fun x_2 s_1 => eC (am_cls s_1 a2) 11 (cD (cl_ tb_ct tb_mt B K_X13_deletedPart [.ref a2] s_1) (fun x_4 s_3 => if (Op.cmpValue (FP.dcmp x_2 x_4) .l) = 0 then rn_ tb_ct tb_mt B mm_L_law 1178 [.ref a0, .ref a1, .ref a2, .ref a3, .int x4, .double x_2, am_un, .double x_4, am_un] [] s_3 else if (Op.cmpValue (FP.dcmp x_2 x_2) .l) = 0 then some (.inl (some (.int (0 : Int32))), s_3) else if (Op.cmpValue (FP.dcmp x_4 x_4) .l) = 0 then some (.inl (some (.int (0 : Int32))), s_3) else rn_ tb_ct tb_mt B mm_L_law 1178 [.ref a0, .ref a1, .ref a2, .ref a3, .int x4, .double x_2, am_un, .double x_4, am_un] [] s_3) xo)) xo) := by
  refine Eq.trans (rn_go 1 (pc' := 1141) (L' := [.ref a0, .ref a1, .ref a2, .ref a3, .int x4, am_un, am_un, am_un, am_un]) (st' := [.ref a1]) rfl) ?_
  refine Eq.trans (rn_vir (L' := [.ref a0, .ref a1, .ref a2, .ref a3, .int x4, am_un, am_un, am_un, am_un]) (as := []) (rest := []) rfl rfl rfl rfl rfl (Nat.le_of_ble_eq_true rfl) (by decide) (by decide)) ?_
  refine eC_c ?_
  refine Eq.trans (cW_D rfl rfl) ?_
  refine cD_c (fun x_2 s_1 => ?_) (xh_nil rfl)
  refine Eq.trans (rn_go 2 (pc' := 1147) (L' := [.ref a0, .ref a1, .ref a2, .ref a3, .int x4, .double x_2, am_un, am_un, am_un]) (st' := [.ref a2]) rfl) ?_
  refine Eq.trans (rn_vir (L' := [.ref a0, .ref a1, .ref a2, .ref a3, .int x4, .double x_2, am_un, am_un, am_un]) (as := []) (rest := []) rfl rfl rfl rfl rfl (Nat.le_of_ble_eq_true rfl) (by decide) (by decide)) ?_
  refine eC_c ?_
  refine Eq.trans (cW_D rfl rfl) ?_
  refine cD_c (fun x_4 s_3 => ?_) (xh_nil rfl)
  refine Eq.trans (rn_go 4 (pc' := 1157) (L' := [.ref a0, .ref a1, .ref a2, .ref a3, .int x4, .double x_2, am_un, .double x_4, am_un]) (st' := [.int (Op.cmpValue (FP.dcmp x_2 x_4) .l)]) rfl) ?_
  refine Eq.trans (rn_ifeq (L' := [.ref a0, .ref a1, .ref a2, .ref a3, .int x4, .double x_2, am_un, .double x_4, am_un]) rfl rfl) ?_
  refine if_c ?_ ?_
  · rfl
  · refine Eq.trans (rn_go 3 (pc' := 1165) (L' := [.ref a0, .ref a1, .ref a2, .ref a3, .int x4, .double x_2, am_un, .double x_4, am_un]) (st' := [.int (Op.cmpValue (FP.dcmp x_2 x_2) .l)]) rfl) ?_
    refine Eq.trans (rn_ifeq (L' := [.ref a0, .ref a1, .ref a2, .ref a3, .int x4, .double x_2, am_un, .double x_4, am_un]) rfl rfl) ?_
    refine if_c ?_ ?_
    · refine Eq.trans (rn_go 1 (pc' := 1177) (L' := [.ref a0, .ref a1, .ref a2, .ref a3, .int x4, .double x_2, am_un, .double x_4, am_un]) (st' := [.int (0 : Int32)]) rfl) ?_
      exact rn_retI rfl rfl rfl
    · refine Eq.trans (rn_go 3 (pc' := 1173) (L' := [.ref a0, .ref a1, .ref a2, .ref a3, .int x4, .double x_2, am_un, .double x_4, am_un]) (st' := [.int (Op.cmpValue (FP.dcmp x_4 x_4) .l)]) rfl) ?_
      refine Eq.trans (rn_ifne (L' := [.ref a0, .ref a1, .ref a2, .ref a3, .int x4, .double x_2, am_un, .double x_4, am_un]) rfl rfl) ?_
      refine if_c ?_ ?_
      · refine Eq.trans (rn_go 1 (pc' := 1177) (L' := [.ref a0, .ref a1, .ref a2, .ref a3, .int x4, .double x_2, am_un, .double x_4, am_un]) (st' := [.int (0 : Int32)]) rfl) ?_
        exact rn_retI rfl rfl rfl
      · rfl
set_option maxRecDepth 20000 in
theorem dc_L_law_1178 {B : Nat} (a0 : Nat) (a1 : Nat) (a2 : Nat) (a3 : Nat) (x4 : Int32) (w5 : Value) (w7 : Value) (s : am_S) : rn_ tb_ct tb_mt B mm_L_law 1178 [.ref a0, .ref a1, .ref a2, .ref a3, .int x4, w5, am_un, w7, am_un] [] s = rn_ tb_ct tb_mt B mm_L_law 3221 [.ref a0, .ref a1, .ref a2, .ref a3, .int x4, am_un, am_un, am_un, am_un] [] s := by
  exact rn_go 1 (pc' := 3221) (L' := [.ref a0, .ref a1, .ref a2, .ref a3, .int x4, am_un, am_un, am_un, am_un]) (st' := []) rfl
set_option maxRecDepth 20000 in
theorem dc_L_law_1181 {B : Nat} (a0 : Nat) (a1 : Nat) (a2 : Nat) (a3 : Nat) (x4 : Int32) (s : am_S) : rn_ tb_ct tb_mt B mm_L_law 1181 [.ref a0, .ref a1, .ref a2, .ref a3, .int x4, am_un, am_un, am_un, am_un] [] s = eI (aI s a0 (x4 + (1 : Int32))) (fun x_1 => eI (aI s a0 (x4 + (2 : Int32))) (fun x_2 => cI (cl_ tb_ct tb_mt B K_L_leader [.ref a1, .int x_1, .int x_2, .ref a3] s) (fun x_4 s_3 => eI (aI s_3 a0 (x4 + (1 : Int32))) (fun x_5 => eI (aI s_3 a0 (x4 + (2 : Int32))) (fun x_6 => eC (am_cls s_3 a2) 11 (cI (cl_ tb_ct tb_mt B K_X13_leader [.ref a2, .int x_5, .int x_6] s_3) (fun x_8 s_7 => eC (am_cls s_7 a2) 11 (cI (cl_ tb_ct tb_mt B K_X13_thrown [.ref a2] s_7) (fun x_10 s_9 => if x_10 = x_4 then if x_4 = 0 then eJ (aJ s_9 a3 (0 : Int32)) (fun x_11 => if (lg_cmp x_11 x_8.toInt64) = 0 then rn_ tb_ct tb_mt B mm_L_law 1246 [.ref a0, .ref a1, .ref a2, .ref a3, .int x4, .int x_4, .int x_8, am_un, am_un] [] s_9 else some (.inl (some (.int (0 : Int32))), s_9)) else rn_ tb_ct tb_mt B mm_L_law 1246 [.ref a0, .ref a1, .ref a2, .ref a3, .int x4, .int x_4, .int x_8, am_un, am_un] [] s_9 else some (.inl (some (.int (0 : Int32))), s_9)) xo)) xo)))) xo)) := by
  refine Eq.trans (rn_go 5 (pc' := 1187) (L' := [.ref a0, .ref a1, .ref a2, .ref a3, .int x4, am_un, am_un, am_un, am_un]) (st' := [.int (x4 + (1 : Int32)), .ref a0, .ref a1]) rfl) ?_
  refine Eq.trans (rn_aI (L' := [.ref a0, .ref a1, .ref a2, .ref a3, .int x4, am_un, am_un, am_un, am_un]) rfl rfl) ?_
  refine eI_c (fun x_1 => ?_)
  refine Eq.trans (rn_go 4 (pc' := 1193) (L' := [.ref a0, .ref a1, .ref a2, .ref a3, .int x4, am_un, am_un, am_un, am_un]) (st' := [.int (x4 + (2 : Int32)), .ref a0, .int x_1, .ref a1]) rfl) ?_
  refine Eq.trans (rn_aI (L' := [.ref a0, .ref a1, .ref a2, .ref a3, .int x4, am_un, am_un, am_un, am_un]) rfl rfl) ?_
  refine eI_c (fun x_2 => ?_)
  refine Eq.trans (rn_go 1 (pc' := 1195) (L' := [.ref a0, .ref a1, .ref a2, .ref a3, .int x4, am_un, am_un, am_un, am_un]) (st' := [.ref a3, .int x_2, .int x_1, .ref a1]) rfl) ?_
  refine Eq.trans (rn_sta (L' := [.ref a0, .ref a1, .ref a2, .ref a3, .int x4, am_un, am_un, am_un, am_un]) (as := [.ref a1, .int x_1, .int x_2, .ref a3]) (rest := []) rfl rfl rfl rfl rfl (Nat.le_of_ble_eq_true rfl) (by decide) rfl) ?_
  refine Eq.trans (cW_I rfl rfl rfl) ?_
  refine cI_c (fun x_4 s_3 => ?_) (xh_nil rfl)
  refine Eq.trans (rn_go 6 (pc' := 1206) (L' := [.ref a0, .ref a1, .ref a2, .ref a3, .int x4, .int x_4, am_un, am_un, am_un]) (st' := [.int (x4 + (1 : Int32)), .ref a0, .ref a2]) rfl) ?_
  refine Eq.trans (rn_aI (L' := [.ref a0, .ref a1, .ref a2, .ref a3, .int x4, .int x_4, am_un, am_un, am_un]) rfl rfl) ?_
  refine eI_c (fun x_5 => ?_)
  refine Eq.trans (rn_go 4 (pc' := 1212) (L' := [.ref a0, .ref a1, .ref a2, .ref a3, .int x4, .int x_4, am_un, am_un, am_un]) (st' := [.int (x4 + (2 : Int32)), .ref a0, .int x_5, .ref a2]) rfl) ?_
  refine Eq.trans (rn_aI (L' := [.ref a0, .ref a1, .ref a2, .ref a3, .int x4, .int x_4, am_un, am_un, am_un]) rfl rfl) ?_
  refine eI_c (fun x_6 => ?_)
  refine Eq.trans (rn_vir (L' := [.ref a0, .ref a1, .ref a2, .ref a3, .int x4, .int x_4, am_un, am_un, am_un]) (as := [.int x_5, .int x_6]) (rest := []) rfl rfl rfl rfl rfl (Nat.le_of_ble_eq_true rfl) (by decide) (by decide)) ?_
  refine eC_c ?_
  refine Eq.trans (cW_I rfl rfl rfl) ?_
  refine cI_c (fun x_8 s_7 => ?_) (xh_nil rfl)
  refine Eq.trans (rn_go 2 (pc' := 1219) (L' := [.ref a0, .ref a1, .ref a2, .ref a3, .int x4, .int x_4, .int x_8, am_un, am_un]) (st' := [.ref a2]) rfl) ?_
  refine Eq.trans (rn_vir (L' := [.ref a0, .ref a1, .ref a2, .ref a3, .int x4, .int x_4, .int x_8, am_un, am_un]) (as := []) (rest := []) rfl rfl rfl rfl rfl (Nat.le_of_ble_eq_true rfl) (by decide) (by decide)) ?_
  refine eC_c ?_
  refine Eq.trans (cW_I rfl rfl rfl) ?_
  refine cI_c (fun x_10 s_9 => ?_) (xh_nil rfl)
  refine Eq.trans (rn_go 1 (pc' := 1224) (L' := [.ref a0, .ref a1, .ref a2, .ref a3, .int x4, .int x_4, .int x_8, am_un, am_un]) (st' := [.int x_4, .int x_10]) rfl) ?_
  refine Eq.trans (rn_iceq (L' := [.ref a0, .ref a1, .ref a2, .ref a3, .int x4, .int x_4, .int x_8, am_un, am_un]) rfl rfl) ?_
  refine if_c ?_ ?_
  · refine Eq.trans (rn_go 1 (pc' := 1231) (L' := [.ref a0, .ref a1, .ref a2, .ref a3, .int x4, .int x_4, .int x_8, am_un, am_un]) (st' := [.int x_4]) rfl) ?_
    refine Eq.trans (rn_ifne (L' := [.ref a0, .ref a1, .ref a2, .ref a3, .int x4, .int x_4, .int x_8, am_un, am_un]) rfl rfl) ?_
    refine if_c ?_ ?_
    · refine Eq.trans (rn_go 2 (pc' := 1236) (L' := [.ref a0, .ref a1, .ref a2, .ref a3, .int x4, .int x_4, .int x_8, am_un, am_un]) (st' := [.int (0 : Int32), .ref a3]) rfl) ?_
      refine Eq.trans (rn_aJ (L' := [.ref a0, .ref a1, .ref a2, .ref a3, .int x4, .int x_4, .int x_8, am_un, am_un]) rfl rfl) ?_
      refine eJ_c (fun x_11 => ?_)
      refine Eq.trans (rn_go 3 (pc' := 1241) (L' := [.ref a0, .ref a1, .ref a2, .ref a3, .int x4, .int x_4, .int x_8, am_un, am_un]) (st' := [.int (lg_cmp x_11 x_8.toInt64)]) rfl) ?_
      refine Eq.trans (rn_ifeq (L' := [.ref a0, .ref a1, .ref a2, .ref a3, .int x4, .int x_4, .int x_8, am_un, am_un]) rfl rfl) ?_
      refine if_c ?_ ?_
      · rfl
      · refine Eq.trans (rn_go 1 (pc' := 1245) (L' := [.ref a0, .ref a1, .ref a2, .ref a3, .int x4, .int x_4, .int x_8, am_un, am_un]) (st' := [.int (0 : Int32)]) rfl) ?_
        exact rn_retI rfl rfl rfl
    · rfl
  · refine Eq.trans (rn_go 1 (pc' := 1228) (L' := [.ref a0, .ref a1, .ref a2, .ref a3, .int x4, .int x_4, .int x_8, am_un, am_un]) (st' := [.int (0 : Int32)]) rfl) ?_
    exact rn_retI rfl rfl rfl
set_option maxRecDepth 20000 in
theorem dc_L_law_1246 {B : Nat} (a0 : Nat) (a1 : Nat) (a2 : Nat) (a3 : Nat) (x4 : Int32) (w5 : Value) (w6 : Value) (s : am_S) : rn_ tb_ct tb_mt B mm_L_law 1246 [.ref a0, .ref a1, .ref a2, .ref a3, .int x4, w5, w6, am_un, am_un] [] s = rn_ tb_ct tb_mt B mm_L_law 3221 [.ref a0, .ref a1, .ref a2, .ref a3, .int x4, am_un, am_un, am_un, am_un] [] s := by
  exact rn_go 1 (pc' := 3221) (L' := [.ref a0, .ref a1, .ref a2, .ref a3, .int x4, am_un, am_un, am_un, am_un]) (st' := []) rfl
set_option maxRecDepth 20000 in
theorem dc_L_law_1249 {B : Nat} (a0 : Nat) (a1 : Nat) (a2 : Nat) (a3 : Nat) (x4 : Int32) (s : am_S) : rn_ tb_ct tb_mt B mm_L_law 1249 [.ref a0, .ref a1, .ref a2, .ref a3, .int x4, am_un, am_un, am_un, am_un] [] s = eI (aI s a0 (x4 + (1 : Int32))) (fun x_1 => eI (aI s a0 (x4 + (2 : Int32))) (fun x_2 => eI (aI s a0 (x4 + (3 : Int32))) (fun x_3 => cI (cl_ tb_ct tb_mt B K_L_ahead [.ref a1, .int x_1, .int x_2, .int x_3, .ref a3] s) (fun x_5 s_4 => eI (aI s_4 a0 (x4 + (1 : Int32))) (fun x_6 => eI (aI s_4 a0 (x4 + (2 : Int32))) (fun x_7 => eI (aI s_4 a0 (x4 + (3 : Int32))) (fun x_8 => eC (am_cls s_4 a2) 11 (cI (cl_ tb_ct tb_mt B K_X13_ahead [.ref a2, .int x_6, .int x_7, .int x_8] s_4) (fun x_10 s_9 => eC (am_cls s_9 a2) 11 (cI (cl_ tb_ct tb_mt B K_X13_thrown [.ref a2] s_9) (fun x_12 s_11 => if x_12 = x_5 then if x_5 = 0 then eJ (aJ s_11 a3 (0 : Int32)) (fun x_13 => if (lg_cmp x_13 x_10.toInt64) = 0 then rn_ tb_ct tb_mt B mm_L_law 1326 [.ref a0, .ref a1, .ref a2, .ref a3, .int x4, .int x_5, .int x_10, am_un, am_un] [] s_11 else some (.inl (some (.int (0 : Int32))), s_11)) else rn_ tb_ct tb_mt B mm_L_law 1326 [.ref a0, .ref a1, .ref a2, .ref a3, .int x4, .int x_5, .int x_10, am_un, am_un] [] s_11 else some (.inl (some (.int (0 : Int32))), s_11)) xo)) xo))))) xo))) := by
  refine Eq.trans (rn_go 5 (pc' := 1255) (L' := [.ref a0, .ref a1, .ref a2, .ref a3, .int x4, am_un, am_un, am_un, am_un]) (st' := [.int (x4 + (1 : Int32)), .ref a0, .ref a1]) rfl) ?_
  refine Eq.trans (rn_aI (L' := [.ref a0, .ref a1, .ref a2, .ref a3, .int x4, am_un, am_un, am_un, am_un]) rfl rfl) ?_
  refine eI_c (fun x_1 => ?_)
  refine Eq.trans (rn_go 4 (pc' := 1261) (L' := [.ref a0, .ref a1, .ref a2, .ref a3, .int x4, am_un, am_un, am_un, am_un]) (st' := [.int (x4 + (2 : Int32)), .ref a0, .int x_1, .ref a1]) rfl) ?_
  refine Eq.trans (rn_aI (L' := [.ref a0, .ref a1, .ref a2, .ref a3, .int x4, am_un, am_un, am_un, am_un]) rfl rfl) ?_
  refine eI_c (fun x_2 => ?_)
  refine Eq.trans (rn_go 4 (pc' := 1267) (L' := [.ref a0, .ref a1, .ref a2, .ref a3, .int x4, am_un, am_un, am_un, am_un]) (st' := [.int (x4 + (3 : Int32)), .ref a0, .int x_2, .int x_1, .ref a1]) rfl) ?_
  refine Eq.trans (rn_aI (L' := [.ref a0, .ref a1, .ref a2, .ref a3, .int x4, am_un, am_un, am_un, am_un]) rfl rfl) ?_
  refine eI_c (fun x_3 => ?_)
  refine Eq.trans (rn_go 1 (pc' := 1269) (L' := [.ref a0, .ref a1, .ref a2, .ref a3, .int x4, am_un, am_un, am_un, am_un]) (st' := [.ref a3, .int x_3, .int x_2, .int x_1, .ref a1]) rfl) ?_
  refine Eq.trans (rn_sta (L' := [.ref a0, .ref a1, .ref a2, .ref a3, .int x4, am_un, am_un, am_un, am_un]) (as := [.ref a1, .int x_1, .int x_2, .int x_3, .ref a3]) (rest := []) rfl rfl rfl rfl rfl (Nat.le_of_ble_eq_true rfl) (by decide) rfl) ?_
  refine Eq.trans (cW_I rfl rfl rfl) ?_
  refine cI_c (fun x_5 s_4 => ?_) (xh_nil rfl)
  refine Eq.trans (rn_go 6 (pc' := 1280) (L' := [.ref a0, .ref a1, .ref a2, .ref a3, .int x4, .int x_5, am_un, am_un, am_un]) (st' := [.int (x4 + (1 : Int32)), .ref a0, .ref a2]) rfl) ?_
  refine Eq.trans (rn_aI (L' := [.ref a0, .ref a1, .ref a2, .ref a3, .int x4, .int x_5, am_un, am_un, am_un]) rfl rfl) ?_
  refine eI_c (fun x_6 => ?_)
  refine Eq.trans (rn_go 4 (pc' := 1286) (L' := [.ref a0, .ref a1, .ref a2, .ref a3, .int x4, .int x_5, am_un, am_un, am_un]) (st' := [.int (x4 + (2 : Int32)), .ref a0, .int x_6, .ref a2]) rfl) ?_
  refine Eq.trans (rn_aI (L' := [.ref a0, .ref a1, .ref a2, .ref a3, .int x4, .int x_5, am_un, am_un, am_un]) rfl rfl) ?_
  refine eI_c (fun x_7 => ?_)
  refine Eq.trans (rn_go 4 (pc' := 1292) (L' := [.ref a0, .ref a1, .ref a2, .ref a3, .int x4, .int x_5, am_un, am_un, am_un]) (st' := [.int (x4 + (3 : Int32)), .ref a0, .int x_7, .int x_6, .ref a2]) rfl) ?_
  refine Eq.trans (rn_aI (L' := [.ref a0, .ref a1, .ref a2, .ref a3, .int x4, .int x_5, am_un, am_un, am_un]) rfl rfl) ?_
  refine eI_c (fun x_8 => ?_)
  refine Eq.trans (rn_vir (L' := [.ref a0, .ref a1, .ref a2, .ref a3, .int x4, .int x_5, am_un, am_un, am_un]) (as := [.int x_6, .int x_7, .int x_8]) (rest := []) rfl rfl rfl rfl rfl (Nat.le_of_ble_eq_true rfl) (by decide) (by decide)) ?_
  refine eC_c ?_
  refine Eq.trans (cW_I rfl rfl rfl) ?_
  refine cI_c (fun x_10 s_9 => ?_) (xh_nil rfl)
  refine Eq.trans (rn_go 2 (pc' := 1299) (L' := [.ref a0, .ref a1, .ref a2, .ref a3, .int x4, .int x_5, .int x_10, am_un, am_un]) (st' := [.ref a2]) rfl) ?_
  refine Eq.trans (rn_vir (L' := [.ref a0, .ref a1, .ref a2, .ref a3, .int x4, .int x_5, .int x_10, am_un, am_un]) (as := []) (rest := []) rfl rfl rfl rfl rfl (Nat.le_of_ble_eq_true rfl) (by decide) (by decide)) ?_
  refine eC_c ?_
  refine Eq.trans (cW_I rfl rfl rfl) ?_
  refine cI_c (fun x_12 s_11 => ?_) (xh_nil rfl)
  refine Eq.trans (rn_go 1 (pc' := 1304) (L' := [.ref a0, .ref a1, .ref a2, .ref a3, .int x4, .int x_5, .int x_10, am_un, am_un]) (st' := [.int x_5, .int x_12]) rfl) ?_
  refine Eq.trans (rn_iceq (L' := [.ref a0, .ref a1, .ref a2, .ref a3, .int x4, .int x_5, .int x_10, am_un, am_un]) rfl rfl) ?_
  refine if_c ?_ ?_
  · refine Eq.trans (rn_go 1 (pc' := 1311) (L' := [.ref a0, .ref a1, .ref a2, .ref a3, .int x4, .int x_5, .int x_10, am_un, am_un]) (st' := [.int x_5]) rfl) ?_
    refine Eq.trans (rn_ifne (L' := [.ref a0, .ref a1, .ref a2, .ref a3, .int x4, .int x_5, .int x_10, am_un, am_un]) rfl rfl) ?_
    refine if_c ?_ ?_
    · refine Eq.trans (rn_go 2 (pc' := 1316) (L' := [.ref a0, .ref a1, .ref a2, .ref a3, .int x4, .int x_5, .int x_10, am_un, am_un]) (st' := [.int (0 : Int32), .ref a3]) rfl) ?_
      refine Eq.trans (rn_aJ (L' := [.ref a0, .ref a1, .ref a2, .ref a3, .int x4, .int x_5, .int x_10, am_un, am_un]) rfl rfl) ?_
      refine eJ_c (fun x_13 => ?_)
      refine Eq.trans (rn_go 3 (pc' := 1321) (L' := [.ref a0, .ref a1, .ref a2, .ref a3, .int x4, .int x_5, .int x_10, am_un, am_un]) (st' := [.int (lg_cmp x_13 x_10.toInt64)]) rfl) ?_
      refine Eq.trans (rn_ifeq (L' := [.ref a0, .ref a1, .ref a2, .ref a3, .int x4, .int x_5, .int x_10, am_un, am_un]) rfl rfl) ?_
      refine if_c ?_ ?_
      · rfl
      · refine Eq.trans (rn_go 1 (pc' := 1325) (L' := [.ref a0, .ref a1, .ref a2, .ref a3, .int x4, .int x_5, .int x_10, am_un, am_un]) (st' := [.int (0 : Int32)]) rfl) ?_
        exact rn_retI rfl rfl rfl
    · rfl
  · refine Eq.trans (rn_go 1 (pc' := 1308) (L' := [.ref a0, .ref a1, .ref a2, .ref a3, .int x4, .int x_5, .int x_10, am_un, am_un]) (st' := [.int (0 : Int32)]) rfl) ?_
    exact rn_retI rfl rfl rfl
set_option maxRecDepth 20000 in
theorem dc_L_law_1326 {B : Nat} (a0 : Nat) (a1 : Nat) (a2 : Nat) (a3 : Nat) (x4 : Int32) (w5 : Value) (w6 : Value) (s : am_S) : rn_ tb_ct tb_mt B mm_L_law 1326 [.ref a0, .ref a1, .ref a2, .ref a3, .int x4, w5, w6, am_un, am_un] [] s = rn_ tb_ct tb_mt B mm_L_law 3221 [.ref a0, .ref a1, .ref a2, .ref a3, .int x4, am_un, am_un, am_un, am_un] [] s := by
  exact rn_go 1 (pc' := 3221) (L' := [.ref a0, .ref a1, .ref a2, .ref a3, .int x4, am_un, am_un, am_un, am_un]) (st' := []) rfl
set_option maxRecDepth 20000 in
theorem dc_L_law_1329 {B : Nat} (a0 : Nat) (a1 : Nat) (a2 : Nat) (a3 : Nat) (x4 : Int32) (s : am_S) : rn_ tb_ct tb_mt B mm_L_law 1329 [.ref a0, .ref a1, .ref a2, .ref a3, .int x4, am_un, am_un, am_un, am_un] [] s = eI (aI s a0 (x4 + (1 : Int32))) (fun x_1 => eI (aI s a0 (x4 + (2 : Int32))) (fun x_2 => eI (aI s a0 (x4 + (3 : Int32))) (fun x_3 => cI (cl_ tb_ct tb_mt B K_L_place [.ref a1, .int x_1, .int x_2, .int x_3, .ref a3] s) (fun x_5 s_4 => eI (aI s_4 a0 (x4 + (1 : Int32))) (fun x_6 => eI (aI s_4 a0 (x4 + (2 : Int32))) (fun x_7 => eI (aI s_4 a0 (x4 + (3 : Int32))) (fun x_8 => eC (am_cls s_4 a2) 11 (cI (cl_ tb_ct tb_mt B K_X13_place [.ref a2, .int x_6, .int x_7, .int x_8] s_4) (fun x_10 s_9 => eC (am_cls s_9 a2) 11 (cI (cl_ tb_ct tb_mt B K_X13_thrown [.ref a2] s_9) (fun x_12 s_11 => if x_12 = x_5 then if x_5 = 0 then eJ (aJ s_11 a3 (0 : Int32)) (fun x_13 => if (lg_cmp x_13 x_10.toInt64) = 0 then rn_ tb_ct tb_mt B mm_L_law 1406 [.ref a0, .ref a1, .ref a2, .ref a3, .int x4, .int x_5, .int x_10, am_un, am_un] [] s_11 else some (.inl (some (.int (0 : Int32))), s_11)) else rn_ tb_ct tb_mt B mm_L_law 1406 [.ref a0, .ref a1, .ref a2, .ref a3, .int x4, .int x_5, .int x_10, am_un, am_un] [] s_11 else some (.inl (some (.int (0 : Int32))), s_11)) xo)) xo))))) xo))) := by
  refine Eq.trans (rn_go 5 (pc' := 1335) (L' := [.ref a0, .ref a1, .ref a2, .ref a3, .int x4, am_un, am_un, am_un, am_un]) (st' := [.int (x4 + (1 : Int32)), .ref a0, .ref a1]) rfl) ?_
  refine Eq.trans (rn_aI (L' := [.ref a0, .ref a1, .ref a2, .ref a3, .int x4, am_un, am_un, am_un, am_un]) rfl rfl) ?_
  refine eI_c (fun x_1 => ?_)
  refine Eq.trans (rn_go 4 (pc' := 1341) (L' := [.ref a0, .ref a1, .ref a2, .ref a3, .int x4, am_un, am_un, am_un, am_un]) (st' := [.int (x4 + (2 : Int32)), .ref a0, .int x_1, .ref a1]) rfl) ?_
  refine Eq.trans (rn_aI (L' := [.ref a0, .ref a1, .ref a2, .ref a3, .int x4, am_un, am_un, am_un, am_un]) rfl rfl) ?_
  refine eI_c (fun x_2 => ?_)
  refine Eq.trans (rn_go 4 (pc' := 1347) (L' := [.ref a0, .ref a1, .ref a2, .ref a3, .int x4, am_un, am_un, am_un, am_un]) (st' := [.int (x4 + (3 : Int32)), .ref a0, .int x_2, .int x_1, .ref a1]) rfl) ?_
  refine Eq.trans (rn_aI (L' := [.ref a0, .ref a1, .ref a2, .ref a3, .int x4, am_un, am_un, am_un, am_un]) rfl rfl) ?_
  refine eI_c (fun x_3 => ?_)
  refine Eq.trans (rn_go 1 (pc' := 1349) (L' := [.ref a0, .ref a1, .ref a2, .ref a3, .int x4, am_un, am_un, am_un, am_un]) (st' := [.ref a3, .int x_3, .int x_2, .int x_1, .ref a1]) rfl) ?_
  refine Eq.trans (rn_sta (L' := [.ref a0, .ref a1, .ref a2, .ref a3, .int x4, am_un, am_un, am_un, am_un]) (as := [.ref a1, .int x_1, .int x_2, .int x_3, .ref a3]) (rest := []) rfl rfl rfl rfl rfl (Nat.le_of_ble_eq_true rfl) (by decide) rfl) ?_
  refine Eq.trans (cW_I rfl rfl rfl) ?_
  refine cI_c (fun x_5 s_4 => ?_) (xh_nil rfl)
  refine Eq.trans (rn_go 6 (pc' := 1360) (L' := [.ref a0, .ref a1, .ref a2, .ref a3, .int x4, .int x_5, am_un, am_un, am_un]) (st' := [.int (x4 + (1 : Int32)), .ref a0, .ref a2]) rfl) ?_
  refine Eq.trans (rn_aI (L' := [.ref a0, .ref a1, .ref a2, .ref a3, .int x4, .int x_5, am_un, am_un, am_un]) rfl rfl) ?_
  refine eI_c (fun x_6 => ?_)
  refine Eq.trans (rn_go 4 (pc' := 1366) (L' := [.ref a0, .ref a1, .ref a2, .ref a3, .int x4, .int x_5, am_un, am_un, am_un]) (st' := [.int (x4 + (2 : Int32)), .ref a0, .int x_6, .ref a2]) rfl) ?_
  refine Eq.trans (rn_aI (L' := [.ref a0, .ref a1, .ref a2, .ref a3, .int x4, .int x_5, am_un, am_un, am_un]) rfl rfl) ?_
  refine eI_c (fun x_7 => ?_)
  refine Eq.trans (rn_go 4 (pc' := 1372) (L' := [.ref a0, .ref a1, .ref a2, .ref a3, .int x4, .int x_5, am_un, am_un, am_un]) (st' := [.int (x4 + (3 : Int32)), .ref a0, .int x_7, .int x_6, .ref a2]) rfl) ?_
  refine Eq.trans (rn_aI (L' := [.ref a0, .ref a1, .ref a2, .ref a3, .int x4, .int x_5, am_un, am_un, am_un]) rfl rfl) ?_
  refine eI_c (fun x_8 => ?_)
  refine Eq.trans (rn_vir (L' := [.ref a0, .ref a1, .ref a2, .ref a3, .int x4, .int x_5, am_un, am_un, am_un]) (as := [.int x_6, .int x_7, .int x_8]) (rest := []) rfl rfl rfl rfl rfl (Nat.le_of_ble_eq_true rfl) (by decide) (by decide)) ?_
  refine eC_c ?_
  refine Eq.trans (cW_I rfl rfl rfl) ?_
  refine cI_c (fun x_10 s_9 => ?_) (xh_nil rfl)
  refine Eq.trans (rn_go 2 (pc' := 1379) (L' := [.ref a0, .ref a1, .ref a2, .ref a3, .int x4, .int x_5, .int x_10, am_un, am_un]) (st' := [.ref a2]) rfl) ?_
  refine Eq.trans (rn_vir (L' := [.ref a0, .ref a1, .ref a2, .ref a3, .int x4, .int x_5, .int x_10, am_un, am_un]) (as := []) (rest := []) rfl rfl rfl rfl rfl (Nat.le_of_ble_eq_true rfl) (by decide) (by decide)) ?_
  refine eC_c ?_
  refine Eq.trans (cW_I rfl rfl rfl) ?_
  refine cI_c (fun x_12 s_11 => ?_) (xh_nil rfl)
  refine Eq.trans (rn_go 1 (pc' := 1384) (L' := [.ref a0, .ref a1, .ref a2, .ref a3, .int x4, .int x_5, .int x_10, am_un, am_un]) (st' := [.int x_5, .int x_12]) rfl) ?_
  refine Eq.trans (rn_iceq (L' := [.ref a0, .ref a1, .ref a2, .ref a3, .int x4, .int x_5, .int x_10, am_un, am_un]) rfl rfl) ?_
  refine if_c ?_ ?_
  · refine Eq.trans (rn_go 1 (pc' := 1391) (L' := [.ref a0, .ref a1, .ref a2, .ref a3, .int x4, .int x_5, .int x_10, am_un, am_un]) (st' := [.int x_5]) rfl) ?_
    refine Eq.trans (rn_ifne (L' := [.ref a0, .ref a1, .ref a2, .ref a3, .int x4, .int x_5, .int x_10, am_un, am_un]) rfl rfl) ?_
    refine if_c ?_ ?_
    · refine Eq.trans (rn_go 2 (pc' := 1396) (L' := [.ref a0, .ref a1, .ref a2, .ref a3, .int x4, .int x_5, .int x_10, am_un, am_un]) (st' := [.int (0 : Int32), .ref a3]) rfl) ?_
      refine Eq.trans (rn_aJ (L' := [.ref a0, .ref a1, .ref a2, .ref a3, .int x4, .int x_5, .int x_10, am_un, am_un]) rfl rfl) ?_
      refine eJ_c (fun x_13 => ?_)
      refine Eq.trans (rn_go 3 (pc' := 1401) (L' := [.ref a0, .ref a1, .ref a2, .ref a3, .int x4, .int x_5, .int x_10, am_un, am_un]) (st' := [.int (lg_cmp x_13 x_10.toInt64)]) rfl) ?_
      refine Eq.trans (rn_ifeq (L' := [.ref a0, .ref a1, .ref a2, .ref a3, .int x4, .int x_5, .int x_10, am_un, am_un]) rfl rfl) ?_
      refine if_c ?_ ?_
      · rfl
      · refine Eq.trans (rn_go 1 (pc' := 1405) (L' := [.ref a0, .ref a1, .ref a2, .ref a3, .int x4, .int x_5, .int x_10, am_un, am_un]) (st' := [.int (0 : Int32)]) rfl) ?_
        exact rn_retI rfl rfl rfl
    · rfl
  · refine Eq.trans (rn_go 1 (pc' := 1388) (L' := [.ref a0, .ref a1, .ref a2, .ref a3, .int x4, .int x_5, .int x_10, am_un, am_un]) (st' := [.int (0 : Int32)]) rfl) ?_
    exact rn_retI rfl rfl rfl
set_option maxRecDepth 20000 in
theorem dc_L_law_1406 {B : Nat} (a0 : Nat) (a1 : Nat) (a2 : Nat) (a3 : Nat) (x4 : Int32) (w5 : Value) (w6 : Value) (s : am_S) : rn_ tb_ct tb_mt B mm_L_law 1406 [.ref a0, .ref a1, .ref a2, .ref a3, .int x4, w5, w6, am_un, am_un] [] s = rn_ tb_ct tb_mt B mm_L_law 3221 [.ref a0, .ref a1, .ref a2, .ref a3, .int x4, am_un, am_un, am_un, am_un] [] s := by
  exact rn_go 1 (pc' := 3221) (L' := [.ref a0, .ref a1, .ref a2, .ref a3, .int x4, am_un, am_un, am_un, am_un]) (st' := []) rfl
set_option maxRecDepth 20000 in
theorem dc_L_law_1409 {B : Nat} (a0 : Nat) (a1 : Nat) (a2 : Nat) (a3 : Nat) (x4 : Int32) (s : am_S) : rn_ tb_ct tb_mt B mm_L_law 1409 [.ref a0, .ref a1, .ref a2, .ref a3, .int x4, am_un, am_un, am_un, am_un] [] s = eI (aI s a0 (x4 + (1 : Int32))) (fun x_1 => eI (aI s a0 (x4 + (2 : Int32))) (fun x_2 => eI (aI s a0 (x4 + (3 : Int32))) (fun x_3 => cI (cl_ tb_ct tb_mt B K_L_put [.ref a1, .int x_1, .int x_2, .int x_3, .ref a3] s) (fun x_5 s_4 => eI (aI s_4 a0 (x4 + (1 : Int32))) (fun x_6 => eI (aI s_4 a0 (x4 + (2 : Int32))) (fun x_7 => eI (aI s_4 a0 (x4 + (3 : Int32))) (fun x_8 => eC (am_cls s_4 a2) 11 (cI (cl_ tb_ct tb_mt B K_X13_put [.ref a2, .int x_6, .int x_7, .int x_8] s_4) (fun x_10 s_9 => eC (am_cls s_9 a2) 11 (cI (cl_ tb_ct tb_mt B K_X13_thrown [.ref a2] s_9) (fun x_12 s_11 => if x_12 = x_5 then if x_5 = 0 then eJ (aJ s_11 a3 (0 : Int32)) (fun x_13 => if (lg_cmp x_13 x_10.toInt64) = 0 then rn_ tb_ct tb_mt B mm_L_law 1486 [.ref a0, .ref a1, .ref a2, .ref a3, .int x4, .int x_5, .int x_10, am_un, am_un] [] s_11 else some (.inl (some (.int (0 : Int32))), s_11)) else rn_ tb_ct tb_mt B mm_L_law 1486 [.ref a0, .ref a1, .ref a2, .ref a3, .int x4, .int x_5, .int x_10, am_un, am_un] [] s_11 else some (.inl (some (.int (0 : Int32))), s_11)) xo)) xo))))) xo))) := by
  refine Eq.trans (rn_go 5 (pc' := 1415) (L' := [.ref a0, .ref a1, .ref a2, .ref a3, .int x4, am_un, am_un, am_un, am_un]) (st' := [.int (x4 + (1 : Int32)), .ref a0, .ref a1]) rfl) ?_
  refine Eq.trans (rn_aI (L' := [.ref a0, .ref a1, .ref a2, .ref a3, .int x4, am_un, am_un, am_un, am_un]) rfl rfl) ?_
  refine eI_c (fun x_1 => ?_)
  refine Eq.trans (rn_go 4 (pc' := 1421) (L' := [.ref a0, .ref a1, .ref a2, .ref a3, .int x4, am_un, am_un, am_un, am_un]) (st' := [.int (x4 + (2 : Int32)), .ref a0, .int x_1, .ref a1]) rfl) ?_
  refine Eq.trans (rn_aI (L' := [.ref a0, .ref a1, .ref a2, .ref a3, .int x4, am_un, am_un, am_un, am_un]) rfl rfl) ?_
  refine eI_c (fun x_2 => ?_)
  refine Eq.trans (rn_go 4 (pc' := 1427) (L' := [.ref a0, .ref a1, .ref a2, .ref a3, .int x4, am_un, am_un, am_un, am_un]) (st' := [.int (x4 + (3 : Int32)), .ref a0, .int x_2, .int x_1, .ref a1]) rfl) ?_
  refine Eq.trans (rn_aI (L' := [.ref a0, .ref a1, .ref a2, .ref a3, .int x4, am_un, am_un, am_un, am_un]) rfl rfl) ?_
  refine eI_c (fun x_3 => ?_)
  refine Eq.trans (rn_go 1 (pc' := 1429) (L' := [.ref a0, .ref a1, .ref a2, .ref a3, .int x4, am_un, am_un, am_un, am_un]) (st' := [.ref a3, .int x_3, .int x_2, .int x_1, .ref a1]) rfl) ?_
  refine Eq.trans (rn_sta (L' := [.ref a0, .ref a1, .ref a2, .ref a3, .int x4, am_un, am_un, am_un, am_un]) (as := [.ref a1, .int x_1, .int x_2, .int x_3, .ref a3]) (rest := []) rfl rfl rfl rfl rfl (Nat.le_of_ble_eq_true rfl) (by decide) rfl) ?_
  refine Eq.trans (cW_I rfl rfl rfl) ?_
  refine cI_c (fun x_5 s_4 => ?_) (xh_nil rfl)
  refine Eq.trans (rn_go 6 (pc' := 1440) (L' := [.ref a0, .ref a1, .ref a2, .ref a3, .int x4, .int x_5, am_un, am_un, am_un]) (st' := [.int (x4 + (1 : Int32)), .ref a0, .ref a2]) rfl) ?_
  refine Eq.trans (rn_aI (L' := [.ref a0, .ref a1, .ref a2, .ref a3, .int x4, .int x_5, am_un, am_un, am_un]) rfl rfl) ?_
  refine eI_c (fun x_6 => ?_)
  refine Eq.trans (rn_go 4 (pc' := 1446) (L' := [.ref a0, .ref a1, .ref a2, .ref a3, .int x4, .int x_5, am_un, am_un, am_un]) (st' := [.int (x4 + (2 : Int32)), .ref a0, .int x_6, .ref a2]) rfl) ?_
  refine Eq.trans (rn_aI (L' := [.ref a0, .ref a1, .ref a2, .ref a3, .int x4, .int x_5, am_un, am_un, am_un]) rfl rfl) ?_
  refine eI_c (fun x_7 => ?_)
  refine Eq.trans (rn_go 4 (pc' := 1452) (L' := [.ref a0, .ref a1, .ref a2, .ref a3, .int x4, .int x_5, am_un, am_un, am_un]) (st' := [.int (x4 + (3 : Int32)), .ref a0, .int x_7, .int x_6, .ref a2]) rfl) ?_
  refine Eq.trans (rn_aI (L' := [.ref a0, .ref a1, .ref a2, .ref a3, .int x4, .int x_5, am_un, am_un, am_un]) rfl rfl) ?_
  refine eI_c (fun x_8 => ?_)
  refine Eq.trans (rn_vir (L' := [.ref a0, .ref a1, .ref a2, .ref a3, .int x4, .int x_5, am_un, am_un, am_un]) (as := [.int x_6, .int x_7, .int x_8]) (rest := []) rfl rfl rfl rfl rfl (Nat.le_of_ble_eq_true rfl) (by decide) (by decide)) ?_
  refine eC_c ?_
  refine Eq.trans (cW_I rfl rfl rfl) ?_
  refine cI_c (fun x_10 s_9 => ?_) (xh_nil rfl)
  refine Eq.trans (rn_go 2 (pc' := 1459) (L' := [.ref a0, .ref a1, .ref a2, .ref a3, .int x4, .int x_5, .int x_10, am_un, am_un]) (st' := [.ref a2]) rfl) ?_
  refine Eq.trans (rn_vir (L' := [.ref a0, .ref a1, .ref a2, .ref a3, .int x4, .int x_5, .int x_10, am_un, am_un]) (as := []) (rest := []) rfl rfl rfl rfl rfl (Nat.le_of_ble_eq_true rfl) (by decide) (by decide)) ?_
  refine eC_c ?_
  refine Eq.trans (cW_I rfl rfl rfl) ?_
  refine cI_c (fun x_12 s_11 => ?_) (xh_nil rfl)
  refine Eq.trans (rn_go 1 (pc' := 1464) (L' := [.ref a0, .ref a1, .ref a2, .ref a3, .int x4, .int x_5, .int x_10, am_un, am_un]) (st' := [.int x_5, .int x_12]) rfl) ?_
  refine Eq.trans (rn_iceq (L' := [.ref a0, .ref a1, .ref a2, .ref a3, .int x4, .int x_5, .int x_10, am_un, am_un]) rfl rfl) ?_
  refine if_c ?_ ?_
  · refine Eq.trans (rn_go 1 (pc' := 1471) (L' := [.ref a0, .ref a1, .ref a2, .ref a3, .int x4, .int x_5, .int x_10, am_un, am_un]) (st' := [.int x_5]) rfl) ?_
    refine Eq.trans (rn_ifne (L' := [.ref a0, .ref a1, .ref a2, .ref a3, .int x4, .int x_5, .int x_10, am_un, am_un]) rfl rfl) ?_
    refine if_c ?_ ?_
    · refine Eq.trans (rn_go 2 (pc' := 1476) (L' := [.ref a0, .ref a1, .ref a2, .ref a3, .int x4, .int x_5, .int x_10, am_un, am_un]) (st' := [.int (0 : Int32), .ref a3]) rfl) ?_
      refine Eq.trans (rn_aJ (L' := [.ref a0, .ref a1, .ref a2, .ref a3, .int x4, .int x_5, .int x_10, am_un, am_un]) rfl rfl) ?_
      refine eJ_c (fun x_13 => ?_)
      refine Eq.trans (rn_go 3 (pc' := 1481) (L' := [.ref a0, .ref a1, .ref a2, .ref a3, .int x4, .int x_5, .int x_10, am_un, am_un]) (st' := [.int (lg_cmp x_13 x_10.toInt64)]) rfl) ?_
      refine Eq.trans (rn_ifeq (L' := [.ref a0, .ref a1, .ref a2, .ref a3, .int x4, .int x_5, .int x_10, am_un, am_un]) rfl rfl) ?_
      refine if_c ?_ ?_
      · rfl
      · refine Eq.trans (rn_go 1 (pc' := 1485) (L' := [.ref a0, .ref a1, .ref a2, .ref a3, .int x4, .int x_5, .int x_10, am_un, am_un]) (st' := [.int (0 : Int32)]) rfl) ?_
        exact rn_retI rfl rfl rfl
    · rfl
  · refine Eq.trans (rn_go 1 (pc' := 1468) (L' := [.ref a0, .ref a1, .ref a2, .ref a3, .int x4, .int x_5, .int x_10, am_un, am_un]) (st' := [.int (0 : Int32)]) rfl) ?_
    exact rn_retI rfl rfl rfl
set_option maxRecDepth 20000 in
theorem dc_L_law_1486 {B : Nat} (a0 : Nat) (a1 : Nat) (a2 : Nat) (a3 : Nat) (x4 : Int32) (w5 : Value) (w6 : Value) (s : am_S) : rn_ tb_ct tb_mt B mm_L_law 1486 [.ref a0, .ref a1, .ref a2, .ref a3, .int x4, w5, w6, am_un, am_un] [] s = rn_ tb_ct tb_mt B mm_L_law 3221 [.ref a0, .ref a1, .ref a2, .ref a3, .int x4, am_un, am_un, am_un, am_un] [] s := by
  exact rn_go 1 (pc' := 3221) (L' := [.ref a0, .ref a1, .ref a2, .ref a3, .int x4, am_un, am_un, am_un, am_un]) (st' := []) rfl
set_option maxRecDepth 20000 in
theorem dc_L_law_1489 {B : Nat} (a0 : Nat) (a1 : Nat) (a2 : Nat) (a3 : Nat) (x4 : Int32) (s : am_S) : rn_ tb_ct tb_mt B mm_L_law 1489 [.ref a0, .ref a1, .ref a2, .ref a3, .int x4, am_un, am_un, am_un, am_un] [] s = eI (aI s a0 (x4 + (1 : Int32))) (fun x_1 => eI (aI s a0 (x4 + (2 : Int32))) (fun x_2 => cI (cl_ tb_ct tb_mt B K_L_delete [.ref a1, .int x_1, .int x_2, .ref a3] s) (fun x_4 s_3 => eI (aI s_3 a0 (x4 + (1 : Int32))) (fun x_5 => eI (aI s_3 a0 (x4 + (2 : Int32))) (fun x_6 => eC (am_cls s_3 a2) 11 (cI (cl_ tb_ct tb_mt B K_X13_delete [.ref a2, .int x_5, .int x_6] s_3) (fun x_8 s_7 => eC (am_cls s_7 a2) 11 (cI (cl_ tb_ct tb_mt B K_X13_thrown [.ref a2] s_7) (fun x_10 s_9 => if x_10 = x_4 then if x_4 = 0 then eJ (aJ s_9 a3 (0 : Int32)) (fun x_11 => if (lg_cmp x_11 x_8.toInt64) = 0 then rn_ tb_ct tb_mt B mm_L_law 1554 [.ref a0, .ref a1, .ref a2, .ref a3, .int x4, .int x_4, .int x_8, am_un, am_un] [] s_9 else some (.inl (some (.int (0 : Int32))), s_9)) else rn_ tb_ct tb_mt B mm_L_law 1554 [.ref a0, .ref a1, .ref a2, .ref a3, .int x4, .int x_4, .int x_8, am_un, am_un] [] s_9 else some (.inl (some (.int (0 : Int32))), s_9)) xo)) xo)))) xo)) := by
  refine Eq.trans (rn_go 5 (pc' := 1495) (L' := [.ref a0, .ref a1, .ref a2, .ref a3, .int x4, am_un, am_un, am_un, am_un]) (st' := [.int (x4 + (1 : Int32)), .ref a0, .ref a1]) rfl) ?_
  refine Eq.trans (rn_aI (L' := [.ref a0, .ref a1, .ref a2, .ref a3, .int x4, am_un, am_un, am_un, am_un]) rfl rfl) ?_
  refine eI_c (fun x_1 => ?_)
  refine Eq.trans (rn_go 4 (pc' := 1501) (L' := [.ref a0, .ref a1, .ref a2, .ref a3, .int x4, am_un, am_un, am_un, am_un]) (st' := [.int (x4 + (2 : Int32)), .ref a0, .int x_1, .ref a1]) rfl) ?_
  refine Eq.trans (rn_aI (L' := [.ref a0, .ref a1, .ref a2, .ref a3, .int x4, am_un, am_un, am_un, am_un]) rfl rfl) ?_
  refine eI_c (fun x_2 => ?_)
  refine Eq.trans (rn_go 1 (pc' := 1503) (L' := [.ref a0, .ref a1, .ref a2, .ref a3, .int x4, am_un, am_un, am_un, am_un]) (st' := [.ref a3, .int x_2, .int x_1, .ref a1]) rfl) ?_
  refine Eq.trans (rn_sta (L' := [.ref a0, .ref a1, .ref a2, .ref a3, .int x4, am_un, am_un, am_un, am_un]) (as := [.ref a1, .int x_1, .int x_2, .ref a3]) (rest := []) rfl rfl rfl rfl rfl (Nat.le_of_ble_eq_true rfl) (by decide) rfl) ?_
  refine Eq.trans (cW_I rfl rfl rfl) ?_
  refine cI_c (fun x_4 s_3 => ?_) (xh_nil rfl)
  refine Eq.trans (rn_go 6 (pc' := 1514) (L' := [.ref a0, .ref a1, .ref a2, .ref a3, .int x4, .int x_4, am_un, am_un, am_un]) (st' := [.int (x4 + (1 : Int32)), .ref a0, .ref a2]) rfl) ?_
  refine Eq.trans (rn_aI (L' := [.ref a0, .ref a1, .ref a2, .ref a3, .int x4, .int x_4, am_un, am_un, am_un]) rfl rfl) ?_
  refine eI_c (fun x_5 => ?_)
  refine Eq.trans (rn_go 4 (pc' := 1520) (L' := [.ref a0, .ref a1, .ref a2, .ref a3, .int x4, .int x_4, am_un, am_un, am_un]) (st' := [.int (x4 + (2 : Int32)), .ref a0, .int x_5, .ref a2]) rfl) ?_
  refine Eq.trans (rn_aI (L' := [.ref a0, .ref a1, .ref a2, .ref a3, .int x4, .int x_4, am_un, am_un, am_un]) rfl rfl) ?_
  refine eI_c (fun x_6 => ?_)
  refine Eq.trans (rn_vir (L' := [.ref a0, .ref a1, .ref a2, .ref a3, .int x4, .int x_4, am_un, am_un, am_un]) (as := [.int x_5, .int x_6]) (rest := []) rfl rfl rfl rfl rfl (Nat.le_of_ble_eq_true rfl) (by decide) (by decide)) ?_
  refine eC_c ?_
  refine Eq.trans (cW_I rfl rfl rfl) ?_
  refine cI_c (fun x_8 s_7 => ?_) (xh_nil rfl)
  refine Eq.trans (rn_go 2 (pc' := 1527) (L' := [.ref a0, .ref a1, .ref a2, .ref a3, .int x4, .int x_4, .int x_8, am_un, am_un]) (st' := [.ref a2]) rfl) ?_
  refine Eq.trans (rn_vir (L' := [.ref a0, .ref a1, .ref a2, .ref a3, .int x4, .int x_4, .int x_8, am_un, am_un]) (as := []) (rest := []) rfl rfl rfl rfl rfl (Nat.le_of_ble_eq_true rfl) (by decide) (by decide)) ?_
  refine eC_c ?_
  refine Eq.trans (cW_I rfl rfl rfl) ?_
  refine cI_c (fun x_10 s_9 => ?_) (xh_nil rfl)
  refine Eq.trans (rn_go 1 (pc' := 1532) (L' := [.ref a0, .ref a1, .ref a2, .ref a3, .int x4, .int x_4, .int x_8, am_un, am_un]) (st' := [.int x_4, .int x_10]) rfl) ?_
  refine Eq.trans (rn_iceq (L' := [.ref a0, .ref a1, .ref a2, .ref a3, .int x4, .int x_4, .int x_8, am_un, am_un]) rfl rfl) ?_
  refine if_c ?_ ?_
  · refine Eq.trans (rn_go 1 (pc' := 1539) (L' := [.ref a0, .ref a1, .ref a2, .ref a3, .int x4, .int x_4, .int x_8, am_un, am_un]) (st' := [.int x_4]) rfl) ?_
    refine Eq.trans (rn_ifne (L' := [.ref a0, .ref a1, .ref a2, .ref a3, .int x4, .int x_4, .int x_8, am_un, am_un]) rfl rfl) ?_
    refine if_c ?_ ?_
    · refine Eq.trans (rn_go 2 (pc' := 1544) (L' := [.ref a0, .ref a1, .ref a2, .ref a3, .int x4, .int x_4, .int x_8, am_un, am_un]) (st' := [.int (0 : Int32), .ref a3]) rfl) ?_
      refine Eq.trans (rn_aJ (L' := [.ref a0, .ref a1, .ref a2, .ref a3, .int x4, .int x_4, .int x_8, am_un, am_un]) rfl rfl) ?_
      refine eJ_c (fun x_11 => ?_)
      refine Eq.trans (rn_go 3 (pc' := 1549) (L' := [.ref a0, .ref a1, .ref a2, .ref a3, .int x4, .int x_4, .int x_8, am_un, am_un]) (st' := [.int (lg_cmp x_11 x_8.toInt64)]) rfl) ?_
      refine Eq.trans (rn_ifeq (L' := [.ref a0, .ref a1, .ref a2, .ref a3, .int x4, .int x_4, .int x_8, am_un, am_un]) rfl rfl) ?_
      refine if_c ?_ ?_
      · rfl
      · refine Eq.trans (rn_go 1 (pc' := 1553) (L' := [.ref a0, .ref a1, .ref a2, .ref a3, .int x4, .int x_4, .int x_8, am_un, am_un]) (st' := [.int (0 : Int32)]) rfl) ?_
        exact rn_retI rfl rfl rfl
    · rfl
  · refine Eq.trans (rn_go 1 (pc' := 1536) (L' := [.ref a0, .ref a1, .ref a2, .ref a3, .int x4, .int x_4, .int x_8, am_un, am_un]) (st' := [.int (0 : Int32)]) rfl) ?_
    exact rn_retI rfl rfl rfl
set_option maxRecDepth 20000 in
theorem dc_L_law_1554 {B : Nat} (a0 : Nat) (a1 : Nat) (a2 : Nat) (a3 : Nat) (x4 : Int32) (w5 : Value) (w6 : Value) (s : am_S) : rn_ tb_ct tb_mt B mm_L_law 1554 [.ref a0, .ref a1, .ref a2, .ref a3, .int x4, w5, w6, am_un, am_un] [] s = rn_ tb_ct tb_mt B mm_L_law 3221 [.ref a0, .ref a1, .ref a2, .ref a3, .int x4, am_un, am_un, am_un, am_un] [] s := by
  exact rn_go 1 (pc' := 3221) (L' := [.ref a0, .ref a1, .ref a2, .ref a3, .int x4, am_un, am_un, am_un, am_un]) (st' := []) rfl
set_option maxRecDepth 20000 in
theorem dc_L_law_1557 {B : Nat} (a0 : Nat) (a1 : Nat) (a2 : Nat) (a3 : Nat) (x4 : Int32) (s : am_S) : rn_ tb_ct tb_mt B mm_L_law 1557 [.ref a0, .ref a1, .ref a2, .ref a3, .int x4, am_un, am_un, am_un, am_un] [] s = eI (aI s a0 (x4 + (1 : Int32))) (fun x_1 => cI (cl_ tb_ct tb_mt B K_L_compact [.ref a1, .int x_1, .ref a3] s) (fun x_3 s_2 => eI (aI s_2 a0 (x4 + (1 : Int32))) (fun x_4 => eC (am_cls s_2 a2) 11 (cI (cl_ tb_ct tb_mt B K_X13_compact [.ref a2, .int x_4] s_2) (fun x_6 s_5 => eC (am_cls s_5 a2) 11 (cI (cl_ tb_ct tb_mt B K_X13_thrown [.ref a2] s_5) (fun x_8 s_7 => if x_8 = x_3 then if x_3 = 0 then eJ (aJ s_7 a3 (0 : Int32)) (fun x_9 => if (lg_cmp x_9 x_6.toInt64) = 0 then rn_ tb_ct tb_mt B mm_L_law 1610 [.ref a0, .ref a1, .ref a2, .ref a3, .int x4, .int x_3, .int x_6, am_un, am_un] [] s_7 else some (.inl (some (.int (0 : Int32))), s_7)) else rn_ tb_ct tb_mt B mm_L_law 1610 [.ref a0, .ref a1, .ref a2, .ref a3, .int x4, .int x_3, .int x_6, am_un, am_un] [] s_7 else some (.inl (some (.int (0 : Int32))), s_7)) xo)) xo))) xo) := by
  refine Eq.trans (rn_go 5 (pc' := 1563) (L' := [.ref a0, .ref a1, .ref a2, .ref a3, .int x4, am_un, am_un, am_un, am_un]) (st' := [.int (x4 + (1 : Int32)), .ref a0, .ref a1]) rfl) ?_
  refine Eq.trans (rn_aI (L' := [.ref a0, .ref a1, .ref a2, .ref a3, .int x4, am_un, am_un, am_un, am_un]) rfl rfl) ?_
  refine eI_c (fun x_1 => ?_)
  refine Eq.trans (rn_go 1 (pc' := 1565) (L' := [.ref a0, .ref a1, .ref a2, .ref a3, .int x4, am_un, am_un, am_un, am_un]) (st' := [.ref a3, .int x_1, .ref a1]) rfl) ?_
  refine Eq.trans (rn_sta (L' := [.ref a0, .ref a1, .ref a2, .ref a3, .int x4, am_un, am_un, am_un, am_un]) (as := [.ref a1, .int x_1, .ref a3]) (rest := []) rfl rfl rfl rfl rfl (Nat.le_of_ble_eq_true rfl) (by decide) rfl) ?_
  refine Eq.trans (cW_I rfl rfl rfl) ?_
  refine cI_c (fun x_3 s_2 => ?_) (xh_nil rfl)
  refine Eq.trans (rn_go 6 (pc' := 1576) (L' := [.ref a0, .ref a1, .ref a2, .ref a3, .int x4, .int x_3, am_un, am_un, am_un]) (st' := [.int (x4 + (1 : Int32)), .ref a0, .ref a2]) rfl) ?_
  refine Eq.trans (rn_aI (L' := [.ref a0, .ref a1, .ref a2, .ref a3, .int x4, .int x_3, am_un, am_un, am_un]) rfl rfl) ?_
  refine eI_c (fun x_4 => ?_)
  refine Eq.trans (rn_vir (L' := [.ref a0, .ref a1, .ref a2, .ref a3, .int x4, .int x_3, am_un, am_un, am_un]) (as := [.int x_4]) (rest := []) rfl rfl rfl rfl rfl (Nat.le_of_ble_eq_true rfl) (by decide) (by decide)) ?_
  refine eC_c ?_
  refine Eq.trans (cW_I rfl rfl rfl) ?_
  refine cI_c (fun x_6 s_5 => ?_) (xh_nil rfl)
  refine Eq.trans (rn_go 2 (pc' := 1583) (L' := [.ref a0, .ref a1, .ref a2, .ref a3, .int x4, .int x_3, .int x_6, am_un, am_un]) (st' := [.ref a2]) rfl) ?_
  refine Eq.trans (rn_vir (L' := [.ref a0, .ref a1, .ref a2, .ref a3, .int x4, .int x_3, .int x_6, am_un, am_un]) (as := []) (rest := []) rfl rfl rfl rfl rfl (Nat.le_of_ble_eq_true rfl) (by decide) (by decide)) ?_
  refine eC_c ?_
  refine Eq.trans (cW_I rfl rfl rfl) ?_
  refine cI_c (fun x_8 s_7 => ?_) (xh_nil rfl)
  refine Eq.trans (rn_go 1 (pc' := 1588) (L' := [.ref a0, .ref a1, .ref a2, .ref a3, .int x4, .int x_3, .int x_6, am_un, am_un]) (st' := [.int x_3, .int x_8]) rfl) ?_
  refine Eq.trans (rn_iceq (L' := [.ref a0, .ref a1, .ref a2, .ref a3, .int x4, .int x_3, .int x_6, am_un, am_un]) rfl rfl) ?_
  refine if_c ?_ ?_
  · refine Eq.trans (rn_go 1 (pc' := 1595) (L' := [.ref a0, .ref a1, .ref a2, .ref a3, .int x4, .int x_3, .int x_6, am_un, am_un]) (st' := [.int x_3]) rfl) ?_
    refine Eq.trans (rn_ifne (L' := [.ref a0, .ref a1, .ref a2, .ref a3, .int x4, .int x_3, .int x_6, am_un, am_un]) rfl rfl) ?_
    refine if_c ?_ ?_
    · refine Eq.trans (rn_go 2 (pc' := 1600) (L' := [.ref a0, .ref a1, .ref a2, .ref a3, .int x4, .int x_3, .int x_6, am_un, am_un]) (st' := [.int (0 : Int32), .ref a3]) rfl) ?_
      refine Eq.trans (rn_aJ (L' := [.ref a0, .ref a1, .ref a2, .ref a3, .int x4, .int x_3, .int x_6, am_un, am_un]) rfl rfl) ?_
      refine eJ_c (fun x_9 => ?_)
      refine Eq.trans (rn_go 3 (pc' := 1605) (L' := [.ref a0, .ref a1, .ref a2, .ref a3, .int x4, .int x_3, .int x_6, am_un, am_un]) (st' := [.int (lg_cmp x_9 x_6.toInt64)]) rfl) ?_
      refine Eq.trans (rn_ifeq (L' := [.ref a0, .ref a1, .ref a2, .ref a3, .int x4, .int x_3, .int x_6, am_un, am_un]) rfl rfl) ?_
      refine if_c ?_ ?_
      · rfl
      · refine Eq.trans (rn_go 1 (pc' := 1609) (L' := [.ref a0, .ref a1, .ref a2, .ref a3, .int x4, .int x_3, .int x_6, am_un, am_un]) (st' := [.int (0 : Int32)]) rfl) ?_
        exact rn_retI rfl rfl rfl
    · rfl
  · refine Eq.trans (rn_go 1 (pc' := 1592) (L' := [.ref a0, .ref a1, .ref a2, .ref a3, .int x4, .int x_3, .int x_6, am_un, am_un]) (st' := [.int (0 : Int32)]) rfl) ?_
    exact rn_retI rfl rfl rfl
set_option maxRecDepth 20000 in
theorem dc_L_law_1610 {B : Nat} (a0 : Nat) (a1 : Nat) (a2 : Nat) (a3 : Nat) (x4 : Int32) (w5 : Value) (w6 : Value) (s : am_S) : rn_ tb_ct tb_mt B mm_L_law 1610 [.ref a0, .ref a1, .ref a2, .ref a3, .int x4, w5, w6, am_un, am_un] [] s = rn_ tb_ct tb_mt B mm_L_law 3221 [.ref a0, .ref a1, .ref a2, .ref a3, .int x4, am_un, am_un, am_un, am_un] [] s := by
  exact rn_go 1 (pc' := 3221) (L' := [.ref a0, .ref a1, .ref a2, .ref a3, .int x4, am_un, am_un, am_un, am_un]) (st' := []) rfl
set_option maxRecDepth 20000 in
theorem dc_L_law_1613 {B : Nat} (a0 : Nat) (a1 : Nat) (a2 : Nat) (a3 : Nat) (x4 : Int32) (s : am_S) : rn_ tb_ct tb_mt B mm_L_law 1613 [.ref a0, .ref a1, .ref a2, .ref a3, .int x4, am_un, am_un, am_un, am_un] [] s = eI (aI s a0 (x4 + (1 : Int32))) (fun x_1 => cI (cl_ tb_ct tb_mt B K_L_revert [.ref a1, .int x_1, .ref a3] s) (fun x_3 s_2 => eI (aI s_2 a0 (x4 + (1 : Int32))) (fun x_4 => eC (am_cls s_2 a2) 11 (cI (cl_ tb_ct tb_mt B K_X13_revert [.ref a2, .int x_4] s_2) (fun x_6 s_5 => eC (am_cls s_5 a2) 11 (cI (cl_ tb_ct tb_mt B K_X13_thrown [.ref a2] s_5) (fun x_8 s_7 => if x_8 = x_3 then if x_3 = 0 then eJ (aJ s_7 a3 (0 : Int32)) (fun x_9 => if (lg_cmp x_9 x_6.toInt64) = 0 then rn_ tb_ct tb_mt B mm_L_law 1666 [.ref a0, .ref a1, .ref a2, .ref a3, .int x4, .int x_3, .int x_6, am_un, am_un] [] s_7 else some (.inl (some (.int (0 : Int32))), s_7)) else rn_ tb_ct tb_mt B mm_L_law 1666 [.ref a0, .ref a1, .ref a2, .ref a3, .int x4, .int x_3, .int x_6, am_un, am_un] [] s_7 else some (.inl (some (.int (0 : Int32))), s_7)) xo)) xo))) xo) := by
  refine Eq.trans (rn_go 5 (pc' := 1619) (L' := [.ref a0, .ref a1, .ref a2, .ref a3, .int x4, am_un, am_un, am_un, am_un]) (st' := [.int (x4 + (1 : Int32)), .ref a0, .ref a1]) rfl) ?_
  refine Eq.trans (rn_aI (L' := [.ref a0, .ref a1, .ref a2, .ref a3, .int x4, am_un, am_un, am_un, am_un]) rfl rfl) ?_
  refine eI_c (fun x_1 => ?_)
  refine Eq.trans (rn_go 1 (pc' := 1621) (L' := [.ref a0, .ref a1, .ref a2, .ref a3, .int x4, am_un, am_un, am_un, am_un]) (st' := [.ref a3, .int x_1, .ref a1]) rfl) ?_
  refine Eq.trans (rn_sta (L' := [.ref a0, .ref a1, .ref a2, .ref a3, .int x4, am_un, am_un, am_un, am_un]) (as := [.ref a1, .int x_1, .ref a3]) (rest := []) rfl rfl rfl rfl rfl (Nat.le_of_ble_eq_true rfl) (by decide) rfl) ?_
  refine Eq.trans (cW_I rfl rfl rfl) ?_
  refine cI_c (fun x_3 s_2 => ?_) (xh_nil rfl)
  refine Eq.trans (rn_go 6 (pc' := 1632) (L' := [.ref a0, .ref a1, .ref a2, .ref a3, .int x4, .int x_3, am_un, am_un, am_un]) (st' := [.int (x4 + (1 : Int32)), .ref a0, .ref a2]) rfl) ?_
  refine Eq.trans (rn_aI (L' := [.ref a0, .ref a1, .ref a2, .ref a3, .int x4, .int x_3, am_un, am_un, am_un]) rfl rfl) ?_
  refine eI_c (fun x_4 => ?_)
  refine Eq.trans (rn_vir (L' := [.ref a0, .ref a1, .ref a2, .ref a3, .int x4, .int x_3, am_un, am_un, am_un]) (as := [.int x_4]) (rest := []) rfl rfl rfl rfl rfl (Nat.le_of_ble_eq_true rfl) (by decide) (by decide)) ?_
  refine eC_c ?_
  refine Eq.trans (cW_I rfl rfl rfl) ?_
  refine cI_c (fun x_6 s_5 => ?_) (xh_nil rfl)
  refine Eq.trans (rn_go 2 (pc' := 1639) (L' := [.ref a0, .ref a1, .ref a2, .ref a3, .int x4, .int x_3, .int x_6, am_un, am_un]) (st' := [.ref a2]) rfl) ?_
  refine Eq.trans (rn_vir (L' := [.ref a0, .ref a1, .ref a2, .ref a3, .int x4, .int x_3, .int x_6, am_un, am_un]) (as := []) (rest := []) rfl rfl rfl rfl rfl (Nat.le_of_ble_eq_true rfl) (by decide) (by decide)) ?_
  refine eC_c ?_
  refine Eq.trans (cW_I rfl rfl rfl) ?_
  refine cI_c (fun x_8 s_7 => ?_) (xh_nil rfl)
  refine Eq.trans (rn_go 1 (pc' := 1644) (L' := [.ref a0, .ref a1, .ref a2, .ref a3, .int x4, .int x_3, .int x_6, am_un, am_un]) (st' := [.int x_3, .int x_8]) rfl) ?_
  refine Eq.trans (rn_iceq (L' := [.ref a0, .ref a1, .ref a2, .ref a3, .int x4, .int x_3, .int x_6, am_un, am_un]) rfl rfl) ?_
  refine if_c ?_ ?_
  · refine Eq.trans (rn_go 1 (pc' := 1651) (L' := [.ref a0, .ref a1, .ref a2, .ref a3, .int x4, .int x_3, .int x_6, am_un, am_un]) (st' := [.int x_3]) rfl) ?_
    refine Eq.trans (rn_ifne (L' := [.ref a0, .ref a1, .ref a2, .ref a3, .int x4, .int x_3, .int x_6, am_un, am_un]) rfl rfl) ?_
    refine if_c ?_ ?_
    · refine Eq.trans (rn_go 2 (pc' := 1656) (L' := [.ref a0, .ref a1, .ref a2, .ref a3, .int x4, .int x_3, .int x_6, am_un, am_un]) (st' := [.int (0 : Int32), .ref a3]) rfl) ?_
      refine Eq.trans (rn_aJ (L' := [.ref a0, .ref a1, .ref a2, .ref a3, .int x4, .int x_3, .int x_6, am_un, am_un]) rfl rfl) ?_
      refine eJ_c (fun x_9 => ?_)
      refine Eq.trans (rn_go 3 (pc' := 1661) (L' := [.ref a0, .ref a1, .ref a2, .ref a3, .int x4, .int x_3, .int x_6, am_un, am_un]) (st' := [.int (lg_cmp x_9 x_6.toInt64)]) rfl) ?_
      refine Eq.trans (rn_ifeq (L' := [.ref a0, .ref a1, .ref a2, .ref a3, .int x4, .int x_3, .int x_6, am_un, am_un]) rfl rfl) ?_
      refine if_c ?_ ?_
      · rfl
      · refine Eq.trans (rn_go 1 (pc' := 1665) (L' := [.ref a0, .ref a1, .ref a2, .ref a3, .int x4, .int x_3, .int x_6, am_un, am_un]) (st' := [.int (0 : Int32)]) rfl) ?_
        exact rn_retI rfl rfl rfl
    · rfl
  · refine Eq.trans (rn_go 1 (pc' := 1648) (L' := [.ref a0, .ref a1, .ref a2, .ref a3, .int x4, .int x_3, .int x_6, am_un, am_un]) (st' := [.int (0 : Int32)]) rfl) ?_
    exact rn_retI rfl rfl rfl
set_option maxRecDepth 20000 in
theorem dc_L_law_1666 {B : Nat} (a0 : Nat) (a1 : Nat) (a2 : Nat) (a3 : Nat) (x4 : Int32) (w5 : Value) (w6 : Value) (s : am_S) : rn_ tb_ct tb_mt B mm_L_law 1666 [.ref a0, .ref a1, .ref a2, .ref a3, .int x4, w5, w6, am_un, am_un] [] s = rn_ tb_ct tb_mt B mm_L_law 3221 [.ref a0, .ref a1, .ref a2, .ref a3, .int x4, am_un, am_un, am_un, am_un] [] s := by
  exact rn_go 1 (pc' := 3221) (L' := [.ref a0, .ref a1, .ref a2, .ref a3, .int x4, am_un, am_un, am_un, am_un]) (st' := []) rfl
set_option maxRecDepth 20000 in
theorem dc_L_law_1669 {B : Nat} (a0 : Nat) (a1 : Nat) (a2 : Nat) (a3 : Nat) (x4 : Int32) (s : am_S) : rn_ tb_ct tb_mt B mm_L_law 1669 [.ref a0, .ref a1, .ref a2, .ref a3, .int x4, am_un, am_un, am_un, am_un] [] s = eI (aI s a0 (x4 + (1 : Int32))) (fun x_1 => eI (aI s a0 (x4 + (2 : Int32))) (fun x_2 => cI (cl_ tb_ct tb_mt B K_L_attach [.ref a1, .int x_1, .int x_2, .ref a3] s) (fun x_4 s_3 => eI (aI s_3 a0 (x4 + (1 : Int32))) (fun x_5 => eI (aI s_3 a0 (x4 + (2 : Int32))) (fun x_6 => eC (am_cls s_3 a2) 11 (cI (cl_ tb_ct tb_mt B K_X13_attach [.ref a2, .int x_5, .int x_6] s_3) (fun x_8 s_7 => eC (am_cls s_7 a2) 11 (cI (cl_ tb_ct tb_mt B K_X13_thrown [.ref a2] s_7) (fun x_10 s_9 => if x_10 = x_4 then if x_4 = 0 then eJ (aJ s_9 a3 (0 : Int32)) (fun x_11 => if (lg_cmp x_11 x_8.toInt64) = 0 then rn_ tb_ct tb_mt B mm_L_law 1734 [.ref a0, .ref a1, .ref a2, .ref a3, .int x4, .int x_4, .int x_8, am_un, am_un] [] s_9 else some (.inl (some (.int (0 : Int32))), s_9)) else rn_ tb_ct tb_mt B mm_L_law 1734 [.ref a0, .ref a1, .ref a2, .ref a3, .int x4, .int x_4, .int x_8, am_un, am_un] [] s_9 else some (.inl (some (.int (0 : Int32))), s_9)) xo)) xo)))) xo)) := by
  refine Eq.trans (rn_go 5 (pc' := 1675) (L' := [.ref a0, .ref a1, .ref a2, .ref a3, .int x4, am_un, am_un, am_un, am_un]) (st' := [.int (x4 + (1 : Int32)), .ref a0, .ref a1]) rfl) ?_
  refine Eq.trans (rn_aI (L' := [.ref a0, .ref a1, .ref a2, .ref a3, .int x4, am_un, am_un, am_un, am_un]) rfl rfl) ?_
  refine eI_c (fun x_1 => ?_)
  refine Eq.trans (rn_go 4 (pc' := 1681) (L' := [.ref a0, .ref a1, .ref a2, .ref a3, .int x4, am_un, am_un, am_un, am_un]) (st' := [.int (x4 + (2 : Int32)), .ref a0, .int x_1, .ref a1]) rfl) ?_
  refine Eq.trans (rn_aI (L' := [.ref a0, .ref a1, .ref a2, .ref a3, .int x4, am_un, am_un, am_un, am_un]) rfl rfl) ?_
  refine eI_c (fun x_2 => ?_)
  refine Eq.trans (rn_go 1 (pc' := 1683) (L' := [.ref a0, .ref a1, .ref a2, .ref a3, .int x4, am_un, am_un, am_un, am_un]) (st' := [.ref a3, .int x_2, .int x_1, .ref a1]) rfl) ?_
  refine Eq.trans (rn_sta (L' := [.ref a0, .ref a1, .ref a2, .ref a3, .int x4, am_un, am_un, am_un, am_un]) (as := [.ref a1, .int x_1, .int x_2, .ref a3]) (rest := []) rfl rfl rfl rfl rfl (Nat.le_of_ble_eq_true rfl) (by decide) rfl) ?_
  refine Eq.trans (cW_I rfl rfl rfl) ?_
  refine cI_c (fun x_4 s_3 => ?_) (xh_nil rfl)
  refine Eq.trans (rn_go 6 (pc' := 1694) (L' := [.ref a0, .ref a1, .ref a2, .ref a3, .int x4, .int x_4, am_un, am_un, am_un]) (st' := [.int (x4 + (1 : Int32)), .ref a0, .ref a2]) rfl) ?_
  refine Eq.trans (rn_aI (L' := [.ref a0, .ref a1, .ref a2, .ref a3, .int x4, .int x_4, am_un, am_un, am_un]) rfl rfl) ?_
  refine eI_c (fun x_5 => ?_)
  refine Eq.trans (rn_go 4 (pc' := 1700) (L' := [.ref a0, .ref a1, .ref a2, .ref a3, .int x4, .int x_4, am_un, am_un, am_un]) (st' := [.int (x4 + (2 : Int32)), .ref a0, .int x_5, .ref a2]) rfl) ?_
  refine Eq.trans (rn_aI (L' := [.ref a0, .ref a1, .ref a2, .ref a3, .int x4, .int x_4, am_un, am_un, am_un]) rfl rfl) ?_
  refine eI_c (fun x_6 => ?_)
  refine Eq.trans (rn_vir (L' := [.ref a0, .ref a1, .ref a2, .ref a3, .int x4, .int x_4, am_un, am_un, am_un]) (as := [.int x_5, .int x_6]) (rest := []) rfl rfl rfl rfl rfl (Nat.le_of_ble_eq_true rfl) (by decide) (by decide)) ?_
  refine eC_c ?_
  refine Eq.trans (cW_I rfl rfl rfl) ?_
  refine cI_c (fun x_8 s_7 => ?_) (xh_nil rfl)
  refine Eq.trans (rn_go 2 (pc' := 1707) (L' := [.ref a0, .ref a1, .ref a2, .ref a3, .int x4, .int x_4, .int x_8, am_un, am_un]) (st' := [.ref a2]) rfl) ?_
  refine Eq.trans (rn_vir (L' := [.ref a0, .ref a1, .ref a2, .ref a3, .int x4, .int x_4, .int x_8, am_un, am_un]) (as := []) (rest := []) rfl rfl rfl rfl rfl (Nat.le_of_ble_eq_true rfl) (by decide) (by decide)) ?_
  refine eC_c ?_
  refine Eq.trans (cW_I rfl rfl rfl) ?_
  refine cI_c (fun x_10 s_9 => ?_) (xh_nil rfl)
  refine Eq.trans (rn_go 1 (pc' := 1712) (L' := [.ref a0, .ref a1, .ref a2, .ref a3, .int x4, .int x_4, .int x_8, am_un, am_un]) (st' := [.int x_4, .int x_10]) rfl) ?_
  refine Eq.trans (rn_iceq (L' := [.ref a0, .ref a1, .ref a2, .ref a3, .int x4, .int x_4, .int x_8, am_un, am_un]) rfl rfl) ?_
  refine if_c ?_ ?_
  · refine Eq.trans (rn_go 1 (pc' := 1719) (L' := [.ref a0, .ref a1, .ref a2, .ref a3, .int x4, .int x_4, .int x_8, am_un, am_un]) (st' := [.int x_4]) rfl) ?_
    refine Eq.trans (rn_ifne (L' := [.ref a0, .ref a1, .ref a2, .ref a3, .int x4, .int x_4, .int x_8, am_un, am_un]) rfl rfl) ?_
    refine if_c ?_ ?_
    · refine Eq.trans (rn_go 2 (pc' := 1724) (L' := [.ref a0, .ref a1, .ref a2, .ref a3, .int x4, .int x_4, .int x_8, am_un, am_un]) (st' := [.int (0 : Int32), .ref a3]) rfl) ?_
      refine Eq.trans (rn_aJ (L' := [.ref a0, .ref a1, .ref a2, .ref a3, .int x4, .int x_4, .int x_8, am_un, am_un]) rfl rfl) ?_
      refine eJ_c (fun x_11 => ?_)
      refine Eq.trans (rn_go 3 (pc' := 1729) (L' := [.ref a0, .ref a1, .ref a2, .ref a3, .int x4, .int x_4, .int x_8, am_un, am_un]) (st' := [.int (lg_cmp x_11 x_8.toInt64)]) rfl) ?_
      refine Eq.trans (rn_ifeq (L' := [.ref a0, .ref a1, .ref a2, .ref a3, .int x4, .int x_4, .int x_8, am_un, am_un]) rfl rfl) ?_
      refine if_c ?_ ?_
      · rfl
      · refine Eq.trans (rn_go 1 (pc' := 1733) (L' := [.ref a0, .ref a1, .ref a2, .ref a3, .int x4, .int x_4, .int x_8, am_un, am_un]) (st' := [.int (0 : Int32)]) rfl) ?_
        exact rn_retI rfl rfl rfl
    · rfl
  · refine Eq.trans (rn_go 1 (pc' := 1716) (L' := [.ref a0, .ref a1, .ref a2, .ref a3, .int x4, .int x_4, .int x_8, am_un, am_un]) (st' := [.int (0 : Int32)]) rfl) ?_
    exact rn_retI rfl rfl rfl
set_option maxRecDepth 20000 in
theorem dc_L_law_1734 {B : Nat} (a0 : Nat) (a1 : Nat) (a2 : Nat) (a3 : Nat) (x4 : Int32) (w5 : Value) (w6 : Value) (s : am_S) : rn_ tb_ct tb_mt B mm_L_law 1734 [.ref a0, .ref a1, .ref a2, .ref a3, .int x4, w5, w6, am_un, am_un] [] s = rn_ tb_ct tb_mt B mm_L_law 3221 [.ref a0, .ref a1, .ref a2, .ref a3, .int x4, am_un, am_un, am_un, am_un] [] s := by
  exact rn_go 1 (pc' := 3221) (L' := [.ref a0, .ref a1, .ref a2, .ref a3, .int x4, am_un, am_un, am_un, am_un]) (st' := []) rfl
set_option maxRecDepth 20000 in
theorem dc_L_law_1737 {B : Nat} (a0 : Nat) (a1 : Nat) (a2 : Nat) (a3 : Nat) (x4 : Int32) (s : am_S) : rn_ tb_ct tb_mt B mm_L_law 1737 [.ref a0, .ref a1, .ref a2, .ref a3, .int x4, am_un, am_un, am_un, am_un] [] s = eI (aI s a0 (x4 + (1 : Int32))) (fun x_1 => eI (aI s a0 (x4 + (2 : Int32))) (fun x_2 => eI (aI s a0 (x4 + (3 : Int32))) (fun x_3 => eI (aI s a0 (x4 + (4 : Int32))) (fun x_4 => cI (cl_ tb_ct tb_mt B K_L_watch [.ref a1, .int x_1, .int x_2, .int x_3, .int x_4, .ref a3] s) (fun x_6 s_5 => eI (aI s_5 a0 (x4 + (1 : Int32))) (fun x_7 => eI (aI s_5 a0 (x4 + (2 : Int32))) (fun x_8 => eI (aI s_5 a0 (x4 + (3 : Int32))) (fun x_9 => eI (aI s_5 a0 (x4 + (4 : Int32))) (fun x_10 => eC (am_cls s_5 a2) 11 (cI (cl_ tb_ct tb_mt B K_X13_watch [.ref a2, .int x_7, .int x_8, .int x_9, .int x_10] s_5) (fun x_12 s_11 => eC (am_cls s_11 a2) 11 (cI (cl_ tb_ct tb_mt B K_X13_thrown [.ref a2] s_11) (fun x_14 s_13 => if x_14 = x_6 then if x_6 = 0 then eJ (aJ s_13 a3 (0 : Int32)) (fun x_15 => if (lg_cmp x_15 x_12.toInt64) = 0 then rn_ tb_ct tb_mt B mm_L_law 1826 [.ref a0, .ref a1, .ref a2, .ref a3, .int x4, .int x_6, .int x_12, am_un, am_un] [] s_13 else some (.inl (some (.int (0 : Int32))), s_13)) else rn_ tb_ct tb_mt B mm_L_law 1826 [.ref a0, .ref a1, .ref a2, .ref a3, .int x4, .int x_6, .int x_12, am_un, am_un] [] s_13 else some (.inl (some (.int (0 : Int32))), s_13)) xo)) xo)))))) xo)))) := by
  refine Eq.trans (rn_go 5 (pc' := 1743) (L' := [.ref a0, .ref a1, .ref a2, .ref a3, .int x4, am_un, am_un, am_un, am_un]) (st' := [.int (x4 + (1 : Int32)), .ref a0, .ref a1]) rfl) ?_
  refine Eq.trans (rn_aI (L' := [.ref a0, .ref a1, .ref a2, .ref a3, .int x4, am_un, am_un, am_un, am_un]) rfl rfl) ?_
  refine eI_c (fun x_1 => ?_)
  refine Eq.trans (rn_go 4 (pc' := 1749) (L' := [.ref a0, .ref a1, .ref a2, .ref a3, .int x4, am_un, am_un, am_un, am_un]) (st' := [.int (x4 + (2 : Int32)), .ref a0, .int x_1, .ref a1]) rfl) ?_
  refine Eq.trans (rn_aI (L' := [.ref a0, .ref a1, .ref a2, .ref a3, .int x4, am_un, am_un, am_un, am_un]) rfl rfl) ?_
  refine eI_c (fun x_2 => ?_)
  refine Eq.trans (rn_go 4 (pc' := 1755) (L' := [.ref a0, .ref a1, .ref a2, .ref a3, .int x4, am_un, am_un, am_un, am_un]) (st' := [.int (x4 + (3 : Int32)), .ref a0, .int x_2, .int x_1, .ref a1]) rfl) ?_
  refine Eq.trans (rn_aI (L' := [.ref a0, .ref a1, .ref a2, .ref a3, .int x4, am_un, am_un, am_un, am_un]) rfl rfl) ?_
  refine eI_c (fun x_3 => ?_)
  refine Eq.trans (rn_go 4 (pc' := 1761) (L' := [.ref a0, .ref a1, .ref a2, .ref a3, .int x4, am_un, am_un, am_un, am_un]) (st' := [.int (x4 + (4 : Int32)), .ref a0, .int x_3, .int x_2, .int x_1, .ref a1]) rfl) ?_
  refine Eq.trans (rn_aI (L' := [.ref a0, .ref a1, .ref a2, .ref a3, .int x4, am_un, am_un, am_un, am_un]) rfl rfl) ?_
  refine eI_c (fun x_4 => ?_)
  refine Eq.trans (rn_go 1 (pc' := 1763) (L' := [.ref a0, .ref a1, .ref a2, .ref a3, .int x4, am_un, am_un, am_un, am_un]) (st' := [.ref a3, .int x_4, .int x_3, .int x_2, .int x_1, .ref a1]) rfl) ?_
  refine Eq.trans (rn_sta (L' := [.ref a0, .ref a1, .ref a2, .ref a3, .int x4, am_un, am_un, am_un, am_un]) (as := [.ref a1, .int x_1, .int x_2, .int x_3, .int x_4, .ref a3]) (rest := []) rfl rfl rfl rfl rfl (Nat.le_of_ble_eq_true rfl) (by decide) rfl) ?_
  refine Eq.trans (cW_I rfl rfl rfl) ?_
  refine cI_c (fun x_6 s_5 => ?_) (xh_nil rfl)
  refine Eq.trans (rn_go 6 (pc' := 1774) (L' := [.ref a0, .ref a1, .ref a2, .ref a3, .int x4, .int x_6, am_un, am_un, am_un]) (st' := [.int (x4 + (1 : Int32)), .ref a0, .ref a2]) rfl) ?_
  refine Eq.trans (rn_aI (L' := [.ref a0, .ref a1, .ref a2, .ref a3, .int x4, .int x_6, am_un, am_un, am_un]) rfl rfl) ?_
  refine eI_c (fun x_7 => ?_)
  refine Eq.trans (rn_go 4 (pc' := 1780) (L' := [.ref a0, .ref a1, .ref a2, .ref a3, .int x4, .int x_6, am_un, am_un, am_un]) (st' := [.int (x4 + (2 : Int32)), .ref a0, .int x_7, .ref a2]) rfl) ?_
  refine Eq.trans (rn_aI (L' := [.ref a0, .ref a1, .ref a2, .ref a3, .int x4, .int x_6, am_un, am_un, am_un]) rfl rfl) ?_
  refine eI_c (fun x_8 => ?_)
  refine Eq.trans (rn_go 4 (pc' := 1786) (L' := [.ref a0, .ref a1, .ref a2, .ref a3, .int x4, .int x_6, am_un, am_un, am_un]) (st' := [.int (x4 + (3 : Int32)), .ref a0, .int x_8, .int x_7, .ref a2]) rfl) ?_
  refine Eq.trans (rn_aI (L' := [.ref a0, .ref a1, .ref a2, .ref a3, .int x4, .int x_6, am_un, am_un, am_un]) rfl rfl) ?_
  refine eI_c (fun x_9 => ?_)
  refine Eq.trans (rn_go 4 (pc' := 1792) (L' := [.ref a0, .ref a1, .ref a2, .ref a3, .int x4, .int x_6, am_un, am_un, am_un]) (st' := [.int (x4 + (4 : Int32)), .ref a0, .int x_9, .int x_8, .int x_7, .ref a2]) rfl) ?_
  refine Eq.trans (rn_aI (L' := [.ref a0, .ref a1, .ref a2, .ref a3, .int x4, .int x_6, am_un, am_un, am_un]) rfl rfl) ?_
  refine eI_c (fun x_10 => ?_)
  refine Eq.trans (rn_vir (L' := [.ref a0, .ref a1, .ref a2, .ref a3, .int x4, .int x_6, am_un, am_un, am_un]) (as := [.int x_7, .int x_8, .int x_9, .int x_10]) (rest := []) rfl rfl rfl rfl rfl (Nat.le_of_ble_eq_true rfl) (by decide) (by decide)) ?_
  refine eC_c ?_
  refine Eq.trans (cW_I rfl rfl rfl) ?_
  refine cI_c (fun x_12 s_11 => ?_) (xh_nil rfl)
  refine Eq.trans (rn_go 2 (pc' := 1799) (L' := [.ref a0, .ref a1, .ref a2, .ref a3, .int x4, .int x_6, .int x_12, am_un, am_un]) (st' := [.ref a2]) rfl) ?_
  refine Eq.trans (rn_vir (L' := [.ref a0, .ref a1, .ref a2, .ref a3, .int x4, .int x_6, .int x_12, am_un, am_un]) (as := []) (rest := []) rfl rfl rfl rfl rfl (Nat.le_of_ble_eq_true rfl) (by decide) (by decide)) ?_
  refine eC_c ?_
  refine Eq.trans (cW_I rfl rfl rfl) ?_
  refine cI_c (fun x_14 s_13 => ?_) (xh_nil rfl)
  refine Eq.trans (rn_go 1 (pc' := 1804) (L' := [.ref a0, .ref a1, .ref a2, .ref a3, .int x4, .int x_6, .int x_12, am_un, am_un]) (st' := [.int x_6, .int x_14]) rfl) ?_
  refine Eq.trans (rn_iceq (L' := [.ref a0, .ref a1, .ref a2, .ref a3, .int x4, .int x_6, .int x_12, am_un, am_un]) rfl rfl) ?_
  refine if_c ?_ ?_
  · refine Eq.trans (rn_go 1 (pc' := 1811) (L' := [.ref a0, .ref a1, .ref a2, .ref a3, .int x4, .int x_6, .int x_12, am_un, am_un]) (st' := [.int x_6]) rfl) ?_
    refine Eq.trans (rn_ifne (L' := [.ref a0, .ref a1, .ref a2, .ref a3, .int x4, .int x_6, .int x_12, am_un, am_un]) rfl rfl) ?_
    refine if_c ?_ ?_
    · refine Eq.trans (rn_go 2 (pc' := 1816) (L' := [.ref a0, .ref a1, .ref a2, .ref a3, .int x4, .int x_6, .int x_12, am_un, am_un]) (st' := [.int (0 : Int32), .ref a3]) rfl) ?_
      refine Eq.trans (rn_aJ (L' := [.ref a0, .ref a1, .ref a2, .ref a3, .int x4, .int x_6, .int x_12, am_un, am_un]) rfl rfl) ?_
      refine eJ_c (fun x_15 => ?_)
      refine Eq.trans (rn_go 3 (pc' := 1821) (L' := [.ref a0, .ref a1, .ref a2, .ref a3, .int x4, .int x_6, .int x_12, am_un, am_un]) (st' := [.int (lg_cmp x_15 x_12.toInt64)]) rfl) ?_
      refine Eq.trans (rn_ifeq (L' := [.ref a0, .ref a1, .ref a2, .ref a3, .int x4, .int x_6, .int x_12, am_un, am_un]) rfl rfl) ?_
      refine if_c ?_ ?_
      · rfl
      · refine Eq.trans (rn_go 1 (pc' := 1825) (L' := [.ref a0, .ref a1, .ref a2, .ref a3, .int x4, .int x_6, .int x_12, am_un, am_un]) (st' := [.int (0 : Int32)]) rfl) ?_
        exact rn_retI rfl rfl rfl
    · rfl
  · refine Eq.trans (rn_go 1 (pc' := 1808) (L' := [.ref a0, .ref a1, .ref a2, .ref a3, .int x4, .int x_6, .int x_12, am_un, am_un]) (st' := [.int (0 : Int32)]) rfl) ?_
    exact rn_retI rfl rfl rfl
set_option maxRecDepth 20000 in
theorem dc_L_law_1826 {B : Nat} (a0 : Nat) (a1 : Nat) (a2 : Nat) (a3 : Nat) (x4 : Int32) (w5 : Value) (w6 : Value) (s : am_S) : rn_ tb_ct tb_mt B mm_L_law 1826 [.ref a0, .ref a1, .ref a2, .ref a3, .int x4, w5, w6, am_un, am_un] [] s = rn_ tb_ct tb_mt B mm_L_law 3221 [.ref a0, .ref a1, .ref a2, .ref a3, .int x4, am_un, am_un, am_un, am_un] [] s := by
  exact rn_go 1 (pc' := 3221) (L' := [.ref a0, .ref a1, .ref a2, .ref a3, .int x4, am_un, am_un, am_un, am_un]) (st' := []) rfl
set_option maxRecDepth 20000 in
theorem dc_L_law_1829 {B : Nat} (a0 : Nat) (a1 : Nat) (a2 : Nat) (a3 : Nat) (x4 : Int32) (s : am_S) : rn_ tb_ct tb_mt B mm_L_law 1829 [.ref a0, .ref a1, .ref a2, .ref a3, .int x4, am_un, am_un, am_un, am_un] [] s = eI (aI s a0 (x4 + (1 : Int32))) (fun x_1 => eI (aI s a0 (x4 + (2 : Int32))) (fun x_2 => cI (cl_ tb_ct tb_mt B K_L_watchValue [.ref a1, .int x_1, .int x_2, .ref a3] s) (fun x_4 s_3 => eI (aI s_3 a0 (x4 + (1 : Int32))) (fun x_5 => eI (aI s_3 a0 (x4 + (2 : Int32))) (fun x_6 => eC (am_cls s_3 a2) 11 (cI (cl_ tb_ct tb_mt B K_X13_watchValue [.ref a2, .int x_5, .int x_6] s_3) (fun x_8 s_7 => eC (am_cls s_7 a2) 11 (cI (cl_ tb_ct tb_mt B K_X13_thrown [.ref a2] s_7) (fun x_10 s_9 => if x_10 = x_4 then if x_4 = 0 then eJ (aJ s_9 a3 (0 : Int32)) (fun x_11 => if (lg_cmp x_11 x_8.toInt64) = 0 then rn_ tb_ct tb_mt B mm_L_law 1894 [.ref a0, .ref a1, .ref a2, .ref a3, .int x4, .int x_4, .int x_8, am_un, am_un] [] s_9 else some (.inl (some (.int (0 : Int32))), s_9)) else rn_ tb_ct tb_mt B mm_L_law 1894 [.ref a0, .ref a1, .ref a2, .ref a3, .int x4, .int x_4, .int x_8, am_un, am_un] [] s_9 else some (.inl (some (.int (0 : Int32))), s_9)) xo)) xo)))) xo)) := by
  refine Eq.trans (rn_go 5 (pc' := 1835) (L' := [.ref a0, .ref a1, .ref a2, .ref a3, .int x4, am_un, am_un, am_un, am_un]) (st' := [.int (x4 + (1 : Int32)), .ref a0, .ref a1]) rfl) ?_
  refine Eq.trans (rn_aI (L' := [.ref a0, .ref a1, .ref a2, .ref a3, .int x4, am_un, am_un, am_un, am_un]) rfl rfl) ?_
  refine eI_c (fun x_1 => ?_)
  refine Eq.trans (rn_go 4 (pc' := 1841) (L' := [.ref a0, .ref a1, .ref a2, .ref a3, .int x4, am_un, am_un, am_un, am_un]) (st' := [.int (x4 + (2 : Int32)), .ref a0, .int x_1, .ref a1]) rfl) ?_
  refine Eq.trans (rn_aI (L' := [.ref a0, .ref a1, .ref a2, .ref a3, .int x4, am_un, am_un, am_un, am_un]) rfl rfl) ?_
  refine eI_c (fun x_2 => ?_)
  refine Eq.trans (rn_go 1 (pc' := 1843) (L' := [.ref a0, .ref a1, .ref a2, .ref a3, .int x4, am_un, am_un, am_un, am_un]) (st' := [.ref a3, .int x_2, .int x_1, .ref a1]) rfl) ?_
  refine Eq.trans (rn_sta (L' := [.ref a0, .ref a1, .ref a2, .ref a3, .int x4, am_un, am_un, am_un, am_un]) (as := [.ref a1, .int x_1, .int x_2, .ref a3]) (rest := []) rfl rfl rfl rfl rfl (Nat.le_of_ble_eq_true rfl) (by decide) rfl) ?_
  refine Eq.trans (cW_I rfl rfl rfl) ?_
  refine cI_c (fun x_4 s_3 => ?_) (xh_nil rfl)
  refine Eq.trans (rn_go 6 (pc' := 1854) (L' := [.ref a0, .ref a1, .ref a2, .ref a3, .int x4, .int x_4, am_un, am_un, am_un]) (st' := [.int (x4 + (1 : Int32)), .ref a0, .ref a2]) rfl) ?_
  refine Eq.trans (rn_aI (L' := [.ref a0, .ref a1, .ref a2, .ref a3, .int x4, .int x_4, am_un, am_un, am_un]) rfl rfl) ?_
  refine eI_c (fun x_5 => ?_)
  refine Eq.trans (rn_go 4 (pc' := 1860) (L' := [.ref a0, .ref a1, .ref a2, .ref a3, .int x4, .int x_4, am_un, am_un, am_un]) (st' := [.int (x4 + (2 : Int32)), .ref a0, .int x_5, .ref a2]) rfl) ?_
  refine Eq.trans (rn_aI (L' := [.ref a0, .ref a1, .ref a2, .ref a3, .int x4, .int x_4, am_un, am_un, am_un]) rfl rfl) ?_
  refine eI_c (fun x_6 => ?_)
  refine Eq.trans (rn_vir (L' := [.ref a0, .ref a1, .ref a2, .ref a3, .int x4, .int x_4, am_un, am_un, am_un]) (as := [.int x_5, .int x_6]) (rest := []) rfl rfl rfl rfl rfl (Nat.le_of_ble_eq_true rfl) (by decide) (by decide)) ?_
  refine eC_c ?_
  refine Eq.trans (cW_I rfl rfl rfl) ?_
  refine cI_c (fun x_8 s_7 => ?_) (xh_nil rfl)
  refine Eq.trans (rn_go 2 (pc' := 1867) (L' := [.ref a0, .ref a1, .ref a2, .ref a3, .int x4, .int x_4, .int x_8, am_un, am_un]) (st' := [.ref a2]) rfl) ?_
  refine Eq.trans (rn_vir (L' := [.ref a0, .ref a1, .ref a2, .ref a3, .int x4, .int x_4, .int x_8, am_un, am_un]) (as := []) (rest := []) rfl rfl rfl rfl rfl (Nat.le_of_ble_eq_true rfl) (by decide) (by decide)) ?_
  refine eC_c ?_
  refine Eq.trans (cW_I rfl rfl rfl) ?_
  refine cI_c (fun x_10 s_9 => ?_) (xh_nil rfl)
  refine Eq.trans (rn_go 1 (pc' := 1872) (L' := [.ref a0, .ref a1, .ref a2, .ref a3, .int x4, .int x_4, .int x_8, am_un, am_un]) (st' := [.int x_4, .int x_10]) rfl) ?_
  refine Eq.trans (rn_iceq (L' := [.ref a0, .ref a1, .ref a2, .ref a3, .int x4, .int x_4, .int x_8, am_un, am_un]) rfl rfl) ?_
  refine if_c ?_ ?_
  · refine Eq.trans (rn_go 1 (pc' := 1879) (L' := [.ref a0, .ref a1, .ref a2, .ref a3, .int x4, .int x_4, .int x_8, am_un, am_un]) (st' := [.int x_4]) rfl) ?_
    refine Eq.trans (rn_ifne (L' := [.ref a0, .ref a1, .ref a2, .ref a3, .int x4, .int x_4, .int x_8, am_un, am_un]) rfl rfl) ?_
    refine if_c ?_ ?_
    · refine Eq.trans (rn_go 2 (pc' := 1884) (L' := [.ref a0, .ref a1, .ref a2, .ref a3, .int x4, .int x_4, .int x_8, am_un, am_un]) (st' := [.int (0 : Int32), .ref a3]) rfl) ?_
      refine Eq.trans (rn_aJ (L' := [.ref a0, .ref a1, .ref a2, .ref a3, .int x4, .int x_4, .int x_8, am_un, am_un]) rfl rfl) ?_
      refine eJ_c (fun x_11 => ?_)
      refine Eq.trans (rn_go 3 (pc' := 1889) (L' := [.ref a0, .ref a1, .ref a2, .ref a3, .int x4, .int x_4, .int x_8, am_un, am_un]) (st' := [.int (lg_cmp x_11 x_8.toInt64)]) rfl) ?_
      refine Eq.trans (rn_ifeq (L' := [.ref a0, .ref a1, .ref a2, .ref a3, .int x4, .int x_4, .int x_8, am_un, am_un]) rfl rfl) ?_
      refine if_c ?_ ?_
      · rfl
      · refine Eq.trans (rn_go 1 (pc' := 1893) (L' := [.ref a0, .ref a1, .ref a2, .ref a3, .int x4, .int x_4, .int x_8, am_un, am_un]) (st' := [.int (0 : Int32)]) rfl) ?_
        exact rn_retI rfl rfl rfl
    · rfl
  · refine Eq.trans (rn_go 1 (pc' := 1876) (L' := [.ref a0, .ref a1, .ref a2, .ref a3, .int x4, .int x_4, .int x_8, am_un, am_un]) (st' := [.int (0 : Int32)]) rfl) ?_
    exact rn_retI rfl rfl rfl
set_option maxRecDepth 20000 in
theorem dc_L_law_1894 {B : Nat} (a0 : Nat) (a1 : Nat) (a2 : Nat) (a3 : Nat) (x4 : Int32) (w5 : Value) (w6 : Value) (s : am_S) : rn_ tb_ct tb_mt B mm_L_law 1894 [.ref a0, .ref a1, .ref a2, .ref a3, .int x4, w5, w6, am_un, am_un] [] s = rn_ tb_ct tb_mt B mm_L_law 3221 [.ref a0, .ref a1, .ref a2, .ref a3, .int x4, am_un, am_un, am_un, am_un] [] s := by
  exact rn_go 1 (pc' := 3221) (L' := [.ref a0, .ref a1, .ref a2, .ref a3, .int x4, am_un, am_un, am_un, am_un]) (st' := []) rfl
set_option maxRecDepth 20000 in
theorem dc_L_law_1897 {B : Nat} (a0 : Nat) (a1 : Nat) (a2 : Nat) (a3 : Nat) (x4 : Int32) (s : am_S) : rn_ tb_ct tb_mt B mm_L_law 1897 [.ref a0, .ref a1, .ref a2, .ref a3, .int x4, am_un, am_un, am_un, am_un] [] s = eI (aI s a0 (x4 + (1 : Int32))) (fun x_1 => cI (cl_ tb_ct tb_mt B K_L_take [.ref a1, .int x_1, .ref a3] s) (fun x_3 s_2 => eI (aI s_2 a0 (x4 + (1 : Int32))) (fun x_4 => eC (am_cls s_2 a2) 11 (cI (cl_ tb_ct tb_mt B K_X13_take [.ref a2, .int x_4] s_2) (fun x_6 s_5 => eC (am_cls s_5 a2) 11 (cI (cl_ tb_ct tb_mt B K_X13_thrown [.ref a2] s_5) (fun x_8 s_7 => if x_8 = x_3 then if x_3 = 0 then eJ (aJ s_7 a3 (0 : Int32)) (fun x_9 => if (lg_cmp x_9 x_6.toInt64) = 0 then rn_ tb_ct tb_mt B mm_L_law 1950 [.ref a0, .ref a1, .ref a2, .ref a3, .int x4, .int x_3, .int x_6, am_un, am_un] [] s_7 else some (.inl (some (.int (0 : Int32))), s_7)) else rn_ tb_ct tb_mt B mm_L_law 1950 [.ref a0, .ref a1, .ref a2, .ref a3, .int x4, .int x_3, .int x_6, am_un, am_un] [] s_7 else some (.inl (some (.int (0 : Int32))), s_7)) xo)) xo))) xo) := by
  refine Eq.trans (rn_go 5 (pc' := 1903) (L' := [.ref a0, .ref a1, .ref a2, .ref a3, .int x4, am_un, am_un, am_un, am_un]) (st' := [.int (x4 + (1 : Int32)), .ref a0, .ref a1]) rfl) ?_
  refine Eq.trans (rn_aI (L' := [.ref a0, .ref a1, .ref a2, .ref a3, .int x4, am_un, am_un, am_un, am_un]) rfl rfl) ?_
  refine eI_c (fun x_1 => ?_)
  refine Eq.trans (rn_go 1 (pc' := 1905) (L' := [.ref a0, .ref a1, .ref a2, .ref a3, .int x4, am_un, am_un, am_un, am_un]) (st' := [.ref a3, .int x_1, .ref a1]) rfl) ?_
  refine Eq.trans (rn_sta (L' := [.ref a0, .ref a1, .ref a2, .ref a3, .int x4, am_un, am_un, am_un, am_un]) (as := [.ref a1, .int x_1, .ref a3]) (rest := []) rfl rfl rfl rfl rfl (Nat.le_of_ble_eq_true rfl) (by decide) rfl) ?_
  refine Eq.trans (cW_I rfl rfl rfl) ?_
  refine cI_c (fun x_3 s_2 => ?_) (xh_nil rfl)
  refine Eq.trans (rn_go 6 (pc' := 1916) (L' := [.ref a0, .ref a1, .ref a2, .ref a3, .int x4, .int x_3, am_un, am_un, am_un]) (st' := [.int (x4 + (1 : Int32)), .ref a0, .ref a2]) rfl) ?_
  refine Eq.trans (rn_aI (L' := [.ref a0, .ref a1, .ref a2, .ref a3, .int x4, .int x_3, am_un, am_un, am_un]) rfl rfl) ?_
  refine eI_c (fun x_4 => ?_)
  refine Eq.trans (rn_vir (L' := [.ref a0, .ref a1, .ref a2, .ref a3, .int x4, .int x_3, am_un, am_un, am_un]) (as := [.int x_4]) (rest := []) rfl rfl rfl rfl rfl (Nat.le_of_ble_eq_true rfl) (by decide) (by decide)) ?_
  refine eC_c ?_
  refine Eq.trans (cW_I rfl rfl rfl) ?_
  refine cI_c (fun x_6 s_5 => ?_) (xh_nil rfl)
  refine Eq.trans (rn_go 2 (pc' := 1923) (L' := [.ref a0, .ref a1, .ref a2, .ref a3, .int x4, .int x_3, .int x_6, am_un, am_un]) (st' := [.ref a2]) rfl) ?_
  refine Eq.trans (rn_vir (L' := [.ref a0, .ref a1, .ref a2, .ref a3, .int x4, .int x_3, .int x_6, am_un, am_un]) (as := []) (rest := []) rfl rfl rfl rfl rfl (Nat.le_of_ble_eq_true rfl) (by decide) (by decide)) ?_
  refine eC_c ?_
  refine Eq.trans (cW_I rfl rfl rfl) ?_
  refine cI_c (fun x_8 s_7 => ?_) (xh_nil rfl)
  refine Eq.trans (rn_go 1 (pc' := 1928) (L' := [.ref a0, .ref a1, .ref a2, .ref a3, .int x4, .int x_3, .int x_6, am_un, am_un]) (st' := [.int x_3, .int x_8]) rfl) ?_
  refine Eq.trans (rn_iceq (L' := [.ref a0, .ref a1, .ref a2, .ref a3, .int x4, .int x_3, .int x_6, am_un, am_un]) rfl rfl) ?_
  refine if_c ?_ ?_
  · refine Eq.trans (rn_go 1 (pc' := 1935) (L' := [.ref a0, .ref a1, .ref a2, .ref a3, .int x4, .int x_3, .int x_6, am_un, am_un]) (st' := [.int x_3]) rfl) ?_
    refine Eq.trans (rn_ifne (L' := [.ref a0, .ref a1, .ref a2, .ref a3, .int x4, .int x_3, .int x_6, am_un, am_un]) rfl rfl) ?_
    refine if_c ?_ ?_
    · refine Eq.trans (rn_go 2 (pc' := 1940) (L' := [.ref a0, .ref a1, .ref a2, .ref a3, .int x4, .int x_3, .int x_6, am_un, am_un]) (st' := [.int (0 : Int32), .ref a3]) rfl) ?_
      refine Eq.trans (rn_aJ (L' := [.ref a0, .ref a1, .ref a2, .ref a3, .int x4, .int x_3, .int x_6, am_un, am_un]) rfl rfl) ?_
      refine eJ_c (fun x_9 => ?_)
      refine Eq.trans (rn_go 3 (pc' := 1945) (L' := [.ref a0, .ref a1, .ref a2, .ref a3, .int x4, .int x_3, .int x_6, am_un, am_un]) (st' := [.int (lg_cmp x_9 x_6.toInt64)]) rfl) ?_
      refine Eq.trans (rn_ifeq (L' := [.ref a0, .ref a1, .ref a2, .ref a3, .int x4, .int x_3, .int x_6, am_un, am_un]) rfl rfl) ?_
      refine if_c ?_ ?_
      · rfl
      · refine Eq.trans (rn_go 1 (pc' := 1949) (L' := [.ref a0, .ref a1, .ref a2, .ref a3, .int x4, .int x_3, .int x_6, am_un, am_un]) (st' := [.int (0 : Int32)]) rfl) ?_
        exact rn_retI rfl rfl rfl
    · rfl
  · refine Eq.trans (rn_go 1 (pc' := 1932) (L' := [.ref a0, .ref a1, .ref a2, .ref a3, .int x4, .int x_3, .int x_6, am_un, am_un]) (st' := [.int (0 : Int32)]) rfl) ?_
    exact rn_retI rfl rfl rfl
set_option maxRecDepth 20000 in
theorem dc_L_law_1950 {B : Nat} (a0 : Nat) (a1 : Nat) (a2 : Nat) (a3 : Nat) (x4 : Int32) (w5 : Value) (w6 : Value) (s : am_S) : rn_ tb_ct tb_mt B mm_L_law 1950 [.ref a0, .ref a1, .ref a2, .ref a3, .int x4, w5, w6, am_un, am_un] [] s = rn_ tb_ct tb_mt B mm_L_law 3221 [.ref a0, .ref a1, .ref a2, .ref a3, .int x4, am_un, am_un, am_un, am_un] [] s := by
  exact rn_go 1 (pc' := 3221) (L' := [.ref a0, .ref a1, .ref a2, .ref a3, .int x4, am_un, am_un, am_un, am_un]) (st' := []) rfl
set_option maxRecDepth 20000 in
theorem dc_L_law_1953 {B : Nat} (a0 : Nat) (a1 : Nat) (a2 : Nat) (a3 : Nat) (x4 : Int32) (s : am_S) : rn_ tb_ct tb_mt B mm_L_law 1953 [.ref a0, .ref a1, .ref a2, .ref a3, .int x4, am_un, am_un, am_un, am_un] [] s = eI (aI s a0 (x4 + (1 : Int32))) (fun x_1 => eI (aI s a0 (x4 + (2 : Int32))) (fun x_2 => cI (cl_ tb_ct tb_mt B K_L_taken [.ref a1, .int x_1, .int x_2, .ref a3] s) (fun x_4 s_3 => eI (aI s_3 a0 (x4 + (1 : Int32))) (fun x_5 => eI (aI s_3 a0 (x4 + (2 : Int32))) (fun x_6 => eC (am_cls s_3 a2) 11 (cI (cl_ tb_ct tb_mt B K_X13_taken [.ref a2, .int x_5, .int x_6] s_3) (fun x_8 s_7 => eC (am_cls s_7 a2) 11 (cI (cl_ tb_ct tb_mt B K_X13_thrown [.ref a2] s_7) (fun x_10 s_9 => if x_10 = x_4 then if x_4 = 0 then eJ (aJ s_9 a3 (0 : Int32)) (fun x_11 => if (lg_cmp x_11 x_8.toInt64) = 0 then rn_ tb_ct tb_mt B mm_L_law 2018 [.ref a0, .ref a1, .ref a2, .ref a3, .int x4, .int x_4, .int x_8, am_un, am_un] [] s_9 else some (.inl (some (.int (0 : Int32))), s_9)) else rn_ tb_ct tb_mt B mm_L_law 2018 [.ref a0, .ref a1, .ref a2, .ref a3, .int x4, .int x_4, .int x_8, am_un, am_un] [] s_9 else some (.inl (some (.int (0 : Int32))), s_9)) xo)) xo)))) xo)) := by
  refine Eq.trans (rn_go 5 (pc' := 1959) (L' := [.ref a0, .ref a1, .ref a2, .ref a3, .int x4, am_un, am_un, am_un, am_un]) (st' := [.int (x4 + (1 : Int32)), .ref a0, .ref a1]) rfl) ?_
  refine Eq.trans (rn_aI (L' := [.ref a0, .ref a1, .ref a2, .ref a3, .int x4, am_un, am_un, am_un, am_un]) rfl rfl) ?_
  refine eI_c (fun x_1 => ?_)
  refine Eq.trans (rn_go 4 (pc' := 1965) (L' := [.ref a0, .ref a1, .ref a2, .ref a3, .int x4, am_un, am_un, am_un, am_un]) (st' := [.int (x4 + (2 : Int32)), .ref a0, .int x_1, .ref a1]) rfl) ?_
  refine Eq.trans (rn_aI (L' := [.ref a0, .ref a1, .ref a2, .ref a3, .int x4, am_un, am_un, am_un, am_un]) rfl rfl) ?_
  refine eI_c (fun x_2 => ?_)
  refine Eq.trans (rn_go 1 (pc' := 1967) (L' := [.ref a0, .ref a1, .ref a2, .ref a3, .int x4, am_un, am_un, am_un, am_un]) (st' := [.ref a3, .int x_2, .int x_1, .ref a1]) rfl) ?_
  refine Eq.trans (rn_sta (L' := [.ref a0, .ref a1, .ref a2, .ref a3, .int x4, am_un, am_un, am_un, am_un]) (as := [.ref a1, .int x_1, .int x_2, .ref a3]) (rest := []) rfl rfl rfl rfl rfl (Nat.le_of_ble_eq_true rfl) (by decide) rfl) ?_
  refine Eq.trans (cW_I rfl rfl rfl) ?_
  refine cI_c (fun x_4 s_3 => ?_) (xh_nil rfl)
  refine Eq.trans (rn_go 6 (pc' := 1978) (L' := [.ref a0, .ref a1, .ref a2, .ref a3, .int x4, .int x_4, am_un, am_un, am_un]) (st' := [.int (x4 + (1 : Int32)), .ref a0, .ref a2]) rfl) ?_
  refine Eq.trans (rn_aI (L' := [.ref a0, .ref a1, .ref a2, .ref a3, .int x4, .int x_4, am_un, am_un, am_un]) rfl rfl) ?_
  refine eI_c (fun x_5 => ?_)
  refine Eq.trans (rn_go 4 (pc' := 1984) (L' := [.ref a0, .ref a1, .ref a2, .ref a3, .int x4, .int x_4, am_un, am_un, am_un]) (st' := [.int (x4 + (2 : Int32)), .ref a0, .int x_5, .ref a2]) rfl) ?_
  refine Eq.trans (rn_aI (L' := [.ref a0, .ref a1, .ref a2, .ref a3, .int x4, .int x_4, am_un, am_un, am_un]) rfl rfl) ?_
  refine eI_c (fun x_6 => ?_)
  refine Eq.trans (rn_vir (L' := [.ref a0, .ref a1, .ref a2, .ref a3, .int x4, .int x_4, am_un, am_un, am_un]) (as := [.int x_5, .int x_6]) (rest := []) rfl rfl rfl rfl rfl (Nat.le_of_ble_eq_true rfl) (by decide) (by decide)) ?_
  refine eC_c ?_
  refine Eq.trans (cW_I rfl rfl rfl) ?_
  refine cI_c (fun x_8 s_7 => ?_) (xh_nil rfl)
  refine Eq.trans (rn_go 2 (pc' := 1991) (L' := [.ref a0, .ref a1, .ref a2, .ref a3, .int x4, .int x_4, .int x_8, am_un, am_un]) (st' := [.ref a2]) rfl) ?_
  refine Eq.trans (rn_vir (L' := [.ref a0, .ref a1, .ref a2, .ref a3, .int x4, .int x_4, .int x_8, am_un, am_un]) (as := []) (rest := []) rfl rfl rfl rfl rfl (Nat.le_of_ble_eq_true rfl) (by decide) (by decide)) ?_
  refine eC_c ?_
  refine Eq.trans (cW_I rfl rfl rfl) ?_
  refine cI_c (fun x_10 s_9 => ?_) (xh_nil rfl)
  refine Eq.trans (rn_go 1 (pc' := 1996) (L' := [.ref a0, .ref a1, .ref a2, .ref a3, .int x4, .int x_4, .int x_8, am_un, am_un]) (st' := [.int x_4, .int x_10]) rfl) ?_
  refine Eq.trans (rn_iceq (L' := [.ref a0, .ref a1, .ref a2, .ref a3, .int x4, .int x_4, .int x_8, am_un, am_un]) rfl rfl) ?_
  refine if_c ?_ ?_
  · refine Eq.trans (rn_go 1 (pc' := 2003) (L' := [.ref a0, .ref a1, .ref a2, .ref a3, .int x4, .int x_4, .int x_8, am_un, am_un]) (st' := [.int x_4]) rfl) ?_
    refine Eq.trans (rn_ifne (L' := [.ref a0, .ref a1, .ref a2, .ref a3, .int x4, .int x_4, .int x_8, am_un, am_un]) rfl rfl) ?_
    refine if_c ?_ ?_
    · refine Eq.trans (rn_go 2 (pc' := 2008) (L' := [.ref a0, .ref a1, .ref a2, .ref a3, .int x4, .int x_4, .int x_8, am_un, am_un]) (st' := [.int (0 : Int32), .ref a3]) rfl) ?_
      refine Eq.trans (rn_aJ (L' := [.ref a0, .ref a1, .ref a2, .ref a3, .int x4, .int x_4, .int x_8, am_un, am_un]) rfl rfl) ?_
      refine eJ_c (fun x_11 => ?_)
      refine Eq.trans (rn_go 3 (pc' := 2013) (L' := [.ref a0, .ref a1, .ref a2, .ref a3, .int x4, .int x_4, .int x_8, am_un, am_un]) (st' := [.int (lg_cmp x_11 x_8.toInt64)]) rfl) ?_
      refine Eq.trans (rn_ifeq (L' := [.ref a0, .ref a1, .ref a2, .ref a3, .int x4, .int x_4, .int x_8, am_un, am_un]) rfl rfl) ?_
      refine if_c ?_ ?_
      · rfl
      · refine Eq.trans (rn_go 1 (pc' := 2017) (L' := [.ref a0, .ref a1, .ref a2, .ref a3, .int x4, .int x_4, .int x_8, am_un, am_un]) (st' := [.int (0 : Int32)]) rfl) ?_
        exact rn_retI rfl rfl rfl
    · rfl
  · refine Eq.trans (rn_go 1 (pc' := 2000) (L' := [.ref a0, .ref a1, .ref a2, .ref a3, .int x4, .int x_4, .int x_8, am_un, am_un]) (st' := [.int (0 : Int32)]) rfl) ?_
    exact rn_retI rfl rfl rfl
set_option maxRecDepth 20000 in
theorem dc_L_law_2018 {B : Nat} (a0 : Nat) (a1 : Nat) (a2 : Nat) (a3 : Nat) (x4 : Int32) (w5 : Value) (w6 : Value) (s : am_S) : rn_ tb_ct tb_mt B mm_L_law 2018 [.ref a0, .ref a1, .ref a2, .ref a3, .int x4, w5, w6, am_un, am_un] [] s = rn_ tb_ct tb_mt B mm_L_law 3221 [.ref a0, .ref a1, .ref a2, .ref a3, .int x4, am_un, am_un, am_un, am_un] [] s := by
  exact rn_go 1 (pc' := 3221) (L' := [.ref a0, .ref a1, .ref a2, .ref a3, .int x4, am_un, am_un, am_un, am_un]) (st' := []) rfl
set_option maxRecDepth 20000 in
theorem dc_L_law_2021 {B : Nat} (a0 : Nat) (a1 : Nat) (a2 : Nat) (a3 : Nat) (x4 : Int32) (s : am_S) : rn_ tb_ct tb_mt B mm_L_law 2021 [.ref a0, .ref a1, .ref a2, .ref a3, .int x4, am_un, am_un, am_un, am_un] [] s = eI (aI s a0 (x4 + (1 : Int32))) (fun x_1 => cI (cl_ tb_ct tb_mt B K_L_admit [.ref a1, .int x_1, .ref a3] s) (fun x_3 s_2 => eI (aI s_2 a0 (x4 + (1 : Int32))) (fun x_4 => eC (am_cls s_2 a2) 11 (cI (cl_ tb_ct tb_mt B K_X13_admit [.ref a2, .int x_4] s_2) (fun x_6 s_5 => eC (am_cls s_5 a2) 11 (cI (cl_ tb_ct tb_mt B K_X13_thrown [.ref a2] s_5) (fun x_8 s_7 => if x_8 = x_3 then if x_3 = 0 then eJ (aJ s_7 a3 (0 : Int32)) (fun x_9 => if (lg_cmp x_9 x_6.toInt64) = 0 then rn_ tb_ct tb_mt B mm_L_law 2074 [.ref a0, .ref a1, .ref a2, .ref a3, .int x4, .int x_3, .int x_6, am_un, am_un] [] s_7 else some (.inl (some (.int (0 : Int32))), s_7)) else rn_ tb_ct tb_mt B mm_L_law 2074 [.ref a0, .ref a1, .ref a2, .ref a3, .int x4, .int x_3, .int x_6, am_un, am_un] [] s_7 else some (.inl (some (.int (0 : Int32))), s_7)) xo)) xo))) xo) := by
  refine Eq.trans (rn_go 5 (pc' := 2027) (L' := [.ref a0, .ref a1, .ref a2, .ref a3, .int x4, am_un, am_un, am_un, am_un]) (st' := [.int (x4 + (1 : Int32)), .ref a0, .ref a1]) rfl) ?_
  refine Eq.trans (rn_aI (L' := [.ref a0, .ref a1, .ref a2, .ref a3, .int x4, am_un, am_un, am_un, am_un]) rfl rfl) ?_
  refine eI_c (fun x_1 => ?_)
  refine Eq.trans (rn_go 1 (pc' := 2029) (L' := [.ref a0, .ref a1, .ref a2, .ref a3, .int x4, am_un, am_un, am_un, am_un]) (st' := [.ref a3, .int x_1, .ref a1]) rfl) ?_
  refine Eq.trans (rn_sta (L' := [.ref a0, .ref a1, .ref a2, .ref a3, .int x4, am_un, am_un, am_un, am_un]) (as := [.ref a1, .int x_1, .ref a3]) (rest := []) rfl rfl rfl rfl rfl (Nat.le_of_ble_eq_true rfl) (by decide) rfl) ?_
  refine Eq.trans (cW_I rfl rfl rfl) ?_
  refine cI_c (fun x_3 s_2 => ?_) (xh_nil rfl)
  refine Eq.trans (rn_go 6 (pc' := 2040) (L' := [.ref a0, .ref a1, .ref a2, .ref a3, .int x4, .int x_3, am_un, am_un, am_un]) (st' := [.int (x4 + (1 : Int32)), .ref a0, .ref a2]) rfl) ?_
  refine Eq.trans (rn_aI (L' := [.ref a0, .ref a1, .ref a2, .ref a3, .int x4, .int x_3, am_un, am_un, am_un]) rfl rfl) ?_
  refine eI_c (fun x_4 => ?_)
  refine Eq.trans (rn_vir (L' := [.ref a0, .ref a1, .ref a2, .ref a3, .int x4, .int x_3, am_un, am_un, am_un]) (as := [.int x_4]) (rest := []) rfl rfl rfl rfl rfl (Nat.le_of_ble_eq_true rfl) (by decide) (by decide)) ?_
  refine eC_c ?_
  refine Eq.trans (cW_I rfl rfl rfl) ?_
  refine cI_c (fun x_6 s_5 => ?_) (xh_nil rfl)
  refine Eq.trans (rn_go 2 (pc' := 2047) (L' := [.ref a0, .ref a1, .ref a2, .ref a3, .int x4, .int x_3, .int x_6, am_un, am_un]) (st' := [.ref a2]) rfl) ?_
  refine Eq.trans (rn_vir (L' := [.ref a0, .ref a1, .ref a2, .ref a3, .int x4, .int x_3, .int x_6, am_un, am_un]) (as := []) (rest := []) rfl rfl rfl rfl rfl (Nat.le_of_ble_eq_true rfl) (by decide) (by decide)) ?_
  refine eC_c ?_
  refine Eq.trans (cW_I rfl rfl rfl) ?_
  refine cI_c (fun x_8 s_7 => ?_) (xh_nil rfl)
  refine Eq.trans (rn_go 1 (pc' := 2052) (L' := [.ref a0, .ref a1, .ref a2, .ref a3, .int x4, .int x_3, .int x_6, am_un, am_un]) (st' := [.int x_3, .int x_8]) rfl) ?_
  refine Eq.trans (rn_iceq (L' := [.ref a0, .ref a1, .ref a2, .ref a3, .int x4, .int x_3, .int x_6, am_un, am_un]) rfl rfl) ?_
  refine if_c ?_ ?_
  · refine Eq.trans (rn_go 1 (pc' := 2059) (L' := [.ref a0, .ref a1, .ref a2, .ref a3, .int x4, .int x_3, .int x_6, am_un, am_un]) (st' := [.int x_3]) rfl) ?_
    refine Eq.trans (rn_ifne (L' := [.ref a0, .ref a1, .ref a2, .ref a3, .int x4, .int x_3, .int x_6, am_un, am_un]) rfl rfl) ?_
    refine if_c ?_ ?_
    · refine Eq.trans (rn_go 2 (pc' := 2064) (L' := [.ref a0, .ref a1, .ref a2, .ref a3, .int x4, .int x_3, .int x_6, am_un, am_un]) (st' := [.int (0 : Int32), .ref a3]) rfl) ?_
      refine Eq.trans (rn_aJ (L' := [.ref a0, .ref a1, .ref a2, .ref a3, .int x4, .int x_3, .int x_6, am_un, am_un]) rfl rfl) ?_
      refine eJ_c (fun x_9 => ?_)
      refine Eq.trans (rn_go 3 (pc' := 2069) (L' := [.ref a0, .ref a1, .ref a2, .ref a3, .int x4, .int x_3, .int x_6, am_un, am_un]) (st' := [.int (lg_cmp x_9 x_6.toInt64)]) rfl) ?_
      refine Eq.trans (rn_ifeq (L' := [.ref a0, .ref a1, .ref a2, .ref a3, .int x4, .int x_3, .int x_6, am_un, am_un]) rfl rfl) ?_
      refine if_c ?_ ?_
      · rfl
      · refine Eq.trans (rn_go 1 (pc' := 2073) (L' := [.ref a0, .ref a1, .ref a2, .ref a3, .int x4, .int x_3, .int x_6, am_un, am_un]) (st' := [.int (0 : Int32)]) rfl) ?_
        exact rn_retI rfl rfl rfl
    · rfl
  · refine Eq.trans (rn_go 1 (pc' := 2056) (L' := [.ref a0, .ref a1, .ref a2, .ref a3, .int x4, .int x_3, .int x_6, am_un, am_un]) (st' := [.int (0 : Int32)]) rfl) ?_
    exact rn_retI rfl rfl rfl
set_option maxRecDepth 20000 in
theorem dc_L_law_2074 {B : Nat} (a0 : Nat) (a1 : Nat) (a2 : Nat) (a3 : Nat) (x4 : Int32) (w5 : Value) (w6 : Value) (s : am_S) : rn_ tb_ct tb_mt B mm_L_law 2074 [.ref a0, .ref a1, .ref a2, .ref a3, .int x4, w5, w6, am_un, am_un] [] s = rn_ tb_ct tb_mt B mm_L_law 3221 [.ref a0, .ref a1, .ref a2, .ref a3, .int x4, am_un, am_un, am_un, am_un] [] s := by
  exact rn_go 1 (pc' := 3221) (L' := [.ref a0, .ref a1, .ref a2, .ref a3, .int x4, am_un, am_un, am_un, am_un]) (st' := []) rfl
set_option maxRecDepth 20000 in
theorem dc_L_law_2077 {B : Nat} (a0 : Nat) (a1 : Nat) (a2 : Nat) (a3 : Nat) (x4 : Int32) (s : am_S) : rn_ tb_ct tb_mt B mm_L_law 2077 [.ref a0, .ref a1, .ref a2, .ref a3, .int x4, am_un, am_un, am_un, am_un] [] s = eI (aI s a0 (x4 + (1 : Int32))) (fun x_1 => eI (aI s a0 (x4 + (2 : Int32))) (fun x_2 => cI (cl_ tb_ct tb_mt B K_L_rewatch [.ref a1, .int x_1, .int x_2, .ref a3] s) (fun x_4 s_3 => eI (aI s_3 a0 (x4 + (1 : Int32))) (fun x_5 => eI (aI s_3 a0 (x4 + (2 : Int32))) (fun x_6 => eC (am_cls s_3 a2) 11 (cI (cl_ tb_ct tb_mt B K_X13_rewatch [.ref a2, .int x_5, .int x_6] s_3) (fun x_8 s_7 => eC (am_cls s_7 a2) 11 (cI (cl_ tb_ct tb_mt B K_X13_thrown [.ref a2] s_7) (fun x_10 s_9 => if x_10 = x_4 then if x_4 = 0 then eJ (aJ s_9 a3 (0 : Int32)) (fun x_11 => if (lg_cmp x_11 x_8.toInt64) = 0 then rn_ tb_ct tb_mt B mm_L_law 2142 [.ref a0, .ref a1, .ref a2, .ref a3, .int x4, .int x_4, .int x_8, am_un, am_un] [] s_9 else some (.inl (some (.int (0 : Int32))), s_9)) else rn_ tb_ct tb_mt B mm_L_law 2142 [.ref a0, .ref a1, .ref a2, .ref a3, .int x4, .int x_4, .int x_8, am_un, am_un] [] s_9 else some (.inl (some (.int (0 : Int32))), s_9)) xo)) xo)))) xo)) := by
  refine Eq.trans (rn_go 5 (pc' := 2083) (L' := [.ref a0, .ref a1, .ref a2, .ref a3, .int x4, am_un, am_un, am_un, am_un]) (st' := [.int (x4 + (1 : Int32)), .ref a0, .ref a1]) rfl) ?_
  refine Eq.trans (rn_aI (L' := [.ref a0, .ref a1, .ref a2, .ref a3, .int x4, am_un, am_un, am_un, am_un]) rfl rfl) ?_
  refine eI_c (fun x_1 => ?_)
  refine Eq.trans (rn_go 4 (pc' := 2089) (L' := [.ref a0, .ref a1, .ref a2, .ref a3, .int x4, am_un, am_un, am_un, am_un]) (st' := [.int (x4 + (2 : Int32)), .ref a0, .int x_1, .ref a1]) rfl) ?_
  refine Eq.trans (rn_aI (L' := [.ref a0, .ref a1, .ref a2, .ref a3, .int x4, am_un, am_un, am_un, am_un]) rfl rfl) ?_
  refine eI_c (fun x_2 => ?_)
  refine Eq.trans (rn_go 1 (pc' := 2091) (L' := [.ref a0, .ref a1, .ref a2, .ref a3, .int x4, am_un, am_un, am_un, am_un]) (st' := [.ref a3, .int x_2, .int x_1, .ref a1]) rfl) ?_
  refine Eq.trans (rn_sta (L' := [.ref a0, .ref a1, .ref a2, .ref a3, .int x4, am_un, am_un, am_un, am_un]) (as := [.ref a1, .int x_1, .int x_2, .ref a3]) (rest := []) rfl rfl rfl rfl rfl (Nat.le_of_ble_eq_true rfl) (by decide) rfl) ?_
  refine Eq.trans (cW_I rfl rfl rfl) ?_
  refine cI_c (fun x_4 s_3 => ?_) (xh_nil rfl)
  refine Eq.trans (rn_go 6 (pc' := 2102) (L' := [.ref a0, .ref a1, .ref a2, .ref a3, .int x4, .int x_4, am_un, am_un, am_un]) (st' := [.int (x4 + (1 : Int32)), .ref a0, .ref a2]) rfl) ?_
  refine Eq.trans (rn_aI (L' := [.ref a0, .ref a1, .ref a2, .ref a3, .int x4, .int x_4, am_un, am_un, am_un]) rfl rfl) ?_
  refine eI_c (fun x_5 => ?_)
  refine Eq.trans (rn_go 4 (pc' := 2108) (L' := [.ref a0, .ref a1, .ref a2, .ref a3, .int x4, .int x_4, am_un, am_un, am_un]) (st' := [.int (x4 + (2 : Int32)), .ref a0, .int x_5, .ref a2]) rfl) ?_
  refine Eq.trans (rn_aI (L' := [.ref a0, .ref a1, .ref a2, .ref a3, .int x4, .int x_4, am_un, am_un, am_un]) rfl rfl) ?_
  refine eI_c (fun x_6 => ?_)
  refine Eq.trans (rn_vir (L' := [.ref a0, .ref a1, .ref a2, .ref a3, .int x4, .int x_4, am_un, am_un, am_un]) (as := [.int x_5, .int x_6]) (rest := []) rfl rfl rfl rfl rfl (Nat.le_of_ble_eq_true rfl) (by decide) (by decide)) ?_
  refine eC_c ?_
  refine Eq.trans (cW_I rfl rfl rfl) ?_
  refine cI_c (fun x_8 s_7 => ?_) (xh_nil rfl)
  refine Eq.trans (rn_go 2 (pc' := 2115) (L' := [.ref a0, .ref a1, .ref a2, .ref a3, .int x4, .int x_4, .int x_8, am_un, am_un]) (st' := [.ref a2]) rfl) ?_
  refine Eq.trans (rn_vir (L' := [.ref a0, .ref a1, .ref a2, .ref a3, .int x4, .int x_4, .int x_8, am_un, am_un]) (as := []) (rest := []) rfl rfl rfl rfl rfl (Nat.le_of_ble_eq_true rfl) (by decide) (by decide)) ?_
  refine eC_c ?_
  refine Eq.trans (cW_I rfl rfl rfl) ?_
  refine cI_c (fun x_10 s_9 => ?_) (xh_nil rfl)
  refine Eq.trans (rn_go 1 (pc' := 2120) (L' := [.ref a0, .ref a1, .ref a2, .ref a3, .int x4, .int x_4, .int x_8, am_un, am_un]) (st' := [.int x_4, .int x_10]) rfl) ?_
  refine Eq.trans (rn_iceq (L' := [.ref a0, .ref a1, .ref a2, .ref a3, .int x4, .int x_4, .int x_8, am_un, am_un]) rfl rfl) ?_
  refine if_c ?_ ?_
  · refine Eq.trans (rn_go 1 (pc' := 2127) (L' := [.ref a0, .ref a1, .ref a2, .ref a3, .int x4, .int x_4, .int x_8, am_un, am_un]) (st' := [.int x_4]) rfl) ?_
    refine Eq.trans (rn_ifne (L' := [.ref a0, .ref a1, .ref a2, .ref a3, .int x4, .int x_4, .int x_8, am_un, am_un]) rfl rfl) ?_
    refine if_c ?_ ?_
    · refine Eq.trans (rn_go 2 (pc' := 2132) (L' := [.ref a0, .ref a1, .ref a2, .ref a3, .int x4, .int x_4, .int x_8, am_un, am_un]) (st' := [.int (0 : Int32), .ref a3]) rfl) ?_
      refine Eq.trans (rn_aJ (L' := [.ref a0, .ref a1, .ref a2, .ref a3, .int x4, .int x_4, .int x_8, am_un, am_un]) rfl rfl) ?_
      refine eJ_c (fun x_11 => ?_)
      refine Eq.trans (rn_go 3 (pc' := 2137) (L' := [.ref a0, .ref a1, .ref a2, .ref a3, .int x4, .int x_4, .int x_8, am_un, am_un]) (st' := [.int (lg_cmp x_11 x_8.toInt64)]) rfl) ?_
      refine Eq.trans (rn_ifeq (L' := [.ref a0, .ref a1, .ref a2, .ref a3, .int x4, .int x_4, .int x_8, am_un, am_un]) rfl rfl) ?_
      refine if_c ?_ ?_
      · rfl
      · refine Eq.trans (rn_go 1 (pc' := 2141) (L' := [.ref a0, .ref a1, .ref a2, .ref a3, .int x4, .int x_4, .int x_8, am_un, am_un]) (st' := [.int (0 : Int32)]) rfl) ?_
        exact rn_retI rfl rfl rfl
    · rfl
  · refine Eq.trans (rn_go 1 (pc' := 2124) (L' := [.ref a0, .ref a1, .ref a2, .ref a3, .int x4, .int x_4, .int x_8, am_un, am_un]) (st' := [.int (0 : Int32)]) rfl) ?_
    exact rn_retI rfl rfl rfl
set_option maxRecDepth 20000 in
theorem dc_L_law_2142 {B : Nat} (a0 : Nat) (a1 : Nat) (a2 : Nat) (a3 : Nat) (x4 : Int32) (w5 : Value) (w6 : Value) (s : am_S) : rn_ tb_ct tb_mt B mm_L_law 2142 [.ref a0, .ref a1, .ref a2, .ref a3, .int x4, w5, w6, am_un, am_un] [] s = rn_ tb_ct tb_mt B mm_L_law 3221 [.ref a0, .ref a1, .ref a2, .ref a3, .int x4, am_un, am_un, am_un, am_un] [] s := by
  exact rn_go 1 (pc' := 3221) (L' := [.ref a0, .ref a1, .ref a2, .ref a3, .int x4, am_un, am_un, am_un, am_un]) (st' := []) rfl
set_option maxRecDepth 20000 in
theorem dc_L_law_2145 {B : Nat} (a0 : Nat) (a1 : Nat) (a2 : Nat) (a3 : Nat) (x4 : Int32) (s : am_S) : rn_ tb_ct tb_mt B mm_L_law 2145 [.ref a0, .ref a1, .ref a2, .ref a3, .int x4, am_un, am_un, am_un, am_un] [] s = eI (aI s a0 (x4 + (1 : Int32))) (fun x_1 => cI (cl_ tb_ct tb_mt B K_L_unwatch [.ref a1, .int x_1, .ref a3] s) (fun x_3 s_2 => eI (aI s_2 a0 (x4 + (1 : Int32))) (fun x_4 => eC (am_cls s_2 a2) 11 (cI (cl_ tb_ct tb_mt B K_X13_unwatch [.ref a2, .int x_4] s_2) (fun x_6 s_5 => eC (am_cls s_5 a2) 11 (cI (cl_ tb_ct tb_mt B K_X13_thrown [.ref a2] s_5) (fun x_8 s_7 => if x_8 = x_3 then if x_3 = 0 then eJ (aJ s_7 a3 (0 : Int32)) (fun x_9 => if (lg_cmp x_9 x_6.toInt64) = 0 then rn_ tb_ct tb_mt B mm_L_law 2198 [.ref a0, .ref a1, .ref a2, .ref a3, .int x4, .int x_3, .int x_6, am_un, am_un] [] s_7 else some (.inl (some (.int (0 : Int32))), s_7)) else rn_ tb_ct tb_mt B mm_L_law 2198 [.ref a0, .ref a1, .ref a2, .ref a3, .int x4, .int x_3, .int x_6, am_un, am_un] [] s_7 else some (.inl (some (.int (0 : Int32))), s_7)) xo)) xo))) xo) := by
  refine Eq.trans (rn_go 5 (pc' := 2151) (L' := [.ref a0, .ref a1, .ref a2, .ref a3, .int x4, am_un, am_un, am_un, am_un]) (st' := [.int (x4 + (1 : Int32)), .ref a0, .ref a1]) rfl) ?_
  refine Eq.trans (rn_aI (L' := [.ref a0, .ref a1, .ref a2, .ref a3, .int x4, am_un, am_un, am_un, am_un]) rfl rfl) ?_
  refine eI_c (fun x_1 => ?_)
  refine Eq.trans (rn_go 1 (pc' := 2153) (L' := [.ref a0, .ref a1, .ref a2, .ref a3, .int x4, am_un, am_un, am_un, am_un]) (st' := [.ref a3, .int x_1, .ref a1]) rfl) ?_
  refine Eq.trans (rn_sta (L' := [.ref a0, .ref a1, .ref a2, .ref a3, .int x4, am_un, am_un, am_un, am_un]) (as := [.ref a1, .int x_1, .ref a3]) (rest := []) rfl rfl rfl rfl rfl (Nat.le_of_ble_eq_true rfl) (by decide) rfl) ?_
  refine Eq.trans (cW_I rfl rfl rfl) ?_
  refine cI_c (fun x_3 s_2 => ?_) (xh_nil rfl)
  refine Eq.trans (rn_go 6 (pc' := 2164) (L' := [.ref a0, .ref a1, .ref a2, .ref a3, .int x4, .int x_3, am_un, am_un, am_un]) (st' := [.int (x4 + (1 : Int32)), .ref a0, .ref a2]) rfl) ?_
  refine Eq.trans (rn_aI (L' := [.ref a0, .ref a1, .ref a2, .ref a3, .int x4, .int x_3, am_un, am_un, am_un]) rfl rfl) ?_
  refine eI_c (fun x_4 => ?_)
  refine Eq.trans (rn_vir (L' := [.ref a0, .ref a1, .ref a2, .ref a3, .int x4, .int x_3, am_un, am_un, am_un]) (as := [.int x_4]) (rest := []) rfl rfl rfl rfl rfl (Nat.le_of_ble_eq_true rfl) (by decide) (by decide)) ?_
  refine eC_c ?_
  refine Eq.trans (cW_I rfl rfl rfl) ?_
  refine cI_c (fun x_6 s_5 => ?_) (xh_nil rfl)
  refine Eq.trans (rn_go 2 (pc' := 2171) (L' := [.ref a0, .ref a1, .ref a2, .ref a3, .int x4, .int x_3, .int x_6, am_un, am_un]) (st' := [.ref a2]) rfl) ?_
  refine Eq.trans (rn_vir (L' := [.ref a0, .ref a1, .ref a2, .ref a3, .int x4, .int x_3, .int x_6, am_un, am_un]) (as := []) (rest := []) rfl rfl rfl rfl rfl (Nat.le_of_ble_eq_true rfl) (by decide) (by decide)) ?_
  refine eC_c ?_
  refine Eq.trans (cW_I rfl rfl rfl) ?_
  refine cI_c (fun x_8 s_7 => ?_) (xh_nil rfl)
  refine Eq.trans (rn_go 1 (pc' := 2176) (L' := [.ref a0, .ref a1, .ref a2, .ref a3, .int x4, .int x_3, .int x_6, am_un, am_un]) (st' := [.int x_3, .int x_8]) rfl) ?_
  refine Eq.trans (rn_iceq (L' := [.ref a0, .ref a1, .ref a2, .ref a3, .int x4, .int x_3, .int x_6, am_un, am_un]) rfl rfl) ?_
  refine if_c ?_ ?_
  · refine Eq.trans (rn_go 1 (pc' := 2183) (L' := [.ref a0, .ref a1, .ref a2, .ref a3, .int x4, .int x_3, .int x_6, am_un, am_un]) (st' := [.int x_3]) rfl) ?_
    refine Eq.trans (rn_ifne (L' := [.ref a0, .ref a1, .ref a2, .ref a3, .int x4, .int x_3, .int x_6, am_un, am_un]) rfl rfl) ?_
    refine if_c ?_ ?_
    · refine Eq.trans (rn_go 2 (pc' := 2188) (L' := [.ref a0, .ref a1, .ref a2, .ref a3, .int x4, .int x_3, .int x_6, am_un, am_un]) (st' := [.int (0 : Int32), .ref a3]) rfl) ?_
      refine Eq.trans (rn_aJ (L' := [.ref a0, .ref a1, .ref a2, .ref a3, .int x4, .int x_3, .int x_6, am_un, am_un]) rfl rfl) ?_
      refine eJ_c (fun x_9 => ?_)
      refine Eq.trans (rn_go 3 (pc' := 2193) (L' := [.ref a0, .ref a1, .ref a2, .ref a3, .int x4, .int x_3, .int x_6, am_un, am_un]) (st' := [.int (lg_cmp x_9 x_6.toInt64)]) rfl) ?_
      refine Eq.trans (rn_ifeq (L' := [.ref a0, .ref a1, .ref a2, .ref a3, .int x4, .int x_3, .int x_6, am_un, am_un]) rfl rfl) ?_
      refine if_c ?_ ?_
      · rfl
      · refine Eq.trans (rn_go 1 (pc' := 2197) (L' := [.ref a0, .ref a1, .ref a2, .ref a3, .int x4, .int x_3, .int x_6, am_un, am_un]) (st' := [.int (0 : Int32)]) rfl) ?_
        exact rn_retI rfl rfl rfl
    · rfl
  · refine Eq.trans (rn_go 1 (pc' := 2180) (L' := [.ref a0, .ref a1, .ref a2, .ref a3, .int x4, .int x_3, .int x_6, am_un, am_un]) (st' := [.int (0 : Int32)]) rfl) ?_
    exact rn_retI rfl rfl rfl
set_option maxRecDepth 20000 in
theorem dc_L_law_2198 {B : Nat} (a0 : Nat) (a1 : Nat) (a2 : Nat) (a3 : Nat) (x4 : Int32) (w5 : Value) (w6 : Value) (s : am_S) : rn_ tb_ct tb_mt B mm_L_law 2198 [.ref a0, .ref a1, .ref a2, .ref a3, .int x4, w5, w6, am_un, am_un] [] s = rn_ tb_ct tb_mt B mm_L_law 3221 [.ref a0, .ref a1, .ref a2, .ref a3, .int x4, am_un, am_un, am_un, am_un] [] s := by
  exact rn_go 1 (pc' := 3221) (L' := [.ref a0, .ref a1, .ref a2, .ref a3, .int x4, am_un, am_un, am_un, am_un]) (st' := []) rfl
set_option maxRecDepth 20000 in
theorem dc_L_law_2201 {B : Nat} (a0 : Nat) (a1 : Nat) (a2 : Nat) (a3 : Nat) (x4 : Int32) (s : am_S) : rn_ tb_ct tb_mt B mm_L_law 2201 [.ref a0, .ref a1, .ref a2, .ref a3, .int x4, am_un, am_un, am_un, am_un] [] s = eC (am_cls s a1) 10 (cI (cl_ tb_ct tb_mt B K_X12_safe [.ref a1] s) (fun x_2 s_1 => eC (am_cls s_1 a2) 11 (cI (cl_ tb_ct tb_mt B K_X13_safe [.ref a2] s_1) (fun x_4 s_3 => if x_2 = x_4 then rn_ tb_ct tb_mt B mm_L_law 3221 [.ref a0, .ref a1, .ref a2, .ref a3, .int x4, am_un, am_un, am_un, am_un] [] s_3 else some (.inl (some (.int (0 : Int32))), s_3)) xo)) xo) := by
  refine Eq.trans (rn_go 1 (pc' := 2202) (L' := [.ref a0, .ref a1, .ref a2, .ref a3, .int x4, am_un, am_un, am_un, am_un]) (st' := [.ref a1]) rfl) ?_
  refine Eq.trans (rn_vir (L' := [.ref a0, .ref a1, .ref a2, .ref a3, .int x4, am_un, am_un, am_un, am_un]) (as := []) (rest := []) rfl rfl rfl rfl rfl (Nat.le_of_ble_eq_true rfl) (by decide) (by decide)) ?_
  refine eC_c ?_
  refine Eq.trans (cW_I rfl rfl rfl) ?_
  refine cI_c (fun x_2 s_1 => ?_) (xh_nil rfl)
  refine Eq.trans (rn_go 1 (pc' := 2206) (L' := [.ref a0, .ref a1, .ref a2, .ref a3, .int x4, am_un, am_un, am_un, am_un]) (st' := [.ref a2, .int x_2]) rfl) ?_
  refine Eq.trans (rn_vir (L' := [.ref a0, .ref a1, .ref a2, .ref a3, .int x4, am_un, am_un, am_un, am_un]) (as := []) (rest := [.int x_2]) rfl rfl rfl rfl rfl (Nat.le_of_ble_eq_true rfl) (by decide) (by decide)) ?_
  refine eC_c ?_
  refine Eq.trans (cW_I rfl rfl rfl) ?_
  refine cI_c (fun x_4 s_3 => ?_) (xh_nil rfl)
  refine Eq.trans (rn_iceq (L' := [.ref a0, .ref a1, .ref a2, .ref a3, .int x4, am_un, am_un, am_un, am_un]) rfl rfl) ?_
  refine if_c ?_ ?_
  · rfl
  · refine Eq.trans (rn_go 1 (pc' := 2213) (L' := [.ref a0, .ref a1, .ref a2, .ref a3, .int x4, am_un, am_un, am_un, am_un]) (st' := [.int (0 : Int32)]) rfl) ?_
    exact rn_retI rfl rfl rfl
set_option maxRecDepth 20000 in
theorem dc_L_law_2214 {B : Nat} (a0 : Nat) (a1 : Nat) (a2 : Nat) (a3 : Nat) (x4 : Int32) (s : am_S) : rn_ tb_ct tb_mt B mm_L_law 2214 [.ref a0, .ref a1, .ref a2, .ref a3, .int x4, am_un, am_un, am_un, am_un] [] s = eI (aI s a0 (x4 + (1 : Int32))) (fun x_1 => cI (cl_ tb_ct tb_mt B K_L_missing [.ref a1, .int x_1, .ref a3] s) (fun x_3 s_2 => eI (aI s_2 a0 (x4 + (1 : Int32))) (fun x_4 => eC (am_cls s_2 a2) 11 (cI (cl_ tb_ct tb_mt B K_X13_missing [.ref a2, .int x_4] s_2) (fun x_6 s_5 => eC (am_cls s_5 a2) 11 (cI (cl_ tb_ct tb_mt B K_X13_thrown [.ref a2] s_5) (fun x_8 s_7 => if x_8 = x_3 then if x_3 = 0 then eJ (aJ s_7 a3 (0 : Int32)) (fun x_9 => if (lg_cmp x_9 x_6.toInt64) = 0 then rn_ tb_ct tb_mt B mm_L_law 2267 [.ref a0, .ref a1, .ref a2, .ref a3, .int x4, .int x_3, .int x_6, am_un, am_un] [] s_7 else some (.inl (some (.int (0 : Int32))), s_7)) else rn_ tb_ct tb_mt B mm_L_law 2267 [.ref a0, .ref a1, .ref a2, .ref a3, .int x4, .int x_3, .int x_6, am_un, am_un] [] s_7 else some (.inl (some (.int (0 : Int32))), s_7)) xo)) xo))) xo) := by
  refine Eq.trans (rn_go 5 (pc' := 2220) (L' := [.ref a0, .ref a1, .ref a2, .ref a3, .int x4, am_un, am_un, am_un, am_un]) (st' := [.int (x4 + (1 : Int32)), .ref a0, .ref a1]) rfl) ?_
  refine Eq.trans (rn_aI (L' := [.ref a0, .ref a1, .ref a2, .ref a3, .int x4, am_un, am_un, am_un, am_un]) rfl rfl) ?_
  refine eI_c (fun x_1 => ?_)
  refine Eq.trans (rn_go 1 (pc' := 2222) (L' := [.ref a0, .ref a1, .ref a2, .ref a3, .int x4, am_un, am_un, am_un, am_un]) (st' := [.ref a3, .int x_1, .ref a1]) rfl) ?_
  refine Eq.trans (rn_sta (L' := [.ref a0, .ref a1, .ref a2, .ref a3, .int x4, am_un, am_un, am_un, am_un]) (as := [.ref a1, .int x_1, .ref a3]) (rest := []) rfl rfl rfl rfl rfl (Nat.le_of_ble_eq_true rfl) (by decide) rfl) ?_
  refine Eq.trans (cW_I rfl rfl rfl) ?_
  refine cI_c (fun x_3 s_2 => ?_) (xh_nil rfl)
  refine Eq.trans (rn_go 6 (pc' := 2233) (L' := [.ref a0, .ref a1, .ref a2, .ref a3, .int x4, .int x_3, am_un, am_un, am_un]) (st' := [.int (x4 + (1 : Int32)), .ref a0, .ref a2]) rfl) ?_
  refine Eq.trans (rn_aI (L' := [.ref a0, .ref a1, .ref a2, .ref a3, .int x4, .int x_3, am_un, am_un, am_un]) rfl rfl) ?_
  refine eI_c (fun x_4 => ?_)
  refine Eq.trans (rn_vir (L' := [.ref a0, .ref a1, .ref a2, .ref a3, .int x4, .int x_3, am_un, am_un, am_un]) (as := [.int x_4]) (rest := []) rfl rfl rfl rfl rfl (Nat.le_of_ble_eq_true rfl) (by decide) (by decide)) ?_
  refine eC_c ?_
  refine Eq.trans (cW_I rfl rfl rfl) ?_
  refine cI_c (fun x_6 s_5 => ?_) (xh_nil rfl)
  refine Eq.trans (rn_go 2 (pc' := 2240) (L' := [.ref a0, .ref a1, .ref a2, .ref a3, .int x4, .int x_3, .int x_6, am_un, am_un]) (st' := [.ref a2]) rfl) ?_
  refine Eq.trans (rn_vir (L' := [.ref a0, .ref a1, .ref a2, .ref a3, .int x4, .int x_3, .int x_6, am_un, am_un]) (as := []) (rest := []) rfl rfl rfl rfl rfl (Nat.le_of_ble_eq_true rfl) (by decide) (by decide)) ?_
  refine eC_c ?_
  refine Eq.trans (cW_I rfl rfl rfl) ?_
  refine cI_c (fun x_8 s_7 => ?_) (xh_nil rfl)
  refine Eq.trans (rn_go 1 (pc' := 2245) (L' := [.ref a0, .ref a1, .ref a2, .ref a3, .int x4, .int x_3, .int x_6, am_un, am_un]) (st' := [.int x_3, .int x_8]) rfl) ?_
  refine Eq.trans (rn_iceq (L' := [.ref a0, .ref a1, .ref a2, .ref a3, .int x4, .int x_3, .int x_6, am_un, am_un]) rfl rfl) ?_
  refine if_c ?_ ?_
  · refine Eq.trans (rn_go 1 (pc' := 2252) (L' := [.ref a0, .ref a1, .ref a2, .ref a3, .int x4, .int x_3, .int x_6, am_un, am_un]) (st' := [.int x_3]) rfl) ?_
    refine Eq.trans (rn_ifne (L' := [.ref a0, .ref a1, .ref a2, .ref a3, .int x4, .int x_3, .int x_6, am_un, am_un]) rfl rfl) ?_
    refine if_c ?_ ?_
    · refine Eq.trans (rn_go 2 (pc' := 2257) (L' := [.ref a0, .ref a1, .ref a2, .ref a3, .int x4, .int x_3, .int x_6, am_un, am_un]) (st' := [.int (0 : Int32), .ref a3]) rfl) ?_
      refine Eq.trans (rn_aJ (L' := [.ref a0, .ref a1, .ref a2, .ref a3, .int x4, .int x_3, .int x_6, am_un, am_un]) rfl rfl) ?_
      refine eJ_c (fun x_9 => ?_)
      refine Eq.trans (rn_go 3 (pc' := 2262) (L' := [.ref a0, .ref a1, .ref a2, .ref a3, .int x4, .int x_3, .int x_6, am_un, am_un]) (st' := [.int (lg_cmp x_9 x_6.toInt64)]) rfl) ?_
      refine Eq.trans (rn_ifeq (L' := [.ref a0, .ref a1, .ref a2, .ref a3, .int x4, .int x_3, .int x_6, am_un, am_un]) rfl rfl) ?_
      refine if_c ?_ ?_
      · rfl
      · refine Eq.trans (rn_go 1 (pc' := 2266) (L' := [.ref a0, .ref a1, .ref a2, .ref a3, .int x4, .int x_3, .int x_6, am_un, am_un]) (st' := [.int (0 : Int32)]) rfl) ?_
        exact rn_retI rfl rfl rfl
    · rfl
  · refine Eq.trans (rn_go 1 (pc' := 2249) (L' := [.ref a0, .ref a1, .ref a2, .ref a3, .int x4, .int x_3, .int x_6, am_un, am_un]) (st' := [.int (0 : Int32)]) rfl) ?_
    exact rn_retI rfl rfl rfl
set_option maxRecDepth 20000 in
theorem dc_L_law_2267 {B : Nat} (a0 : Nat) (a1 : Nat) (a2 : Nat) (a3 : Nat) (x4 : Int32) (w5 : Value) (w6 : Value) (s : am_S) : rn_ tb_ct tb_mt B mm_L_law 2267 [.ref a0, .ref a1, .ref a2, .ref a3, .int x4, w5, w6, am_un, am_un] [] s = rn_ tb_ct tb_mt B mm_L_law 3221 [.ref a0, .ref a1, .ref a2, .ref a3, .int x4, am_un, am_un, am_un, am_un] [] s := by
  exact rn_go 1 (pc' := 3221) (L' := [.ref a0, .ref a1, .ref a2, .ref a3, .int x4, am_un, am_un, am_un, am_un]) (st' := []) rfl
set_option maxRecDepth 20000 in
theorem dc_L_law_2270 {B : Nat} (a0 : Nat) (a1 : Nat) (a2 : Nat) (a3 : Nat) (x4 : Int32) (s : am_S) : rn_ tb_ct tb_mt B mm_L_law 2270 [.ref a0, .ref a1, .ref a2, .ref a3, .int x4, am_un, am_un, am_un, am_un] [] s = eC (am_cls s a1) 10 (cI (cl_ tb_ct tb_mt B K_X12_slowest [.ref a1] s) (fun x_2 s_1 => eC (am_cls s_1 a2) 11 (cI (cl_ tb_ct tb_mt B K_X13_slowest [.ref a2] s_1) (fun x_4 s_3 => if x_2 = x_4 then rn_ tb_ct tb_mt B mm_L_law 3221 [.ref a0, .ref a1, .ref a2, .ref a3, .int x4, am_un, am_un, am_un, am_un] [] s_3 else some (.inl (some (.int (0 : Int32))), s_3)) xo)) xo) := by
  refine Eq.trans (rn_go 1 (pc' := 2271) (L' := [.ref a0, .ref a1, .ref a2, .ref a3, .int x4, am_un, am_un, am_un, am_un]) (st' := [.ref a1]) rfl) ?_
  refine Eq.trans (rn_vir (L' := [.ref a0, .ref a1, .ref a2, .ref a3, .int x4, am_un, am_un, am_un, am_un]) (as := []) (rest := []) rfl rfl rfl rfl rfl (Nat.le_of_ble_eq_true rfl) (by decide) (by decide)) ?_
  refine eC_c ?_
  refine Eq.trans (cW_I rfl rfl rfl) ?_
  refine cI_c (fun x_2 s_1 => ?_) (xh_nil rfl)
  refine Eq.trans (rn_go 1 (pc' := 2275) (L' := [.ref a0, .ref a1, .ref a2, .ref a3, .int x4, am_un, am_un, am_un, am_un]) (st' := [.ref a2, .int x_2]) rfl) ?_
  refine Eq.trans (rn_vir (L' := [.ref a0, .ref a1, .ref a2, .ref a3, .int x4, am_un, am_un, am_un, am_un]) (as := []) (rest := [.int x_2]) rfl rfl rfl rfl rfl (Nat.le_of_ble_eq_true rfl) (by decide) (by decide)) ?_
  refine eC_c ?_
  refine Eq.trans (cW_I rfl rfl rfl) ?_
  refine cI_c (fun x_4 s_3 => ?_) (xh_nil rfl)
  refine Eq.trans (rn_iceq (L' := [.ref a0, .ref a1, .ref a2, .ref a3, .int x4, am_un, am_un, am_un, am_un]) rfl rfl) ?_
  refine if_c ?_ ?_
  · rfl
  · refine Eq.trans (rn_go 1 (pc' := 2282) (L' := [.ref a0, .ref a1, .ref a2, .ref a3, .int x4, am_un, am_un, am_un, am_un]) (st' := [.int (0 : Int32)]) rfl) ?_
    exact rn_retI rfl rfl rfl
set_option maxRecDepth 20000 in
theorem dc_L_law_2283 {B : Nat} (a0 : Nat) (a1 : Nat) (a2 : Nat) (a3 : Nat) (x4 : Int32) (s : am_S) : rn_ tb_ct tb_mt B mm_L_law 2283 [.ref a0, .ref a1, .ref a2, .ref a3, .int x4, am_un, am_un, am_un, am_un] [] s = eI (aI s a0 (x4 + (1 : Int32))) (fun x_1 => cI (cl_ tb_ct tb_mt B K_L_behind [.ref a1, .int x_1, .ref a3] s) (fun x_3 s_2 => eI (aI s_2 a0 (x4 + (1 : Int32))) (fun x_4 => eC (am_cls s_2 a2) 11 (cI (cl_ tb_ct tb_mt B K_X13_behind [.ref a2, .int x_4] s_2) (fun x_6 s_5 => eC (am_cls s_5 a2) 11 (cI (cl_ tb_ct tb_mt B K_X13_thrown [.ref a2] s_5) (fun x_8 s_7 => if x_8 = x_3 then if x_3 = 0 then eJ (aJ s_7 a3 (0 : Int32)) (fun x_9 => if (lg_cmp x_9 x_6.toInt64) = 0 then rn_ tb_ct tb_mt B mm_L_law 2336 [.ref a0, .ref a1, .ref a2, .ref a3, .int x4, .int x_3, .int x_6, am_un, am_un] [] s_7 else some (.inl (some (.int (0 : Int32))), s_7)) else rn_ tb_ct tb_mt B mm_L_law 2336 [.ref a0, .ref a1, .ref a2, .ref a3, .int x4, .int x_3, .int x_6, am_un, am_un] [] s_7 else some (.inl (some (.int (0 : Int32))), s_7)) xo)) xo))) xo) := by
  refine Eq.trans (rn_go 5 (pc' := 2289) (L' := [.ref a0, .ref a1, .ref a2, .ref a3, .int x4, am_un, am_un, am_un, am_un]) (st' := [.int (x4 + (1 : Int32)), .ref a0, .ref a1]) rfl) ?_
  refine Eq.trans (rn_aI (L' := [.ref a0, .ref a1, .ref a2, .ref a3, .int x4, am_un, am_un, am_un, am_un]) rfl rfl) ?_
  refine eI_c (fun x_1 => ?_)
  refine Eq.trans (rn_go 1 (pc' := 2291) (L' := [.ref a0, .ref a1, .ref a2, .ref a3, .int x4, am_un, am_un, am_un, am_un]) (st' := [.ref a3, .int x_1, .ref a1]) rfl) ?_
  refine Eq.trans (rn_sta (L' := [.ref a0, .ref a1, .ref a2, .ref a3, .int x4, am_un, am_un, am_un, am_un]) (as := [.ref a1, .int x_1, .ref a3]) (rest := []) rfl rfl rfl rfl rfl (Nat.le_of_ble_eq_true rfl) (by decide) rfl) ?_
  refine Eq.trans (cW_I rfl rfl rfl) ?_
  refine cI_c (fun x_3 s_2 => ?_) (xh_nil rfl)
  refine Eq.trans (rn_go 6 (pc' := 2302) (L' := [.ref a0, .ref a1, .ref a2, .ref a3, .int x4, .int x_3, am_un, am_un, am_un]) (st' := [.int (x4 + (1 : Int32)), .ref a0, .ref a2]) rfl) ?_
  refine Eq.trans (rn_aI (L' := [.ref a0, .ref a1, .ref a2, .ref a3, .int x4, .int x_3, am_un, am_un, am_un]) rfl rfl) ?_
  refine eI_c (fun x_4 => ?_)
  refine Eq.trans (rn_vir (L' := [.ref a0, .ref a1, .ref a2, .ref a3, .int x4, .int x_3, am_un, am_un, am_un]) (as := [.int x_4]) (rest := []) rfl rfl rfl rfl rfl (Nat.le_of_ble_eq_true rfl) (by decide) (by decide)) ?_
  refine eC_c ?_
  refine Eq.trans (cW_I rfl rfl rfl) ?_
  refine cI_c (fun x_6 s_5 => ?_) (xh_nil rfl)
  refine Eq.trans (rn_go 2 (pc' := 2309) (L' := [.ref a0, .ref a1, .ref a2, .ref a3, .int x4, .int x_3, .int x_6, am_un, am_un]) (st' := [.ref a2]) rfl) ?_
  refine Eq.trans (rn_vir (L' := [.ref a0, .ref a1, .ref a2, .ref a3, .int x4, .int x_3, .int x_6, am_un, am_un]) (as := []) (rest := []) rfl rfl rfl rfl rfl (Nat.le_of_ble_eq_true rfl) (by decide) (by decide)) ?_
  refine eC_c ?_
  refine Eq.trans (cW_I rfl rfl rfl) ?_
  refine cI_c (fun x_8 s_7 => ?_) (xh_nil rfl)
  refine Eq.trans (rn_go 1 (pc' := 2314) (L' := [.ref a0, .ref a1, .ref a2, .ref a3, .int x4, .int x_3, .int x_6, am_un, am_un]) (st' := [.int x_3, .int x_8]) rfl) ?_
  refine Eq.trans (rn_iceq (L' := [.ref a0, .ref a1, .ref a2, .ref a3, .int x4, .int x_3, .int x_6, am_un, am_un]) rfl rfl) ?_
  refine if_c ?_ ?_
  · refine Eq.trans (rn_go 1 (pc' := 2321) (L' := [.ref a0, .ref a1, .ref a2, .ref a3, .int x4, .int x_3, .int x_6, am_un, am_un]) (st' := [.int x_3]) rfl) ?_
    refine Eq.trans (rn_ifne (L' := [.ref a0, .ref a1, .ref a2, .ref a3, .int x4, .int x_3, .int x_6, am_un, am_un]) rfl rfl) ?_
    refine if_c ?_ ?_
    · refine Eq.trans (rn_go 2 (pc' := 2326) (L' := [.ref a0, .ref a1, .ref a2, .ref a3, .int x4, .int x_3, .int x_6, am_un, am_un]) (st' := [.int (0 : Int32), .ref a3]) rfl) ?_
      refine Eq.trans (rn_aJ (L' := [.ref a0, .ref a1, .ref a2, .ref a3, .int x4, .int x_3, .int x_6, am_un, am_un]) rfl rfl) ?_
      refine eJ_c (fun x_9 => ?_)
      refine Eq.trans (rn_go 3 (pc' := 2331) (L' := [.ref a0, .ref a1, .ref a2, .ref a3, .int x4, .int x_3, .int x_6, am_un, am_un]) (st' := [.int (lg_cmp x_9 x_6.toInt64)]) rfl) ?_
      refine Eq.trans (rn_ifeq (L' := [.ref a0, .ref a1, .ref a2, .ref a3, .int x4, .int x_3, .int x_6, am_un, am_un]) rfl rfl) ?_
      refine if_c ?_ ?_
      · rfl
      · refine Eq.trans (rn_go 1 (pc' := 2335) (L' := [.ref a0, .ref a1, .ref a2, .ref a3, .int x4, .int x_3, .int x_6, am_un, am_un]) (st' := [.int (0 : Int32)]) rfl) ?_
        exact rn_retI rfl rfl rfl
    · rfl
  · refine Eq.trans (rn_go 1 (pc' := 2318) (L' := [.ref a0, .ref a1, .ref a2, .ref a3, .int x4, .int x_3, .int x_6, am_un, am_un]) (st' := [.int (0 : Int32)]) rfl) ?_
    exact rn_retI rfl rfl rfl
set_option maxRecDepth 20000 in
theorem dc_L_law_2336 {B : Nat} (a0 : Nat) (a1 : Nat) (a2 : Nat) (a3 : Nat) (x4 : Int32) (w5 : Value) (w6 : Value) (s : am_S) : rn_ tb_ct tb_mt B mm_L_law 2336 [.ref a0, .ref a1, .ref a2, .ref a3, .int x4, w5, w6, am_un, am_un] [] s = rn_ tb_ct tb_mt B mm_L_law 3221 [.ref a0, .ref a1, .ref a2, .ref a3, .int x4, am_un, am_un, am_un, am_un] [] s := by
  exact rn_go 1 (pc' := 3221) (L' := [.ref a0, .ref a1, .ref a2, .ref a3, .int x4, am_un, am_un, am_un, am_un]) (st' := []) rfl
set_option maxRecDepth 20000 in
theorem dc_L_law_2339 {B : Nat} (a0 : Nat) (a1 : Nat) (a2 : Nat) (a3 : Nat) (x4 : Int32) (s : am_S) : rn_ tb_ct tb_mt B mm_L_law 2339 [.ref a0, .ref a1, .ref a2, .ref a3, .int x4, am_un, am_un, am_un, am_un] [] s = eC (am_cls s a1) 10 (cF (cl_ tb_ct tb_mt B K_X12_meanLag [.ref a1] s) (fun x_2 s_1 => if (FP.f2d x_2) &&& 0x7fffffffffffffff ≤ 0x7ff0000000000000 then eC (am_cls s_1 a2) 11 (cF (cl_ tb_ct tb_mt B K_X13_meanLag [.ref a2] s_1) (fun x_4 s_3 => if (FP.f2d x_4) &&& 0x7fffffffffffffff ≤ 0x7ff0000000000000 then if (Op.cmpValue (FP.dcmp (FP.f2d x_2) (FP.f2d x_4)) .l) = 0 then rn_ tb_ct tb_mt B mm_L_law 2379 [.ref a0, .ref a1, .ref a2, .ref a3, .int x4, .double (FP.f2d x_2), am_un, .double (FP.f2d x_4), am_un] [] s_3 else if (Op.cmpValue (FP.dcmp (FP.f2d x_2) (FP.f2d x_2)) .l) = 0 then some (.inl (some (.int (0 : Int32))), s_3) else if (Op.cmpValue (FP.dcmp (FP.f2d x_4) (FP.f2d x_4)) .l) = 0 then some (.inl (some (.int (0 : Int32))), s_3) else rn_ tb_ct tb_mt B mm_L_law 2379 [.ref a0, .ref a1, .ref a2, .ref a3, .int x4, .double (FP.f2d x_2), am_un, .double (FP.f2d x_4), am_un] [] s_3 else none) xo) else none) xo) := by
  refine Eq.trans (rn_go 1 (pc' := 2340) (L' := [.ref a0, .ref a1, .ref a2, .ref a3, .int x4, am_un, am_un, am_un, am_un]) (st' := [.ref a1]) rfl) ?_
  refine Eq.trans (rn_vir (L' := [.ref a0, .ref a1, .ref a2, .ref a3, .int x4, am_un, am_un, am_un, am_un]) (as := []) (rest := []) rfl rfl rfl rfl rfl (Nat.le_of_ble_eq_true rfl) (by decide) (by decide)) ?_
  refine eC_c ?_
  refine Eq.trans (cW_F rfl rfl) ?_
  refine cF_c (fun x_2 s_1 => ?_) (xh_nil rfl)
  refine Eq.trans (rn_f2d (L' := [.ref a0, .ref a1, .ref a2, .ref a3, .int x4, am_un, am_un, am_un, am_un]) rfl rfl) ?_
  refine if_c ?_ rfl
  refine Eq.trans (rn_go 2 (pc' := 2347) (L' := [.ref a0, .ref a1, .ref a2, .ref a3, .int x4, .double (FP.f2d x_2), am_un, am_un, am_un]) (st' := [.ref a2]) rfl) ?_
  refine Eq.trans (rn_vir (L' := [.ref a0, .ref a1, .ref a2, .ref a3, .int x4, .double (FP.f2d x_2), am_un, am_un, am_un]) (as := []) (rest := []) rfl rfl rfl rfl rfl (Nat.le_of_ble_eq_true rfl) (by decide) (by decide)) ?_
  refine eC_c ?_
  refine Eq.trans (cW_F rfl rfl) ?_
  refine cF_c (fun x_4 s_3 => ?_) (xh_nil rfl)
  refine Eq.trans (rn_f2d (L' := [.ref a0, .ref a1, .ref a2, .ref a3, .int x4, .double (FP.f2d x_2), am_un, am_un, am_un]) rfl rfl) ?_
  refine if_c ?_ rfl
  refine Eq.trans (rn_go 4 (pc' := 2358) (L' := [.ref a0, .ref a1, .ref a2, .ref a3, .int x4, .double (FP.f2d x_2), am_un, .double (FP.f2d x_4), am_un]) (st' := [.int (Op.cmpValue (FP.dcmp (FP.f2d x_2) (FP.f2d x_4)) .l)]) rfl) ?_
  refine Eq.trans (rn_ifeq (L' := [.ref a0, .ref a1, .ref a2, .ref a3, .int x4, .double (FP.f2d x_2), am_un, .double (FP.f2d x_4), am_un]) rfl rfl) ?_
  refine if_c ?_ ?_
  · rfl
  · refine Eq.trans (rn_go 3 (pc' := 2366) (L' := [.ref a0, .ref a1, .ref a2, .ref a3, .int x4, .double (FP.f2d x_2), am_un, .double (FP.f2d x_4), am_un]) (st' := [.int (Op.cmpValue (FP.dcmp (FP.f2d x_2) (FP.f2d x_2)) .l)]) rfl) ?_
    refine Eq.trans (rn_ifeq (L' := [.ref a0, .ref a1, .ref a2, .ref a3, .int x4, .double (FP.f2d x_2), am_un, .double (FP.f2d x_4), am_un]) rfl rfl) ?_
    refine if_c ?_ ?_
    · refine Eq.trans (rn_go 1 (pc' := 2378) (L' := [.ref a0, .ref a1, .ref a2, .ref a3, .int x4, .double (FP.f2d x_2), am_un, .double (FP.f2d x_4), am_un]) (st' := [.int (0 : Int32)]) rfl) ?_
      exact rn_retI rfl rfl rfl
    · refine Eq.trans (rn_go 3 (pc' := 2374) (L' := [.ref a0, .ref a1, .ref a2, .ref a3, .int x4, .double (FP.f2d x_2), am_un, .double (FP.f2d x_4), am_un]) (st' := [.int (Op.cmpValue (FP.dcmp (FP.f2d x_4) (FP.f2d x_4)) .l)]) rfl) ?_
      refine Eq.trans (rn_ifne (L' := [.ref a0, .ref a1, .ref a2, .ref a3, .int x4, .double (FP.f2d x_2), am_un, .double (FP.f2d x_4), am_un]) rfl rfl) ?_
      refine if_c ?_ ?_
      · refine Eq.trans (rn_go 1 (pc' := 2378) (L' := [.ref a0, .ref a1, .ref a2, .ref a3, .int x4, .double (FP.f2d x_2), am_un, .double (FP.f2d x_4), am_un]) (st' := [.int (0 : Int32)]) rfl) ?_
        exact rn_retI rfl rfl rfl
      · rfl
set_option maxRecDepth 20000 in
theorem dc_L_law_2379 {B : Nat} (a0 : Nat) (a1 : Nat) (a2 : Nat) (a3 : Nat) (x4 : Int32) (w5 : Value) (w7 : Value) (s : am_S) : rn_ tb_ct tb_mt B mm_L_law 2379 [.ref a0, .ref a1, .ref a2, .ref a3, .int x4, w5, am_un, w7, am_un] [] s = rn_ tb_ct tb_mt B mm_L_law 3221 [.ref a0, .ref a1, .ref a2, .ref a3, .int x4, am_un, am_un, am_un, am_un] [] s := by
  exact rn_go 1 (pc' := 3221) (L' := [.ref a0, .ref a1, .ref a2, .ref a3, .int x4, am_un, am_un, am_un, am_un]) (st' := []) rfl
set_option maxRecDepth 20000 in
theorem dc_L_law_2382 {B : Nat} (a0 : Nat) (a1 : Nat) (a2 : Nat) (a3 : Nat) (x4 : Int32) (s : am_S) : rn_ tb_ct tb_mt B mm_L_law 2382 [.ref a0, .ref a1, .ref a2, .ref a3, .int x4, am_un, am_un, am_un, am_un] [] s = eI (aI s a0 (x4 + (1 : Int32))) (fun x_1 => cI (cl_ tb_ct tb_mt B K_L_grant [.ref a1, .int x_1, .ref a3] s) (fun x_3 s_2 => eI (aI s_2 a0 (x4 + (1 : Int32))) (fun x_4 => eC (am_cls s_2 a2) 11 (cI (cl_ tb_ct tb_mt B K_X13_grant [.ref a2, .int x_4] s_2) (fun x_6 s_5 => eC (am_cls s_5 a2) 11 (cI (cl_ tb_ct tb_mt B K_X13_thrown [.ref a2] s_5) (fun x_8 s_7 => if x_8 = x_3 then if x_3 = 0 then eJ (aJ s_7 a3 (0 : Int32)) (fun x_9 => if (lg_cmp x_9 x_6.toInt64) = 0 then rn_ tb_ct tb_mt B mm_L_law 2435 [.ref a0, .ref a1, .ref a2, .ref a3, .int x4, .int x_3, .int x_6, am_un, am_un] [] s_7 else some (.inl (some (.int (0 : Int32))), s_7)) else rn_ tb_ct tb_mt B mm_L_law 2435 [.ref a0, .ref a1, .ref a2, .ref a3, .int x4, .int x_3, .int x_6, am_un, am_un] [] s_7 else some (.inl (some (.int (0 : Int32))), s_7)) xo)) xo))) xo) := by
  refine Eq.trans (rn_go 5 (pc' := 2388) (L' := [.ref a0, .ref a1, .ref a2, .ref a3, .int x4, am_un, am_un, am_un, am_un]) (st' := [.int (x4 + (1 : Int32)), .ref a0, .ref a1]) rfl) ?_
  refine Eq.trans (rn_aI (L' := [.ref a0, .ref a1, .ref a2, .ref a3, .int x4, am_un, am_un, am_un, am_un]) rfl rfl) ?_
  refine eI_c (fun x_1 => ?_)
  refine Eq.trans (rn_go 1 (pc' := 2390) (L' := [.ref a0, .ref a1, .ref a2, .ref a3, .int x4, am_un, am_un, am_un, am_un]) (st' := [.ref a3, .int x_1, .ref a1]) rfl) ?_
  refine Eq.trans (rn_sta (L' := [.ref a0, .ref a1, .ref a2, .ref a3, .int x4, am_un, am_un, am_un, am_un]) (as := [.ref a1, .int x_1, .ref a3]) (rest := []) rfl rfl rfl rfl rfl (Nat.le_of_ble_eq_true rfl) (by decide) rfl) ?_
  refine Eq.trans (cW_I rfl rfl rfl) ?_
  refine cI_c (fun x_3 s_2 => ?_) (xh_nil rfl)
  refine Eq.trans (rn_go 6 (pc' := 2401) (L' := [.ref a0, .ref a1, .ref a2, .ref a3, .int x4, .int x_3, am_un, am_un, am_un]) (st' := [.int (x4 + (1 : Int32)), .ref a0, .ref a2]) rfl) ?_
  refine Eq.trans (rn_aI (L' := [.ref a0, .ref a1, .ref a2, .ref a3, .int x4, .int x_3, am_un, am_un, am_un]) rfl rfl) ?_
  refine eI_c (fun x_4 => ?_)
  refine Eq.trans (rn_vir (L' := [.ref a0, .ref a1, .ref a2, .ref a3, .int x4, .int x_3, am_un, am_un, am_un]) (as := [.int x_4]) (rest := []) rfl rfl rfl rfl rfl (Nat.le_of_ble_eq_true rfl) (by decide) (by decide)) ?_
  refine eC_c ?_
  refine Eq.trans (cW_I rfl rfl rfl) ?_
  refine cI_c (fun x_6 s_5 => ?_) (xh_nil rfl)
  refine Eq.trans (rn_go 2 (pc' := 2408) (L' := [.ref a0, .ref a1, .ref a2, .ref a3, .int x4, .int x_3, .int x_6, am_un, am_un]) (st' := [.ref a2]) rfl) ?_
  refine Eq.trans (rn_vir (L' := [.ref a0, .ref a1, .ref a2, .ref a3, .int x4, .int x_3, .int x_6, am_un, am_un]) (as := []) (rest := []) rfl rfl rfl rfl rfl (Nat.le_of_ble_eq_true rfl) (by decide) (by decide)) ?_
  refine eC_c ?_
  refine Eq.trans (cW_I rfl rfl rfl) ?_
  refine cI_c (fun x_8 s_7 => ?_) (xh_nil rfl)
  refine Eq.trans (rn_go 1 (pc' := 2413) (L' := [.ref a0, .ref a1, .ref a2, .ref a3, .int x4, .int x_3, .int x_6, am_un, am_un]) (st' := [.int x_3, .int x_8]) rfl) ?_
  refine Eq.trans (rn_iceq (L' := [.ref a0, .ref a1, .ref a2, .ref a3, .int x4, .int x_3, .int x_6, am_un, am_un]) rfl rfl) ?_
  refine if_c ?_ ?_
  · refine Eq.trans (rn_go 1 (pc' := 2420) (L' := [.ref a0, .ref a1, .ref a2, .ref a3, .int x4, .int x_3, .int x_6, am_un, am_un]) (st' := [.int x_3]) rfl) ?_
    refine Eq.trans (rn_ifne (L' := [.ref a0, .ref a1, .ref a2, .ref a3, .int x4, .int x_3, .int x_6, am_un, am_un]) rfl rfl) ?_
    refine if_c ?_ ?_
    · refine Eq.trans (rn_go 2 (pc' := 2425) (L' := [.ref a0, .ref a1, .ref a2, .ref a3, .int x4, .int x_3, .int x_6, am_un, am_un]) (st' := [.int (0 : Int32), .ref a3]) rfl) ?_
      refine Eq.trans (rn_aJ (L' := [.ref a0, .ref a1, .ref a2, .ref a3, .int x4, .int x_3, .int x_6, am_un, am_un]) rfl rfl) ?_
      refine eJ_c (fun x_9 => ?_)
      refine Eq.trans (rn_go 3 (pc' := 2430) (L' := [.ref a0, .ref a1, .ref a2, .ref a3, .int x4, .int x_3, .int x_6, am_un, am_un]) (st' := [.int (lg_cmp x_9 x_6.toInt64)]) rfl) ?_
      refine Eq.trans (rn_ifeq (L' := [.ref a0, .ref a1, .ref a2, .ref a3, .int x4, .int x_3, .int x_6, am_un, am_un]) rfl rfl) ?_
      refine if_c ?_ ?_
      · rfl
      · refine Eq.trans (rn_go 1 (pc' := 2434) (L' := [.ref a0, .ref a1, .ref a2, .ref a3, .int x4, .int x_3, .int x_6, am_un, am_un]) (st' := [.int (0 : Int32)]) rfl) ?_
        exact rn_retI rfl rfl rfl
    · rfl
  · refine Eq.trans (rn_go 1 (pc' := 2417) (L' := [.ref a0, .ref a1, .ref a2, .ref a3, .int x4, .int x_3, .int x_6, am_un, am_un]) (st' := [.int (0 : Int32)]) rfl) ?_
    exact rn_retI rfl rfl rfl
set_option maxRecDepth 20000 in
theorem dc_L_law_2435 {B : Nat} (a0 : Nat) (a1 : Nat) (a2 : Nat) (a3 : Nat) (x4 : Int32) (w5 : Value) (w6 : Value) (s : am_S) : rn_ tb_ct tb_mt B mm_L_law 2435 [.ref a0, .ref a1, .ref a2, .ref a3, .int x4, w5, w6, am_un, am_un] [] s = rn_ tb_ct tb_mt B mm_L_law 3221 [.ref a0, .ref a1, .ref a2, .ref a3, .int x4, am_un, am_un, am_un, am_un] [] s := by
  exact rn_go 1 (pc' := 3221) (L' := [.ref a0, .ref a1, .ref a2, .ref a3, .int x4, am_un, am_un, am_un, am_un]) (st' := []) rfl
set_option maxRecDepth 20000 in
theorem dc_L_law_2438 {B : Nat} (a0 : Nat) (a1 : Nat) (a2 : Nat) (a3 : Nat) (x4 : Int32) (s : am_S) : rn_ tb_ct tb_mt B mm_L_law 2438 [.ref a0, .ref a1, .ref a2, .ref a3, .int x4, am_un, am_un, am_un, am_un] [] s = eI (aI s a0 (x4 + (1 : Int32))) (fun x_1 => eI (aI s a0 (x4 + (2 : Int32))) (fun x_2 => cI (cl_ tb_ct tb_mt B K_L_lease [.ref a1, .int x_1, .int x_2, .ref a3] s) (fun x_4 s_3 => eI (aI s_3 a0 (x4 + (1 : Int32))) (fun x_5 => eI (aI s_3 a0 (x4 + (2 : Int32))) (fun x_6 => eC (am_cls s_3 a2) 11 (cI (cl_ tb_ct tb_mt B K_X13_lease [.ref a2, .int x_5, .int x_6] s_3) (fun x_8 s_7 => eC (am_cls s_7 a2) 11 (cI (cl_ tb_ct tb_mt B K_X13_thrown [.ref a2] s_7) (fun x_10 s_9 => if x_10 = x_4 then if x_4 = 0 then eJ (aJ s_9 a3 (0 : Int32)) (fun x_11 => if (lg_cmp x_11 x_8.toInt64) = 0 then rn_ tb_ct tb_mt B mm_L_law 2503 [.ref a0, .ref a1, .ref a2, .ref a3, .int x4, .int x_4, .int x_8, am_un, am_un] [] s_9 else some (.inl (some (.int (0 : Int32))), s_9)) else rn_ tb_ct tb_mt B mm_L_law 2503 [.ref a0, .ref a1, .ref a2, .ref a3, .int x4, .int x_4, .int x_8, am_un, am_un] [] s_9 else some (.inl (some (.int (0 : Int32))), s_9)) xo)) xo)))) xo)) := by
  refine Eq.trans (rn_go 5 (pc' := 2444) (L' := [.ref a0, .ref a1, .ref a2, .ref a3, .int x4, am_un, am_un, am_un, am_un]) (st' := [.int (x4 + (1 : Int32)), .ref a0, .ref a1]) rfl) ?_
  refine Eq.trans (rn_aI (L' := [.ref a0, .ref a1, .ref a2, .ref a3, .int x4, am_un, am_un, am_un, am_un]) rfl rfl) ?_
  refine eI_c (fun x_1 => ?_)
  refine Eq.trans (rn_go 4 (pc' := 2450) (L' := [.ref a0, .ref a1, .ref a2, .ref a3, .int x4, am_un, am_un, am_un, am_un]) (st' := [.int (x4 + (2 : Int32)), .ref a0, .int x_1, .ref a1]) rfl) ?_
  refine Eq.trans (rn_aI (L' := [.ref a0, .ref a1, .ref a2, .ref a3, .int x4, am_un, am_un, am_un, am_un]) rfl rfl) ?_
  refine eI_c (fun x_2 => ?_)
  refine Eq.trans (rn_go 1 (pc' := 2452) (L' := [.ref a0, .ref a1, .ref a2, .ref a3, .int x4, am_un, am_un, am_un, am_un]) (st' := [.ref a3, .int x_2, .int x_1, .ref a1]) rfl) ?_
  refine Eq.trans (rn_sta (L' := [.ref a0, .ref a1, .ref a2, .ref a3, .int x4, am_un, am_un, am_un, am_un]) (as := [.ref a1, .int x_1, .int x_2, .ref a3]) (rest := []) rfl rfl rfl rfl rfl (Nat.le_of_ble_eq_true rfl) (by decide) rfl) ?_
  refine Eq.trans (cW_I rfl rfl rfl) ?_
  refine cI_c (fun x_4 s_3 => ?_) (xh_nil rfl)
  refine Eq.trans (rn_go 6 (pc' := 2463) (L' := [.ref a0, .ref a1, .ref a2, .ref a3, .int x4, .int x_4, am_un, am_un, am_un]) (st' := [.int (x4 + (1 : Int32)), .ref a0, .ref a2]) rfl) ?_
  refine Eq.trans (rn_aI (L' := [.ref a0, .ref a1, .ref a2, .ref a3, .int x4, .int x_4, am_un, am_un, am_un]) rfl rfl) ?_
  refine eI_c (fun x_5 => ?_)
  refine Eq.trans (rn_go 4 (pc' := 2469) (L' := [.ref a0, .ref a1, .ref a2, .ref a3, .int x4, .int x_4, am_un, am_un, am_un]) (st' := [.int (x4 + (2 : Int32)), .ref a0, .int x_5, .ref a2]) rfl) ?_
  refine Eq.trans (rn_aI (L' := [.ref a0, .ref a1, .ref a2, .ref a3, .int x4, .int x_4, am_un, am_un, am_un]) rfl rfl) ?_
  refine eI_c (fun x_6 => ?_)
  refine Eq.trans (rn_vir (L' := [.ref a0, .ref a1, .ref a2, .ref a3, .int x4, .int x_4, am_un, am_un, am_un]) (as := [.int x_5, .int x_6]) (rest := []) rfl rfl rfl rfl rfl (Nat.le_of_ble_eq_true rfl) (by decide) (by decide)) ?_
  refine eC_c ?_
  refine Eq.trans (cW_I rfl rfl rfl) ?_
  refine cI_c (fun x_8 s_7 => ?_) (xh_nil rfl)
  refine Eq.trans (rn_go 2 (pc' := 2476) (L' := [.ref a0, .ref a1, .ref a2, .ref a3, .int x4, .int x_4, .int x_8, am_un, am_un]) (st' := [.ref a2]) rfl) ?_
  refine Eq.trans (rn_vir (L' := [.ref a0, .ref a1, .ref a2, .ref a3, .int x4, .int x_4, .int x_8, am_un, am_un]) (as := []) (rest := []) rfl rfl rfl rfl rfl (Nat.le_of_ble_eq_true rfl) (by decide) (by decide)) ?_
  refine eC_c ?_
  refine Eq.trans (cW_I rfl rfl rfl) ?_
  refine cI_c (fun x_10 s_9 => ?_) (xh_nil rfl)
  refine Eq.trans (rn_go 1 (pc' := 2481) (L' := [.ref a0, .ref a1, .ref a2, .ref a3, .int x4, .int x_4, .int x_8, am_un, am_un]) (st' := [.int x_4, .int x_10]) rfl) ?_
  refine Eq.trans (rn_iceq (L' := [.ref a0, .ref a1, .ref a2, .ref a3, .int x4, .int x_4, .int x_8, am_un, am_un]) rfl rfl) ?_
  refine if_c ?_ ?_
  · refine Eq.trans (rn_go 1 (pc' := 2488) (L' := [.ref a0, .ref a1, .ref a2, .ref a3, .int x4, .int x_4, .int x_8, am_un, am_un]) (st' := [.int x_4]) rfl) ?_
    refine Eq.trans (rn_ifne (L' := [.ref a0, .ref a1, .ref a2, .ref a3, .int x4, .int x_4, .int x_8, am_un, am_un]) rfl rfl) ?_
    refine if_c ?_ ?_
    · refine Eq.trans (rn_go 2 (pc' := 2493) (L' := [.ref a0, .ref a1, .ref a2, .ref a3, .int x4, .int x_4, .int x_8, am_un, am_un]) (st' := [.int (0 : Int32), .ref a3]) rfl) ?_
      refine Eq.trans (rn_aJ (L' := [.ref a0, .ref a1, .ref a2, .ref a3, .int x4, .int x_4, .int x_8, am_un, am_un]) rfl rfl) ?_
      refine eJ_c (fun x_11 => ?_)
      refine Eq.trans (rn_go 3 (pc' := 2498) (L' := [.ref a0, .ref a1, .ref a2, .ref a3, .int x4, .int x_4, .int x_8, am_un, am_un]) (st' := [.int (lg_cmp x_11 x_8.toInt64)]) rfl) ?_
      refine Eq.trans (rn_ifeq (L' := [.ref a0, .ref a1, .ref a2, .ref a3, .int x4, .int x_4, .int x_8, am_un, am_un]) rfl rfl) ?_
      refine if_c ?_ ?_
      · rfl
      · refine Eq.trans (rn_go 1 (pc' := 2502) (L' := [.ref a0, .ref a1, .ref a2, .ref a3, .int x4, .int x_4, .int x_8, am_un, am_un]) (st' := [.int (0 : Int32)]) rfl) ?_
        exact rn_retI rfl rfl rfl
    · rfl
  · refine Eq.trans (rn_go 1 (pc' := 2485) (L' := [.ref a0, .ref a1, .ref a2, .ref a3, .int x4, .int x_4, .int x_8, am_un, am_un]) (st' := [.int (0 : Int32)]) rfl) ?_
    exact rn_retI rfl rfl rfl
set_option maxRecDepth 20000 in
theorem dc_L_law_2503 {B : Nat} (a0 : Nat) (a1 : Nat) (a2 : Nat) (a3 : Nat) (x4 : Int32) (w5 : Value) (w6 : Value) (s : am_S) : rn_ tb_ct tb_mt B mm_L_law 2503 [.ref a0, .ref a1, .ref a2, .ref a3, .int x4, w5, w6, am_un, am_un] [] s = rn_ tb_ct tb_mt B mm_L_law 3221 [.ref a0, .ref a1, .ref a2, .ref a3, .int x4, am_un, am_un, am_un, am_un] [] s := by
  exact rn_go 1 (pc' := 3221) (L' := [.ref a0, .ref a1, .ref a2, .ref a3, .int x4, am_un, am_un, am_un, am_un]) (st' := []) rfl
set_option maxRecDepth 20000 in
theorem dc_L_law_2506 {B : Nat} (a0 : Nat) (a1 : Nat) (a2 : Nat) (a3 : Nat) (x4 : Int32) (s : am_S) : rn_ tb_ct tb_mt B mm_L_law 2506 [.ref a0, .ref a1, .ref a2, .ref a3, .int x4, am_un, am_un, am_un, am_un] [] s = eI (aI s a0 (x4 + (1 : Int32))) (fun x_1 => eC (am_cls s a1) 10 (cI (cl_ tb_ct tb_mt B K_X12_keepAlive [.ref a1, .int x_1] s) (fun x_3 s_2 => eI (aI s_2 a0 (x4 + (1 : Int32))) (fun x_4 => eC (am_cls s_2 a2) 11 (cI (cl_ tb_ct tb_mt B K_X13_keepAlive [.ref a2, .int x_4] s_2) (fun x_6 s_5 => if x_3 = x_6 then rn_ tb_ct tb_mt B mm_L_law 3221 [.ref a0, .ref a1, .ref a2, .ref a3, .int x4, am_un, am_un, am_un, am_un] [] s_5 else some (.inl (some (.int (0 : Int32))), s_5)) xo))) xo)) := by
  refine Eq.trans (rn_go 5 (pc' := 2512) (L' := [.ref a0, .ref a1, .ref a2, .ref a3, .int x4, am_un, am_un, am_un, am_un]) (st' := [.int (x4 + (1 : Int32)), .ref a0, .ref a1]) rfl) ?_
  refine Eq.trans (rn_aI (L' := [.ref a0, .ref a1, .ref a2, .ref a3, .int x4, am_un, am_un, am_un, am_un]) rfl rfl) ?_
  refine eI_c (fun x_1 => ?_)
  refine Eq.trans (rn_vir (L' := [.ref a0, .ref a1, .ref a2, .ref a3, .int x4, am_un, am_un, am_un, am_un]) (as := [.int x_1]) (rest := []) rfl rfl rfl rfl rfl (Nat.le_of_ble_eq_true rfl) (by decide) (by decide)) ?_
  refine eC_c ?_
  refine Eq.trans (cW_I rfl rfl rfl) ?_
  refine cI_c (fun x_3 s_2 => ?_) (xh_nil rfl)
  refine Eq.trans (rn_go 5 (pc' := 2522) (L' := [.ref a0, .ref a1, .ref a2, .ref a3, .int x4, am_un, am_un, am_un, am_un]) (st' := [.int (x4 + (1 : Int32)), .ref a0, .ref a2, .int x_3]) rfl) ?_
  refine Eq.trans (rn_aI (L' := [.ref a0, .ref a1, .ref a2, .ref a3, .int x4, am_un, am_un, am_un, am_un]) rfl rfl) ?_
  refine eI_c (fun x_4 => ?_)
  refine Eq.trans (rn_vir (L' := [.ref a0, .ref a1, .ref a2, .ref a3, .int x4, am_un, am_un, am_un, am_un]) (as := [.int x_4]) (rest := [.int x_3]) rfl rfl rfl rfl rfl (Nat.le_of_ble_eq_true rfl) (by decide) (by decide)) ?_
  refine eC_c ?_
  refine Eq.trans (cW_I rfl rfl rfl) ?_
  refine cI_c (fun x_6 s_5 => ?_) (xh_nil rfl)
  refine Eq.trans (rn_iceq (L' := [.ref a0, .ref a1, .ref a2, .ref a3, .int x4, am_un, am_un, am_un, am_un]) rfl rfl) ?_
  refine if_c ?_ ?_
  · rfl
  · refine Eq.trans (rn_go 1 (pc' := 2530) (L' := [.ref a0, .ref a1, .ref a2, .ref a3, .int x4, am_un, am_un, am_un, am_un]) (st' := [.int (0 : Int32)]) rfl) ?_
    exact rn_retI rfl rfl rfl
set_option maxRecDepth 20000 in
theorem dc_L_law_2531 {B : Nat} (a0 : Nat) (a1 : Nat) (a2 : Nat) (a3 : Nat) (x4 : Int32) (s : am_S) : rn_ tb_ct tb_mt B mm_L_law 2531 [.ref a0, .ref a1, .ref a2, .ref a3, .int x4, am_un, am_un, am_un, am_un] [] s = eI (aI s a0 (x4 + (1 : Int32))) (fun x_1 => eC (am_cls s a1) 10 (cI (cl_ tb_ct tb_mt B K_X12_revoke [.ref a1, .int x_1] s) (fun x_3 s_2 => eI (aI s_2 a0 (x4 + (1 : Int32))) (fun x_4 => eC (am_cls s_2 a2) 11 (cI (cl_ tb_ct tb_mt B K_X13_revoke [.ref a2, .int x_4] s_2) (fun x_6 s_5 => if x_3 = x_6 then rn_ tb_ct tb_mt B mm_L_law 3221 [.ref a0, .ref a1, .ref a2, .ref a3, .int x4, am_un, am_un, am_un, am_un] [] s_5 else some (.inl (some (.int (0 : Int32))), s_5)) xo))) xo)) := by
  refine Eq.trans (rn_go 5 (pc' := 2537) (L' := [.ref a0, .ref a1, .ref a2, .ref a3, .int x4, am_un, am_un, am_un, am_un]) (st' := [.int (x4 + (1 : Int32)), .ref a0, .ref a1]) rfl) ?_
  refine Eq.trans (rn_aI (L' := [.ref a0, .ref a1, .ref a2, .ref a3, .int x4, am_un, am_un, am_un, am_un]) rfl rfl) ?_
  refine eI_c (fun x_1 => ?_)
  refine Eq.trans (rn_vir (L' := [.ref a0, .ref a1, .ref a2, .ref a3, .int x4, am_un, am_un, am_un, am_un]) (as := [.int x_1]) (rest := []) rfl rfl rfl rfl rfl (Nat.le_of_ble_eq_true rfl) (by decide) (by decide)) ?_
  refine eC_c ?_
  refine Eq.trans (cW_I rfl rfl rfl) ?_
  refine cI_c (fun x_3 s_2 => ?_) (xh_nil rfl)
  refine Eq.trans (rn_go 5 (pc' := 2547) (L' := [.ref a0, .ref a1, .ref a2, .ref a3, .int x4, am_un, am_un, am_un, am_un]) (st' := [.int (x4 + (1 : Int32)), .ref a0, .ref a2, .int x_3]) rfl) ?_
  refine Eq.trans (rn_aI (L' := [.ref a0, .ref a1, .ref a2, .ref a3, .int x4, am_un, am_un, am_un, am_un]) rfl rfl) ?_
  refine eI_c (fun x_4 => ?_)
  refine Eq.trans (rn_vir (L' := [.ref a0, .ref a1, .ref a2, .ref a3, .int x4, am_un, am_un, am_un, am_un]) (as := [.int x_4]) (rest := [.int x_3]) rfl rfl rfl rfl rfl (Nat.le_of_ble_eq_true rfl) (by decide) (by decide)) ?_
  refine eC_c ?_
  refine Eq.trans (cW_I rfl rfl rfl) ?_
  refine cI_c (fun x_6 s_5 => ?_) (xh_nil rfl)
  refine Eq.trans (rn_iceq (L' := [.ref a0, .ref a1, .ref a2, .ref a3, .int x4, am_un, am_un, am_un, am_un]) rfl rfl) ?_
  refine if_c ?_ ?_
  · rfl
  · refine Eq.trans (rn_go 1 (pc' := 2555) (L' := [.ref a0, .ref a1, .ref a2, .ref a3, .int x4, am_un, am_un, am_un, am_un]) (st' := [.int (0 : Int32)]) rfl) ?_
    exact rn_retI rfl rfl rfl
set_option maxRecDepth 20000 in
theorem dc_L_law_2556 {B : Nat} (a0 : Nat) (a1 : Nat) (a2 : Nat) (a3 : Nat) (x4 : Int32) (s : am_S) : rn_ tb_ct tb_mt B mm_L_law 2556 [.ref a0, .ref a1, .ref a2, .ref a3, .int x4, am_un, am_un, am_un, am_un] [] s = eI (aI s a0 (x4 + (1 : Int32))) (fun x_1 => cI (cl_ tb_ct tb_mt B K_L_tick [.ref a1, .int x_1, .ref a3] s) (fun x_3 s_2 => eI (aI s_2 a0 (x4 + (1 : Int32))) (fun x_4 => eC (am_cls s_2 a2) 11 (cI (cl_ tb_ct tb_mt B K_X13_tick [.ref a2, .int x_4] s_2) (fun x_6 s_5 => eC (am_cls s_5 a2) 11 (cI (cl_ tb_ct tb_mt B K_X13_thrown [.ref a2] s_5) (fun x_8 s_7 => if x_8 = x_3 then if x_3 = 0 then eJ (aJ s_7 a3 (0 : Int32)) (fun x_9 => if (lg_cmp x_9 x_6.toInt64) = 0 then rn_ tb_ct tb_mt B mm_L_law 2609 [.ref a0, .ref a1, .ref a2, .ref a3, .int x4, .int x_3, .int x_6, am_un, am_un] [] s_7 else some (.inl (some (.int (0 : Int32))), s_7)) else rn_ tb_ct tb_mt B mm_L_law 2609 [.ref a0, .ref a1, .ref a2, .ref a3, .int x4, .int x_3, .int x_6, am_un, am_un] [] s_7 else some (.inl (some (.int (0 : Int32))), s_7)) xo)) xo))) xo) := by
  refine Eq.trans (rn_go 5 (pc' := 2562) (L' := [.ref a0, .ref a1, .ref a2, .ref a3, .int x4, am_un, am_un, am_un, am_un]) (st' := [.int (x4 + (1 : Int32)), .ref a0, .ref a1]) rfl) ?_
  refine Eq.trans (rn_aI (L' := [.ref a0, .ref a1, .ref a2, .ref a3, .int x4, am_un, am_un, am_un, am_un]) rfl rfl) ?_
  refine eI_c (fun x_1 => ?_)
  refine Eq.trans (rn_go 1 (pc' := 2564) (L' := [.ref a0, .ref a1, .ref a2, .ref a3, .int x4, am_un, am_un, am_un, am_un]) (st' := [.ref a3, .int x_1, .ref a1]) rfl) ?_
  refine Eq.trans (rn_sta (L' := [.ref a0, .ref a1, .ref a2, .ref a3, .int x4, am_un, am_un, am_un, am_un]) (as := [.ref a1, .int x_1, .ref a3]) (rest := []) rfl rfl rfl rfl rfl (Nat.le_of_ble_eq_true rfl) (by decide) rfl) ?_
  refine Eq.trans (cW_I rfl rfl rfl) ?_
  refine cI_c (fun x_3 s_2 => ?_) (xh_nil rfl)
  refine Eq.trans (rn_go 6 (pc' := 2575) (L' := [.ref a0, .ref a1, .ref a2, .ref a3, .int x4, .int x_3, am_un, am_un, am_un]) (st' := [.int (x4 + (1 : Int32)), .ref a0, .ref a2]) rfl) ?_
  refine Eq.trans (rn_aI (L' := [.ref a0, .ref a1, .ref a2, .ref a3, .int x4, .int x_3, am_un, am_un, am_un]) rfl rfl) ?_
  refine eI_c (fun x_4 => ?_)
  refine Eq.trans (rn_vir (L' := [.ref a0, .ref a1, .ref a2, .ref a3, .int x4, .int x_3, am_un, am_un, am_un]) (as := [.int x_4]) (rest := []) rfl rfl rfl rfl rfl (Nat.le_of_ble_eq_true rfl) (by decide) (by decide)) ?_
  refine eC_c ?_
  refine Eq.trans (cW_I rfl rfl rfl) ?_
  refine cI_c (fun x_6 s_5 => ?_) (xh_nil rfl)
  refine Eq.trans (rn_go 2 (pc' := 2582) (L' := [.ref a0, .ref a1, .ref a2, .ref a3, .int x4, .int x_3, .int x_6, am_un, am_un]) (st' := [.ref a2]) rfl) ?_
  refine Eq.trans (rn_vir (L' := [.ref a0, .ref a1, .ref a2, .ref a3, .int x4, .int x_3, .int x_6, am_un, am_un]) (as := []) (rest := []) rfl rfl rfl rfl rfl (Nat.le_of_ble_eq_true rfl) (by decide) (by decide)) ?_
  refine eC_c ?_
  refine Eq.trans (cW_I rfl rfl rfl) ?_
  refine cI_c (fun x_8 s_7 => ?_) (xh_nil rfl)
  refine Eq.trans (rn_go 1 (pc' := 2587) (L' := [.ref a0, .ref a1, .ref a2, .ref a3, .int x4, .int x_3, .int x_6, am_un, am_un]) (st' := [.int x_3, .int x_8]) rfl) ?_
  refine Eq.trans (rn_iceq (L' := [.ref a0, .ref a1, .ref a2, .ref a3, .int x4, .int x_3, .int x_6, am_un, am_un]) rfl rfl) ?_
  refine if_c ?_ ?_
  · refine Eq.trans (rn_go 1 (pc' := 2594) (L' := [.ref a0, .ref a1, .ref a2, .ref a3, .int x4, .int x_3, .int x_6, am_un, am_un]) (st' := [.int x_3]) rfl) ?_
    refine Eq.trans (rn_ifne (L' := [.ref a0, .ref a1, .ref a2, .ref a3, .int x4, .int x_3, .int x_6, am_un, am_un]) rfl rfl) ?_
    refine if_c ?_ ?_
    · refine Eq.trans (rn_go 2 (pc' := 2599) (L' := [.ref a0, .ref a1, .ref a2, .ref a3, .int x4, .int x_3, .int x_6, am_un, am_un]) (st' := [.int (0 : Int32), .ref a3]) rfl) ?_
      refine Eq.trans (rn_aJ (L' := [.ref a0, .ref a1, .ref a2, .ref a3, .int x4, .int x_3, .int x_6, am_un, am_un]) rfl rfl) ?_
      refine eJ_c (fun x_9 => ?_)
      refine Eq.trans (rn_go 3 (pc' := 2604) (L' := [.ref a0, .ref a1, .ref a2, .ref a3, .int x4, .int x_3, .int x_6, am_un, am_un]) (st' := [.int (lg_cmp x_9 x_6.toInt64)]) rfl) ?_
      refine Eq.trans (rn_ifeq (L' := [.ref a0, .ref a1, .ref a2, .ref a3, .int x4, .int x_3, .int x_6, am_un, am_un]) rfl rfl) ?_
      refine if_c ?_ ?_
      · rfl
      · refine Eq.trans (rn_go 1 (pc' := 2608) (L' := [.ref a0, .ref a1, .ref a2, .ref a3, .int x4, .int x_3, .int x_6, am_un, am_un]) (st' := [.int (0 : Int32)]) rfl) ?_
        exact rn_retI rfl rfl rfl
    · rfl
  · refine Eq.trans (rn_go 1 (pc' := 2591) (L' := [.ref a0, .ref a1, .ref a2, .ref a3, .int x4, .int x_3, .int x_6, am_un, am_un]) (st' := [.int (0 : Int32)]) rfl) ?_
    exact rn_retI rfl rfl rfl
set_option maxRecDepth 20000 in
theorem dc_L_law_2609 {B : Nat} (a0 : Nat) (a1 : Nat) (a2 : Nat) (a3 : Nat) (x4 : Int32) (w5 : Value) (w6 : Value) (s : am_S) : rn_ tb_ct tb_mt B mm_L_law 2609 [.ref a0, .ref a1, .ref a2, .ref a3, .int x4, w5, w6, am_un, am_un] [] s = rn_ tb_ct tb_mt B mm_L_law 3221 [.ref a0, .ref a1, .ref a2, .ref a3, .int x4, am_un, am_un, am_un, am_un] [] s := by
  exact rn_go 1 (pc' := 3221) (L' := [.ref a0, .ref a1, .ref a2, .ref a3, .int x4, am_un, am_un, am_un, am_un]) (st' := []) rfl
set_option maxRecDepth 20000 in
theorem dc_L_law_2612 {B : Nat} (a0 : Nat) (a1 : Nat) (a2 : Nat) (a3 : Nat) (x4 : Int32) (s : am_S) : rn_ tb_ct tb_mt B mm_L_law 2612 [.ref a0, .ref a1, .ref a2, .ref a3, .int x4, am_un, am_un, am_un, am_un] [] s = eI (aI s a0 (x4 + (1 : Int32))) (fun x_1 => cI (cl_ tb_ct tb_mt B K_L_expiry [.ref a1, .int x_1, .ref a3] s) (fun x_3 s_2 => eI (aI s_2 a0 (x4 + (1 : Int32))) (fun x_4 => eC (am_cls s_2 a2) 11 (cI (cl_ tb_ct tb_mt B K_X13_expiry [.ref a2, .int x_4] s_2) (fun x_6 s_5 => eC (am_cls s_5 a2) 11 (cI (cl_ tb_ct tb_mt B K_X13_thrown [.ref a2] s_5) (fun x_8 s_7 => if x_8 = x_3 then if x_3 = 0 then eJ (aJ s_7 a3 (0 : Int32)) (fun x_9 => if (lg_cmp x_9 x_6.toInt64) = 0 then rn_ tb_ct tb_mt B mm_L_law 2665 [.ref a0, .ref a1, .ref a2, .ref a3, .int x4, .int x_3, .int x_6, am_un, am_un] [] s_7 else some (.inl (some (.int (0 : Int32))), s_7)) else rn_ tb_ct tb_mt B mm_L_law 2665 [.ref a0, .ref a1, .ref a2, .ref a3, .int x4, .int x_3, .int x_6, am_un, am_un] [] s_7 else some (.inl (some (.int (0 : Int32))), s_7)) xo)) xo))) xo) := by
  refine Eq.trans (rn_go 5 (pc' := 2618) (L' := [.ref a0, .ref a1, .ref a2, .ref a3, .int x4, am_un, am_un, am_un, am_un]) (st' := [.int (x4 + (1 : Int32)), .ref a0, .ref a1]) rfl) ?_
  refine Eq.trans (rn_aI (L' := [.ref a0, .ref a1, .ref a2, .ref a3, .int x4, am_un, am_un, am_un, am_un]) rfl rfl) ?_
  refine eI_c (fun x_1 => ?_)
  refine Eq.trans (rn_go 1 (pc' := 2620) (L' := [.ref a0, .ref a1, .ref a2, .ref a3, .int x4, am_un, am_un, am_un, am_un]) (st' := [.ref a3, .int x_1, .ref a1]) rfl) ?_
  refine Eq.trans (rn_sta (L' := [.ref a0, .ref a1, .ref a2, .ref a3, .int x4, am_un, am_un, am_un, am_un]) (as := [.ref a1, .int x_1, .ref a3]) (rest := []) rfl rfl rfl rfl rfl (Nat.le_of_ble_eq_true rfl) (by decide) rfl) ?_
  refine Eq.trans (cW_I rfl rfl rfl) ?_
  refine cI_c (fun x_3 s_2 => ?_) (xh_nil rfl)
  refine Eq.trans (rn_go 6 (pc' := 2631) (L' := [.ref a0, .ref a1, .ref a2, .ref a3, .int x4, .int x_3, am_un, am_un, am_un]) (st' := [.int (x4 + (1 : Int32)), .ref a0, .ref a2]) rfl) ?_
  refine Eq.trans (rn_aI (L' := [.ref a0, .ref a1, .ref a2, .ref a3, .int x4, .int x_3, am_un, am_un, am_un]) rfl rfl) ?_
  refine eI_c (fun x_4 => ?_)
  refine Eq.trans (rn_vir (L' := [.ref a0, .ref a1, .ref a2, .ref a3, .int x4, .int x_3, am_un, am_un, am_un]) (as := [.int x_4]) (rest := []) rfl rfl rfl rfl rfl (Nat.le_of_ble_eq_true rfl) (by decide) (by decide)) ?_
  refine eC_c ?_
  refine Eq.trans (cW_I rfl rfl rfl) ?_
  refine cI_c (fun x_6 s_5 => ?_) (xh_nil rfl)
  refine Eq.trans (rn_go 2 (pc' := 2638) (L' := [.ref a0, .ref a1, .ref a2, .ref a3, .int x4, .int x_3, .int x_6, am_un, am_un]) (st' := [.ref a2]) rfl) ?_
  refine Eq.trans (rn_vir (L' := [.ref a0, .ref a1, .ref a2, .ref a3, .int x4, .int x_3, .int x_6, am_un, am_un]) (as := []) (rest := []) rfl rfl rfl rfl rfl (Nat.le_of_ble_eq_true rfl) (by decide) (by decide)) ?_
  refine eC_c ?_
  refine Eq.trans (cW_I rfl rfl rfl) ?_
  refine cI_c (fun x_8 s_7 => ?_) (xh_nil rfl)
  refine Eq.trans (rn_go 1 (pc' := 2643) (L' := [.ref a0, .ref a1, .ref a2, .ref a3, .int x4, .int x_3, .int x_6, am_un, am_un]) (st' := [.int x_3, .int x_8]) rfl) ?_
  refine Eq.trans (rn_iceq (L' := [.ref a0, .ref a1, .ref a2, .ref a3, .int x4, .int x_3, .int x_6, am_un, am_un]) rfl rfl) ?_
  refine if_c ?_ ?_
  · refine Eq.trans (rn_go 1 (pc' := 2650) (L' := [.ref a0, .ref a1, .ref a2, .ref a3, .int x4, .int x_3, .int x_6, am_un, am_un]) (st' := [.int x_3]) rfl) ?_
    refine Eq.trans (rn_ifne (L' := [.ref a0, .ref a1, .ref a2, .ref a3, .int x4, .int x_3, .int x_6, am_un, am_un]) rfl rfl) ?_
    refine if_c ?_ ?_
    · refine Eq.trans (rn_go 2 (pc' := 2655) (L' := [.ref a0, .ref a1, .ref a2, .ref a3, .int x4, .int x_3, .int x_6, am_un, am_un]) (st' := [.int (0 : Int32), .ref a3]) rfl) ?_
      refine Eq.trans (rn_aJ (L' := [.ref a0, .ref a1, .ref a2, .ref a3, .int x4, .int x_3, .int x_6, am_un, am_un]) rfl rfl) ?_
      refine eJ_c (fun x_9 => ?_)
      refine Eq.trans (rn_go 3 (pc' := 2660) (L' := [.ref a0, .ref a1, .ref a2, .ref a3, .int x4, .int x_3, .int x_6, am_un, am_un]) (st' := [.int (lg_cmp x_9 x_6.toInt64)]) rfl) ?_
      refine Eq.trans (rn_ifeq (L' := [.ref a0, .ref a1, .ref a2, .ref a3, .int x4, .int x_3, .int x_6, am_un, am_un]) rfl rfl) ?_
      refine if_c ?_ ?_
      · rfl
      · refine Eq.trans (rn_go 1 (pc' := 2664) (L' := [.ref a0, .ref a1, .ref a2, .ref a3, .int x4, .int x_3, .int x_6, am_un, am_un]) (st' := [.int (0 : Int32)]) rfl) ?_
        exact rn_retI rfl rfl rfl
    · rfl
  · refine Eq.trans (rn_go 1 (pc' := 2647) (L' := [.ref a0, .ref a1, .ref a2, .ref a3, .int x4, .int x_3, .int x_6, am_un, am_un]) (st' := [.int (0 : Int32)]) rfl) ?_
    exact rn_retI rfl rfl rfl
set_option maxRecDepth 20000 in
theorem dc_L_law_2665 {B : Nat} (a0 : Nat) (a1 : Nat) (a2 : Nat) (a3 : Nat) (x4 : Int32) (w5 : Value) (w6 : Value) (s : am_S) : rn_ tb_ct tb_mt B mm_L_law 2665 [.ref a0, .ref a1, .ref a2, .ref a3, .int x4, w5, w6, am_un, am_un] [] s = rn_ tb_ct tb_mt B mm_L_law 3221 [.ref a0, .ref a1, .ref a2, .ref a3, .int x4, am_un, am_un, am_un, am_un] [] s := by
  exact rn_go 1 (pc' := 3221) (L' := [.ref a0, .ref a1, .ref a2, .ref a3, .int x4, am_un, am_un, am_un, am_un]) (st' := []) rfl
set_option maxRecDepth 20000 in
theorem dc_L_law_2668 {B : Nat} (a0 : Nat) (a1 : Nat) (a2 : Nat) (a3 : Nat) (x4 : Int32) (s : am_S) : rn_ tb_ct tb_mt B mm_L_law 2668 [.ref a0, .ref a1, .ref a2, .ref a3, .int x4, am_un, am_un, am_un, am_un] [] s = eI (aI s a0 (x4 + (1 : Int32))) (fun x_1 => cI (cl_ tb_ct tb_mt B K_L_keysIn [.ref a1, .int x_1, .ref a3] s) (fun x_3 s_2 => eI (aI s_2 a0 (x4 + (1 : Int32))) (fun x_4 => eC (am_cls s_2 a2) 11 (cI (cl_ tb_ct tb_mt B K_X13_keysIn [.ref a2, .int x_4] s_2) (fun x_6 s_5 => eC (am_cls s_5 a2) 11 (cI (cl_ tb_ct tb_mt B K_X13_thrown [.ref a2] s_5) (fun x_8 s_7 => if x_8 = x_3 then if x_3 = 0 then eJ (aJ s_7 a3 (0 : Int32)) (fun x_9 => if (lg_cmp x_9 x_6.toInt64) = 0 then rn_ tb_ct tb_mt B mm_L_law 2721 [.ref a0, .ref a1, .ref a2, .ref a3, .int x4, .int x_3, .int x_6, am_un, am_un] [] s_7 else some (.inl (some (.int (0 : Int32))), s_7)) else rn_ tb_ct tb_mt B mm_L_law 2721 [.ref a0, .ref a1, .ref a2, .ref a3, .int x4, .int x_3, .int x_6, am_un, am_un] [] s_7 else some (.inl (some (.int (0 : Int32))), s_7)) xo)) xo))) xo) := by
  refine Eq.trans (rn_go 5 (pc' := 2674) (L' := [.ref a0, .ref a1, .ref a2, .ref a3, .int x4, am_un, am_un, am_un, am_un]) (st' := [.int (x4 + (1 : Int32)), .ref a0, .ref a1]) rfl) ?_
  refine Eq.trans (rn_aI (L' := [.ref a0, .ref a1, .ref a2, .ref a3, .int x4, am_un, am_un, am_un, am_un]) rfl rfl) ?_
  refine eI_c (fun x_1 => ?_)
  refine Eq.trans (rn_go 1 (pc' := 2676) (L' := [.ref a0, .ref a1, .ref a2, .ref a3, .int x4, am_un, am_un, am_un, am_un]) (st' := [.ref a3, .int x_1, .ref a1]) rfl) ?_
  refine Eq.trans (rn_sta (L' := [.ref a0, .ref a1, .ref a2, .ref a3, .int x4, am_un, am_un, am_un, am_un]) (as := [.ref a1, .int x_1, .ref a3]) (rest := []) rfl rfl rfl rfl rfl (Nat.le_of_ble_eq_true rfl) (by decide) rfl) ?_
  refine Eq.trans (cW_I rfl rfl rfl) ?_
  refine cI_c (fun x_3 s_2 => ?_) (xh_nil rfl)
  refine Eq.trans (rn_go 6 (pc' := 2687) (L' := [.ref a0, .ref a1, .ref a2, .ref a3, .int x4, .int x_3, am_un, am_un, am_un]) (st' := [.int (x4 + (1 : Int32)), .ref a0, .ref a2]) rfl) ?_
  refine Eq.trans (rn_aI (L' := [.ref a0, .ref a1, .ref a2, .ref a3, .int x4, .int x_3, am_un, am_un, am_un]) rfl rfl) ?_
  refine eI_c (fun x_4 => ?_)
  refine Eq.trans (rn_vir (L' := [.ref a0, .ref a1, .ref a2, .ref a3, .int x4, .int x_3, am_un, am_un, am_un]) (as := [.int x_4]) (rest := []) rfl rfl rfl rfl rfl (Nat.le_of_ble_eq_true rfl) (by decide) (by decide)) ?_
  refine eC_c ?_
  refine Eq.trans (cW_I rfl rfl rfl) ?_
  refine cI_c (fun x_6 s_5 => ?_) (xh_nil rfl)
  refine Eq.trans (rn_go 2 (pc' := 2694) (L' := [.ref a0, .ref a1, .ref a2, .ref a3, .int x4, .int x_3, .int x_6, am_un, am_un]) (st' := [.ref a2]) rfl) ?_
  refine Eq.trans (rn_vir (L' := [.ref a0, .ref a1, .ref a2, .ref a3, .int x4, .int x_3, .int x_6, am_un, am_un]) (as := []) (rest := []) rfl rfl rfl rfl rfl (Nat.le_of_ble_eq_true rfl) (by decide) (by decide)) ?_
  refine eC_c ?_
  refine Eq.trans (cW_I rfl rfl rfl) ?_
  refine cI_c (fun x_8 s_7 => ?_) (xh_nil rfl)
  refine Eq.trans (rn_go 1 (pc' := 2699) (L' := [.ref a0, .ref a1, .ref a2, .ref a3, .int x4, .int x_3, .int x_6, am_un, am_un]) (st' := [.int x_3, .int x_8]) rfl) ?_
  refine Eq.trans (rn_iceq (L' := [.ref a0, .ref a1, .ref a2, .ref a3, .int x4, .int x_3, .int x_6, am_un, am_un]) rfl rfl) ?_
  refine if_c ?_ ?_
  · refine Eq.trans (rn_go 1 (pc' := 2706) (L' := [.ref a0, .ref a1, .ref a2, .ref a3, .int x4, .int x_3, .int x_6, am_un, am_un]) (st' := [.int x_3]) rfl) ?_
    refine Eq.trans (rn_ifne (L' := [.ref a0, .ref a1, .ref a2, .ref a3, .int x4, .int x_3, .int x_6, am_un, am_un]) rfl rfl) ?_
    refine if_c ?_ ?_
    · refine Eq.trans (rn_go 2 (pc' := 2711) (L' := [.ref a0, .ref a1, .ref a2, .ref a3, .int x4, .int x_3, .int x_6, am_un, am_un]) (st' := [.int (0 : Int32), .ref a3]) rfl) ?_
      refine Eq.trans (rn_aJ (L' := [.ref a0, .ref a1, .ref a2, .ref a3, .int x4, .int x_3, .int x_6, am_un, am_un]) rfl rfl) ?_
      refine eJ_c (fun x_9 => ?_)
      refine Eq.trans (rn_go 3 (pc' := 2716) (L' := [.ref a0, .ref a1, .ref a2, .ref a3, .int x4, .int x_3, .int x_6, am_un, am_un]) (st' := [.int (lg_cmp x_9 x_6.toInt64)]) rfl) ?_
      refine Eq.trans (rn_ifeq (L' := [.ref a0, .ref a1, .ref a2, .ref a3, .int x4, .int x_3, .int x_6, am_un, am_un]) rfl rfl) ?_
      refine if_c ?_ ?_
      · rfl
      · refine Eq.trans (rn_go 1 (pc' := 2720) (L' := [.ref a0, .ref a1, .ref a2, .ref a3, .int x4, .int x_3, .int x_6, am_un, am_un]) (st' := [.int (0 : Int32)]) rfl) ?_
        exact rn_retI rfl rfl rfl
    · rfl
  · refine Eq.trans (rn_go 1 (pc' := 2703) (L' := [.ref a0, .ref a1, .ref a2, .ref a3, .int x4, .int x_3, .int x_6, am_un, am_un]) (st' := [.int (0 : Int32)]) rfl) ?_
    exact rn_retI rfl rfl rfl
set_option maxRecDepth 20000 in
theorem dc_L_law_2721 {B : Nat} (a0 : Nat) (a1 : Nat) (a2 : Nat) (a3 : Nat) (x4 : Int32) (w5 : Value) (w6 : Value) (s : am_S) : rn_ tb_ct tb_mt B mm_L_law 2721 [.ref a0, .ref a1, .ref a2, .ref a3, .int x4, w5, w6, am_un, am_un] [] s = rn_ tb_ct tb_mt B mm_L_law 3221 [.ref a0, .ref a1, .ref a2, .ref a3, .int x4, am_un, am_un, am_un, am_un] [] s := by
  exact rn_go 1 (pc' := 3221) (L' := [.ref a0, .ref a1, .ref a2, .ref a3, .int x4, am_un, am_un, am_un, am_un]) (st' := []) rfl
set_option maxRecDepth 20000 in
theorem dc_L_law_2724 {B : Nat} (a0 : Nat) (a1 : Nat) (a2 : Nat) (a3 : Nat) (x4 : Int32) (s : am_S) : rn_ tb_ct tb_mt B mm_L_law 2724 [.ref a0, .ref a1, .ref a2, .ref a3, .int x4, am_un, am_un, am_un, am_un] [] s = eI (aI s a0 (x4 + (1 : Int32))) (fun x_1 => eI (aI s a0 (x4 + (2 : Int32))) (fun x_2 => eI (aI s a0 (x4 + (3 : Int32))) (fun x_3 => eI (aI s a0 (x4 + (4 : Int32))) (fun x_4 => cI (cl_ tb_ct tb_mt B K_L_when [.ref a1, .int x_1, .int x_2, .int x_3, .int x_4, .ref a3] s) (fun x_6 s_5 => eI (aI s_5 a0 (x4 + (1 : Int32))) (fun x_7 => eI (aI s_5 a0 (x4 + (2 : Int32))) (fun x_8 => eI (aI s_5 a0 (x4 + (3 : Int32))) (fun x_9 => eI (aI s_5 a0 (x4 + (4 : Int32))) (fun x_10 => eC (am_cls s_5 a2) 11 (cI (cl_ tb_ct tb_mt B K_X13_when [.ref a2, .int x_7, .int x_8, .int x_9, .int x_10] s_5) (fun x_12 s_11 => eC (am_cls s_11 a2) 11 (cI (cl_ tb_ct tb_mt B K_X13_thrown [.ref a2] s_11) (fun x_14 s_13 => if x_14 = x_6 then if x_6 = 0 then eJ (aJ s_13 a3 (0 : Int32)) (fun x_15 => if (lg_cmp x_15 x_12.toInt64) = 0 then rn_ tb_ct tb_mt B mm_L_law 2813 [.ref a0, .ref a1, .ref a2, .ref a3, .int x4, .int x_6, .int x_12, am_un, am_un] [] s_13 else some (.inl (some (.int (0 : Int32))), s_13)) else rn_ tb_ct tb_mt B mm_L_law 2813 [.ref a0, .ref a1, .ref a2, .ref a3, .int x4, .int x_6, .int x_12, am_un, am_un] [] s_13 else some (.inl (some (.int (0 : Int32))), s_13)) xo)) xo)))))) xo)))) := by
  refine Eq.trans (rn_go 5 (pc' := 2730) (L' := [.ref a0, .ref a1, .ref a2, .ref a3, .int x4, am_un, am_un, am_un, am_un]) (st' := [.int (x4 + (1 : Int32)), .ref a0, .ref a1]) rfl) ?_
  refine Eq.trans (rn_aI (L' := [.ref a0, .ref a1, .ref a2, .ref a3, .int x4, am_un, am_un, am_un, am_un]) rfl rfl) ?_
  refine eI_c (fun x_1 => ?_)
  refine Eq.trans (rn_go 4 (pc' := 2736) (L' := [.ref a0, .ref a1, .ref a2, .ref a3, .int x4, am_un, am_un, am_un, am_un]) (st' := [.int (x4 + (2 : Int32)), .ref a0, .int x_1, .ref a1]) rfl) ?_
  refine Eq.trans (rn_aI (L' := [.ref a0, .ref a1, .ref a2, .ref a3, .int x4, am_un, am_un, am_un, am_un]) rfl rfl) ?_
  refine eI_c (fun x_2 => ?_)
  refine Eq.trans (rn_go 4 (pc' := 2742) (L' := [.ref a0, .ref a1, .ref a2, .ref a3, .int x4, am_un, am_un, am_un, am_un]) (st' := [.int (x4 + (3 : Int32)), .ref a0, .int x_2, .int x_1, .ref a1]) rfl) ?_
  refine Eq.trans (rn_aI (L' := [.ref a0, .ref a1, .ref a2, .ref a3, .int x4, am_un, am_un, am_un, am_un]) rfl rfl) ?_
  refine eI_c (fun x_3 => ?_)
  refine Eq.trans (rn_go 4 (pc' := 2748) (L' := [.ref a0, .ref a1, .ref a2, .ref a3, .int x4, am_un, am_un, am_un, am_un]) (st' := [.int (x4 + (4 : Int32)), .ref a0, .int x_3, .int x_2, .int x_1, .ref a1]) rfl) ?_
  refine Eq.trans (rn_aI (L' := [.ref a0, .ref a1, .ref a2, .ref a3, .int x4, am_un, am_un, am_un, am_un]) rfl rfl) ?_
  refine eI_c (fun x_4 => ?_)
  refine Eq.trans (rn_go 1 (pc' := 2750) (L' := [.ref a0, .ref a1, .ref a2, .ref a3, .int x4, am_un, am_un, am_un, am_un]) (st' := [.ref a3, .int x_4, .int x_3, .int x_2, .int x_1, .ref a1]) rfl) ?_
  refine Eq.trans (rn_sta (L' := [.ref a0, .ref a1, .ref a2, .ref a3, .int x4, am_un, am_un, am_un, am_un]) (as := [.ref a1, .int x_1, .int x_2, .int x_3, .int x_4, .ref a3]) (rest := []) rfl rfl rfl rfl rfl (Nat.le_of_ble_eq_true rfl) (by decide) rfl) ?_
  refine Eq.trans (cW_I rfl rfl rfl) ?_
  refine cI_c (fun x_6 s_5 => ?_) (xh_nil rfl)
  refine Eq.trans (rn_go 6 (pc' := 2761) (L' := [.ref a0, .ref a1, .ref a2, .ref a3, .int x4, .int x_6, am_un, am_un, am_un]) (st' := [.int (x4 + (1 : Int32)), .ref a0, .ref a2]) rfl) ?_
  refine Eq.trans (rn_aI (L' := [.ref a0, .ref a1, .ref a2, .ref a3, .int x4, .int x_6, am_un, am_un, am_un]) rfl rfl) ?_
  refine eI_c (fun x_7 => ?_)
  refine Eq.trans (rn_go 4 (pc' := 2767) (L' := [.ref a0, .ref a1, .ref a2, .ref a3, .int x4, .int x_6, am_un, am_un, am_un]) (st' := [.int (x4 + (2 : Int32)), .ref a0, .int x_7, .ref a2]) rfl) ?_
  refine Eq.trans (rn_aI (L' := [.ref a0, .ref a1, .ref a2, .ref a3, .int x4, .int x_6, am_un, am_un, am_un]) rfl rfl) ?_
  refine eI_c (fun x_8 => ?_)
  refine Eq.trans (rn_go 4 (pc' := 2773) (L' := [.ref a0, .ref a1, .ref a2, .ref a3, .int x4, .int x_6, am_un, am_un, am_un]) (st' := [.int (x4 + (3 : Int32)), .ref a0, .int x_8, .int x_7, .ref a2]) rfl) ?_
  refine Eq.trans (rn_aI (L' := [.ref a0, .ref a1, .ref a2, .ref a3, .int x4, .int x_6, am_un, am_un, am_un]) rfl rfl) ?_
  refine eI_c (fun x_9 => ?_)
  refine Eq.trans (rn_go 4 (pc' := 2779) (L' := [.ref a0, .ref a1, .ref a2, .ref a3, .int x4, .int x_6, am_un, am_un, am_un]) (st' := [.int (x4 + (4 : Int32)), .ref a0, .int x_9, .int x_8, .int x_7, .ref a2]) rfl) ?_
  refine Eq.trans (rn_aI (L' := [.ref a0, .ref a1, .ref a2, .ref a3, .int x4, .int x_6, am_un, am_un, am_un]) rfl rfl) ?_
  refine eI_c (fun x_10 => ?_)
  refine Eq.trans (rn_vir (L' := [.ref a0, .ref a1, .ref a2, .ref a3, .int x4, .int x_6, am_un, am_un, am_un]) (as := [.int x_7, .int x_8, .int x_9, .int x_10]) (rest := []) rfl rfl rfl rfl rfl (Nat.le_of_ble_eq_true rfl) (by decide) (by decide)) ?_
  refine eC_c ?_
  refine Eq.trans (cW_I rfl rfl rfl) ?_
  refine cI_c (fun x_12 s_11 => ?_) (xh_nil rfl)
  refine Eq.trans (rn_go 2 (pc' := 2786) (L' := [.ref a0, .ref a1, .ref a2, .ref a3, .int x4, .int x_6, .int x_12, am_un, am_un]) (st' := [.ref a2]) rfl) ?_
  refine Eq.trans (rn_vir (L' := [.ref a0, .ref a1, .ref a2, .ref a3, .int x4, .int x_6, .int x_12, am_un, am_un]) (as := []) (rest := []) rfl rfl rfl rfl rfl (Nat.le_of_ble_eq_true rfl) (by decide) (by decide)) ?_
  refine eC_c ?_
  refine Eq.trans (cW_I rfl rfl rfl) ?_
  refine cI_c (fun x_14 s_13 => ?_) (xh_nil rfl)
  refine Eq.trans (rn_go 1 (pc' := 2791) (L' := [.ref a0, .ref a1, .ref a2, .ref a3, .int x4, .int x_6, .int x_12, am_un, am_un]) (st' := [.int x_6, .int x_14]) rfl) ?_
  refine Eq.trans (rn_iceq (L' := [.ref a0, .ref a1, .ref a2, .ref a3, .int x4, .int x_6, .int x_12, am_un, am_un]) rfl rfl) ?_
  refine if_c ?_ ?_
  · refine Eq.trans (rn_go 1 (pc' := 2798) (L' := [.ref a0, .ref a1, .ref a2, .ref a3, .int x4, .int x_6, .int x_12, am_un, am_un]) (st' := [.int x_6]) rfl) ?_
    refine Eq.trans (rn_ifne (L' := [.ref a0, .ref a1, .ref a2, .ref a3, .int x4, .int x_6, .int x_12, am_un, am_un]) rfl rfl) ?_
    refine if_c ?_ ?_
    · refine Eq.trans (rn_go 2 (pc' := 2803) (L' := [.ref a0, .ref a1, .ref a2, .ref a3, .int x4, .int x_6, .int x_12, am_un, am_un]) (st' := [.int (0 : Int32), .ref a3]) rfl) ?_
      refine Eq.trans (rn_aJ (L' := [.ref a0, .ref a1, .ref a2, .ref a3, .int x4, .int x_6, .int x_12, am_un, am_un]) rfl rfl) ?_
      refine eJ_c (fun x_15 => ?_)
      refine Eq.trans (rn_go 3 (pc' := 2808) (L' := [.ref a0, .ref a1, .ref a2, .ref a3, .int x4, .int x_6, .int x_12, am_un, am_un]) (st' := [.int (lg_cmp x_15 x_12.toInt64)]) rfl) ?_
      refine Eq.trans (rn_ifeq (L' := [.ref a0, .ref a1, .ref a2, .ref a3, .int x4, .int x_6, .int x_12, am_un, am_un]) rfl rfl) ?_
      refine if_c ?_ ?_
      · rfl
      · refine Eq.trans (rn_go 1 (pc' := 2812) (L' := [.ref a0, .ref a1, .ref a2, .ref a3, .int x4, .int x_6, .int x_12, am_un, am_un]) (st' := [.int (0 : Int32)]) rfl) ?_
        exact rn_retI rfl rfl rfl
    · rfl
  · refine Eq.trans (rn_go 1 (pc' := 2795) (L' := [.ref a0, .ref a1, .ref a2, .ref a3, .int x4, .int x_6, .int x_12, am_un, am_un]) (st' := [.int (0 : Int32)]) rfl) ?_
    exact rn_retI rfl rfl rfl
set_option maxRecDepth 20000 in
theorem dc_L_law_2813 {B : Nat} (a0 : Nat) (a1 : Nat) (a2 : Nat) (a3 : Nat) (x4 : Int32) (w5 : Value) (w6 : Value) (s : am_S) : rn_ tb_ct tb_mt B mm_L_law 2813 [.ref a0, .ref a1, .ref a2, .ref a3, .int x4, w5, w6, am_un, am_un] [] s = rn_ tb_ct tb_mt B mm_L_law 3221 [.ref a0, .ref a1, .ref a2, .ref a3, .int x4, am_un, am_un, am_un, am_un] [] s := by
  exact rn_go 1 (pc' := 3221) (L' := [.ref a0, .ref a1, .ref a2, .ref a3, .int x4, am_un, am_un, am_un, am_un]) (st' := []) rfl
set_option maxRecDepth 20000 in
theorem dc_L_law_2816 {B : Nat} (a0 : Nat) (a1 : Nat) (a2 : Nat) (a3 : Nat) (x4 : Int32) (s : am_S) : rn_ tb_ct tb_mt B mm_L_law 2816 [.ref a0, .ref a1, .ref a2, .ref a3, .int x4, am_un, am_un, am_un, am_un] [] s = eI (aI s a0 (x4 + (1 : Int32))) (fun x_1 => eI (aI s a0 (x4 + (2 : Int32))) (fun x_2 => eI (aI s a0 (x4 + (3 : Int32))) (fun x_3 => cI (cl_ tb_ct tb_mt B K_L_then [.ref a1, .int x_1, .int x_2, .int x_3, .ref a3] s) (fun x_5 s_4 => eI (aI s_4 a0 (x4 + (1 : Int32))) (fun x_6 => eI (aI s_4 a0 (x4 + (2 : Int32))) (fun x_7 => eI (aI s_4 a0 (x4 + (3 : Int32))) (fun x_8 => eC (am_cls s_4 a2) 11 (cI (cl_ tb_ct tb_mt B K_X13_then [.ref a2, .int x_6, .int x_7, .int x_8] s_4) (fun x_10 s_9 => eC (am_cls s_9 a2) 11 (cI (cl_ tb_ct tb_mt B K_X13_thrown [.ref a2] s_9) (fun x_12 s_11 => if x_12 = x_5 then if x_5 = 0 then eJ (aJ s_11 a3 (0 : Int32)) (fun x_13 => if (lg_cmp x_13 x_10.toInt64) = 0 then rn_ tb_ct tb_mt B mm_L_law 2893 [.ref a0, .ref a1, .ref a2, .ref a3, .int x4, .int x_5, .int x_10, am_un, am_un] [] s_11 else some (.inl (some (.int (0 : Int32))), s_11)) else rn_ tb_ct tb_mt B mm_L_law 2893 [.ref a0, .ref a1, .ref a2, .ref a3, .int x4, .int x_5, .int x_10, am_un, am_un] [] s_11 else some (.inl (some (.int (0 : Int32))), s_11)) xo)) xo))))) xo))) := by
  refine Eq.trans (rn_go 5 (pc' := 2822) (L' := [.ref a0, .ref a1, .ref a2, .ref a3, .int x4, am_un, am_un, am_un, am_un]) (st' := [.int (x4 + (1 : Int32)), .ref a0, .ref a1]) rfl) ?_
  refine Eq.trans (rn_aI (L' := [.ref a0, .ref a1, .ref a2, .ref a3, .int x4, am_un, am_un, am_un, am_un]) rfl rfl) ?_
  refine eI_c (fun x_1 => ?_)
  refine Eq.trans (rn_go 4 (pc' := 2828) (L' := [.ref a0, .ref a1, .ref a2, .ref a3, .int x4, am_un, am_un, am_un, am_un]) (st' := [.int (x4 + (2 : Int32)), .ref a0, .int x_1, .ref a1]) rfl) ?_
  refine Eq.trans (rn_aI (L' := [.ref a0, .ref a1, .ref a2, .ref a3, .int x4, am_un, am_un, am_un, am_un]) rfl rfl) ?_
  refine eI_c (fun x_2 => ?_)
  refine Eq.trans (rn_go 4 (pc' := 2834) (L' := [.ref a0, .ref a1, .ref a2, .ref a3, .int x4, am_un, am_un, am_un, am_un]) (st' := [.int (x4 + (3 : Int32)), .ref a0, .int x_2, .int x_1, .ref a1]) rfl) ?_
  refine Eq.trans (rn_aI (L' := [.ref a0, .ref a1, .ref a2, .ref a3, .int x4, am_un, am_un, am_un, am_un]) rfl rfl) ?_
  refine eI_c (fun x_3 => ?_)
  refine Eq.trans (rn_go 1 (pc' := 2836) (L' := [.ref a0, .ref a1, .ref a2, .ref a3, .int x4, am_un, am_un, am_un, am_un]) (st' := [.ref a3, .int x_3, .int x_2, .int x_1, .ref a1]) rfl) ?_
  refine Eq.trans (rn_sta (L' := [.ref a0, .ref a1, .ref a2, .ref a3, .int x4, am_un, am_un, am_un, am_un]) (as := [.ref a1, .int x_1, .int x_2, .int x_3, .ref a3]) (rest := []) rfl rfl rfl rfl rfl (Nat.le_of_ble_eq_true rfl) (by decide) rfl) ?_
  refine Eq.trans (cW_I rfl rfl rfl) ?_
  refine cI_c (fun x_5 s_4 => ?_) (xh_nil rfl)
  refine Eq.trans (rn_go 6 (pc' := 2847) (L' := [.ref a0, .ref a1, .ref a2, .ref a3, .int x4, .int x_5, am_un, am_un, am_un]) (st' := [.int (x4 + (1 : Int32)), .ref a0, .ref a2]) rfl) ?_
  refine Eq.trans (rn_aI (L' := [.ref a0, .ref a1, .ref a2, .ref a3, .int x4, .int x_5, am_un, am_un, am_un]) rfl rfl) ?_
  refine eI_c (fun x_6 => ?_)
  refine Eq.trans (rn_go 4 (pc' := 2853) (L' := [.ref a0, .ref a1, .ref a2, .ref a3, .int x4, .int x_5, am_un, am_un, am_un]) (st' := [.int (x4 + (2 : Int32)), .ref a0, .int x_6, .ref a2]) rfl) ?_
  refine Eq.trans (rn_aI (L' := [.ref a0, .ref a1, .ref a2, .ref a3, .int x4, .int x_5, am_un, am_un, am_un]) rfl rfl) ?_
  refine eI_c (fun x_7 => ?_)
  refine Eq.trans (rn_go 4 (pc' := 2859) (L' := [.ref a0, .ref a1, .ref a2, .ref a3, .int x4, .int x_5, am_un, am_un, am_un]) (st' := [.int (x4 + (3 : Int32)), .ref a0, .int x_7, .int x_6, .ref a2]) rfl) ?_
  refine Eq.trans (rn_aI (L' := [.ref a0, .ref a1, .ref a2, .ref a3, .int x4, .int x_5, am_un, am_un, am_un]) rfl rfl) ?_
  refine eI_c (fun x_8 => ?_)
  refine Eq.trans (rn_vir (L' := [.ref a0, .ref a1, .ref a2, .ref a3, .int x4, .int x_5, am_un, am_un, am_un]) (as := [.int x_6, .int x_7, .int x_8]) (rest := []) rfl rfl rfl rfl rfl (Nat.le_of_ble_eq_true rfl) (by decide) (by decide)) ?_
  refine eC_c ?_
  refine Eq.trans (cW_I rfl rfl rfl) ?_
  refine cI_c (fun x_10 s_9 => ?_) (xh_nil rfl)
  refine Eq.trans (rn_go 2 (pc' := 2866) (L' := [.ref a0, .ref a1, .ref a2, .ref a3, .int x4, .int x_5, .int x_10, am_un, am_un]) (st' := [.ref a2]) rfl) ?_
  refine Eq.trans (rn_vir (L' := [.ref a0, .ref a1, .ref a2, .ref a3, .int x4, .int x_5, .int x_10, am_un, am_un]) (as := []) (rest := []) rfl rfl rfl rfl rfl (Nat.le_of_ble_eq_true rfl) (by decide) (by decide)) ?_
  refine eC_c ?_
  refine Eq.trans (cW_I rfl rfl rfl) ?_
  refine cI_c (fun x_12 s_11 => ?_) (xh_nil rfl)
  refine Eq.trans (rn_go 1 (pc' := 2871) (L' := [.ref a0, .ref a1, .ref a2, .ref a3, .int x4, .int x_5, .int x_10, am_un, am_un]) (st' := [.int x_5, .int x_12]) rfl) ?_
  refine Eq.trans (rn_iceq (L' := [.ref a0, .ref a1, .ref a2, .ref a3, .int x4, .int x_5, .int x_10, am_un, am_un]) rfl rfl) ?_
  refine if_c ?_ ?_
  · refine Eq.trans (rn_go 1 (pc' := 2878) (L' := [.ref a0, .ref a1, .ref a2, .ref a3, .int x4, .int x_5, .int x_10, am_un, am_un]) (st' := [.int x_5]) rfl) ?_
    refine Eq.trans (rn_ifne (L' := [.ref a0, .ref a1, .ref a2, .ref a3, .int x4, .int x_5, .int x_10, am_un, am_un]) rfl rfl) ?_
    refine if_c ?_ ?_
    · refine Eq.trans (rn_go 2 (pc' := 2883) (L' := [.ref a0, .ref a1, .ref a2, .ref a3, .int x4, .int x_5, .int x_10, am_un, am_un]) (st' := [.int (0 : Int32), .ref a3]) rfl) ?_
      refine Eq.trans (rn_aJ (L' := [.ref a0, .ref a1, .ref a2, .ref a3, .int x4, .int x_5, .int x_10, am_un, am_un]) rfl rfl) ?_
      refine eJ_c (fun x_13 => ?_)
      refine Eq.trans (rn_go 3 (pc' := 2888) (L' := [.ref a0, .ref a1, .ref a2, .ref a3, .int x4, .int x_5, .int x_10, am_un, am_un]) (st' := [.int (lg_cmp x_13 x_10.toInt64)]) rfl) ?_
      refine Eq.trans (rn_ifeq (L' := [.ref a0, .ref a1, .ref a2, .ref a3, .int x4, .int x_5, .int x_10, am_un, am_un]) rfl rfl) ?_
      refine if_c ?_ ?_
      · rfl
      · refine Eq.trans (rn_go 1 (pc' := 2892) (L' := [.ref a0, .ref a1, .ref a2, .ref a3, .int x4, .int x_5, .int x_10, am_un, am_un]) (st' := [.int (0 : Int32)]) rfl) ?_
        exact rn_retI rfl rfl rfl
    · rfl
  · refine Eq.trans (rn_go 1 (pc' := 2875) (L' := [.ref a0, .ref a1, .ref a2, .ref a3, .int x4, .int x_5, .int x_10, am_un, am_un]) (st' := [.int (0 : Int32)]) rfl) ?_
    exact rn_retI rfl rfl rfl
set_option maxRecDepth 20000 in
theorem dc_L_law_2893 {B : Nat} (a0 : Nat) (a1 : Nat) (a2 : Nat) (a3 : Nat) (x4 : Int32) (w5 : Value) (w6 : Value) (s : am_S) : rn_ tb_ct tb_mt B mm_L_law 2893 [.ref a0, .ref a1, .ref a2, .ref a3, .int x4, w5, w6, am_un, am_un] [] s = rn_ tb_ct tb_mt B mm_L_law 3221 [.ref a0, .ref a1, .ref a2, .ref a3, .int x4, am_un, am_un, am_un, am_un] [] s := by
  exact rn_go 1 (pc' := 3221) (L' := [.ref a0, .ref a1, .ref a2, .ref a3, .int x4, am_un, am_un, am_un, am_un]) (st' := []) rfl
set_option maxRecDepth 20000 in
theorem dc_L_law_2896 {B : Nat} (a0 : Nat) (a1 : Nat) (a2 : Nat) (a3 : Nat) (x4 : Int32) (s : am_S) : rn_ tb_ct tb_mt B mm_L_law 2896 [.ref a0, .ref a1, .ref a2, .ref a3, .int x4, am_un, am_un, am_un, am_un] [] s = eI (aI s a0 (x4 + (1 : Int32))) (fun x_1 => eI (aI s a0 (x4 + (2 : Int32))) (fun x_2 => eI (aI s a0 (x4 + (3 : Int32))) (fun x_3 => cI (cl_ tb_ct tb_mt B K_L_otherwise [.ref a1, .int x_1, .int x_2, .int x_3, .ref a3] s) (fun x_5 s_4 => eI (aI s_4 a0 (x4 + (1 : Int32))) (fun x_6 => eI (aI s_4 a0 (x4 + (2 : Int32))) (fun x_7 => eI (aI s_4 a0 (x4 + (3 : Int32))) (fun x_8 => eC (am_cls s_4 a2) 11 (cI (cl_ tb_ct tb_mt B K_X13_otherwise [.ref a2, .int x_6, .int x_7, .int x_8] s_4) (fun x_10 s_9 => eC (am_cls s_9 a2) 11 (cI (cl_ tb_ct tb_mt B K_X13_thrown [.ref a2] s_9) (fun x_12 s_11 => if x_12 = x_5 then if x_5 = 0 then eJ (aJ s_11 a3 (0 : Int32)) (fun x_13 => if (lg_cmp x_13 x_10.toInt64) = 0 then rn_ tb_ct tb_mt B mm_L_law 2973 [.ref a0, .ref a1, .ref a2, .ref a3, .int x4, .int x_5, .int x_10, am_un, am_un] [] s_11 else some (.inl (some (.int (0 : Int32))), s_11)) else rn_ tb_ct tb_mt B mm_L_law 2973 [.ref a0, .ref a1, .ref a2, .ref a3, .int x4, .int x_5, .int x_10, am_un, am_un] [] s_11 else some (.inl (some (.int (0 : Int32))), s_11)) xo)) xo))))) xo))) := by
  refine Eq.trans (rn_go 5 (pc' := 2902) (L' := [.ref a0, .ref a1, .ref a2, .ref a3, .int x4, am_un, am_un, am_un, am_un]) (st' := [.int (x4 + (1 : Int32)), .ref a0, .ref a1]) rfl) ?_
  refine Eq.trans (rn_aI (L' := [.ref a0, .ref a1, .ref a2, .ref a3, .int x4, am_un, am_un, am_un, am_un]) rfl rfl) ?_
  refine eI_c (fun x_1 => ?_)
  refine Eq.trans (rn_go 4 (pc' := 2908) (L' := [.ref a0, .ref a1, .ref a2, .ref a3, .int x4, am_un, am_un, am_un, am_un]) (st' := [.int (x4 + (2 : Int32)), .ref a0, .int x_1, .ref a1]) rfl) ?_
  refine Eq.trans (rn_aI (L' := [.ref a0, .ref a1, .ref a2, .ref a3, .int x4, am_un, am_un, am_un, am_un]) rfl rfl) ?_
  refine eI_c (fun x_2 => ?_)
  refine Eq.trans (rn_go 4 (pc' := 2914) (L' := [.ref a0, .ref a1, .ref a2, .ref a3, .int x4, am_un, am_un, am_un, am_un]) (st' := [.int (x4 + (3 : Int32)), .ref a0, .int x_2, .int x_1, .ref a1]) rfl) ?_
  refine Eq.trans (rn_aI (L' := [.ref a0, .ref a1, .ref a2, .ref a3, .int x4, am_un, am_un, am_un, am_un]) rfl rfl) ?_
  refine eI_c (fun x_3 => ?_)
  refine Eq.trans (rn_go 1 (pc' := 2916) (L' := [.ref a0, .ref a1, .ref a2, .ref a3, .int x4, am_un, am_un, am_un, am_un]) (st' := [.ref a3, .int x_3, .int x_2, .int x_1, .ref a1]) rfl) ?_
  refine Eq.trans (rn_sta (L' := [.ref a0, .ref a1, .ref a2, .ref a3, .int x4, am_un, am_un, am_un, am_un]) (as := [.ref a1, .int x_1, .int x_2, .int x_3, .ref a3]) (rest := []) rfl rfl rfl rfl rfl (Nat.le_of_ble_eq_true rfl) (by decide) rfl) ?_
  refine Eq.trans (cW_I rfl rfl rfl) ?_
  refine cI_c (fun x_5 s_4 => ?_) (xh_nil rfl)
  refine Eq.trans (rn_go 6 (pc' := 2927) (L' := [.ref a0, .ref a1, .ref a2, .ref a3, .int x4, .int x_5, am_un, am_un, am_un]) (st' := [.int (x4 + (1 : Int32)), .ref a0, .ref a2]) rfl) ?_
  refine Eq.trans (rn_aI (L' := [.ref a0, .ref a1, .ref a2, .ref a3, .int x4, .int x_5, am_un, am_un, am_un]) rfl rfl) ?_
  refine eI_c (fun x_6 => ?_)
  refine Eq.trans (rn_go 4 (pc' := 2933) (L' := [.ref a0, .ref a1, .ref a2, .ref a3, .int x4, .int x_5, am_un, am_un, am_un]) (st' := [.int (x4 + (2 : Int32)), .ref a0, .int x_6, .ref a2]) rfl) ?_
  refine Eq.trans (rn_aI (L' := [.ref a0, .ref a1, .ref a2, .ref a3, .int x4, .int x_5, am_un, am_un, am_un]) rfl rfl) ?_
  refine eI_c (fun x_7 => ?_)
  refine Eq.trans (rn_go 4 (pc' := 2939) (L' := [.ref a0, .ref a1, .ref a2, .ref a3, .int x4, .int x_5, am_un, am_un, am_un]) (st' := [.int (x4 + (3 : Int32)), .ref a0, .int x_7, .int x_6, .ref a2]) rfl) ?_
  refine Eq.trans (rn_aI (L' := [.ref a0, .ref a1, .ref a2, .ref a3, .int x4, .int x_5, am_un, am_un, am_un]) rfl rfl) ?_
  refine eI_c (fun x_8 => ?_)
  refine Eq.trans (rn_vir (L' := [.ref a0, .ref a1, .ref a2, .ref a3, .int x4, .int x_5, am_un, am_un, am_un]) (as := [.int x_6, .int x_7, .int x_8]) (rest := []) rfl rfl rfl rfl rfl (Nat.le_of_ble_eq_true rfl) (by decide) (by decide)) ?_
  refine eC_c ?_
  refine Eq.trans (cW_I rfl rfl rfl) ?_
  refine cI_c (fun x_10 s_9 => ?_) (xh_nil rfl)
  refine Eq.trans (rn_go 2 (pc' := 2946) (L' := [.ref a0, .ref a1, .ref a2, .ref a3, .int x4, .int x_5, .int x_10, am_un, am_un]) (st' := [.ref a2]) rfl) ?_
  refine Eq.trans (rn_vir (L' := [.ref a0, .ref a1, .ref a2, .ref a3, .int x4, .int x_5, .int x_10, am_un, am_un]) (as := []) (rest := []) rfl rfl rfl rfl rfl (Nat.le_of_ble_eq_true rfl) (by decide) (by decide)) ?_
  refine eC_c ?_
  refine Eq.trans (cW_I rfl rfl rfl) ?_
  refine cI_c (fun x_12 s_11 => ?_) (xh_nil rfl)
  refine Eq.trans (rn_go 1 (pc' := 2951) (L' := [.ref a0, .ref a1, .ref a2, .ref a3, .int x4, .int x_5, .int x_10, am_un, am_un]) (st' := [.int x_5, .int x_12]) rfl) ?_
  refine Eq.trans (rn_iceq (L' := [.ref a0, .ref a1, .ref a2, .ref a3, .int x4, .int x_5, .int x_10, am_un, am_un]) rfl rfl) ?_
  refine if_c ?_ ?_
  · refine Eq.trans (rn_go 1 (pc' := 2958) (L' := [.ref a0, .ref a1, .ref a2, .ref a3, .int x4, .int x_5, .int x_10, am_un, am_un]) (st' := [.int x_5]) rfl) ?_
    refine Eq.trans (rn_ifne (L' := [.ref a0, .ref a1, .ref a2, .ref a3, .int x4, .int x_5, .int x_10, am_un, am_un]) rfl rfl) ?_
    refine if_c ?_ ?_
    · refine Eq.trans (rn_go 2 (pc' := 2963) (L' := [.ref a0, .ref a1, .ref a2, .ref a3, .int x4, .int x_5, .int x_10, am_un, am_un]) (st' := [.int (0 : Int32), .ref a3]) rfl) ?_
      refine Eq.trans (rn_aJ (L' := [.ref a0, .ref a1, .ref a2, .ref a3, .int x4, .int x_5, .int x_10, am_un, am_un]) rfl rfl) ?_
      refine eJ_c (fun x_13 => ?_)
      refine Eq.trans (rn_go 3 (pc' := 2968) (L' := [.ref a0, .ref a1, .ref a2, .ref a3, .int x4, .int x_5, .int x_10, am_un, am_un]) (st' := [.int (lg_cmp x_13 x_10.toInt64)]) rfl) ?_
      refine Eq.trans (rn_ifeq (L' := [.ref a0, .ref a1, .ref a2, .ref a3, .int x4, .int x_5, .int x_10, am_un, am_un]) rfl rfl) ?_
      refine if_c ?_ ?_
      · rfl
      · refine Eq.trans (rn_go 1 (pc' := 2972) (L' := [.ref a0, .ref a1, .ref a2, .ref a3, .int x4, .int x_5, .int x_10, am_un, am_un]) (st' := [.int (0 : Int32)]) rfl) ?_
        exact rn_retI rfl rfl rfl
    · rfl
  · refine Eq.trans (rn_go 1 (pc' := 2955) (L' := [.ref a0, .ref a1, .ref a2, .ref a3, .int x4, .int x_5, .int x_10, am_un, am_un]) (st' := [.int (0 : Int32)]) rfl) ?_
    exact rn_retI rfl rfl rfl
set_option maxRecDepth 20000 in
theorem dc_L_law_2973 {B : Nat} (a0 : Nat) (a1 : Nat) (a2 : Nat) (a3 : Nat) (x4 : Int32) (w5 : Value) (w6 : Value) (s : am_S) : rn_ tb_ct tb_mt B mm_L_law 2973 [.ref a0, .ref a1, .ref a2, .ref a3, .int x4, w5, w6, am_un, am_un] [] s = rn_ tb_ct tb_mt B mm_L_law 3221 [.ref a0, .ref a1, .ref a2, .ref a3, .int x4, am_un, am_un, am_un, am_un] [] s := by
  exact rn_go 1 (pc' := 3221) (L' := [.ref a0, .ref a1, .ref a2, .ref a3, .int x4, am_un, am_un, am_un, am_un]) (st' := []) rfl
set_option maxRecDepth 20000 in
theorem dc_L_law_2976 {B : Nat} (a0 : Nat) (a1 : Nat) (a2 : Nat) (a3 : Nat) (x4 : Int32) (s : am_S) : rn_ tb_ct tb_mt B mm_L_law 2976 [.ref a0, .ref a1, .ref a2, .ref a3, .int x4, am_un, am_un, am_un, am_un] [] s = eC (am_cls s a1) 10 (cI (cl_ tb_ct tb_mt B K_X12_holds [.ref a1] s) (fun x_2 s_1 => eC (am_cls s_1 a2) 11 (cI (cl_ tb_ct tb_mt B K_X13_holds [.ref a2] s_1) (fun x_4 s_3 => if x_2 = x_4 then rn_ tb_ct tb_mt B mm_L_law 3221 [.ref a0, .ref a1, .ref a2, .ref a3, .int x4, am_un, am_un, am_un, am_un] [] s_3 else some (.inl (some (.int (0 : Int32))), s_3)) xo)) xo) := by
  refine Eq.trans (rn_go 1 (pc' := 2977) (L' := [.ref a0, .ref a1, .ref a2, .ref a3, .int x4, am_un, am_un, am_un, am_un]) (st' := [.ref a1]) rfl) ?_
  refine Eq.trans (rn_vir (L' := [.ref a0, .ref a1, .ref a2, .ref a3, .int x4, am_un, am_un, am_un, am_un]) (as := []) (rest := []) rfl rfl rfl rfl rfl (Nat.le_of_ble_eq_true rfl) (by decide) (by decide)) ?_
  refine eC_c ?_
  refine Eq.trans (cW_I rfl rfl rfl) ?_
  refine cI_c (fun x_2 s_1 => ?_) (xh_nil rfl)
  refine Eq.trans (rn_go 1 (pc' := 2981) (L' := [.ref a0, .ref a1, .ref a2, .ref a3, .int x4, am_un, am_un, am_un, am_un]) (st' := [.ref a2, .int x_2]) rfl) ?_
  refine Eq.trans (rn_vir (L' := [.ref a0, .ref a1, .ref a2, .ref a3, .int x4, am_un, am_un, am_un, am_un]) (as := []) (rest := [.int x_2]) rfl rfl rfl rfl rfl (Nat.le_of_ble_eq_true rfl) (by decide) (by decide)) ?_
  refine eC_c ?_
  refine Eq.trans (cW_I rfl rfl rfl) ?_
  refine cI_c (fun x_4 s_3 => ?_) (xh_nil rfl)
  refine Eq.trans (rn_iceq (L' := [.ref a0, .ref a1, .ref a2, .ref a3, .int x4, am_un, am_un, am_un, am_un]) rfl rfl) ?_
  refine if_c ?_ ?_
  · rfl
  · refine Eq.trans (rn_go 1 (pc' := 2988) (L' := [.ref a0, .ref a1, .ref a2, .ref a3, .int x4, am_un, am_un, am_un, am_un]) (st' := [.int (0 : Int32)]) rfl) ?_
    exact rn_retI rfl rfl rfl
set_option maxRecDepth 20000 in
theorem dc_L_law_2989 {B : Nat} (a0 : Nat) (a1 : Nat) (a2 : Nat) (a3 : Nat) (x4 : Int32) (s : am_S) : rn_ tb_ct tb_mt B mm_L_law 2989 [.ref a0, .ref a1, .ref a2, .ref a3, .int x4, am_un, am_un, am_un, am_un] [] s = eC (am_cls s a1) 10 (cI (cl_ tb_ct tb_mt B K_X12_wouldWrite [.ref a1] s) (fun x_2 s_1 => eC (am_cls s_1 a2) 11 (cI (cl_ tb_ct tb_mt B K_X13_wouldWrite [.ref a2] s_1) (fun x_4 s_3 => if x_2 = x_4 then rn_ tb_ct tb_mt B mm_L_law 3221 [.ref a0, .ref a1, .ref a2, .ref a3, .int x4, am_un, am_un, am_un, am_un] [] s_3 else some (.inl (some (.int (0 : Int32))), s_3)) xo)) xo) := by
  refine Eq.trans (rn_go 1 (pc' := 2990) (L' := [.ref a0, .ref a1, .ref a2, .ref a3, .int x4, am_un, am_un, am_un, am_un]) (st' := [.ref a1]) rfl) ?_
  refine Eq.trans (rn_vir (L' := [.ref a0, .ref a1, .ref a2, .ref a3, .int x4, am_un, am_un, am_un, am_un]) (as := []) (rest := []) rfl rfl rfl rfl rfl (Nat.le_of_ble_eq_true rfl) (by decide) (by decide)) ?_
  refine eC_c ?_
  refine Eq.trans (cW_I rfl rfl rfl) ?_
  refine cI_c (fun x_2 s_1 => ?_) (xh_nil rfl)
  refine Eq.trans (rn_go 1 (pc' := 2994) (L' := [.ref a0, .ref a1, .ref a2, .ref a3, .int x4, am_un, am_un, am_un, am_un]) (st' := [.ref a2, .int x_2]) rfl) ?_
  refine Eq.trans (rn_vir (L' := [.ref a0, .ref a1, .ref a2, .ref a3, .int x4, am_un, am_un, am_un, am_un]) (as := []) (rest := [.int x_2]) rfl rfl rfl rfl rfl (Nat.le_of_ble_eq_true rfl) (by decide) (by decide)) ?_
  refine eC_c ?_
  refine Eq.trans (cW_I rfl rfl rfl) ?_
  refine cI_c (fun x_4 s_3 => ?_) (xh_nil rfl)
  refine Eq.trans (rn_iceq (L' := [.ref a0, .ref a1, .ref a2, .ref a3, .int x4, am_un, am_un, am_un, am_un]) rfl rfl) ?_
  refine if_c ?_ ?_
  · rfl
  · refine Eq.trans (rn_go 1 (pc' := 3001) (L' := [.ref a0, .ref a1, .ref a2, .ref a3, .int x4, am_un, am_un, am_un, am_un]) (st' := [.int (0 : Int32)]) rfl) ?_
    exact rn_retI rfl rfl rfl
set_option maxRecDepth 20000 in
theorem dc_L_law_3002 {B : Nat} (a0 : Nat) (a1 : Nat) (a2 : Nat) (a3 : Nat) (x4 : Int32) (s : am_S) : rn_ tb_ct tb_mt B mm_L_law 3002 [.ref a0, .ref a1, .ref a2, .ref a3, .int x4, am_un, am_un, am_un, am_un] [] s = eC (am_cls s a1) 10 (cI (cl_ tb_ct tb_mt B K_X12_commit [.ref a1] s) (fun x_2 s_1 => eC (am_cls s_1 a2) 11 (cI (cl_ tb_ct tb_mt B K_X13_commit [.ref a2] s_1) (fun x_4 s_3 => if x_2 = x_4 then rn_ tb_ct tb_mt B mm_L_law 3221 [.ref a0, .ref a1, .ref a2, .ref a3, .int x4, am_un, am_un, am_un, am_un] [] s_3 else some (.inl (some (.int (0 : Int32))), s_3)) xo)) xo) := by
  refine Eq.trans (rn_go 1 (pc' := 3003) (L' := [.ref a0, .ref a1, .ref a2, .ref a3, .int x4, am_un, am_un, am_un, am_un]) (st' := [.ref a1]) rfl) ?_
  refine Eq.trans (rn_vir (L' := [.ref a0, .ref a1, .ref a2, .ref a3, .int x4, am_un, am_un, am_un, am_un]) (as := []) (rest := []) rfl rfl rfl rfl rfl (Nat.le_of_ble_eq_true rfl) (by decide) (by decide)) ?_
  refine eC_c ?_
  refine Eq.trans (cW_I rfl rfl rfl) ?_
  refine cI_c (fun x_2 s_1 => ?_) (xh_nil rfl)
  refine Eq.trans (rn_go 1 (pc' := 3007) (L' := [.ref a0, .ref a1, .ref a2, .ref a3, .int x4, am_un, am_un, am_un, am_un]) (st' := [.ref a2, .int x_2]) rfl) ?_
  refine Eq.trans (rn_vir (L' := [.ref a0, .ref a1, .ref a2, .ref a3, .int x4, am_un, am_un, am_un, am_un]) (as := []) (rest := [.int x_2]) rfl rfl rfl rfl rfl (Nat.le_of_ble_eq_true rfl) (by decide) (by decide)) ?_
  refine eC_c ?_
  refine Eq.trans (cW_I rfl rfl rfl) ?_
  refine cI_c (fun x_4 s_3 => ?_) (xh_nil rfl)
  refine Eq.trans (rn_iceq (L' := [.ref a0, .ref a1, .ref a2, .ref a3, .int x4, am_un, am_un, am_un, am_un]) rfl rfl) ?_
  refine if_c ?_ ?_
  · rfl
  · refine Eq.trans (rn_go 1 (pc' := 3014) (L' := [.ref a0, .ref a1, .ref a2, .ref a3, .int x4, am_un, am_un, am_un, am_un]) (st' := [.int (0 : Int32)]) rfl) ?_
    exact rn_retI rfl rfl rfl
set_option maxRecDepth 20000 in
theorem dc_L_law_3015 {B : Nat} (a0 : Nat) (a1 : Nat) (a2 : Nat) (a3 : Nat) (x4 : Int32) (s : am_S) : rn_ tb_ct tb_mt B mm_L_law 3015 [.ref a0, .ref a1, .ref a2, .ref a3, .int x4, am_un, am_un, am_un, am_un] [] s = eC (am_cls s a1) 10 (cI (cl_ tb_ct tb_mt B K_X12_drop [.ref a1] s) (fun x_2 s_1 => eC (am_cls s_1 a2) 11 (cI (cl_ tb_ct tb_mt B K_X13_drop [.ref a2] s_1) (fun x_4 s_3 => if x_2 = x_4 then rn_ tb_ct tb_mt B mm_L_law 3221 [.ref a0, .ref a1, .ref a2, .ref a3, .int x4, am_un, am_un, am_un, am_un] [] s_3 else some (.inl (some (.int (0 : Int32))), s_3)) xo)) xo) := by
  refine Eq.trans (rn_go 1 (pc' := 3016) (L' := [.ref a0, .ref a1, .ref a2, .ref a3, .int x4, am_un, am_un, am_un, am_un]) (st' := [.ref a1]) rfl) ?_
  refine Eq.trans (rn_vir (L' := [.ref a0, .ref a1, .ref a2, .ref a3, .int x4, am_un, am_un, am_un, am_un]) (as := []) (rest := []) rfl rfl rfl rfl rfl (Nat.le_of_ble_eq_true rfl) (by decide) (by decide)) ?_
  refine eC_c ?_
  refine Eq.trans (cW_I rfl rfl rfl) ?_
  refine cI_c (fun x_2 s_1 => ?_) (xh_nil rfl)
  refine Eq.trans (rn_go 1 (pc' := 3020) (L' := [.ref a0, .ref a1, .ref a2, .ref a3, .int x4, am_un, am_un, am_un, am_un]) (st' := [.ref a2, .int x_2]) rfl) ?_
  refine Eq.trans (rn_vir (L' := [.ref a0, .ref a1, .ref a2, .ref a3, .int x4, am_un, am_un, am_un, am_un]) (as := []) (rest := [.int x_2]) rfl rfl rfl rfl rfl (Nat.le_of_ble_eq_true rfl) (by decide) (by decide)) ?_
  refine eC_c ?_
  refine Eq.trans (cW_I rfl rfl rfl) ?_
  refine cI_c (fun x_4 s_3 => ?_) (xh_nil rfl)
  refine Eq.trans (rn_iceq (L' := [.ref a0, .ref a1, .ref a2, .ref a3, .int x4, am_un, am_un, am_un, am_un]) rfl rfl) ?_
  refine if_c ?_ ?_
  · rfl
  · refine Eq.trans (rn_go 1 (pc' := 3027) (L' := [.ref a0, .ref a1, .ref a2, .ref a3, .int x4, am_un, am_un, am_un, am_un]) (st' := [.int (0 : Int32)]) rfl) ?_
    exact rn_retI rfl rfl rfl
set_option maxRecDepth 20000 in
theorem dc_L_law_3028 {B : Nat} (a0 : Nat) (a1 : Nat) (a2 : Nat) (a3 : Nat) (x4 : Int32) (s : am_S) : rn_ tb_ct tb_mt B mm_L_law 3028 [.ref a0, .ref a1, .ref a2, .ref a3, .int x4, am_un, am_un, am_un, am_un] [] s = eI (aI s a0 (x4 + (1 : Int32))) (fun x_1 => cI (cl_ tb_ct tb_mt B K_L_writeKey [.ref a1, .int x_1, .ref a3] s) (fun x_3 s_2 => eI (aI s_2 a0 (x4 + (1 : Int32))) (fun x_4 => eC (am_cls s_2 a2) 11 (cI (cl_ tb_ct tb_mt B K_X13_writeKey [.ref a2, .int x_4] s_2) (fun x_6 s_5 => eC (am_cls s_5 a2) 11 (cI (cl_ tb_ct tb_mt B K_X13_thrown [.ref a2] s_5) (fun x_8 s_7 => if x_8 = x_3 then if x_3 = 0 then eJ (aJ s_7 a3 (0 : Int32)) (fun x_9 => if (lg_cmp x_9 x_6.toInt64) = 0 then rn_ tb_ct tb_mt B mm_L_law 3081 [.ref a0, .ref a1, .ref a2, .ref a3, .int x4, .int x_3, .int x_6, am_un, am_un] [] s_7 else some (.inl (some (.int (0 : Int32))), s_7)) else rn_ tb_ct tb_mt B mm_L_law 3081 [.ref a0, .ref a1, .ref a2, .ref a3, .int x4, .int x_3, .int x_6, am_un, am_un] [] s_7 else some (.inl (some (.int (0 : Int32))), s_7)) xo)) xo))) xo) := by
  refine Eq.trans (rn_go 5 (pc' := 3034) (L' := [.ref a0, .ref a1, .ref a2, .ref a3, .int x4, am_un, am_un, am_un, am_un]) (st' := [.int (x4 + (1 : Int32)), .ref a0, .ref a1]) rfl) ?_
  refine Eq.trans (rn_aI (L' := [.ref a0, .ref a1, .ref a2, .ref a3, .int x4, am_un, am_un, am_un, am_un]) rfl rfl) ?_
  refine eI_c (fun x_1 => ?_)
  refine Eq.trans (rn_go 1 (pc' := 3036) (L' := [.ref a0, .ref a1, .ref a2, .ref a3, .int x4, am_un, am_un, am_un, am_un]) (st' := [.ref a3, .int x_1, .ref a1]) rfl) ?_
  refine Eq.trans (rn_sta (L' := [.ref a0, .ref a1, .ref a2, .ref a3, .int x4, am_un, am_un, am_un, am_un]) (as := [.ref a1, .int x_1, .ref a3]) (rest := []) rfl rfl rfl rfl rfl (Nat.le_of_ble_eq_true rfl) (by decide) rfl) ?_
  refine Eq.trans (cW_I rfl rfl rfl) ?_
  refine cI_c (fun x_3 s_2 => ?_) (xh_nil rfl)
  refine Eq.trans (rn_go 6 (pc' := 3047) (L' := [.ref a0, .ref a1, .ref a2, .ref a3, .int x4, .int x_3, am_un, am_un, am_un]) (st' := [.int (x4 + (1 : Int32)), .ref a0, .ref a2]) rfl) ?_
  refine Eq.trans (rn_aI (L' := [.ref a0, .ref a1, .ref a2, .ref a3, .int x4, .int x_3, am_un, am_un, am_un]) rfl rfl) ?_
  refine eI_c (fun x_4 => ?_)
  refine Eq.trans (rn_vir (L' := [.ref a0, .ref a1, .ref a2, .ref a3, .int x4, .int x_3, am_un, am_un, am_un]) (as := [.int x_4]) (rest := []) rfl rfl rfl rfl rfl (Nat.le_of_ble_eq_true rfl) (by decide) (by decide)) ?_
  refine eC_c ?_
  refine Eq.trans (cW_I rfl rfl rfl) ?_
  refine cI_c (fun x_6 s_5 => ?_) (xh_nil rfl)
  refine Eq.trans (rn_go 2 (pc' := 3054) (L' := [.ref a0, .ref a1, .ref a2, .ref a3, .int x4, .int x_3, .int x_6, am_un, am_un]) (st' := [.ref a2]) rfl) ?_
  refine Eq.trans (rn_vir (L' := [.ref a0, .ref a1, .ref a2, .ref a3, .int x4, .int x_3, .int x_6, am_un, am_un]) (as := []) (rest := []) rfl rfl rfl rfl rfl (Nat.le_of_ble_eq_true rfl) (by decide) (by decide)) ?_
  refine eC_c ?_
  refine Eq.trans (cW_I rfl rfl rfl) ?_
  refine cI_c (fun x_8 s_7 => ?_) (xh_nil rfl)
  refine Eq.trans (rn_go 1 (pc' := 3059) (L' := [.ref a0, .ref a1, .ref a2, .ref a3, .int x4, .int x_3, .int x_6, am_un, am_un]) (st' := [.int x_3, .int x_8]) rfl) ?_
  refine Eq.trans (rn_iceq (L' := [.ref a0, .ref a1, .ref a2, .ref a3, .int x4, .int x_3, .int x_6, am_un, am_un]) rfl rfl) ?_
  refine if_c ?_ ?_
  · refine Eq.trans (rn_go 1 (pc' := 3066) (L' := [.ref a0, .ref a1, .ref a2, .ref a3, .int x4, .int x_3, .int x_6, am_un, am_un]) (st' := [.int x_3]) rfl) ?_
    refine Eq.trans (rn_ifne (L' := [.ref a0, .ref a1, .ref a2, .ref a3, .int x4, .int x_3, .int x_6, am_un, am_un]) rfl rfl) ?_
    refine if_c ?_ ?_
    · refine Eq.trans (rn_go 2 (pc' := 3071) (L' := [.ref a0, .ref a1, .ref a2, .ref a3, .int x4, .int x_3, .int x_6, am_un, am_un]) (st' := [.int (0 : Int32), .ref a3]) rfl) ?_
      refine Eq.trans (rn_aJ (L' := [.ref a0, .ref a1, .ref a2, .ref a3, .int x4, .int x_3, .int x_6, am_un, am_un]) rfl rfl) ?_
      refine eJ_c (fun x_9 => ?_)
      refine Eq.trans (rn_go 3 (pc' := 3076) (L' := [.ref a0, .ref a1, .ref a2, .ref a3, .int x4, .int x_3, .int x_6, am_un, am_un]) (st' := [.int (lg_cmp x_9 x_6.toInt64)]) rfl) ?_
      refine Eq.trans (rn_ifeq (L' := [.ref a0, .ref a1, .ref a2, .ref a3, .int x4, .int x_3, .int x_6, am_un, am_un]) rfl rfl) ?_
      refine if_c ?_ ?_
      · rfl
      · refine Eq.trans (rn_go 1 (pc' := 3080) (L' := [.ref a0, .ref a1, .ref a2, .ref a3, .int x4, .int x_3, .int x_6, am_un, am_un]) (st' := [.int (0 : Int32)]) rfl) ?_
        exact rn_retI rfl rfl rfl
    · rfl
  · refine Eq.trans (rn_go 1 (pc' := 3063) (L' := [.ref a0, .ref a1, .ref a2, .ref a3, .int x4, .int x_3, .int x_6, am_un, am_un]) (st' := [.int (0 : Int32)]) rfl) ?_
    exact rn_retI rfl rfl rfl
set_option maxRecDepth 20000 in
theorem dc_L_law_3081 {B : Nat} (a0 : Nat) (a1 : Nat) (a2 : Nat) (a3 : Nat) (x4 : Int32) (w5 : Value) (w6 : Value) (s : am_S) : rn_ tb_ct tb_mt B mm_L_law 3081 [.ref a0, .ref a1, .ref a2, .ref a3, .int x4, w5, w6, am_un, am_un] [] s = rn_ tb_ct tb_mt B mm_L_law 3221 [.ref a0, .ref a1, .ref a2, .ref a3, .int x4, am_un, am_un, am_un, am_un] [] s := by
  exact rn_go 1 (pc' := 3221) (L' := [.ref a0, .ref a1, .ref a2, .ref a3, .int x4, am_un, am_un, am_un, am_un]) (st' := []) rfl
set_option maxRecDepth 20000 in
theorem dc_L_law_3084 {B : Nat} (a0 : Nat) (a1 : Nat) (a2 : Nat) (a3 : Nat) (x4 : Int32) (s : am_S) : rn_ tb_ct tb_mt B mm_L_law 3084 [.ref a0, .ref a1, .ref a2, .ref a3, .int x4, am_un, am_un, am_un, am_un] [] s = eI (aI s a0 (x4 + (1 : Int32))) (fun x_1 => eC (am_cls s a1) 10 (cI (cl_ tb_ct tb_mt B K_X12_outputByte [.ref a1, .int x_1] s) (fun x_3 s_2 => eI (aI s_2 a0 (x4 + (1 : Int32))) (fun x_4 => eC (am_cls s_2 a2) 11 (cI (cl_ tb_ct tb_mt B K_X13_outputByte [.ref a2, .int x_4] s_2) (fun x_6 s_5 => if x_3 = x_6 then rn_ tb_ct tb_mt B mm_L_law 3221 [.ref a0, .ref a1, .ref a2, .ref a3, .int x4, am_un, am_un, am_un, am_un] [] s_5 else some (.inl (some (.int (0 : Int32))), s_5)) xo))) xo)) := by
  refine Eq.trans (rn_go 5 (pc' := 3090) (L' := [.ref a0, .ref a1, .ref a2, .ref a3, .int x4, am_un, am_un, am_un, am_un]) (st' := [.int (x4 + (1 : Int32)), .ref a0, .ref a1]) rfl) ?_
  refine Eq.trans (rn_aI (L' := [.ref a0, .ref a1, .ref a2, .ref a3, .int x4, am_un, am_un, am_un, am_un]) rfl rfl) ?_
  refine eI_c (fun x_1 => ?_)
  refine Eq.trans (rn_vir (L' := [.ref a0, .ref a1, .ref a2, .ref a3, .int x4, am_un, am_un, am_un, am_un]) (as := [.int x_1]) (rest := []) rfl rfl rfl rfl rfl (Nat.le_of_ble_eq_true rfl) (by decide) (by decide)) ?_
  refine eC_c ?_
  refine Eq.trans (cW_I rfl rfl rfl) ?_
  refine cI_c (fun x_3 s_2 => ?_) (xh_nil rfl)
  refine Eq.trans (rn_go 5 (pc' := 3100) (L' := [.ref a0, .ref a1, .ref a2, .ref a3, .int x4, am_un, am_un, am_un, am_un]) (st' := [.int (x4 + (1 : Int32)), .ref a0, .ref a2, .int x_3]) rfl) ?_
  refine Eq.trans (rn_aI (L' := [.ref a0, .ref a1, .ref a2, .ref a3, .int x4, am_un, am_un, am_un, am_un]) rfl rfl) ?_
  refine eI_c (fun x_4 => ?_)
  refine Eq.trans (rn_vir (L' := [.ref a0, .ref a1, .ref a2, .ref a3, .int x4, am_un, am_un, am_un, am_un]) (as := [.int x_4]) (rest := [.int x_3]) rfl rfl rfl rfl rfl (Nat.le_of_ble_eq_true rfl) (by decide) (by decide)) ?_
  refine eC_c ?_
  refine Eq.trans (cW_I rfl rfl rfl) ?_
  refine cI_c (fun x_6 s_5 => ?_) (xh_nil rfl)
  refine Eq.trans (rn_iceq (L' := [.ref a0, .ref a1, .ref a2, .ref a3, .int x4, am_un, am_un, am_un, am_un]) rfl rfl) ?_
  refine if_c ?_ ?_
  · rfl
  · refine Eq.trans (rn_go 1 (pc' := 3108) (L' := [.ref a0, .ref a1, .ref a2, .ref a3, .int x4, am_un, am_un, am_un, am_un]) (st' := [.int (0 : Int32)]) rfl) ?_
    exact rn_retI rfl rfl rfl
set_option maxRecDepth 20000 in
theorem dc_L_law_3109 {B : Nat} (a0 : Nat) (a1 : Nat) (a2 : Nat) (a3 : Nat) (x4 : Int32) (s : am_S) : rn_ tb_ct tb_mt B mm_L_law 3109 [.ref a0, .ref a1, .ref a2, .ref a3, .int x4, am_un, am_un, am_un, am_un] [] s = eI (aI s a0 (x4 + (1 : Int32))) (fun x_1 => cI (cl_ tb_ct tb_mt B K_L_saveSnapshot [.ref a1, .int x_1, .ref a3] s) (fun x_3 s_2 => eI (aI s_2 a0 (x4 + (1 : Int32))) (fun x_4 => eC (am_cls s_2 a2) 11 (cI (cl_ tb_ct tb_mt B K_X13_saveSnapshot [.ref a2, .int x_4] s_2) (fun x_6 s_5 => eC (am_cls s_5 a2) 11 (cI (cl_ tb_ct tb_mt B K_X13_thrown [.ref a2] s_5) (fun x_8 s_7 => if x_8 = x_3 then if x_3 = 0 then eJ (aJ s_7 a3 (0 : Int32)) (fun x_9 => if (lg_cmp x_9 x_6.toInt64) = 0 then rn_ tb_ct tb_mt B mm_L_law 3162 [.ref a0, .ref a1, .ref a2, .ref a3, .int x4, .int x_3, .int x_6, am_un, am_un] [] s_7 else some (.inl (some (.int (0 : Int32))), s_7)) else rn_ tb_ct tb_mt B mm_L_law 3162 [.ref a0, .ref a1, .ref a2, .ref a3, .int x4, .int x_3, .int x_6, am_un, am_un] [] s_7 else some (.inl (some (.int (0 : Int32))), s_7)) xo)) xo))) xo) := by
  refine Eq.trans (rn_go 5 (pc' := 3115) (L' := [.ref a0, .ref a1, .ref a2, .ref a3, .int x4, am_un, am_un, am_un, am_un]) (st' := [.int (x4 + (1 : Int32)), .ref a0, .ref a1]) rfl) ?_
  refine Eq.trans (rn_aI (L' := [.ref a0, .ref a1, .ref a2, .ref a3, .int x4, am_un, am_un, am_un, am_un]) rfl rfl) ?_
  refine eI_c (fun x_1 => ?_)
  refine Eq.trans (rn_go 1 (pc' := 3117) (L' := [.ref a0, .ref a1, .ref a2, .ref a3, .int x4, am_un, am_un, am_un, am_un]) (st' := [.ref a3, .int x_1, .ref a1]) rfl) ?_
  refine Eq.trans (rn_sta (L' := [.ref a0, .ref a1, .ref a2, .ref a3, .int x4, am_un, am_un, am_un, am_un]) (as := [.ref a1, .int x_1, .ref a3]) (rest := []) rfl rfl rfl rfl rfl (Nat.le_of_ble_eq_true rfl) (by decide) rfl) ?_
  refine Eq.trans (cW_I rfl rfl rfl) ?_
  refine cI_c (fun x_3 s_2 => ?_) (xh_nil rfl)
  refine Eq.trans (rn_go 6 (pc' := 3128) (L' := [.ref a0, .ref a1, .ref a2, .ref a3, .int x4, .int x_3, am_un, am_un, am_un]) (st' := [.int (x4 + (1 : Int32)), .ref a0, .ref a2]) rfl) ?_
  refine Eq.trans (rn_aI (L' := [.ref a0, .ref a1, .ref a2, .ref a3, .int x4, .int x_3, am_un, am_un, am_un]) rfl rfl) ?_
  refine eI_c (fun x_4 => ?_)
  refine Eq.trans (rn_vir (L' := [.ref a0, .ref a1, .ref a2, .ref a3, .int x4, .int x_3, am_un, am_un, am_un]) (as := [.int x_4]) (rest := []) rfl rfl rfl rfl rfl (Nat.le_of_ble_eq_true rfl) (by decide) (by decide)) ?_
  refine eC_c ?_
  refine Eq.trans (cW_I rfl rfl rfl) ?_
  refine cI_c (fun x_6 s_5 => ?_) (xh_nil rfl)
  refine Eq.trans (rn_go 2 (pc' := 3135) (L' := [.ref a0, .ref a1, .ref a2, .ref a3, .int x4, .int x_3, .int x_6, am_un, am_un]) (st' := [.ref a2]) rfl) ?_
  refine Eq.trans (rn_vir (L' := [.ref a0, .ref a1, .ref a2, .ref a3, .int x4, .int x_3, .int x_6, am_un, am_un]) (as := []) (rest := []) rfl rfl rfl rfl rfl (Nat.le_of_ble_eq_true rfl) (by decide) (by decide)) ?_
  refine eC_c ?_
  refine Eq.trans (cW_I rfl rfl rfl) ?_
  refine cI_c (fun x_8 s_7 => ?_) (xh_nil rfl)
  refine Eq.trans (rn_go 1 (pc' := 3140) (L' := [.ref a0, .ref a1, .ref a2, .ref a3, .int x4, .int x_3, .int x_6, am_un, am_un]) (st' := [.int x_3, .int x_8]) rfl) ?_
  refine Eq.trans (rn_iceq (L' := [.ref a0, .ref a1, .ref a2, .ref a3, .int x4, .int x_3, .int x_6, am_un, am_un]) rfl rfl) ?_
  refine if_c ?_ ?_
  · refine Eq.trans (rn_go 1 (pc' := 3147) (L' := [.ref a0, .ref a1, .ref a2, .ref a3, .int x4, .int x_3, .int x_6, am_un, am_un]) (st' := [.int x_3]) rfl) ?_
    refine Eq.trans (rn_ifne (L' := [.ref a0, .ref a1, .ref a2, .ref a3, .int x4, .int x_3, .int x_6, am_un, am_un]) rfl rfl) ?_
    refine if_c ?_ ?_
    · refine Eq.trans (rn_go 2 (pc' := 3152) (L' := [.ref a0, .ref a1, .ref a2, .ref a3, .int x4, .int x_3, .int x_6, am_un, am_un]) (st' := [.int (0 : Int32), .ref a3]) rfl) ?_
      refine Eq.trans (rn_aJ (L' := [.ref a0, .ref a1, .ref a2, .ref a3, .int x4, .int x_3, .int x_6, am_un, am_un]) rfl rfl) ?_
      refine eJ_c (fun x_9 => ?_)
      refine Eq.trans (rn_go 3 (pc' := 3157) (L' := [.ref a0, .ref a1, .ref a2, .ref a3, .int x4, .int x_3, .int x_6, am_un, am_un]) (st' := [.int (lg_cmp x_9 x_6.toInt64)]) rfl) ?_
      refine Eq.trans (rn_ifeq (L' := [.ref a0, .ref a1, .ref a2, .ref a3, .int x4, .int x_3, .int x_6, am_un, am_un]) rfl rfl) ?_
      refine if_c ?_ ?_
      · rfl
      · refine Eq.trans (rn_go 1 (pc' := 3161) (L' := [.ref a0, .ref a1, .ref a2, .ref a3, .int x4, .int x_3, .int x_6, am_un, am_un]) (st' := [.int (0 : Int32)]) rfl) ?_
        exact rn_retI rfl rfl rfl
    · rfl
  · refine Eq.trans (rn_go 1 (pc' := 3144) (L' := [.ref a0, .ref a1, .ref a2, .ref a3, .int x4, .int x_3, .int x_6, am_un, am_un]) (st' := [.int (0 : Int32)]) rfl) ?_
    exact rn_retI rfl rfl rfl
set_option maxRecDepth 20000 in
theorem dc_L_law_3162 {B : Nat} (a0 : Nat) (a1 : Nat) (a2 : Nat) (a3 : Nat) (x4 : Int32) (w5 : Value) (w6 : Value) (s : am_S) : rn_ tb_ct tb_mt B mm_L_law 3162 [.ref a0, .ref a1, .ref a2, .ref a3, .int x4, w5, w6, am_un, am_un] [] s = rn_ tb_ct tb_mt B mm_L_law 3221 [.ref a0, .ref a1, .ref a2, .ref a3, .int x4, am_un, am_un, am_un, am_un] [] s := by
  exact rn_go 1 (pc' := 3221) (L' := [.ref a0, .ref a1, .ref a2, .ref a3, .int x4, am_un, am_un, am_un, am_un]) (st' := []) rfl
set_option maxRecDepth 20000 in
theorem dc_L_law_3165 {B : Nat} (a0 : Nat) (a1 : Nat) (a2 : Nat) (a3 : Nat) (x4 : Int32) (s : am_S) : rn_ tb_ct tb_mt B mm_L_law 3165 [.ref a0, .ref a1, .ref a2, .ref a3, .int x4, am_un, am_un, am_un, am_un] [] s = eI (aI s a0 (x4 + (1 : Int32))) (fun x_1 => cI (cl_ tb_ct tb_mt B K_L_restoreSnapshot [.ref a1, .int x_1, .ref a3] s) (fun x_3 s_2 => eI (aI s_2 a0 (x4 + (1 : Int32))) (fun x_4 => eC (am_cls s_2 a2) 11 (cI (cl_ tb_ct tb_mt B K_X13_restoreSnapshot [.ref a2, .int x_4] s_2) (fun x_6 s_5 => eC (am_cls s_5 a2) 11 (cI (cl_ tb_ct tb_mt B K_X13_thrown [.ref a2] s_5) (fun x_8 s_7 => if x_8 = x_3 then if x_3 = 0 then eJ (aJ s_7 a3 (0 : Int32)) (fun x_9 => if (lg_cmp x_9 x_6.toInt64) = 0 then rn_ tb_ct tb_mt B mm_L_law 3218 [.ref a0, .ref a1, .ref a2, .ref a3, .int x4, .int x_3, .int x_6, am_un, am_un] [] s_7 else some (.inl (some (.int (0 : Int32))), s_7)) else rn_ tb_ct tb_mt B mm_L_law 3218 [.ref a0, .ref a1, .ref a2, .ref a3, .int x4, .int x_3, .int x_6, am_un, am_un] [] s_7 else some (.inl (some (.int (0 : Int32))), s_7)) xo)) xo))) xo) := by
  refine Eq.trans (rn_go 5 (pc' := 3171) (L' := [.ref a0, .ref a1, .ref a2, .ref a3, .int x4, am_un, am_un, am_un, am_un]) (st' := [.int (x4 + (1 : Int32)), .ref a0, .ref a1]) rfl) ?_
  refine Eq.trans (rn_aI (L' := [.ref a0, .ref a1, .ref a2, .ref a3, .int x4, am_un, am_un, am_un, am_un]) rfl rfl) ?_
  refine eI_c (fun x_1 => ?_)
  refine Eq.trans (rn_go 1 (pc' := 3173) (L' := [.ref a0, .ref a1, .ref a2, .ref a3, .int x4, am_un, am_un, am_un, am_un]) (st' := [.ref a3, .int x_1, .ref a1]) rfl) ?_
  refine Eq.trans (rn_sta (L' := [.ref a0, .ref a1, .ref a2, .ref a3, .int x4, am_un, am_un, am_un, am_un]) (as := [.ref a1, .int x_1, .ref a3]) (rest := []) rfl rfl rfl rfl rfl (Nat.le_of_ble_eq_true rfl) (by decide) rfl) ?_
  refine Eq.trans (cW_I rfl rfl rfl) ?_
  refine cI_c (fun x_3 s_2 => ?_) (xh_nil rfl)
  refine Eq.trans (rn_go 6 (pc' := 3184) (L' := [.ref a0, .ref a1, .ref a2, .ref a3, .int x4, .int x_3, am_un, am_un, am_un]) (st' := [.int (x4 + (1 : Int32)), .ref a0, .ref a2]) rfl) ?_
  refine Eq.trans (rn_aI (L' := [.ref a0, .ref a1, .ref a2, .ref a3, .int x4, .int x_3, am_un, am_un, am_un]) rfl rfl) ?_
  refine eI_c (fun x_4 => ?_)
  refine Eq.trans (rn_vir (L' := [.ref a0, .ref a1, .ref a2, .ref a3, .int x4, .int x_3, am_un, am_un, am_un]) (as := [.int x_4]) (rest := []) rfl rfl rfl rfl rfl (Nat.le_of_ble_eq_true rfl) (by decide) (by decide)) ?_
  refine eC_c ?_
  refine Eq.trans (cW_I rfl rfl rfl) ?_
  refine cI_c (fun x_6 s_5 => ?_) (xh_nil rfl)
  refine Eq.trans (rn_go 2 (pc' := 3191) (L' := [.ref a0, .ref a1, .ref a2, .ref a3, .int x4, .int x_3, .int x_6, am_un, am_un]) (st' := [.ref a2]) rfl) ?_
  refine Eq.trans (rn_vir (L' := [.ref a0, .ref a1, .ref a2, .ref a3, .int x4, .int x_3, .int x_6, am_un, am_un]) (as := []) (rest := []) rfl rfl rfl rfl rfl (Nat.le_of_ble_eq_true rfl) (by decide) (by decide)) ?_
  refine eC_c ?_
  refine Eq.trans (cW_I rfl rfl rfl) ?_
  refine cI_c (fun x_8 s_7 => ?_) (xh_nil rfl)
  refine Eq.trans (rn_go 1 (pc' := 3196) (L' := [.ref a0, .ref a1, .ref a2, .ref a3, .int x4, .int x_3, .int x_6, am_un, am_un]) (st' := [.int x_3, .int x_8]) rfl) ?_
  refine Eq.trans (rn_iceq (L' := [.ref a0, .ref a1, .ref a2, .ref a3, .int x4, .int x_3, .int x_6, am_un, am_un]) rfl rfl) ?_
  refine if_c ?_ ?_
  · refine Eq.trans (rn_go 1 (pc' := 3203) (L' := [.ref a0, .ref a1, .ref a2, .ref a3, .int x4, .int x_3, .int x_6, am_un, am_un]) (st' := [.int x_3]) rfl) ?_
    refine Eq.trans (rn_ifne (L' := [.ref a0, .ref a1, .ref a2, .ref a3, .int x4, .int x_3, .int x_6, am_un, am_un]) rfl rfl) ?_
    refine if_c ?_ ?_
    · refine Eq.trans (rn_go 2 (pc' := 3208) (L' := [.ref a0, .ref a1, .ref a2, .ref a3, .int x4, .int x_3, .int x_6, am_un, am_un]) (st' := [.int (0 : Int32), .ref a3]) rfl) ?_
      refine Eq.trans (rn_aJ (L' := [.ref a0, .ref a1, .ref a2, .ref a3, .int x4, .int x_3, .int x_6, am_un, am_un]) rfl rfl) ?_
      refine eJ_c (fun x_9 => ?_)
      refine Eq.trans (rn_go 3 (pc' := 3213) (L' := [.ref a0, .ref a1, .ref a2, .ref a3, .int x4, .int x_3, .int x_6, am_un, am_un]) (st' := [.int (lg_cmp x_9 x_6.toInt64)]) rfl) ?_
      refine Eq.trans (rn_ifeq (L' := [.ref a0, .ref a1, .ref a2, .ref a3, .int x4, .int x_3, .int x_6, am_un, am_un]) rfl rfl) ?_
      refine if_c ?_ ?_
      · rfl
      · refine Eq.trans (rn_go 1 (pc' := 3217) (L' := [.ref a0, .ref a1, .ref a2, .ref a3, .int x4, .int x_3, .int x_6, am_un, am_un]) (st' := [.int (0 : Int32)]) rfl) ?_
        exact rn_retI rfl rfl rfl
    · rfl
  · refine Eq.trans (rn_go 1 (pc' := 3200) (L' := [.ref a0, .ref a1, .ref a2, .ref a3, .int x4, .int x_3, .int x_6, am_un, am_un]) (st' := [.int (0 : Int32)]) rfl) ?_
    exact rn_retI rfl rfl rfl
set_option maxRecDepth 20000 in
theorem dc_L_law_3218 {B : Nat} (a0 : Nat) (a1 : Nat) (a2 : Nat) (a3 : Nat) (x4 : Int32) (w5 : Value) (w6 : Value) (s : am_S) : rn_ tb_ct tb_mt B mm_L_law 3218 [.ref a0, .ref a1, .ref a2, .ref a3, .int x4, w5, w6, am_un, am_un] [] s = rn_ tb_ct tb_mt B mm_L_law 3221 [.ref a0, .ref a1, .ref a2, .ref a3, .int x4, am_un, am_un, am_un, am_un] [] s := by
  exact rn_go 1 (pc' := 3221) (L' := [.ref a0, .ref a1, .ref a2, .ref a3, .int x4, am_un, am_un, am_un, am_un]) (st' := []) rfl
set_option maxRecDepth 20000 in
theorem dc_L_law_3221 {B : Nat} (a0 : Nat) (a1 : Nat) (a2 : Nat) (a3 : Nat) (x4 : Int32) (s : am_S) : rn_ tb_ct tb_mt B mm_L_law 3221 [.ref a0, .ref a1, .ref a2, .ref a3, .int x4, am_un, am_un, am_un, am_un] [] s = rn_ tb_ct tb_mt B mm_L_law 23 [.ref a0, .ref a1, .ref a2, .ref a3, .int (x4 + (5 : Int32)), am_un, am_un, am_un, am_un] [] s := by
  exact rn_go 2 (pc' := 23) (L' := [.ref a0, .ref a1, .ref a2, .ref a3, .int (x4 + (5 : Int32)), am_un, am_un, am_un, am_un]) (st' := []) rfl
