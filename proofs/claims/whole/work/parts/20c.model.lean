theorem in_X13_init {B : Nat} (a0 : Nat) (s : am_S) : cl_ tb_ct tb_mt B K_X13_init [.ref a0] s = rn_ tb_ct tb_mt B mm_X13_init 0 [.ref a0] [] s := cl_in rfl rfl rfl rfl
theorem dc_X13_init_0 {B : Nat} (a0 : Nat) (s : am_S) : rn_ tb_ct tb_mt B mm_X13_init 0 [.ref a0] [] s = nwI .int s (1329 : Int32) (fun b_1 s_2 => eS (am_put tb_ct mm_X13_init B s_2 (.ref b_1) a0 11 0) (fun s_3 => nwI .int s_3 (1329 : Int32) (fun b_4 s_5 => eS (am_put tb_ct mm_X13_init B s_5 (.ref b_4) a0 11 1) (fun s_6 => nwI .int s_6 (2658 : Int32) (fun b_7 s_8 => eS (am_put tb_ct mm_X13_init B s_8 (.ref b_7) a0 11 2) (fun s_9 => nwI .boolean s_9 (2 : Int32) (fun b_10 s_11 => eS (am_put tb_ct mm_X13_init B s_11 (.ref b_10) a0 11 3) (fun s_12 => nwI .int s_12 (28 : Int32) (fun b_13 s_14 => eS (am_put tb_ct mm_X13_init B s_14 (.ref b_13) a0 11 5) (fun s_15 => nwI .int s_15 (28 : Int32) (fun b_16 s_17 => eS (am_put tb_ct mm_X13_init B s_17 (.ref b_16) a0 11 6) (fun s_18 => nwI .byte s_18 (500 : Int32) (fun b_19 s_20 => eS (am_put tb_ct mm_X13_init B s_20 (.ref b_19) a0 11 8) (fun s_21 => eS (am_put tb_ct mm_X13_init B s_21 (.int (-(1 : Int32))) a0 11 16) (fun s_22 => nwI .int s_22 (28 : Int32) (fun b_23 s_24 => eS (am_put tb_ct mm_X13_init B s_24 (.ref b_23) a0 11 17) (fun s_25 => nwI .int s_25 (28 : Int32) (fun b_26 s_27 => eS (am_put tb_ct mm_X13_init B s_27 (.ref b_26) a0 11 18) (fun s_28 => nwI .int s_28 (24 : Int32) (fun b_29 s_30 => eS (am_put tb_ct mm_X13_init B s_30 (.ref b_29) a0 11 19) (fun s_31 => nwI .byte s_31 (60 : Int32) (fun b_32 s_33 => eS (am_put tb_ct mm_X13_init B s_33 (.ref b_32) a0 11 20) (fun s_34 => eC (am_cls s_34 a0) 11 (cV (cl_ tb_ct tb_mt B K_X13_begins [.ref a0] s_34) (fun s_35 => some (.inl none, s_35)) xo)))))))))))))))))))))))) := by
  refine Eq.trans (rn_go 1 (pc' := 1) (L' := [.ref a0]) (st' := [.ref a0]) rfl) ?_
  refine Eq.trans (rn_obj (L' := [.ref a0]) rfl rfl (Nat.le_of_ble_eq_true rfl)) ?_
  refine Eq.trans (rn_go 2 (pc' := 8) (L' := [.ref a0]) (st' := [.int (1329 : Int32), .ref a0]) rfl) ?_
  refine Eq.trans (rn_nwI (L' := [.ref a0]) rfl rfl) ?_
  refine nwI_c (fun b_1 s_2 => ?_)
  refine Eq.trans (rn_pF (L' := [.ref a0]) rfl rfl) ?_
  refine eS_c (fun s_3 => ?_)
  refine Eq.trans (rn_go 2 (pc' := 17) (L' := [.ref a0]) (st' := [.int (1329 : Int32), .ref a0]) rfl) ?_
  refine Eq.trans (rn_nwI (L' := [.ref a0]) rfl rfl) ?_
  refine nwI_c (fun b_4 s_5 => ?_)
  refine Eq.trans (rn_pF (L' := [.ref a0]) rfl rfl) ?_
  refine eS_c (fun s_6 => ?_)
  refine Eq.trans (rn_go 2 (pc' := 26) (L' := [.ref a0]) (st' := [.int (2658 : Int32), .ref a0]) rfl) ?_
  refine Eq.trans (rn_nwI (L' := [.ref a0]) rfl rfl) ?_
  refine nwI_c (fun b_7 s_8 => ?_)
  refine Eq.trans (rn_pF (L' := [.ref a0]) rfl rfl) ?_
  refine eS_c (fun s_9 => ?_)
  refine Eq.trans (rn_go 2 (pc' := 33) (L' := [.ref a0]) (st' := [.int (2 : Int32), .ref a0]) rfl) ?_
  refine Eq.trans (rn_nwI (L' := [.ref a0]) rfl rfl) ?_
  refine nwI_c (fun b_10 s_11 => ?_)
  refine Eq.trans (rn_pF (L' := [.ref a0]) rfl rfl) ?_
  refine eS_c (fun s_12 => ?_)
  refine Eq.trans (rn_go 2 (pc' := 41) (L' := [.ref a0]) (st' := [.int (28 : Int32), .ref a0]) rfl) ?_
  refine Eq.trans (rn_nwI (L' := [.ref a0]) rfl rfl) ?_
  refine nwI_c (fun b_13 s_14 => ?_)
  refine Eq.trans (rn_pF (L' := [.ref a0]) rfl rfl) ?_
  refine eS_c (fun s_15 => ?_)
  refine Eq.trans (rn_go 2 (pc' := 49) (L' := [.ref a0]) (st' := [.int (28 : Int32), .ref a0]) rfl) ?_
  refine Eq.trans (rn_nwI (L' := [.ref a0]) rfl rfl) ?_
  refine nwI_c (fun b_16 s_17 => ?_)
  refine Eq.trans (rn_pF (L' := [.ref a0]) rfl rfl) ?_
  refine eS_c (fun s_18 => ?_)
  refine Eq.trans (rn_go 2 (pc' := 58) (L' := [.ref a0]) (st' := [.int (500 : Int32), .ref a0]) rfl) ?_
  refine Eq.trans (rn_nwI (L' := [.ref a0]) rfl rfl) ?_
  refine nwI_c (fun b_19 s_20 => ?_)
  refine Eq.trans (rn_pF (L' := [.ref a0]) rfl rfl) ?_
  refine eS_c (fun s_21 => ?_)
  refine Eq.trans (rn_go 2 (pc' := 65) (L' := [.ref a0]) (st' := [.int (-(1 : Int32)), .ref a0]) rfl) ?_
  refine Eq.trans (rn_pF (L' := [.ref a0]) rfl rfl) ?_
  refine eS_c (fun s_22 => ?_)
  refine Eq.trans (rn_go 2 (pc' := 71) (L' := [.ref a0]) (st' := [.int (28 : Int32), .ref a0]) rfl) ?_
  refine Eq.trans (rn_nwI (L' := [.ref a0]) rfl rfl) ?_
  refine nwI_c (fun b_23 s_24 => ?_)
  refine Eq.trans (rn_pF (L' := [.ref a0]) rfl rfl) ?_
  refine eS_c (fun s_25 => ?_)
  refine Eq.trans (rn_go 2 (pc' := 79) (L' := [.ref a0]) (st' := [.int (28 : Int32), .ref a0]) rfl) ?_
  refine Eq.trans (rn_nwI (L' := [.ref a0]) rfl rfl) ?_
  refine nwI_c (fun b_26 s_27 => ?_)
  refine Eq.trans (rn_pF (L' := [.ref a0]) rfl rfl) ?_
  refine eS_c (fun s_28 => ?_)
  refine Eq.trans (rn_go 2 (pc' := 87) (L' := [.ref a0]) (st' := [.int (24 : Int32), .ref a0]) rfl) ?_
  refine Eq.trans (rn_nwI (L' := [.ref a0]) rfl rfl) ?_
  refine nwI_c (fun b_29 s_30 => ?_)
  refine Eq.trans (rn_pF (L' := [.ref a0]) rfl rfl) ?_
  refine eS_c (fun s_31 => ?_)
  refine Eq.trans (rn_go 2 (pc' := 95) (L' := [.ref a0]) (st' := [.int (60 : Int32), .ref a0]) rfl) ?_
  refine Eq.trans (rn_nwI (L' := [.ref a0]) rfl rfl) ?_
  refine nwI_c (fun b_32 s_33 => ?_)
  refine Eq.trans (rn_pF (L' := [.ref a0]) rfl rfl) ?_
  refine eS_c (fun s_34 => ?_)
  refine Eq.trans (rn_go 1 (pc' := 101) (L' := [.ref a0]) (st' := [.ref a0]) rfl) ?_
  refine Eq.trans (rn_vir (L' := [.ref a0]) (as := []) (rest := []) rfl rfl rfl rfl rfl (Nat.le_of_ble_eq_true rfl) (by decide) (by decide)) ?_
  refine eC_c ?_
  refine Eq.trans (cW_V rfl rfl) ?_
  refine cV_c (fun s_35 => ?_) (xh_nil rfl)
  exact rn_retV rfl rfl
theorem in_X13_thrown {B : Nat} (a0 : Nat) (s : am_S) : cl_ tb_ct tb_mt B K_X13_thrown [.ref a0] s = rn_ tb_ct tb_mt B mm_X13_thrown 0 [.ref a0] [] s := cl_in rfl rfl rfl rfl
theorem dc_X13_thrown_0 {B : Nat} (a0 : Nat) (s : am_S) : rn_ tb_ct tb_mt B mm_X13_thrown 0 [.ref a0] [] s = eI (gI tb_ct s a0 11 4) (fun x_1 => some (.inl (some (.int x_1)), s)) := by
  refine Eq.trans (rn_go 1 (pc' := 1) (L' := [.ref a0]) (st' := [.ref a0]) rfl) ?_
  refine Eq.trans (rn_gI (L' := [.ref a0]) rfl rfl rfl rfl) ?_
  refine eI_c (fun x_1 => ?_)
  exact rn_retI rfl rfl rfl
theorem in_X13_in {B : Nat} (j0 : Int64) (j2 : Int64) (j4 : Int64) (s : am_S) : cl_ tb_ct tb_mt B K_X13_in [.long j0, .long j2, .long j4] s = rn_ tb_ct tb_mt B mm_X13_in 0 [.long j0, am_un, .long j2, am_un, .long j4, am_un] [] s := cl_in rfl rfl rfl rfl
theorem dc_X13_in_0 {B : Nat} (j0 : Int64) (j2 : Int64) (j4 : Int64) (s : am_S) : rn_ tb_ct tb_mt B mm_X13_in 0 [.long j0, am_un, .long j2, am_un, .long j4, am_un] [] s = if (lg_cmp j0 j2) < 0 then some (.inl (some (.int (0 : Int32))), s) else if 0 < (lg_cmp j0 j4) then some (.inl (some (.int (0 : Int32))), s) else some (.inl (some (.int (1 : Int32))), s) := by
  refine Eq.trans (rn_go 3 (pc' := 3) (L' := [.long j0, am_un, .long j2, am_un, .long j4, am_un]) (st' := [.int (lg_cmp j0 j2)]) rfl) ?_
  refine Eq.trans (rn_iflt (L' := [.long j0, am_un, .long j2, am_un, .long j4, am_un]) rfl rfl) ?_
  refine if_c ?_ ?_
  · refine Eq.trans (rn_go 1 (pc' := 18) (L' := [.long j0, am_un, .long j2, am_un, .long j4, am_un]) (st' := [.int (0 : Int32)]) rfl) ?_
    exact rn_retI rfl rfl rfl
  · refine Eq.trans (rn_go 3 (pc' := 10) (L' := [.long j0, am_un, .long j2, am_un, .long j4, am_un]) (st' := [.int (lg_cmp j0 j4)]) rfl) ?_
    refine Eq.trans (rn_ifgt (L' := [.long j0, am_un, .long j2, am_un, .long j4, am_un]) rfl rfl) ?_
    refine if_c ?_ ?_
    · refine Eq.trans (rn_go 1 (pc' := 18) (L' := [.long j0, am_un, .long j2, am_un, .long j4, am_un]) (st' := [.int (0 : Int32)]) rfl) ?_
      exact rn_retI rfl rfl rfl
    · refine Eq.trans (rn_go 2 (pc' := 18) (L' := [.long j0, am_un, .long j2, am_un, .long j4, am_un]) (st' := [.int (1 : Int32)]) rfl) ?_
      exact rn_retI rfl rfl rfl
theorem in_X13_copies {B : Nat} (a0 : Nat) (x1 : Int32) (a2 : Nat) (x3 : Int32) (s : am_S) : cl_ tb_ct tb_mt B K_X13_copies [.ref a0, .int x1, .ref a2, .int x3] s = rn_ tb_ct tb_mt B mm_X13_copies 0 [.ref a0, .int x1, .ref a2, .int x3, am_un] [] s := cl_in rfl rfl rfl rfl
theorem dc_X13_copies_0 {B : Nat} (a0 : Nat) (x1 : Int32) (a2 : Nat) (x3 : Int32) (s : am_S) : rn_ tb_ct tb_mt B mm_X13_copies 0 [.ref a0, .int x1, .ref a2, .int x3, am_un] [] s = rn_ tb_ct tb_mt B mm_X13_copies 3 [.ref a0, .int x1, .ref a2, .int x3, .int (0 : Int32)] [] s := by
  exact rn_go 2 (pc' := 3) (L' := [.ref a0, .int x1, .ref a2, .int x3, .int (0 : Int32)]) (st' := []) rfl
theorem dc_X13_copies_3 {B : Nat} (a0 : Nat) (x1 : Int32) (a2 : Nat) (x3 : Int32) (x4 : Int32) (s : am_S) : rn_ tb_ct tb_mt B mm_X13_copies 3 [.ref a0, .int x1, .ref a2, .int x3, .int x4] [] s = if (1329 : Int32) ≤ x4 then some (.inl none, s) else eI (aI s a0 (((1329 : Int32) * x1) + x4)) (fun x_1 => eS (wI B s a2 (((1329 : Int32) * x3) + x4) x_1) (fun s_2 => rn_ tb_ct tb_mt B mm_X13_copies 3 [.ref a0, .int x1, .ref a2, .int x3, .int (x4 + (1 : Int32))] [] s_2)) := by
  refine Eq.trans (rn_go 2 (pc' := 8) (L' := [.ref a0, .int x1, .ref a2, .int x3, .int x4]) (st' := [.int (1329 : Int32), .int x4]) rfl) ?_
  refine Eq.trans (rn_icge (L' := [.ref a0, .int x1, .ref a2, .int x3, .int x4]) rfl rfl) ?_
  refine if_c ?_ ?_
  · exact rn_retV rfl rfl
  · refine Eq.trans (rn_go 12 (pc' := 29) (L' := [.ref a0, .int x1, .ref a2, .int x3, .int x4]) (st' := [.int (((1329 : Int32) * x1) + x4), .ref a0, .int (((1329 : Int32) * x3) + x4), .ref a2]) rfl) ?_
    refine Eq.trans (rn_aI (L' := [.ref a0, .int x1, .ref a2, .int x3, .int x4]) rfl rfl) ?_
    refine eI_c (fun x_1 => ?_)
    refine Eq.trans (rn_wI (L' := [.ref a0, .int x1, .ref a2, .int x3, .int x4]) rfl rfl) ?_
    refine eS_c (fun s_2 => ?_)
    exact rn_go 2 (pc' := 3) (L' := [.ref a0, .int x1, .ref a2, .int x3, .int (x4 + (1 : Int32))]) (st' := []) rfl
theorem in_X13_begins {B : Nat} (a0 : Nat) (s : am_S) : cl_ tb_ct tb_mt B K_X13_begins [.ref a0] s = rn_ tb_ct tb_mt B mm_X13_begins 0 [.ref a0, am_un] [] s := cl_in rfl rfl rfl rfl
theorem dc_X13_begins_0 {B : Nat} (a0 : Nat) (s : am_S) : rn_ tb_ct tb_mt B mm_X13_begins 0 [.ref a0, am_un] [] s = rn_ tb_ct tb_mt B mm_X13_begins 2 [.ref a0, .int (0 : Int32)] [] s := by
  exact rn_go 2 (pc' := 2) (L' := [.ref a0, .int (0 : Int32)]) (st' := []) rfl
theorem dc_X13_begins_2 {B : Nat} (a0 : Nat) (x1 : Int32) (s : am_S) : rn_ tb_ct tb_mt B mm_X13_begins 2 [.ref a0, .int x1] [] s = if (1329 : Int32) ≤ x1 then eA (gA tb_ct s a0 11 0) (none) (fun b_1 => eS (wI B s b_1 (0 : Int32) (1 : Int32)) (fun s_2 => some (.inl none, s_2))) else eA (gA tb_ct s a0 11 0) (none) (fun b_3 => eS (wI B s b_3 x1 (0 : Int32)) (fun s_4 => rn_ tb_ct tb_mt B mm_X13_begins 2 [.ref a0, .int (x1 + (1 : Int32))] [] s_4)) := by
  refine Eq.trans (rn_go 2 (pc' := 6) (L' := [.ref a0, .int x1]) (st' := [.int (1329 : Int32), .int x1]) rfl) ?_
  refine Eq.trans (rn_icge (L' := [.ref a0, .int x1]) rfl rfl) ?_
  refine if_c ?_ ?_
  · refine Eq.trans (rn_go 1 (pc' := 23) (L' := [.ref a0, .int x1]) (st' := [.ref a0]) rfl) ?_
    refine Eq.trans (rn_gA (L' := [.ref a0, .int x1]) rfl rfl rfl rfl) ?_
    refine eA_c ?_ (fun b_1 => ?_)
    · refine Eq.trans (rn_go 2 (pc' := 28) (L' := [.ref a0, .int x1]) (st' := [.int (1 : Int32), .int (0 : Int32), .null]) rfl) ?_
      exact rn_z rfl rfl
    · refine Eq.trans (rn_go 2 (pc' := 28) (L' := [.ref a0, .int x1]) (st' := [.int (1 : Int32), .int (0 : Int32), .ref b_1]) rfl) ?_
      refine Eq.trans (rn_wI (L' := [.ref a0, .int x1]) rfl rfl) ?_
      refine eS_c (fun s_2 => ?_)
      exact rn_retV rfl rfl
  · refine Eq.trans (rn_go 1 (pc' := 10) (L' := [.ref a0, .int x1]) (st' := [.ref a0]) rfl) ?_
    refine Eq.trans (rn_gA (L' := [.ref a0, .int x1]) rfl rfl rfl rfl) ?_
    refine eA_c ?_ (fun b_3 => ?_)
    · refine Eq.trans (rn_go 2 (pc' := 15) (L' := [.ref a0, .int x1]) (st' := [.int (0 : Int32), .int x1, .null]) rfl) ?_
      exact rn_z rfl rfl
    · refine Eq.trans (rn_go 2 (pc' := 15) (L' := [.ref a0, .int x1]) (st' := [.int (0 : Int32), .int x1, .ref b_3]) rfl) ?_
      refine Eq.trans (rn_wI (L' := [.ref a0, .int x1]) rfl rfl) ?_
      refine eS_c (fun s_4 => ?_)
      exact rn_go 2 (pc' := 2) (L' := [.ref a0, .int (x1 + (1 : Int32))]) (st' := []) rfl
theorem in_X13_isThrown {B : Nat} (a0 : Nat) (x1 : Int32) (x2 : Int32) (s : am_S) : cl_ tb_ct tb_mt B K_X13_isThrown [.ref a0, .int x1, .int x2] s = rn_ tb_ct tb_mt B mm_X13_isThrown 0 [.ref a0, .int x1, .int x2] [] s := cl_in rfl rfl rfl rfl
theorem dc_X13_isThrown_0 {B : Nat} (a0 : Nat) (x1 : Int32) (x2 : Int32) (s : am_S) : rn_ tb_ct tb_mt B mm_X13_isThrown 0 [.ref a0, .int x1, .int x2] [] s = if x1 = 0 then rn_ tb_ct tb_mt B mm_X13_isThrown 10 [.ref a0, .int x1, .int x2] [.int x2, .ref a0] s else rn_ tb_ct tb_mt B mm_X13_isThrown 10 [.ref a0, .int x1, .int x2] [.int (0 : Int32), .ref a0] s := by
  refine Eq.trans (rn_go 2 (pc' := 2) (L' := [.ref a0, .int x1, .int x2]) (st' := [.int x1, .ref a0]) rfl) ?_
  refine Eq.trans (rn_ifeq (L' := [.ref a0, .int x1, .int x2]) rfl rfl) ?_
  refine if_c ?_ ?_
  · exact rn_go 1 (pc' := 10) (L' := [.ref a0, .int x1, .int x2]) (st' := [.int x2, .ref a0]) rfl
  · exact rn_go 2 (pc' := 10) (L' := [.ref a0, .int x1, .int x2]) (st' := [.int (0 : Int32), .ref a0]) rfl
theorem dc_X13_isThrown_10 {B : Nat} (w0 : Value) (x1 : Int32) (w2 : Value) (xs0 : Int32) (as1 : Nat) (s : am_S) : rn_ tb_ct tb_mt B mm_X13_isThrown 10 [w0, .int x1, w2] [.int xs0, .ref as1] s = eS (am_put tb_ct mm_X13_isThrown B s (.int xs0) as1 11 4) (fun s_1 => if x1 = 0 then some (.inl (some (.int (1 : Int32))), s_1) else some (.inl (some (.int (0 : Int32))), s_1)) := by
  refine Eq.trans (rn_pF (L' := [am_un, .int x1, am_un]) rfl rfl) ?_
  refine eS_c (fun s_1 => ?_)
  refine Eq.trans (rn_go 1 (pc' := 14) (L' := [am_un, .int x1, am_un]) (st' := [.int x1]) rfl) ?_
  refine Eq.trans (rn_ifne (L' := [am_un, .int x1, am_un]) rfl rfl) ?_
  refine if_c ?_ ?_
  · refine Eq.trans (rn_go 2 (pc' := 22) (L' := [am_un, .int x1, am_un]) (st' := [.int (1 : Int32)]) rfl) ?_
    exact rn_retI rfl rfl rfl
  · refine Eq.trans (rn_go 1 (pc' := 22) (L' := [am_un, .int x1, am_un]) (st' := [.int (0 : Int32)]) rfl) ?_
    exact rn_retI rfl rfl rfl
theorem in_X13_isKey {B : Nat} (x0 : Int32) (s : am_S) : cl_ tb_ct tb_mt B K_X13_isKey [.int x0] s = rn_ tb_ct tb_mt B mm_X13_isKey 0 [.int x0] [] s := cl_in rfl rfl rfl rfl
theorem dc_X13_isKey_0 {B : Nat} (x0 : Int32) (s : am_S) : rn_ tb_ct tb_mt B mm_X13_isKey 0 [.int x0] [] s = cI (cl_ tb_ct tb_mt B K_X13_in [.long x0.toInt64, .long (0 : Int64), .long (999 : Int64)] s) (fun x_2 s_1 => rtI .boolean x_2 s_1) xo := by
  refine Eq.trans (rn_go 4 (pc' := 6) (L' := [.int x0]) (st' := [.long (999 : Int64), .long (0 : Int64), .long x0.toInt64]) rfl) ?_
  refine Eq.trans (rn_sta (L' := [.int x0]) (as := [.long x0.toInt64, .long (0 : Int64), .long (999 : Int64)]) (rest := []) rfl rfl rfl rfl rfl (Nat.le_of_ble_eq_true rfl) (by decide) rfl) ?_
  refine Eq.trans (cW_I rfl rfl rfl) ?_
  refine cI_c (fun x_2 s_1 => ?_) (xh_nil rfl)
  exact rn_rtI rfl rfl
theorem in_X13_isRange {B : Nat} (x0 : Int32) (x1 : Int32) (s : am_S) : cl_ tb_ct tb_mt B K_X13_isRange [.int x0, .int x1] s = rn_ tb_ct tb_mt B mm_X13_isRange 0 [.int x0, .int x1] [] s := cl_in rfl rfl rfl rfl
theorem dc_X13_isRange_0 {B : Nat} (x0 : Int32) (x1 : Int32) (s : am_S) : rn_ tb_ct tb_mt B mm_X13_isRange 0 [.int x0, .int x1] [] s = cI (cl_ tb_ct tb_mt B K_X13_isKey [.int x1] s) (fun x_2 s_1 => if x_2 = 0 then some (.inl (some (.int (0 : Int32))), s_1) else cI (cl_ tb_ct tb_mt B K_X13_in [.long x0.toInt64, .long (0 : Int64), .long x1.toInt64] s_1) (fun x_4 s_3 => if x_4 = 0 then some (.inl (some (.int (0 : Int32))), s_3) else some (.inl (some (.int (1 : Int32))), s_3)) xo) xo := by
  refine Eq.trans (rn_go 1 (pc' := 1) (L' := [.int x0, .int x1]) (st' := [.int x1]) rfl) ?_
  refine Eq.trans (rn_sta (L' := [.int x0, .int x1]) (as := [.int x1]) (rest := []) rfl rfl rfl rfl rfl (Nat.le_of_ble_eq_true rfl) (by decide) rfl) ?_
  refine Eq.trans (cW_I rfl rfl rfl) ?_
  refine cI_c (fun x_2 s_1 => ?_) (xh_nil rfl)
  refine Eq.trans (rn_ifeq (L' := [.int x0, .int x1]) rfl rfl) ?_
  refine if_c ?_ ?_
  · refine Eq.trans (rn_go 1 (pc' := 23) (L' := [.int x0, .int x1]) (st' := [.int (0 : Int32)]) rfl) ?_
    exact rn_retI rfl rfl rfl
  · refine Eq.trans (rn_go 5 (pc' := 12) (L' := [.int x0, .int x1]) (st' := [.long x1.toInt64, .long (0 : Int64), .long x0.toInt64]) rfl) ?_
    refine Eq.trans (rn_sta (L' := [.int x0, .int x1]) (as := [.long x0.toInt64, .long (0 : Int64), .long x1.toInt64]) (rest := []) rfl rfl rfl rfl rfl (Nat.le_of_ble_eq_true rfl) (by decide) rfl) ?_
    refine Eq.trans (cW_I rfl rfl rfl) ?_
    refine cI_c (fun x_4 s_3 => ?_) (xh_nil rfl)
    refine Eq.trans (rn_ifeq (L' := [.int x0, .int x1]) rfl rfl) ?_
    refine if_c ?_ ?_
    · refine Eq.trans (rn_go 1 (pc' := 23) (L' := [.int x0, .int x1]) (st' := [.int (0 : Int32)]) rfl) ?_
      exact rn_retI rfl rfl rfl
    · refine Eq.trans (rn_go 2 (pc' := 23) (L' := [.int x0, .int x1]) (st' := [.int (1 : Int32)]) rfl) ?_
      exact rn_retI rfl rfl rfl
theorem in_X13_keyAt {B : Nat} (a0 : Nat) (x1 : Int32) (x2 : Int32) (s : am_S) : cl_ tb_ct tb_mt B K_X13_keyAt [.ref a0, .int x1, .int x2] s = rn_ tb_ct tb_mt B mm_X13_keyAt 0 [.ref a0, .int x1, .int x2] [] s := cl_in rfl rfl rfl rfl
theorem dc_X13_keyAt_0 {B : Nat} (a0 : Nat) (x1 : Int32) (x2 : Int32) (s : am_S) : rn_ tb_ct tb_mt B mm_X13_keyAt 0 [.ref a0, .int x1, .int x2] [] s = eA (gA tb_ct s a0 11 0) (none) (fun b_1 => eI (aI s b_1 (((13 : Int32) + ((6 : Int32) * x1)) + x2)) (fun x_2 => some (.inl (some (.int x_2)), s))) := by
  refine Eq.trans (rn_go 1 (pc' := 1) (L' := [.ref a0, .int x1, .int x2]) (st' := [.ref a0]) rfl) ?_
  refine Eq.trans (rn_gA (L' := [.ref a0, .int x1, .int x2]) rfl rfl rfl rfl) ?_
  refine eA_c ?_ (fun b_1 => ?_)
  · refine Eq.trans (rn_go 7 (pc' := 13) (L' := [.ref a0, .int x1, .int x2]) (st' := [.int (((13 : Int32) + ((6 : Int32) * x1)) + x2), .null]) rfl) ?_
    exact rn_z rfl rfl
  · refine Eq.trans (rn_go 7 (pc' := 13) (L' := [.ref a0, .int x1, .int x2]) (st' := [.int (((13 : Int32) + ((6 : Int32) * x1)) + x2), .ref b_1]) rfl) ?_
    refine Eq.trans (rn_aI (L' := [.ref a0, .int x1, .int x2]) rfl rfl) ?_
    refine eI_c (fun x_2 => ?_)
    exact rn_retI rfl rfl rfl
theorem in_X13_placeOf {B : Nat} (a0 : Nat) (x1 : Int32) (s : am_S) : cl_ tb_ct tb_mt B K_X13_placeOf [.ref a0, .int x1] s = rn_ tb_ct tb_mt B mm_X13_placeOf 0 [.ref a0, .int x1, am_un] [] s := cl_in rfl rfl rfl rfl
theorem dc_X13_placeOf_0 {B : Nat} (a0 : Nat) (x1 : Int32) (s : am_S) : rn_ tb_ct tb_mt B mm_X13_placeOf 0 [.ref a0, .int x1, am_un] [] s = rn_ tb_ct tb_mt B mm_X13_placeOf 2 [.ref a0, .int x1, .int (0 : Int32)] [] s := by
  exact rn_go 2 (pc' := 2) (L' := [.ref a0, .int x1, .int (0 : Int32)]) (st' := []) rfl
theorem dc_X13_placeOf_2 {B : Nat} (a0 : Nat) (x1 : Int32) (x2 : Int32) (s : am_S) : rn_ tb_ct tb_mt B mm_X13_placeOf 2 [.ref a0, .int x1, .int x2] [] s = eA (gA tb_ct s a0 11 0) (none) (fun b_1 => eI (aI s b_1 (3 : Int32)) (fun x_2 => if x_2 ≤ x2 then some (.inl (some (.int x2)), s) else eC (am_cls s a0) 11 (cI (cl_ tb_ct tb_mt B K_X13_keyAt [.ref a0, .int x2, .int (0 : Int32)] s) (fun x_4 s_3 => if x1 ≤ x_4 then some (.inl (some (.int x2)), s_3) else rn_ tb_ct tb_mt B mm_X13_placeOf 2 [.ref a0, .int x1, .int (x2 + (1 : Int32))] [] s_3) xo))) := by
  refine Eq.trans (rn_go 2 (pc' := 4) (L' := [.ref a0, .int x1, .int x2]) (st' := [.ref a0, .int x2]) rfl) ?_
  refine Eq.trans (rn_gA (L' := [.ref a0, .int x1, .int x2]) rfl rfl rfl rfl) ?_
  refine eA_c ?_ (fun b_1 => ?_)
  · refine Eq.trans (rn_go 1 (pc' := 8) (L' := [.ref a0, .int x1, .int x2]) (st' := [.int (3 : Int32), .null, .int x2]) rfl) ?_
    exact rn_z rfl rfl
  · refine Eq.trans (rn_go 1 (pc' := 8) (L' := [.ref a0, .int x1, .int x2]) (st' := [.int (3 : Int32), .ref b_1, .int x2]) rfl) ?_
    refine Eq.trans (rn_aI (L' := [.ref a0, .int x1, .int x2]) rfl rfl) ?_
    refine eI_c (fun x_2 => ?_)
    refine Eq.trans (rn_icge (L' := [.ref a0, .int x1, .int x2]) rfl rfl) ?_
    refine if_c ?_ ?_
    · refine Eq.trans (rn_go 1 (pc' := 29) (L' := [.ref a0, .int x1, .int x2]) (st' := [.int x2]) rfl) ?_
      exact rn_retI rfl rfl rfl
    · refine Eq.trans (rn_go 3 (pc' := 15) (L' := [.ref a0, .int x1, .int x2]) (st' := [.int (0 : Int32), .int x2, .ref a0]) rfl) ?_
      refine Eq.trans (rn_vir (L' := [.ref a0, .int x1, .int x2]) (as := [.int x2, .int (0 : Int32)]) (rest := []) rfl rfl rfl rfl rfl (Nat.le_of_ble_eq_true rfl) (by decide) (by decide)) ?_
      refine eC_c ?_
      refine Eq.trans (cW_I rfl rfl rfl) ?_
      refine cI_c (fun x_4 s_3 => ?_) (xh_nil rfl)
      refine Eq.trans (rn_go 1 (pc' := 19) (L' := [.ref a0, .int x1, .int x2]) (st' := [.int x1, .int x_4]) rfl) ?_
      refine Eq.trans (rn_icge (L' := [.ref a0, .int x1, .int x2]) rfl rfl) ?_
      refine if_c ?_ ?_
      · refine Eq.trans (rn_go 1 (pc' := 29) (L' := [.ref a0, .int x1, .int x2]) (st' := [.int x2]) rfl) ?_
        exact rn_retI rfl rfl rfl
      · exact rn_go 2 (pc' := 2) (L' := [.ref a0, .int x1, .int (x2 + (1 : Int32))]) (st' := []) rfl
theorem in_X13_isThere {B : Nat} (a0 : Nat) (x1 : Int32) (s : am_S) : cl_ tb_ct tb_mt B K_X13_isThere [.ref a0, .int x1] s = rn_ tb_ct tb_mt B mm_X13_isThere 0 [.ref a0, .int x1, am_un] [] s := cl_in rfl rfl rfl rfl
theorem dc_X13_isThere_0 {B : Nat} (a0 : Nat) (x1 : Int32) (s : am_S) : rn_ tb_ct tb_mt B mm_X13_isThere 0 [.ref a0, .int x1, am_un] [] s = eC (am_cls s a0) 11 (cI (cl_ tb_ct tb_mt B K_X13_placeOf [.ref a0, .int x1] s) (fun x_2 s_1 => eA (gA tb_ct s_1 a0 11 0) (none) (fun b_3 => eI (aI s_1 b_3 (3 : Int32)) (fun x_4 => if x_4 ≤ x_2 then some (.inl (some (.int (0 : Int32))), s_1) else eC (am_cls s_1 a0) 11 (cI (cl_ tb_ct tb_mt B K_X13_keyAt [.ref a0, .int x_2, .int (0 : Int32)] s_1) (fun x_6 s_5 => if x_6 = x1 then some (.inl (some (.int (1 : Int32))), s_5) else some (.inl (some (.int (0 : Int32))), s_5)) xo)))) xo) := by
  refine Eq.trans (rn_go 2 (pc' := 2) (L' := [.ref a0, .int x1, am_un]) (st' := [.int x1, .ref a0]) rfl) ?_
  refine Eq.trans (rn_vir (L' := [.ref a0, .int x1, am_un]) (as := [.int x1]) (rest := []) rfl rfl rfl rfl rfl (Nat.le_of_ble_eq_true rfl) (by decide) (by decide)) ?_
  refine eC_c ?_
  refine Eq.trans (cW_I rfl rfl rfl) ?_
  refine cI_c (fun x_2 s_1 => ?_) (xh_nil rfl)
  refine Eq.trans (rn_go 3 (pc' := 8) (L' := [.ref a0, .int x1, .int x_2]) (st' := [.ref a0, .int x_2]) rfl) ?_
  refine Eq.trans (rn_gA (L' := [.ref a0, .int x1, .int x_2]) rfl rfl rfl rfl) ?_
  refine eA_c ?_ (fun b_3 => ?_)
  · refine Eq.trans (rn_go 1 (pc' := 12) (L' := [.ref a0, .int x1, .int x_2]) (st' := [.int (3 : Int32), .null, .int x_2]) rfl) ?_
    exact rn_z rfl rfl
  · refine Eq.trans (rn_go 1 (pc' := 12) (L' := [.ref a0, .int x1, .int x_2]) (st' := [.int (3 : Int32), .ref b_3, .int x_2]) rfl) ?_
    refine Eq.trans (rn_aI (L' := [.ref a0, .int x1, .int x_2]) rfl rfl) ?_
    refine eI_c (fun x_4 => ?_)
    refine Eq.trans (rn_icge (L' := [.ref a0, .int x1, .int x_2]) rfl rfl) ?_
    refine if_c ?_ ?_
    · refine Eq.trans (rn_go 1 (pc' := 31) (L' := [.ref a0, .int x1, .int x_2]) (st' := [.int (0 : Int32)]) rfl) ?_
      exact rn_retI rfl rfl rfl
    · refine Eq.trans (rn_go 3 (pc' := 19) (L' := [.ref a0, .int x1, .int x_2]) (st' := [.int (0 : Int32), .int x_2, .ref a0]) rfl) ?_
      refine Eq.trans (rn_vir (L' := [.ref a0, .int x1, .int x_2]) (as := [.int x_2, .int (0 : Int32)]) (rest := []) rfl rfl rfl rfl rfl (Nat.le_of_ble_eq_true rfl) (by decide) (by decide)) ?_
      refine eC_c ?_
      refine Eq.trans (cW_I rfl rfl rfl) ?_
      refine cI_c (fun x_6 s_5 => ?_) (xh_nil rfl)
      refine Eq.trans (rn_go 1 (pc' := 23) (L' := [.ref a0, .int x1, .int x_2]) (st' := [.int x1, .int x_6]) rfl) ?_
      refine Eq.trans (rn_icne (L' := [.ref a0, .int x1, .int x_2]) rfl rfl) ?_
      refine if_c ?_ ?_
      · refine Eq.trans (rn_go 2 (pc' := 31) (L' := [.ref a0, .int x1, .int x_2]) (st' := [.int (1 : Int32)]) rfl) ?_
        exact rn_retI rfl rfl rfl
      · refine Eq.trans (rn_go 1 (pc' := 31) (L' := [.ref a0, .int x1, .int x_2]) (st' := [.int (0 : Int32)]) rfl) ?_
        exact rn_retI rfl rfl rfl
theorem in_X13_moves {B : Nat} (a0 : Nat) (x1 : Int32) (x2 : Int32) (x3 : Int32) (x4 : Int32) (x5 : Int32) (s : am_S) : cl_ tb_ct tb_mt B K_X13_moves [.ref a0, .int x1, .int x2, .int x3, .int x4, .int x5] s = rn_ tb_ct tb_mt B mm_X13_moves 0 [.ref a0, .int x1, .int x2, .int x3, .int x4, .int x5, am_un] [] s := cl_in rfl rfl rfl rfl
theorem dc_X13_moves_0 {B : Nat} (a0 : Nat) (x1 : Int32) (x2 : Int32) (x3 : Int32) (x4 : Int32) (x5 : Int32) (s : am_S) : rn_ tb_ct tb_mt B mm_X13_moves 0 [.ref a0, .int x1, .int x2, .int x3, .int x4, .int x5, am_un] [] s = if x5 ≤ 0 then rn_ tb_ct tb_mt B mm_X13_moves 55 [.ref a0, .int x1, .int x2, .int x3, .int x4, .int x5, .int (x2 * x3)] [] s else rn_ tb_ct tb_mt B mm_X13_moves 13 [.ref a0, .int x1, .int x2, .int x3, .int x4, .int x5, .int ((x2 * x4) - (1 : Int32))] [] s := by
  refine Eq.trans (rn_go 1 (pc' := 2) (L' := [.ref a0, .int x1, .int x2, .int x3, .int x4, .int x5, am_un]) (st' := [.int x5]) rfl) ?_
  refine Eq.trans (rn_ifle (L' := [.ref a0, .int x1, .int x2, .int x3, .int x4, .int x5, am_un]) rfl rfl) ?_
  refine if_c ?_ ?_
  · exact rn_go 4 (pc' := 55) (L' := [.ref a0, .int x1, .int x2, .int x3, .int x4, .int x5, .int (x2 * x3)]) (st' := []) rfl
  · exact rn_go 6 (pc' := 13) (L' := [.ref a0, .int x1, .int x2, .int x3, .int x4, .int x5, .int ((x2 * x4) - (1 : Int32))]) (st' := []) rfl
theorem dc_X13_moves_13 {B : Nat} (a0 : Nat) (x1 : Int32) (x2 : Int32) (x3 : Int32) (w4 : Value) (w5 : Value) (x6 : Int32) (s : am_S) : rn_ tb_ct tb_mt B mm_X13_moves 13 [.ref a0, .int x1, .int x2, .int x3, w4, w5, .int x6] [] s = if x6 < (x2 * x3) then some (.inl none, s) else eA (gA tb_ct s a0 11 0) (eA (gA tb_ct s a0 11 0) (none) (fun b_2 => eI (aI s b_2 (x1 + x6)) (fun x_3 => none))) (fun b_1 => eA (gA tb_ct s a0 11 0) (none) (fun b_4 => eI (aI s b_4 (x1 + x6)) (fun x_5 => eS (wI B s b_1 ((x1 + x2) + x6) x_5) (fun s_6 => rn_ tb_ct tb_mt B mm_X13_moves 13 [.ref a0, .int x1, .int x2, .int x3, am_un, am_un, .int (x6 + (-(1 : Int32)))] [] s_6)))) := by
  refine Eq.trans (rn_go 4 (pc' := 18) (L' := [.ref a0, .int x1, .int x2, .int x3, am_un, am_un, .int x6]) (st' := [.int (x2 * x3), .int x6]) rfl) ?_
  refine Eq.trans (rn_iclt (L' := [.ref a0, .int x1, .int x2, .int x3, am_un, am_un, .int x6]) rfl rfl) ?_
  refine if_c ?_ ?_
  · refine Eq.trans (rn_go 1 (pc' := 92) (L' := [.ref a0, .int x1, .int x2, .int x3, am_un, am_un, .int x6]) (st' := []) rfl) ?_
    exact rn_retV rfl rfl
  · refine Eq.trans (rn_go 1 (pc' := 22) (L' := [.ref a0, .int x1, .int x2, .int x3, am_un, am_un, .int x6]) (st' := [.ref a0]) rfl) ?_
    refine Eq.trans (rn_gA (L' := [.ref a0, .int x1, .int x2, .int x3, am_un, am_un, .int x6]) rfl rfl rfl rfl) ?_
    refine eA_c ?_ (fun b_1 => ?_)
    · refine Eq.trans (rn_go 6 (pc' := 32) (L' := [.ref a0, .int x1, .int x2, .int x3, am_un, am_un, .int x6]) (st' := [.ref a0, .int ((x1 + x2) + x6), .null]) rfl) ?_
      refine Eq.trans (rn_gA (L' := [.ref a0, .int x1, .int x2, .int x3, am_un, am_un, .int x6]) rfl rfl rfl rfl) ?_
      refine eA_c ?_ (fun b_2 => ?_)
      · refine Eq.trans (rn_go 3 (pc' := 39) (L' := [.ref a0, .int x1, .int x2, .int x3, am_un, am_un, .int x6]) (st' := [.int (x1 + x6), .null, .int ((x1 + x2) + x6), .null]) rfl) ?_
        exact rn_z rfl rfl
      · refine Eq.trans (rn_go 3 (pc' := 39) (L' := [.ref a0, .int x1, .int x2, .int x3, am_un, am_un, .int x6]) (st' := [.int (x1 + x6), .ref b_2, .int ((x1 + x2) + x6), .null]) rfl) ?_
        refine Eq.trans (rn_aI (L' := [.ref a0, .int x1, .int x2, .int x3, am_un, am_un, .int x6]) rfl rfl) ?_
        refine eI_c (fun x_3 => ?_)
        exact rn_z rfl rfl
    · refine Eq.trans (rn_go 6 (pc' := 32) (L' := [.ref a0, .int x1, .int x2, .int x3, am_un, am_un, .int x6]) (st' := [.ref a0, .int ((x1 + x2) + x6), .ref b_1]) rfl) ?_
      refine Eq.trans (rn_gA (L' := [.ref a0, .int x1, .int x2, .int x3, am_un, am_un, .int x6]) rfl rfl rfl rfl) ?_
      refine eA_c ?_ (fun b_4 => ?_)
      · refine Eq.trans (rn_go 3 (pc' := 39) (L' := [.ref a0, .int x1, .int x2, .int x3, am_un, am_un, .int x6]) (st' := [.int (x1 + x6), .null, .int ((x1 + x2) + x6), .ref b_1]) rfl) ?_
        exact rn_z rfl rfl
      · refine Eq.trans (rn_go 3 (pc' := 39) (L' := [.ref a0, .int x1, .int x2, .int x3, am_un, am_un, .int x6]) (st' := [.int (x1 + x6), .ref b_4, .int ((x1 + x2) + x6), .ref b_1]) rfl) ?_
        refine Eq.trans (rn_aI (L' := [.ref a0, .int x1, .int x2, .int x3, am_un, am_un, .int x6]) rfl rfl) ?_
        refine eI_c (fun x_5 => ?_)
        refine Eq.trans (rn_wI (L' := [.ref a0, .int x1, .int x2, .int x3, am_un, am_un, .int x6]) rfl rfl) ?_
        refine eS_c (fun s_6 => ?_)
        exact rn_go 2 (pc' := 13) (L' := [.ref a0, .int x1, .int x2, .int x3, am_un, am_un, .int (x6 + (-(1 : Int32)))]) (st' := []) rfl
theorem dc_X13_moves_55 {B : Nat} (a0 : Nat) (x1 : Int32) (x2 : Int32) (w3 : Value) (x4 : Int32) (w5 : Value) (x6 : Int32) (s : am_S) : rn_ tb_ct tb_mt B mm_X13_moves 55 [.ref a0, .int x1, .int x2, w3, .int x4, w5, .int x6] [] s = if (x2 * (x4 - (1 : Int32))) ≤ x6 then some (.inl none, s) else eA (gA tb_ct s a0 11 0) (eA (gA tb_ct s a0 11 0) (none) (fun b_2 => eI (aI s b_2 ((x1 + x2) + x6)) (fun x_3 => none))) (fun b_1 => eA (gA tb_ct s a0 11 0) (none) (fun b_4 => eI (aI s b_4 ((x1 + x2) + x6)) (fun x_5 => eS (wI B s b_1 (x1 + x6) x_5) (fun s_6 => rn_ tb_ct tb_mt B mm_X13_moves 55 [.ref a0, .int x1, .int x2, am_un, .int x4, am_un, .int (x6 + (1 : Int32))] [] s_6)))) := by
  refine Eq.trans (rn_go 6 (pc' := 63) (L' := [.ref a0, .int x1, .int x2, am_un, .int x4, am_un, .int x6]) (st' := [.int (x2 * (x4 - (1 : Int32))), .int x6]) rfl) ?_
  refine Eq.trans (rn_icge (L' := [.ref a0, .int x1, .int x2, am_un, .int x4, am_un, .int x6]) rfl rfl) ?_
  refine if_c ?_ ?_
  · exact rn_retV rfl rfl
  · refine Eq.trans (rn_go 1 (pc' := 67) (L' := [.ref a0, .int x1, .int x2, am_un, .int x4, am_un, .int x6]) (st' := [.ref a0]) rfl) ?_
    refine Eq.trans (rn_gA (L' := [.ref a0, .int x1, .int x2, am_un, .int x4, am_un, .int x6]) rfl rfl rfl rfl) ?_
    refine eA_c ?_ (fun b_1 => ?_)
    · refine Eq.trans (rn_go 4 (pc' := 75) (L' := [.ref a0, .int x1, .int x2, am_un, .int x4, am_un, .int x6]) (st' := [.ref a0, .int (x1 + x6), .null]) rfl) ?_
      refine Eq.trans (rn_gA (L' := [.ref a0, .int x1, .int x2, am_un, .int x4, am_un, .int x6]) rfl rfl rfl rfl) ?_
      refine eA_c ?_ (fun b_2 => ?_)
      · refine Eq.trans (rn_go 5 (pc' := 84) (L' := [.ref a0, .int x1, .int x2, am_un, .int x4, am_un, .int x6]) (st' := [.int ((x1 + x2) + x6), .null, .int (x1 + x6), .null]) rfl) ?_
        exact rn_z rfl rfl
      · refine Eq.trans (rn_go 5 (pc' := 84) (L' := [.ref a0, .int x1, .int x2, am_un, .int x4, am_un, .int x6]) (st' := [.int ((x1 + x2) + x6), .ref b_2, .int (x1 + x6), .null]) rfl) ?_
        refine Eq.trans (rn_aI (L' := [.ref a0, .int x1, .int x2, am_un, .int x4, am_un, .int x6]) rfl rfl) ?_
        refine eI_c (fun x_3 => ?_)
        exact rn_z rfl rfl
    · refine Eq.trans (rn_go 4 (pc' := 75) (L' := [.ref a0, .int x1, .int x2, am_un, .int x4, am_un, .int x6]) (st' := [.ref a0, .int (x1 + x6), .ref b_1]) rfl) ?_
      refine Eq.trans (rn_gA (L' := [.ref a0, .int x1, .int x2, am_un, .int x4, am_un, .int x6]) rfl rfl rfl rfl) ?_
      refine eA_c ?_ (fun b_4 => ?_)
      · refine Eq.trans (rn_go 5 (pc' := 84) (L' := [.ref a0, .int x1, .int x2, am_un, .int x4, am_un, .int x6]) (st' := [.int ((x1 + x2) + x6), .null, .int (x1 + x6), .ref b_1]) rfl) ?_
        exact rn_z rfl rfl
      · refine Eq.trans (rn_go 5 (pc' := 84) (L' := [.ref a0, .int x1, .int x2, am_un, .int x4, am_un, .int x6]) (st' := [.int ((x1 + x2) + x6), .ref b_4, .int (x1 + x6), .ref b_1]) rfl) ?_
        refine Eq.trans (rn_aI (L' := [.ref a0, .int x1, .int x2, am_un, .int x4, am_un, .int x6]) rfl rfl) ?_
        refine eI_c (fun x_5 => ?_)
        refine Eq.trans (rn_wI (L' := [.ref a0, .int x1, .int x2, am_un, .int x4, am_un, .int x6]) rfl rfl) ?_
        refine eS_c (fun s_6 => ?_)
        exact rn_go 2 (pc' := 55) (L' := [.ref a0, .int x1, .int x2, am_un, .int x4, am_un, .int (x6 + (1 : Int32))]) (st' := []) rfl
theorem in_X13_eventAt {B : Nat} (a0 : Nat) (x1 : Int32) (x2 : Int32) (s : am_S) : cl_ tb_ct tb_mt B K_X13_eventAt [.ref a0, .int x1, .int x2] s = rn_ tb_ct tb_mt B mm_X13_eventAt 0 [.ref a0, .int x1, .int x2] [] s := cl_in rfl rfl rfl rfl
theorem dc_X13_eventAt_0 {B : Nat} (a0 : Nat) (x1 : Int32) (x2 : Int32) (s : am_S) : rn_ tb_ct tb_mt B mm_X13_eventAt 0 [.ref a0, .int x1, .int x2] [] s = eA (gA tb_ct s a0 11 0) (none) (fun b_1 => eI (aI s b_1 (((189 : Int32) + ((6 : Int32) * x1)) + x2)) (fun x_2 => some (.inl (some (.int x_2)), s))) := by
  refine Eq.trans (rn_go 1 (pc' := 1) (L' := [.ref a0, .int x1, .int x2]) (st' := [.ref a0]) rfl) ?_
  refine Eq.trans (rn_gA (L' := [.ref a0, .int x1, .int x2]) rfl rfl rfl rfl) ?_
  refine eA_c ?_ (fun b_1 => ?_)
  · refine Eq.trans (rn_go 7 (pc' := 14) (L' := [.ref a0, .int x1, .int x2]) (st' := [.int (((189 : Int32) + ((6 : Int32) * x1)) + x2), .null]) rfl) ?_
    exact rn_z rfl rfl
  · refine Eq.trans (rn_go 7 (pc' := 14) (L' := [.ref a0, .int x1, .int x2]) (st' := [.int (((189 : Int32) + ((6 : Int32) * x1)) + x2), .ref b_1]) rfl) ?_
    refine Eq.trans (rn_aI (L' := [.ref a0, .int x1, .int x2]) rfl rfl) ?_
    refine eI_c (fun x_2 => ?_)
    exact rn_retI rfl rfl rfl
theorem in_X13_happens {B : Nat} (a0 : Nat) (x1 : Int32) (x2 : Int32) (x3 : Int32) (x4 : Int32) (x5 : Int32) (s : am_S) : cl_ tb_ct tb_mt B K_X13_happens [.ref a0, .int x1, .int x2, .int x3, .int x4, .int x5] s = rn_ tb_ct tb_mt B mm_X13_happens 0 [.ref a0, .int x1, .int x2, .int x3, .int x4, .int x5, am_un] [] s := cl_in rfl rfl rfl rfl
theorem dc_X13_happens_0 {B : Nat} (a0 : Nat) (x1 : Int32) (x2 : Int32) (x3 : Int32) (x4 : Int32) (x5 : Int32) (s : am_S) : rn_ tb_ct tb_mt B mm_X13_happens 0 [.ref a0, .int x1, .int x2, .int x3, .int x4, .int x5, am_un] [] s = eA (gA tb_ct s a0 11 0) (none) (fun b_1 => eI (aI s b_1 (6 : Int32)) (fun x_2 => eA (gA tb_ct s a0 11 0) (eA (gA tb_ct s a0 11 0) (none) (fun b_4 => eI (aI s b_4 (0 : Int32)) (fun x_5 => none))) (fun b_3 => eA (gA tb_ct s a0 11 0) (none) (fun b_6 => eI (aI s b_6 (0 : Int32)) (fun x_7 => eS (wI B s b_3 ((189 : Int32) + ((6 : Int32) * x_2)) x_7) (fun s_8 => eA (gA tb_ct s_8 a0 11 0) (none) (fun b_9 => eS (wI B s_8 b_9 (((189 : Int32) + ((6 : Int32) * x_2)) + (1 : Int32)) x1) (fun s_10 => eA (gA tb_ct s_10 a0 11 0) (none) (fun b_11 => eS (wI B s_10 b_11 (((189 : Int32) + ((6 : Int32) * x_2)) + (2 : Int32)) x2) (fun s_12 => eA (gA tb_ct s_12 a0 11 0) (none) (fun b_13 => eS (wI B s_12 b_13 (((189 : Int32) + ((6 : Int32) * x_2)) + (3 : Int32)) x3) (fun s_14 => eA (gA tb_ct s_14 a0 11 0) (none) (fun b_15 => eS (wI B s_14 b_15 (((189 : Int32) + ((6 : Int32) * x_2)) + (4 : Int32)) x4) (fun s_16 => eA (gA tb_ct s_16 a0 11 0) (none) (fun b_17 => eS (wI B s_16 b_17 (((189 : Int32) + ((6 : Int32) * x_2)) + (5 : Int32)) x5) (fun s_18 => eA (gA tb_ct s_18 a0 11 0) (none) (fun b_19 => eI (aI s_18 b_19 (6 : Int32)) (fun x_20 => eS (wI B s_18 b_19 (6 : Int32) (x_20 + (1 : Int32))) (fun s_21 => some (.inl none, s_21)))))))))))))))))))) := by
  refine Eq.trans (rn_go 3 (pc' := 6) (L' := [.ref a0, .int x1, .int x2, .int x3, .int x4, .int x5, am_un]) (st' := [.ref a0, .int (6 : Int32), .int (189 : Int32)]) rfl) ?_
  refine Eq.trans (rn_gA (L' := [.ref a0, .int x1, .int x2, .int x3, .int x4, .int x5, am_un]) rfl rfl rfl rfl) ?_
  refine eA_c ?_ (fun b_1 => ?_)
  · refine Eq.trans (rn_go 1 (pc' := 11) (L' := [.ref a0, .int x1, .int x2, .int x3, .int x4, .int x5, am_un]) (st' := [.int (6 : Int32), .null, .int (6 : Int32), .int (189 : Int32)]) rfl) ?_
    exact rn_z rfl rfl
  · refine Eq.trans (rn_go 1 (pc' := 11) (L' := [.ref a0, .int x1, .int x2, .int x3, .int x4, .int x5, am_un]) (st' := [.int (6 : Int32), .ref b_1, .int (6 : Int32), .int (189 : Int32)]) rfl) ?_
    refine Eq.trans (rn_aI (L' := [.ref a0, .int x1, .int x2, .int x3, .int x4, .int x5, am_un]) rfl rfl) ?_
    refine eI_c (fun x_2 => ?_)
    refine Eq.trans (rn_go 4 (pc' := 17) (L' := [.ref a0, .int x1, .int x2, .int x3, .int x4, .int x5, .int ((189 : Int32) + ((6 : Int32) * x_2))]) (st' := [.ref a0]) rfl) ?_
    refine Eq.trans (rn_gA (L' := [.ref a0, .int x1, .int x2, .int x3, .int x4, .int x5, .int ((189 : Int32) + ((6 : Int32) * x_2))]) rfl rfl rfl rfl) ?_
    refine eA_c ?_ (fun b_3 => ?_)
    · refine Eq.trans (rn_go 2 (pc' := 23) (L' := [.ref a0, .int x1, .int x2, .int x3, .int x4, .int x5, .int ((189 : Int32) + ((6 : Int32) * x_2))]) (st' := [.ref a0, .int ((189 : Int32) + ((6 : Int32) * x_2)), .null]) rfl) ?_
      refine Eq.trans (rn_gA (L' := [.ref a0, .int x1, .int x2, .int x3, .int x4, .int x5, .int ((189 : Int32) + ((6 : Int32) * x_2))]) rfl rfl rfl rfl) ?_
      refine eA_c ?_ (fun b_4 => ?_)
      · refine Eq.trans (rn_go 1 (pc' := 27) (L' := [.ref a0, .int x1, .int x2, .int x3, .int x4, .int x5, .int ((189 : Int32) + ((6 : Int32) * x_2))]) (st' := [.int (0 : Int32), .null, .int ((189 : Int32) + ((6 : Int32) * x_2)), .null]) rfl) ?_
        exact rn_z rfl rfl
      · refine Eq.trans (rn_go 1 (pc' := 27) (L' := [.ref a0, .int x1, .int x2, .int x3, .int x4, .int x5, .int ((189 : Int32) + ((6 : Int32) * x_2))]) (st' := [.int (0 : Int32), .ref b_4, .int ((189 : Int32) + ((6 : Int32) * x_2)), .null]) rfl) ?_
        refine Eq.trans (rn_aI (L' := [.ref a0, .int x1, .int x2, .int x3, .int x4, .int x5, .int ((189 : Int32) + ((6 : Int32) * x_2))]) rfl rfl) ?_
        refine eI_c (fun x_5 => ?_)
        exact rn_z rfl rfl
    · refine Eq.trans (rn_go 2 (pc' := 23) (L' := [.ref a0, .int x1, .int x2, .int x3, .int x4, .int x5, .int ((189 : Int32) + ((6 : Int32) * x_2))]) (st' := [.ref a0, .int ((189 : Int32) + ((6 : Int32) * x_2)), .ref b_3]) rfl) ?_
      refine Eq.trans (rn_gA (L' := [.ref a0, .int x1, .int x2, .int x3, .int x4, .int x5, .int ((189 : Int32) + ((6 : Int32) * x_2))]) rfl rfl rfl rfl) ?_
      refine eA_c ?_ (fun b_6 => ?_)
      · refine Eq.trans (rn_go 1 (pc' := 27) (L' := [.ref a0, .int x1, .int x2, .int x3, .int x4, .int x5, .int ((189 : Int32) + ((6 : Int32) * x_2))]) (st' := [.int (0 : Int32), .null, .int ((189 : Int32) + ((6 : Int32) * x_2)), .ref b_3]) rfl) ?_
        exact rn_z rfl rfl
      · refine Eq.trans (rn_go 1 (pc' := 27) (L' := [.ref a0, .int x1, .int x2, .int x3, .int x4, .int x5, .int ((189 : Int32) + ((6 : Int32) * x_2))]) (st' := [.int (0 : Int32), .ref b_6, .int ((189 : Int32) + ((6 : Int32) * x_2)), .ref b_3]) rfl) ?_
        refine Eq.trans (rn_aI (L' := [.ref a0, .int x1, .int x2, .int x3, .int x4, .int x5, .int ((189 : Int32) + ((6 : Int32) * x_2))]) rfl rfl) ?_
        refine eI_c (fun x_7 => ?_)
        refine Eq.trans (rn_wI (L' := [.ref a0, .int x1, .int x2, .int x3, .int x4, .int x5, .int ((189 : Int32) + ((6 : Int32) * x_2))]) rfl rfl) ?_
        refine eS_c (fun s_8 => ?_)
        refine Eq.trans (rn_go 1 (pc' := 30) (L' := [.ref a0, .int x1, .int x2, .int x3, .int x4, .int x5, .int ((189 : Int32) + ((6 : Int32) * x_2))]) (st' := [.ref a0]) rfl) ?_
        refine Eq.trans (rn_gA (L' := [.ref a0, .int x1, .int x2, .int x3, .int x4, .int x5, .int ((189 : Int32) + ((6 : Int32) * x_2))]) rfl rfl rfl rfl) ?_
        refine eA_c ?_ (fun b_9 => ?_)
        · refine Eq.trans (rn_go 4 (pc' := 38) (L' := [.ref a0, .int x1, .int x2, .int x3, .int x4, .int x5, .int ((189 : Int32) + ((6 : Int32) * x_2))]) (st' := [.int x1, .int (((189 : Int32) + ((6 : Int32) * x_2)) + (1 : Int32)), .null]) rfl) ?_
          exact rn_z rfl rfl
        · refine Eq.trans (rn_go 4 (pc' := 38) (L' := [.ref a0, .int x1, .int x2, .int x3, .int x4, .int x5, .int ((189 : Int32) + ((6 : Int32) * x_2))]) (st' := [.int x1, .int (((189 : Int32) + ((6 : Int32) * x_2)) + (1 : Int32)), .ref b_9]) rfl) ?_
          refine Eq.trans (rn_wI (L' := [.ref a0, .int x1, .int x2, .int x3, .int x4, .int x5, .int ((189 : Int32) + ((6 : Int32) * x_2))]) rfl rfl) ?_
          refine eS_c (fun s_10 => ?_)
          refine Eq.trans (rn_go 1 (pc' := 40) (L' := [.ref a0, .int x1, .int x2, .int x3, .int x4, .int x5, .int ((189 : Int32) + ((6 : Int32) * x_2))]) (st' := [.ref a0]) rfl) ?_
          refine Eq.trans (rn_gA (L' := [.ref a0, .int x1, .int x2, .int x3, .int x4, .int x5, .int ((189 : Int32) + ((6 : Int32) * x_2))]) rfl rfl rfl rfl) ?_
          refine eA_c ?_ (fun b_11 => ?_)
          · refine Eq.trans (rn_go 4 (pc' := 48) (L' := [.ref a0, .int x1, .int x2, .int x3, .int x4, .int x5, .int ((189 : Int32) + ((6 : Int32) * x_2))]) (st' := [.int x2, .int (((189 : Int32) + ((6 : Int32) * x_2)) + (2 : Int32)), .null]) rfl) ?_
            exact rn_z rfl rfl
          · refine Eq.trans (rn_go 4 (pc' := 48) (L' := [.ref a0, .int x1, .int x2, .int x3, .int x4, .int x5, .int ((189 : Int32) + ((6 : Int32) * x_2))]) (st' := [.int x2, .int (((189 : Int32) + ((6 : Int32) * x_2)) + (2 : Int32)), .ref b_11]) rfl) ?_
            refine Eq.trans (rn_wI (L' := [.ref a0, .int x1, .int x2, .int x3, .int x4, .int x5, .int ((189 : Int32) + ((6 : Int32) * x_2))]) rfl rfl) ?_
            refine eS_c (fun s_12 => ?_)
            refine Eq.trans (rn_go 1 (pc' := 50) (L' := [.ref a0, .int x1, .int x2, .int x3, .int x4, .int x5, .int ((189 : Int32) + ((6 : Int32) * x_2))]) (st' := [.ref a0]) rfl) ?_
            refine Eq.trans (rn_gA (L' := [.ref a0, .int x1, .int x2, .int x3, .int x4, .int x5, .int ((189 : Int32) + ((6 : Int32) * x_2))]) rfl rfl rfl rfl) ?_
            refine eA_c ?_ (fun b_13 => ?_)
            · refine Eq.trans (rn_go 4 (pc' := 58) (L' := [.ref a0, .int x1, .int x2, .int x3, .int x4, .int x5, .int ((189 : Int32) + ((6 : Int32) * x_2))]) (st' := [.int x3, .int (((189 : Int32) + ((6 : Int32) * x_2)) + (3 : Int32)), .null]) rfl) ?_
              exact rn_z rfl rfl
            · refine Eq.trans (rn_go 4 (pc' := 58) (L' := [.ref a0, .int x1, .int x2, .int x3, .int x4, .int x5, .int ((189 : Int32) + ((6 : Int32) * x_2))]) (st' := [.int x3, .int (((189 : Int32) + ((6 : Int32) * x_2)) + (3 : Int32)), .ref b_13]) rfl) ?_
              refine Eq.trans (rn_wI (L' := [.ref a0, .int x1, .int x2, .int x3, .int x4, .int x5, .int ((189 : Int32) + ((6 : Int32) * x_2))]) rfl rfl) ?_
              refine eS_c (fun s_14 => ?_)
              refine Eq.trans (rn_go 1 (pc' := 60) (L' := [.ref a0, .int x1, .int x2, .int x3, .int x4, .int x5, .int ((189 : Int32) + ((6 : Int32) * x_2))]) (st' := [.ref a0]) rfl) ?_
              refine Eq.trans (rn_gA (L' := [.ref a0, .int x1, .int x2, .int x3, .int x4, .int x5, .int ((189 : Int32) + ((6 : Int32) * x_2))]) rfl rfl rfl rfl) ?_
              refine eA_c ?_ (fun b_15 => ?_)
              · refine Eq.trans (rn_go 4 (pc' := 69) (L' := [.ref a0, .int x1, .int x2, .int x3, .int x4, .int x5, .int ((189 : Int32) + ((6 : Int32) * x_2))]) (st' := [.int x4, .int (((189 : Int32) + ((6 : Int32) * x_2)) + (4 : Int32)), .null]) rfl) ?_
                exact rn_z rfl rfl
              · refine Eq.trans (rn_go 4 (pc' := 69) (L' := [.ref a0, .int x1, .int x2, .int x3, .int x4, .int x5, .int ((189 : Int32) + ((6 : Int32) * x_2))]) (st' := [.int x4, .int (((189 : Int32) + ((6 : Int32) * x_2)) + (4 : Int32)), .ref b_15]) rfl) ?_
                refine Eq.trans (rn_wI (L' := [.ref a0, .int x1, .int x2, .int x3, .int x4, .int x5, .int ((189 : Int32) + ((6 : Int32) * x_2))]) rfl rfl) ?_
                refine eS_c (fun s_16 => ?_)
                refine Eq.trans (rn_go 1 (pc' := 71) (L' := [.ref a0, .int x1, .int x2, .int x3, .int x4, .int x5, .int ((189 : Int32) + ((6 : Int32) * x_2))]) (st' := [.ref a0]) rfl) ?_
                refine Eq.trans (rn_gA (L' := [.ref a0, .int x1, .int x2, .int x3, .int x4, .int x5, .int ((189 : Int32) + ((6 : Int32) * x_2))]) rfl rfl rfl rfl) ?_
                refine eA_c ?_ (fun b_17 => ?_)
                · refine Eq.trans (rn_go 4 (pc' := 80) (L' := [.ref a0, .int x1, .int x2, .int x3, .int x4, .int x5, .int ((189 : Int32) + ((6 : Int32) * x_2))]) (st' := [.int x5, .int (((189 : Int32) + ((6 : Int32) * x_2)) + (5 : Int32)), .null]) rfl) ?_
                  exact rn_z rfl rfl
                · refine Eq.trans (rn_go 4 (pc' := 80) (L' := [.ref a0, .int x1, .int x2, .int x3, .int x4, .int x5, .int ((189 : Int32) + ((6 : Int32) * x_2))]) (st' := [.int x5, .int (((189 : Int32) + ((6 : Int32) * x_2)) + (5 : Int32)), .ref b_17]) rfl) ?_
                  refine Eq.trans (rn_wI (L' := [.ref a0, .int x1, .int x2, .int x3, .int x4, .int x5, .int ((189 : Int32) + ((6 : Int32) * x_2))]) rfl rfl) ?_
                  refine eS_c (fun s_18 => ?_)
                  refine Eq.trans (rn_go 1 (pc' := 82) (L' := [.ref a0, .int x1, .int x2, .int x3, .int x4, .int x5, .int ((189 : Int32) + ((6 : Int32) * x_2))]) (st' := [.ref a0]) rfl) ?_
                  refine Eq.trans (rn_gA (L' := [.ref a0, .int x1, .int x2, .int x3, .int x4, .int x5, .int ((189 : Int32) + ((6 : Int32) * x_2))]) rfl rfl rfl rfl) ?_
                  refine eA_c ?_ (fun b_19 => ?_)
                  · refine Eq.trans (rn_go 2 (pc' := 88) (L' := [.ref a0, .int x1, .int x2, .int x3, .int x4, .int x5, .int ((189 : Int32) + ((6 : Int32) * x_2))]) (st' := [.int (6 : Int32), .null, .int (6 : Int32), .null]) rfl) ?_
                    exact rn_z rfl rfl
                  · refine Eq.trans (rn_go 2 (pc' := 88) (L' := [.ref a0, .int x1, .int x2, .int x3, .int x4, .int x5, .int ((189 : Int32) + ((6 : Int32) * x_2))]) (st' := [.int (6 : Int32), .ref b_19, .int (6 : Int32), .ref b_19]) rfl) ?_
                    refine Eq.trans (rn_aI (L' := [.ref a0, .int x1, .int x2, .int x3, .int x4, .int x5, .int ((189 : Int32) + ((6 : Int32) * x_2))]) rfl rfl) ?_
                    refine eI_c (fun x_20 => ?_)
                    refine Eq.trans (rn_go 2 (pc' := 91) (L' := [.ref a0, .int x1, .int x2, .int x3, .int x4, .int x5, .int ((189 : Int32) + ((6 : Int32) * x_2))]) (st' := [.int (x_20 + (1 : Int32)), .int (6 : Int32), .ref b_19]) rfl) ?_
                    refine Eq.trans (rn_wI (L' := [.ref a0, .int x1, .int x2, .int x3, .int x4, .int x5, .int ((189 : Int32) + ((6 : Int32) * x_2))]) rfl rfl) ?_
                    refine eS_c (fun s_21 => ?_)
                    exact rn_retV rfl rfl
theorem in_X13_writes {B : Nat} (a0 : Nat) (x1 : Int32) (x2 : Int32) (x3 : Int32) (s : am_S) : cl_ tb_ct tb_mt B K_X13_writes [.ref a0, .int x1, .int x2, .int x3] s = rn_ tb_ct tb_mt B mm_X13_writes 0 [.ref a0, .int x1, .int x2, .int x3, am_un, am_un] [] s := cl_in rfl rfl rfl rfl
theorem dc_X13_writes_0 {B : Nat} (a0 : Nat) (x1 : Int32) (x2 : Int32) (x3 : Int32) (s : am_S) : rn_ tb_ct tb_mt B mm_X13_writes 0 [.ref a0, .int x1, .int x2, .int x3, am_un, am_un] [] s = eC (am_cls s a0) 11 (cI (cl_ tb_ct tb_mt B K_X13_placeOf [.ref a0, .int x1] s) (fun x_2 s_1 => eC (am_cls s_1 a0) 11 (cI (cl_ tb_ct tb_mt B K_X13_isThere [.ref a0, .int x1] s_1) (fun x_4 s_3 => if x_4 = 0 then eA (gA tb_ct s_3 a0 11 0) (none) (fun b_5 => eI (aI s_3 b_5 (3 : Int32)) (fun x_6 => eC (am_cls s_3 a0) 11 (cV (cl_ tb_ct tb_mt B K_X13_moves [.ref a0, .int (13 : Int32), .int (6 : Int32), .int x_2, .int x_6, .int (1 : Int32)] s_3) (fun s_7 => eA (gA tb_ct s_7 a0 11 0) (none) (fun b_8 => eI (aI s_7 b_8 (3 : Int32)) (fun x_9 => eS (wI B s_7 b_8 (3 : Int32) (x_9 + (1 : Int32))) (fun s_10 => eA (gA tb_ct s_10 a0 11 0) (none) (fun b_11 => eS (wI B s_10 b_11 ((13 : Int32) + ((6 : Int32) * x_2)) x1) (fun s_12 => eA (gA tb_ct s_12 a0 11 0) (eA (gA tb_ct s_12 a0 11 0) (none) (fun b_14 => eI (aI s_12 b_14 (0 : Int32)) (fun x_15 => none))) (fun b_13 => eA (gA tb_ct s_12 a0 11 0) (none) (fun b_16 => eI (aI s_12 b_16 (0 : Int32)) (fun x_17 => eS (wI B s_12 b_13 (((13 : Int32) + ((6 : Int32) * x_2)) + (2 : Int32)) x_17) (fun s_18 => eA (gA tb_ct s_18 a0 11 0) (none) (fun b_19 => eS (wI B s_18 b_19 (((13 : Int32) + ((6 : Int32) * x_2)) + (4 : Int32)) (0 : Int32)) (fun s_20 => rn_ tb_ct tb_mt B mm_X13_writes 109 [.ref a0, .int x1, .int x2, .int x3, .int x_2, .int (-(2000000000 : Int32))] [] s_20)))))))))))) xo))) else eC (am_cls s_3 a0) 11 (cI (cl_ tb_ct tb_mt B K_X13_keyAt [.ref a0, .int x_2, .int (1 : Int32)] s_3) (fun x_22 s_21 => rn_ tb_ct tb_mt B mm_X13_writes 109 [.ref a0, .int x1, .int x2, .int x3, .int x_2, .int x_22] [] s_21) xo)) xo)) xo) := by
  refine Eq.trans (rn_go 2 (pc' := 2) (L' := [.ref a0, .int x1, .int x2, .int x3, am_un, am_un]) (st' := [.int x1, .ref a0]) rfl) ?_
  refine Eq.trans (rn_vir (L' := [.ref a0, .int x1, .int x2, .int x3, am_un, am_un]) (as := [.int x1]) (rest := []) rfl rfl rfl rfl rfl (Nat.le_of_ble_eq_true rfl) (by decide) (by decide)) ?_
  refine eC_c ?_
  refine Eq.trans (cW_I rfl rfl rfl) ?_
  refine cI_c (fun x_2 s_1 => ?_) (xh_nil rfl)
  refine Eq.trans (rn_go 5 (pc' := 13) (L' := [.ref a0, .int x1, .int x2, .int x3, .int x_2, .int (-(2000000000 : Int32))]) (st' := [.int x1, .ref a0]) rfl) ?_
  refine Eq.trans (rn_vir (L' := [.ref a0, .int x1, .int x2, .int x3, .int x_2, .int (-(2000000000 : Int32))]) (as := [.int x1]) (rest := []) rfl rfl rfl rfl rfl (Nat.le_of_ble_eq_true rfl) (by decide) (by decide)) ?_
  refine eC_c ?_
  refine Eq.trans (cW_I rfl rfl rfl) ?_
  refine cI_c (fun x_4 s_3 => ?_) (xh_nil rfl)
  refine Eq.trans (rn_ifeq (L' := [.ref a0, .int x1, .int x2, .int x3, .int x_2, .int (-(2000000000 : Int32))]) rfl rfl) ?_
  refine if_c ?_ ?_
  · refine Eq.trans (rn_go 5 (pc' := 39) (L' := [.ref a0, .int x1, .int x2, .int x3, .int x_2, .int (-(2000000000 : Int32))]) (st' := [.ref a0, .int x_2, .int (6 : Int32), .int (13 : Int32), .ref a0]) rfl) ?_
    refine Eq.trans (rn_gA (L' := [.ref a0, .int x1, .int x2, .int x3, .int x_2, .int (-(2000000000 : Int32))]) rfl rfl rfl rfl) ?_
    refine eA_c ?_ (fun b_5 => ?_)
    · refine Eq.trans (rn_go 1 (pc' := 43) (L' := [.ref a0, .int x1, .int x2, .int x3, .int x_2, .int (-(2000000000 : Int32))]) (st' := [.int (3 : Int32), .null, .int x_2, .int (6 : Int32), .int (13 : Int32), .ref a0]) rfl) ?_
      exact rn_z rfl rfl
    · refine Eq.trans (rn_go 1 (pc' := 43) (L' := [.ref a0, .int x1, .int x2, .int x3, .int x_2, .int (-(2000000000 : Int32))]) (st' := [.int (3 : Int32), .ref b_5, .int x_2, .int (6 : Int32), .int (13 : Int32), .ref a0]) rfl) ?_
      refine Eq.trans (rn_aI (L' := [.ref a0, .int x1, .int x2, .int x3, .int x_2, .int (-(2000000000 : Int32))]) rfl rfl) ?_
      refine eI_c (fun x_6 => ?_)
      refine Eq.trans (rn_go 1 (pc' := 45) (L' := [.ref a0, .int x1, .int x2, .int x3, .int x_2, .int (-(2000000000 : Int32))]) (st' := [.int (1 : Int32), .int x_6, .int x_2, .int (6 : Int32), .int (13 : Int32), .ref a0]) rfl) ?_
      refine Eq.trans (rn_vir (L' := [.ref a0, .int x1, .int x2, .int x3, .int x_2, .int (-(2000000000 : Int32))]) (as := [.int (13 : Int32), .int (6 : Int32), .int x_2, .int x_6, .int (1 : Int32)]) (rest := []) rfl rfl rfl rfl rfl (Nat.le_of_ble_eq_true rfl) (by decide) (by decide)) ?_
      refine eC_c ?_
      refine Eq.trans (cW_V rfl rfl) ?_
      refine cV_c (fun s_7 => ?_) (xh_nil rfl)
      refine Eq.trans (rn_go 1 (pc' := 49) (L' := [.ref a0, .int x1, .int x2, .int x3, .int x_2, .int (-(2000000000 : Int32))]) (st' := [.ref a0]) rfl) ?_
      refine Eq.trans (rn_gA (L' := [.ref a0, .int x1, .int x2, .int x3, .int x_2, .int (-(2000000000 : Int32))]) rfl rfl rfl rfl) ?_
      refine eA_c ?_ (fun b_8 => ?_)
      · refine Eq.trans (rn_go 2 (pc' := 54) (L' := [.ref a0, .int x1, .int x2, .int x3, .int x_2, .int (-(2000000000 : Int32))]) (st' := [.int (3 : Int32), .null, .int (3 : Int32), .null]) rfl) ?_
        exact rn_z rfl rfl
      · refine Eq.trans (rn_go 2 (pc' := 54) (L' := [.ref a0, .int x1, .int x2, .int x3, .int x_2, .int (-(2000000000 : Int32))]) (st' := [.int (3 : Int32), .ref b_8, .int (3 : Int32), .ref b_8]) rfl) ?_
        refine Eq.trans (rn_aI (L' := [.ref a0, .int x1, .int x2, .int x3, .int x_2, .int (-(2000000000 : Int32))]) rfl rfl) ?_
        refine eI_c (fun x_9 => ?_)
        refine Eq.trans (rn_go 2 (pc' := 57) (L' := [.ref a0, .int x1, .int x2, .int x3, .int x_2, .int (-(2000000000 : Int32))]) (st' := [.int (x_9 + (1 : Int32)), .int (3 : Int32), .ref b_8]) rfl) ?_
        refine Eq.trans (rn_wI (L' := [.ref a0, .int x1, .int x2, .int x3, .int x_2, .int (-(2000000000 : Int32))]) rfl rfl) ?_
        refine eS_c (fun s_10 => ?_)
        refine Eq.trans (rn_go 1 (pc' := 59) (L' := [.ref a0, .int x1, .int x2, .int x3, .int x_2, .int (-(2000000000 : Int32))]) (st' := [.ref a0]) rfl) ?_
        refine Eq.trans (rn_gA (L' := [.ref a0, .int x1, .int x2, .int x3, .int x_2, .int (-(2000000000 : Int32))]) rfl rfl rfl rfl) ?_
        refine eA_c ?_ (fun b_11 => ?_)
        · refine Eq.trans (rn_go 6 (pc' := 71) (L' := [.ref a0, .int x1, .int x2, .int x3, .int x_2, .int (-(2000000000 : Int32))]) (st' := [.int x1, .int ((13 : Int32) + ((6 : Int32) * x_2)), .null]) rfl) ?_
          exact rn_z rfl rfl
        · refine Eq.trans (rn_go 6 (pc' := 71) (L' := [.ref a0, .int x1, .int x2, .int x3, .int x_2, .int (-(2000000000 : Int32))]) (st' := [.int x1, .int ((13 : Int32) + ((6 : Int32) * x_2)), .ref b_11]) rfl) ?_
          refine Eq.trans (rn_wI (L' := [.ref a0, .int x1, .int x2, .int x3, .int x_2, .int (-(2000000000 : Int32))]) rfl rfl) ?_
          refine eS_c (fun s_12 => ?_)
          refine Eq.trans (rn_go 1 (pc' := 73) (L' := [.ref a0, .int x1, .int x2, .int x3, .int x_2, .int (-(2000000000 : Int32))]) (st' := [.ref a0]) rfl) ?_
          refine Eq.trans (rn_gA (L' := [.ref a0, .int x1, .int x2, .int x3, .int x_2, .int (-(2000000000 : Int32))]) rfl rfl rfl rfl) ?_
          refine eA_c ?_ (fun b_13 => ?_)
          · refine Eq.trans (rn_go 8 (pc' := 87) (L' := [.ref a0, .int x1, .int x2, .int x3, .int x_2, .int (-(2000000000 : Int32))]) (st' := [.ref a0, .int (((13 : Int32) + ((6 : Int32) * x_2)) + (2 : Int32)), .null]) rfl) ?_
            refine Eq.trans (rn_gA (L' := [.ref a0, .int x1, .int x2, .int x3, .int x_2, .int (-(2000000000 : Int32))]) rfl rfl rfl rfl) ?_
            refine eA_c ?_ (fun b_14 => ?_)
            · refine Eq.trans (rn_go 1 (pc' := 91) (L' := [.ref a0, .int x1, .int x2, .int x3, .int x_2, .int (-(2000000000 : Int32))]) (st' := [.int (0 : Int32), .null, .int (((13 : Int32) + ((6 : Int32) * x_2)) + (2 : Int32)), .null]) rfl) ?_
              exact rn_z rfl rfl
            · refine Eq.trans (rn_go 1 (pc' := 91) (L' := [.ref a0, .int x1, .int x2, .int x3, .int x_2, .int (-(2000000000 : Int32))]) (st' := [.int (0 : Int32), .ref b_14, .int (((13 : Int32) + ((6 : Int32) * x_2)) + (2 : Int32)), .null]) rfl) ?_
              refine Eq.trans (rn_aI (L' := [.ref a0, .int x1, .int x2, .int x3, .int x_2, .int (-(2000000000 : Int32))]) rfl rfl) ?_
              refine eI_c (fun x_15 => ?_)
              exact rn_z rfl rfl
          · refine Eq.trans (rn_go 8 (pc' := 87) (L' := [.ref a0, .int x1, .int x2, .int x3, .int x_2, .int (-(2000000000 : Int32))]) (st' := [.ref a0, .int (((13 : Int32) + ((6 : Int32) * x_2)) + (2 : Int32)), .ref b_13]) rfl) ?_
            refine Eq.trans (rn_gA (L' := [.ref a0, .int x1, .int x2, .int x3, .int x_2, .int (-(2000000000 : Int32))]) rfl rfl rfl rfl) ?_
            refine eA_c ?_ (fun b_16 => ?_)
            · refine Eq.trans (rn_go 1 (pc' := 91) (L' := [.ref a0, .int x1, .int x2, .int x3, .int x_2, .int (-(2000000000 : Int32))]) (st' := [.int (0 : Int32), .null, .int (((13 : Int32) + ((6 : Int32) * x_2)) + (2 : Int32)), .ref b_13]) rfl) ?_
              exact rn_z rfl rfl
            · refine Eq.trans (rn_go 1 (pc' := 91) (L' := [.ref a0, .int x1, .int x2, .int x3, .int x_2, .int (-(2000000000 : Int32))]) (st' := [.int (0 : Int32), .ref b_16, .int (((13 : Int32) + ((6 : Int32) * x_2)) + (2 : Int32)), .ref b_13]) rfl) ?_
              refine Eq.trans (rn_aI (L' := [.ref a0, .int x1, .int x2, .int x3, .int x_2, .int (-(2000000000 : Int32))]) rfl rfl) ?_
              refine eI_c (fun x_17 => ?_)
              refine Eq.trans (rn_wI (L' := [.ref a0, .int x1, .int x2, .int x3, .int x_2, .int (-(2000000000 : Int32))]) rfl rfl) ?_
              refine eS_c (fun s_18 => ?_)
              refine Eq.trans (rn_go 1 (pc' := 94) (L' := [.ref a0, .int x1, .int x2, .int x3, .int x_2, .int (-(2000000000 : Int32))]) (st' := [.ref a0]) rfl) ?_
              refine Eq.trans (rn_gA (L' := [.ref a0, .int x1, .int x2, .int x3, .int x_2, .int (-(2000000000 : Int32))]) rfl rfl rfl rfl) ?_
              refine eA_c ?_ (fun b_19 => ?_)
              · refine Eq.trans (rn_go 8 (pc' := 108) (L' := [.ref a0, .int x1, .int x2, .int x3, .int x_2, .int (-(2000000000 : Int32))]) (st' := [.int (0 : Int32), .int (((13 : Int32) + ((6 : Int32) * x_2)) + (4 : Int32)), .null]) rfl) ?_
                exact rn_z rfl rfl
              · refine Eq.trans (rn_go 8 (pc' := 108) (L' := [.ref a0, .int x1, .int x2, .int x3, .int x_2, .int (-(2000000000 : Int32))]) (st' := [.int (0 : Int32), .int (((13 : Int32) + ((6 : Int32) * x_2)) + (4 : Int32)), .ref b_19]) rfl) ?_
                refine Eq.trans (rn_wI (L' := [.ref a0, .int x1, .int x2, .int x3, .int x_2, .int (-(2000000000 : Int32))]) rfl rfl) ?_
                refine eS_c (fun s_20 => ?_)
                rfl
  · refine Eq.trans (rn_go 3 (pc' := 23) (L' := [.ref a0, .int x1, .int x2, .int x3, .int x_2, .int (-(2000000000 : Int32))]) (st' := [.int (1 : Int32), .int x_2, .ref a0]) rfl) ?_
    refine Eq.trans (rn_vir (L' := [.ref a0, .int x1, .int x2, .int x3, .int x_2, .int (-(2000000000 : Int32))]) (as := [.int x_2, .int (1 : Int32)]) (rest := []) rfl rfl rfl rfl rfl (Nat.le_of_ble_eq_true rfl) (by decide) (by decide)) ?_
    refine eC_c ?_
    refine Eq.trans (cW_I rfl rfl rfl) ?_
    refine cI_c (fun x_22 s_21 => ?_) (xh_nil rfl)
    exact rn_go 2 (pc' := 109) (L' := [.ref a0, .int x1, .int x2, .int x3, .int x_2, .int x_22]) (st' := []) rfl
theorem dc_X13_writes_109 {B : Nat} (a0 : Nat) (x1 : Int32) (x2 : Int32) (x3 : Int32) (x4 : Int32) (x5 : Int32) (s : am_S) : rn_ tb_ct tb_mt B mm_X13_writes 109 [.ref a0, .int x1, .int x2, .int x3, .int x4, .int x5] [] s = eA (gA tb_ct s a0 11 0) (none) (fun b_1 => eS (wI B s b_1 (((13 : Int32) + ((6 : Int32) * x4)) + (1 : Int32)) x2) (fun s_2 => eA (gA tb_ct s_2 a0 11 0) (eA (gA tb_ct s_2 a0 11 0) (none) (fun b_4 => eI (aI s_2 b_4 (0 : Int32)) (fun x_5 => none))) (fun b_3 => eA (gA tb_ct s_2 a0 11 0) (none) (fun b_6 => eI (aI s_2 b_6 (0 : Int32)) (fun x_7 => eS (wI B s_2 b_3 (((13 : Int32) + ((6 : Int32) * x4)) + (3 : Int32)) x_7) (fun s_8 => eA (gA tb_ct s_8 a0 11 0) (none) (fun b_9 => eI (aI s_8 b_9 (((13 : Int32) + ((6 : Int32) * x4)) + (4 : Int32))) (fun x_10 => eS (wI B s_8 b_9 (((13 : Int32) + ((6 : Int32) * x4)) + (4 : Int32)) (x_10 + (1 : Int32))) (fun s_11 => eA (gA tb_ct s_11 a0 11 0) (none) (fun b_12 => eS (wI B s_11 b_12 (((13 : Int32) + ((6 : Int32) * x4)) + (5 : Int32)) x3) (fun s_13 => eC (am_cls s_13 a0) 11 (cV (cl_ tb_ct tb_mt B K_X13_happens [.ref a0, .int (0 : Int32), .int x1, .int x2, .int x5, .int x3] s_13) (fun s_14 => some (.inl none, s_14)) xo)))))))))))) := by
  refine Eq.trans (rn_go 1 (pc' := 110) (L' := [.ref a0, .int x1, .int x2, .int x3, .int x4, .int x5]) (st' := [.ref a0]) rfl) ?_
  refine Eq.trans (rn_gA (L' := [.ref a0, .int x1, .int x2, .int x3, .int x4, .int x5]) rfl rfl rfl rfl) ?_
  refine eA_c ?_ (fun b_1 => ?_)
  · refine Eq.trans (rn_go 8 (pc' := 124) (L' := [.ref a0, .int x1, .int x2, .int x3, .int x4, .int x5]) (st' := [.int x2, .int (((13 : Int32) + ((6 : Int32) * x4)) + (1 : Int32)), .null]) rfl) ?_
    exact rn_z rfl rfl
  · refine Eq.trans (rn_go 8 (pc' := 124) (L' := [.ref a0, .int x1, .int x2, .int x3, .int x4, .int x5]) (st' := [.int x2, .int (((13 : Int32) + ((6 : Int32) * x4)) + (1 : Int32)), .ref b_1]) rfl) ?_
    refine Eq.trans (rn_wI (L' := [.ref a0, .int x1, .int x2, .int x3, .int x4, .int x5]) rfl rfl) ?_
    refine eS_c (fun s_2 => ?_)
    refine Eq.trans (rn_go 1 (pc' := 126) (L' := [.ref a0, .int x1, .int x2, .int x3, .int x4, .int x5]) (st' := [.ref a0]) rfl) ?_
    refine Eq.trans (rn_gA (L' := [.ref a0, .int x1, .int x2, .int x3, .int x4, .int x5]) rfl rfl rfl rfl) ?_
    refine eA_c ?_ (fun b_3 => ?_)
    · refine Eq.trans (rn_go 8 (pc' := 140) (L' := [.ref a0, .int x1, .int x2, .int x3, .int x4, .int x5]) (st' := [.ref a0, .int (((13 : Int32) + ((6 : Int32) * x4)) + (3 : Int32)), .null]) rfl) ?_
      refine Eq.trans (rn_gA (L' := [.ref a0, .int x1, .int x2, .int x3, .int x4, .int x5]) rfl rfl rfl rfl) ?_
      refine eA_c ?_ (fun b_4 => ?_)
      · refine Eq.trans (rn_go 1 (pc' := 144) (L' := [.ref a0, .int x1, .int x2, .int x3, .int x4, .int x5]) (st' := [.int (0 : Int32), .null, .int (((13 : Int32) + ((6 : Int32) * x4)) + (3 : Int32)), .null]) rfl) ?_
        exact rn_z rfl rfl
      · refine Eq.trans (rn_go 1 (pc' := 144) (L' := [.ref a0, .int x1, .int x2, .int x3, .int x4, .int x5]) (st' := [.int (0 : Int32), .ref b_4, .int (((13 : Int32) + ((6 : Int32) * x4)) + (3 : Int32)), .null]) rfl) ?_
        refine Eq.trans (rn_aI (L' := [.ref a0, .int x1, .int x2, .int x3, .int x4, .int x5]) rfl rfl) ?_
        refine eI_c (fun x_5 => ?_)
        exact rn_z rfl rfl
    · refine Eq.trans (rn_go 8 (pc' := 140) (L' := [.ref a0, .int x1, .int x2, .int x3, .int x4, .int x5]) (st' := [.ref a0, .int (((13 : Int32) + ((6 : Int32) * x4)) + (3 : Int32)), .ref b_3]) rfl) ?_
      refine Eq.trans (rn_gA (L' := [.ref a0, .int x1, .int x2, .int x3, .int x4, .int x5]) rfl rfl rfl rfl) ?_
      refine eA_c ?_ (fun b_6 => ?_)
      · refine Eq.trans (rn_go 1 (pc' := 144) (L' := [.ref a0, .int x1, .int x2, .int x3, .int x4, .int x5]) (st' := [.int (0 : Int32), .null, .int (((13 : Int32) + ((6 : Int32) * x4)) + (3 : Int32)), .ref b_3]) rfl) ?_
        exact rn_z rfl rfl
      · refine Eq.trans (rn_go 1 (pc' := 144) (L' := [.ref a0, .int x1, .int x2, .int x3, .int x4, .int x5]) (st' := [.int (0 : Int32), .ref b_6, .int (((13 : Int32) + ((6 : Int32) * x4)) + (3 : Int32)), .ref b_3]) rfl) ?_
        refine Eq.trans (rn_aI (L' := [.ref a0, .int x1, .int x2, .int x3, .int x4, .int x5]) rfl rfl) ?_
        refine eI_c (fun x_7 => ?_)
        refine Eq.trans (rn_wI (L' := [.ref a0, .int x1, .int x2, .int x3, .int x4, .int x5]) rfl rfl) ?_
        refine eS_c (fun s_8 => ?_)
        refine Eq.trans (rn_go 1 (pc' := 147) (L' := [.ref a0, .int x1, .int x2, .int x3, .int x4, .int x5]) (st' := [.ref a0]) rfl) ?_
        refine Eq.trans (rn_gA (L' := [.ref a0, .int x1, .int x2, .int x3, .int x4, .int x5]) rfl rfl rfl rfl) ?_
        refine eA_c ?_ (fun b_9 => ?_)
        · refine Eq.trans (rn_go 8 (pc' := 161) (L' := [.ref a0, .int x1, .int x2, .int x3, .int x4, .int x5]) (st' := [.int (((13 : Int32) + ((6 : Int32) * x4)) + (4 : Int32)), .null, .int (((13 : Int32) + ((6 : Int32) * x4)) + (4 : Int32)), .null]) rfl) ?_
          exact rn_z rfl rfl
        · refine Eq.trans (rn_go 8 (pc' := 161) (L' := [.ref a0, .int x1, .int x2, .int x3, .int x4, .int x5]) (st' := [.int (((13 : Int32) + ((6 : Int32) * x4)) + (4 : Int32)), .ref b_9, .int (((13 : Int32) + ((6 : Int32) * x4)) + (4 : Int32)), .ref b_9]) rfl) ?_
          refine Eq.trans (rn_aI (L' := [.ref a0, .int x1, .int x2, .int x3, .int x4, .int x5]) rfl rfl) ?_
          refine eI_c (fun x_10 => ?_)
          refine Eq.trans (rn_go 2 (pc' := 164) (L' := [.ref a0, .int x1, .int x2, .int x3, .int x4, .int x5]) (st' := [.int (x_10 + (1 : Int32)), .int (((13 : Int32) + ((6 : Int32) * x4)) + (4 : Int32)), .ref b_9]) rfl) ?_
          refine Eq.trans (rn_wI (L' := [.ref a0, .int x1, .int x2, .int x3, .int x4, .int x5]) rfl rfl) ?_
          refine eS_c (fun s_11 => ?_)
          refine Eq.trans (rn_go 1 (pc' := 166) (L' := [.ref a0, .int x1, .int x2, .int x3, .int x4, .int x5]) (st' := [.ref a0]) rfl) ?_
          refine Eq.trans (rn_gA (L' := [.ref a0, .int x1, .int x2, .int x3, .int x4, .int x5]) rfl rfl rfl rfl) ?_
          refine eA_c ?_ (fun b_12 => ?_)
          · refine Eq.trans (rn_go 8 (pc' := 180) (L' := [.ref a0, .int x1, .int x2, .int x3, .int x4, .int x5]) (st' := [.int x3, .int (((13 : Int32) + ((6 : Int32) * x4)) + (5 : Int32)), .null]) rfl) ?_
            exact rn_z rfl rfl
          · refine Eq.trans (rn_go 8 (pc' := 180) (L' := [.ref a0, .int x1, .int x2, .int x3, .int x4, .int x5]) (st' := [.int x3, .int (((13 : Int32) + ((6 : Int32) * x4)) + (5 : Int32)), .ref b_12]) rfl) ?_
            refine Eq.trans (rn_wI (L' := [.ref a0, .int x1, .int x2, .int x3, .int x4, .int x5]) rfl rfl) ?_
            refine eS_c (fun s_13 => ?_)
            refine Eq.trans (rn_go 6 (pc' := 188) (L' := [.ref a0, .int x1, .int x2, .int x3, .int x4, .int x5]) (st' := [.int x3, .int x5, .int x2, .int x1, .int (0 : Int32), .ref a0]) rfl) ?_
            refine Eq.trans (rn_vir (L' := [.ref a0, .int x1, .int x2, .int x3, .int x4, .int x5]) (as := [.int (0 : Int32), .int x1, .int x2, .int x5, .int x3]) (rest := []) rfl rfl rfl rfl rfl (Nat.le_of_ble_eq_true rfl) (by decide) (by decide)) ?_
            refine eC_c ?_
            refine Eq.trans (cW_V rfl rfl) ?_
            refine cV_c (fun s_14 => ?_) (xh_nil rfl)
            exact rn_retV rfl rfl
theorem in_X13_deletes {B : Nat} (a0 : Nat) (x1 : Int32) (s : am_S) : cl_ tb_ct tb_mt B K_X13_deletes [.ref a0, .int x1] s = rn_ tb_ct tb_mt B mm_X13_deletes 0 [.ref a0, .int x1, am_un] [] s := cl_in rfl rfl rfl rfl
theorem dc_X13_deletes_0 {B : Nat} (a0 : Nat) (x1 : Int32) (s : am_S) : rn_ tb_ct tb_mt B mm_X13_deletes 0 [.ref a0, .int x1, am_un] [] s = eC (am_cls s a0) 11 (cI (cl_ tb_ct tb_mt B K_X13_placeOf [.ref a0, .int x1] s) (fun x_2 s_1 => eC (am_cls s_1 a0) 11 (cI (cl_ tb_ct tb_mt B K_X13_keyAt [.ref a0, .int x_2, .int (1 : Int32)] s_1) (fun x_4 s_3 => eC (am_cls s_3 a0) 11 (cI (cl_ tb_ct tb_mt B K_X13_keyAt [.ref a0, .int x_2, .int (5 : Int32)] s_3) (fun x_6 s_5 => eC (am_cls s_5 a0) 11 (cV (cl_ tb_ct tb_mt B K_X13_happens [.ref a0, .int (1 : Int32), .int x1, .int (0 : Int32), .int x_4, .int x_6] s_5) (fun s_7 => eA (gA tb_ct s_7 a0 11 0) (none) (fun b_8 => eI (aI s_7 b_8 (3 : Int32)) (fun x_9 => eC (am_cls s_7 a0) 11 (cV (cl_ tb_ct tb_mt B K_X13_moves [.ref a0, .int (13 : Int32), .int (6 : Int32), .int x_2, .int x_9, .int (-(1 : Int32))] s_7) (fun s_10 => eA (gA tb_ct s_10 a0 11 0) (none) (fun b_11 => eI (aI s_10 b_11 (3 : Int32)) (fun x_12 => eS (wI B s_10 b_11 (3 : Int32) (x_12 - (1 : Int32))) (fun s_13 => some (.inl none, s_13))))) xo)))) xo)) xo)) xo)) xo) := by
  refine Eq.trans (rn_go 2 (pc' := 2) (L' := [.ref a0, .int x1, am_un]) (st' := [.int x1, .ref a0]) rfl) ?_
  refine Eq.trans (rn_vir (L' := [.ref a0, .int x1, am_un]) (as := [.int x1]) (rest := []) rfl rfl rfl rfl rfl (Nat.le_of_ble_eq_true rfl) (by decide) (by decide)) ?_
  refine eC_c ?_
  refine Eq.trans (cW_I rfl rfl rfl) ?_
  refine cI_c (fun x_2 s_1 => ?_) (xh_nil rfl)
  refine Eq.trans (rn_go 8 (pc' := 13) (L' := [.ref a0, .int x1, .int x_2]) (st' := [.int (1 : Int32), .int x_2, .ref a0, .int (0 : Int32), .int x1, .int (1 : Int32), .ref a0]) rfl) ?_
  refine Eq.trans (rn_vir (L' := [.ref a0, .int x1, .int x_2]) (as := [.int x_2, .int (1 : Int32)]) (rest := [.int (0 : Int32), .int x1, .int (1 : Int32), .ref a0]) rfl rfl rfl rfl rfl (Nat.le_of_ble_eq_true rfl) (by decide) (by decide)) ?_
  refine eC_c ?_
  refine Eq.trans (cW_I rfl rfl rfl) ?_
  refine cI_c (fun x_4 s_3 => ?_) (xh_nil rfl)
  refine Eq.trans (rn_go 3 (pc' := 19) (L' := [.ref a0, .int x1, .int x_2]) (st' := [.int (5 : Int32), .int x_2, .ref a0, .int x_4, .int (0 : Int32), .int x1, .int (1 : Int32), .ref a0]) rfl) ?_
  refine Eq.trans (rn_vir (L' := [.ref a0, .int x1, .int x_2]) (as := [.int x_2, .int (5 : Int32)]) (rest := [.int x_4, .int (0 : Int32), .int x1, .int (1 : Int32), .ref a0]) rfl rfl rfl rfl rfl (Nat.le_of_ble_eq_true rfl) (by decide) (by decide)) ?_
  refine eC_c ?_
  refine Eq.trans (cW_I rfl rfl rfl) ?_
  refine cI_c (fun x_6 s_5 => ?_) (xh_nil rfl)
  refine Eq.trans (rn_vir (L' := [.ref a0, .int x1, .int x_2]) (as := [.int (1 : Int32), .int x1, .int (0 : Int32), .int x_4, .int x_6]) (rest := []) rfl rfl rfl rfl rfl (Nat.le_of_ble_eq_true rfl) (by decide) (by decide)) ?_
  refine eC_c ?_
  refine Eq.trans (cW_V rfl rfl) ?_
  refine cV_c (fun s_7 => ?_) (xh_nil rfl)
  refine Eq.trans (rn_go 5 (pc' := 32) (L' := [.ref a0, .int x1, .int x_2]) (st' := [.ref a0, .int x_2, .int (6 : Int32), .int (13 : Int32), .ref a0]) rfl) ?_
  refine Eq.trans (rn_gA (L' := [.ref a0, .int x1, .int x_2]) rfl rfl rfl rfl) ?_
  refine eA_c ?_ (fun b_8 => ?_)
  · refine Eq.trans (rn_go 1 (pc' := 36) (L' := [.ref a0, .int x1, .int x_2]) (st' := [.int (3 : Int32), .null, .int x_2, .int (6 : Int32), .int (13 : Int32), .ref a0]) rfl) ?_
    exact rn_z rfl rfl
  · refine Eq.trans (rn_go 1 (pc' := 36) (L' := [.ref a0, .int x1, .int x_2]) (st' := [.int (3 : Int32), .ref b_8, .int x_2, .int (6 : Int32), .int (13 : Int32), .ref a0]) rfl) ?_
    refine Eq.trans (rn_aI (L' := [.ref a0, .int x1, .int x_2]) rfl rfl) ?_
    refine eI_c (fun x_9 => ?_)
    refine Eq.trans (rn_go 1 (pc' := 38) (L' := [.ref a0, .int x1, .int x_2]) (st' := [.int (-(1 : Int32)), .int x_9, .int x_2, .int (6 : Int32), .int (13 : Int32), .ref a0]) rfl) ?_
    refine Eq.trans (rn_vir (L' := [.ref a0, .int x1, .int x_2]) (as := [.int (13 : Int32), .int (6 : Int32), .int x_2, .int x_9, .int (-(1 : Int32))]) (rest := []) rfl rfl rfl rfl rfl (Nat.le_of_ble_eq_true rfl) (by decide) (by decide)) ?_
    refine eC_c ?_
    refine Eq.trans (cW_V rfl rfl) ?_
    refine cV_c (fun s_10 => ?_) (xh_nil rfl)
    refine Eq.trans (rn_go 1 (pc' := 42) (L' := [.ref a0, .int x1, .int x_2]) (st' := [.ref a0]) rfl) ?_
    refine Eq.trans (rn_gA (L' := [.ref a0, .int x1, .int x_2]) rfl rfl rfl rfl) ?_
    refine eA_c ?_ (fun b_11 => ?_)
    · refine Eq.trans (rn_go 2 (pc' := 47) (L' := [.ref a0, .int x1, .int x_2]) (st' := [.int (3 : Int32), .null, .int (3 : Int32), .null]) rfl) ?_
      exact rn_z rfl rfl
    · refine Eq.trans (rn_go 2 (pc' := 47) (L' := [.ref a0, .int x1, .int x_2]) (st' := [.int (3 : Int32), .ref b_11, .int (3 : Int32), .ref b_11]) rfl) ?_
      refine Eq.trans (rn_aI (L' := [.ref a0, .int x1, .int x_2]) rfl rfl) ?_
      refine eI_c (fun x_12 => ?_)
      refine Eq.trans (rn_go 2 (pc' := 50) (L' := [.ref a0, .int x1, .int x_2]) (st' := [.int (x_12 - (1 : Int32)), .int (3 : Int32), .ref b_11]) rfl) ?_
      refine Eq.trans (rn_wI (L' := [.ref a0, .int x1, .int x_2]) rfl rfl) ?_
      refine eS_c (fun s_13 => ?_)
      exact rn_retV rfl rfl
theorem in_X13_goesOn {B : Nat} (a0 : Nat) (x1 : Int32) (s : am_S) : cl_ tb_ct tb_mt B K_X13_goesOn [.ref a0, .int x1] s = rn_ tb_ct tb_mt B mm_X13_goesOn 0 [.ref a0, .int x1, am_un, am_un, am_un, am_un] [] s := cl_in rfl rfl rfl rfl
theorem dc_X13_goesOn_0 {B : Nat} (a0 : Nat) (x1 : Int32) (s : am_S) : rn_ tb_ct tb_mt B mm_X13_goesOn 0 [.ref a0, .int x1, am_un, am_un, am_un, am_un] [] s = eC (am_cls s a0) 11 (cI (cl_ tb_ct tb_mt B K_X13_eventAt [.ref a0, .int x1, .int (2 : Int32)] s) (fun x_2 s_1 => rn_ tb_ct tb_mt B mm_X13_goesOn 9 [.ref a0, .int x1, .int x_2, .int (0 : Int32), am_un, am_un] [] s_1) xo) := by
  refine Eq.trans (rn_go 3 (pc' := 3) (L' := [.ref a0, .int x1, am_un, am_un, am_un, am_un]) (st' := [.int (2 : Int32), .int x1, .ref a0]) rfl) ?_
  refine Eq.trans (rn_vir (L' := [.ref a0, .int x1, am_un, am_un, am_un, am_un]) (as := [.int x1, .int (2 : Int32)]) (rest := []) rfl rfl rfl rfl rfl (Nat.le_of_ble_eq_true rfl) (by decide) (by decide)) ?_
  refine eC_c ?_
  refine Eq.trans (cW_I rfl rfl rfl) ?_
  refine cI_c (fun x_2 s_1 => ?_) (xh_nil rfl)
  exact rn_go 3 (pc' := 9) (L' := [.ref a0, .int x1, .int x_2, .int (0 : Int32), am_un, am_un]) (st' := []) rfl
theorem dc_X13_goesOn_9 {B : Nat} (a0 : Nat) (x1 : Int32) (x2 : Int32) (x3 : Int32) (s : am_S) : rn_ tb_ct tb_mt B mm_X13_goesOn 9 [.ref a0, .int x1, .int x2, .int x3, am_un, am_un] [] s = eI (gI tb_ct s a0 11 7) (fun x_1 => if x_1 ≤ x3 then rn_ tb_ct tb_mt B mm_X13_goesOn 33 [.ref a0, .int x1, .int x2, .int x3, am_un, am_un] [] s else eA (gA tb_ct s a0 11 5) (none) (fun b_2 => eI (aI s b_2 x3) (fun x_3 => if x2 ≤ x_3 then rn_ tb_ct tb_mt B mm_X13_goesOn 33 [.ref a0, .int x1, .int x2, .int x3, am_un, am_un] [] s else rn_ tb_ct tb_mt B mm_X13_goesOn 9 [.ref a0, .int x1, .int x2, .int (x3 + (1 : Int32)), am_un, am_un] [] s))) := by
  refine Eq.trans (rn_go 2 (pc' := 11) (L' := [.ref a0, .int x1, .int x2, .int x3, am_un, am_un]) (st' := [.ref a0, .int x3]) rfl) ?_
  refine Eq.trans (rn_gI (L' := [.ref a0, .int x1, .int x2, .int x3, am_un, am_un]) rfl rfl rfl rfl) ?_
  refine eI_c (fun x_1 => ?_)
  refine Eq.trans (rn_icge (L' := [.ref a0, .int x1, .int x2, .int x3, am_un, am_un]) rfl rfl) ?_
  refine if_c ?_ ?_
  · rfl
  · refine Eq.trans (rn_go 1 (pc' := 18) (L' := [.ref a0, .int x1, .int x2, .int x3, am_un, am_un]) (st' := [.ref a0]) rfl) ?_
    refine Eq.trans (rn_gA (L' := [.ref a0, .int x1, .int x2, .int x3, am_un, am_un]) rfl rfl rfl rfl) ?_
    refine eA_c ?_ (fun b_2 => ?_)
    · refine Eq.trans (rn_go 1 (pc' := 22) (L' := [.ref a0, .int x1, .int x2, .int x3, am_un, am_un]) (st' := [.int x3, .null]) rfl) ?_
      exact rn_z rfl rfl
    · refine Eq.trans (rn_go 1 (pc' := 22) (L' := [.ref a0, .int x1, .int x2, .int x3, am_un, am_un]) (st' := [.int x3, .ref b_2]) rfl) ?_
      refine Eq.trans (rn_aI (L' := [.ref a0, .int x1, .int x2, .int x3, am_un, am_un]) rfl rfl) ?_
      refine eI_c (fun x_3 => ?_)
      refine Eq.trans (rn_go 1 (pc' := 24) (L' := [.ref a0, .int x1, .int x2, .int x3, am_un, am_un]) (st' := [.int x2, .int x_3]) rfl) ?_
      refine Eq.trans (rn_icge (L' := [.ref a0, .int x1, .int x2, .int x3, am_un, am_un]) rfl rfl) ?_
      refine if_c ?_ ?_
      · rfl
      · exact rn_go 2 (pc' := 9) (L' := [.ref a0, .int x1, .int x2, .int (x3 + (1 : Int32)), am_un, am_un]) (st' := []) rfl
theorem dc_X13_goesOn_33 {B : Nat} (a0 : Nat) (x1 : Int32) (x2 : Int32) (x3 : Int32) (s : am_S) : rn_ tb_ct tb_mt B mm_X13_goesOn 33 [.ref a0, .int x1, .int x2, .int x3, am_un, am_un] [] s = eI (gI tb_ct s a0 11 7) (fun x_1 => if x_1 ≤ x3 then rn_ tb_ct tb_mt B mm_X13_goesOn 55 [.ref a0, .int x1, .int x2, .int x3, am_un, am_un] [] s else eA (gA tb_ct s a0 11 5) (none) (fun b_2 => eI (aI s b_2 x3) (fun x_3 => if x_3 = x2 then rn_ tb_ct tb_mt B mm_X13_goesOn 56 [.ref a0, .int x1, .int x2, .int x3, am_un, am_un] [.int (1 : Int32)] s else rn_ tb_ct tb_mt B mm_X13_goesOn 55 [.ref a0, .int x1, .int x2, .int x3, am_un, am_un] [] s))) := by
  refine Eq.trans (rn_go 2 (pc' := 35) (L' := [.ref a0, .int x1, .int x2, .int x3, am_un, am_un]) (st' := [.ref a0, .int x3]) rfl) ?_
  refine Eq.trans (rn_gI (L' := [.ref a0, .int x1, .int x2, .int x3, am_un, am_un]) rfl rfl rfl rfl) ?_
  refine eI_c (fun x_1 => ?_)
  refine Eq.trans (rn_icge (L' := [.ref a0, .int x1, .int x2, .int x3, am_un, am_un]) rfl rfl) ?_
  refine if_c ?_ ?_
  · rfl
  · refine Eq.trans (rn_go 1 (pc' := 42) (L' := [.ref a0, .int x1, .int x2, .int x3, am_un, am_un]) (st' := [.ref a0]) rfl) ?_
    refine Eq.trans (rn_gA (L' := [.ref a0, .int x1, .int x2, .int x3, am_un, am_un]) rfl rfl rfl rfl) ?_
    refine eA_c ?_ (fun b_2 => ?_)
    · refine Eq.trans (rn_go 1 (pc' := 46) (L' := [.ref a0, .int x1, .int x2, .int x3, am_un, am_un]) (st' := [.int x3, .null]) rfl) ?_
      exact rn_z rfl rfl
    · refine Eq.trans (rn_go 1 (pc' := 46) (L' := [.ref a0, .int x1, .int x2, .int x3, am_un, am_un]) (st' := [.int x3, .ref b_2]) rfl) ?_
      refine Eq.trans (rn_aI (L' := [.ref a0, .int x1, .int x2, .int x3, am_un, am_un]) rfl rfl) ?_
      refine eI_c (fun x_3 => ?_)
      refine Eq.trans (rn_go 1 (pc' := 48) (L' := [.ref a0, .int x1, .int x2, .int x3, am_un, am_un]) (st' := [.int x2, .int x_3]) rfl) ?_
      refine Eq.trans (rn_icne (L' := [.ref a0, .int x1, .int x2, .int x3, am_un, am_un]) rfl rfl) ?_
      refine if_c ?_ ?_
      · exact rn_go 2 (pc' := 56) (L' := [.ref a0, .int x1, .int x2, .int x3, am_un, am_un]) (st' := [.int (1 : Int32)]) rfl
      · rfl
theorem dc_X13_goesOn_55 {B : Nat} (a0 : Nat) (x1 : Int32) (x2 : Int32) (x3 : Int32) (s : am_S) : rn_ tb_ct tb_mt B mm_X13_goesOn 55 [.ref a0, .int x1, .int x2, .int x3, am_un, am_un] [] s = rn_ tb_ct tb_mt B mm_X13_goesOn 56 [.ref a0, .int x1, .int x2, .int x3, am_un, am_un] [.int (0 : Int32)] s := by
  exact rn_go 1 (pc' := 56) (L' := [.ref a0, .int x1, .int x2, .int x3, am_un, am_un]) (st' := [.int (0 : Int32)]) rfl
theorem dc_X13_goesOn_56 {B : Nat} (a0 : Nat) (x1 : Int32) (x2 : Int32) (x3 : Int32) (xs0 : Int32) (s : am_S) : rn_ tb_ct tb_mt B mm_X13_goesOn 56 [.ref a0, .int x1, .int x2, .int x3, am_un, am_un] [.int xs0] s = eC (am_cls s a0) 11 (cI (cl_ tb_ct tb_mt B K_X13_eventAt [.ref a0, .int x1, .int (1 : Int32)] s) (fun x_2 s_1 => if x_2 = (1 : Int32) then rn_ tb_ct tb_mt B mm_X13_goesOn 71 [.ref a0, .int x1, .int x2, .int x3, .int xs0, .int x3] [] s_1 else eI (gI tb_ct s_1 a0 11 7) (fun x_3 => rn_ tb_ct tb_mt B mm_X13_goesOn 151 [.ref a0, .int x1, .int x2, .int x3, .int xs0, .int x_3] [] s_1)) xo) := by
  refine Eq.trans (rn_go 4 (pc' := 61) (L' := [.ref a0, .int x1, .int x2, .int x3, .int xs0, am_un]) (st' := [.int (1 : Int32), .int x1, .ref a0]) rfl) ?_
  refine Eq.trans (rn_vir (L' := [.ref a0, .int x1, .int x2, .int x3, .int xs0, am_un]) (as := [.int x1, .int (1 : Int32)]) (rest := []) rfl rfl rfl rfl rfl (Nat.le_of_ble_eq_true rfl) (by decide) (by decide)) ?_
  refine eC_c ?_
  refine Eq.trans (cW_I rfl rfl rfl) ?_
  refine cI_c (fun x_2 s_1 => ?_) (xh_nil rfl)
  refine Eq.trans (rn_go 1 (pc' := 65) (L' := [.ref a0, .int x1, .int x2, .int x3, .int xs0, am_un]) (st' := [.int (1 : Int32), .int x_2]) rfl) ?_
  refine Eq.trans (rn_icne (L' := [.ref a0, .int x1, .int x2, .int x3, .int xs0, am_un]) rfl rfl) ?_
  refine if_c ?_ ?_
  · exact rn_go 2 (pc' := 71) (L' := [.ref a0, .int x1, .int x2, .int x3, .int xs0, .int x3]) (st' := []) rfl
  · refine Eq.trans (rn_go 1 (pc' := 146) (L' := [.ref a0, .int x1, .int x2, .int x3, .int xs0, am_un]) (st' := [.ref a0]) rfl) ?_
    refine Eq.trans (rn_gI (L' := [.ref a0, .int x1, .int x2, .int x3, .int xs0, am_un]) rfl rfl rfl rfl) ?_
    refine eI_c (fun x_3 => ?_)
    exact rn_go 1 (pc' := 151) (L' := [.ref a0, .int x1, .int x2, .int x3, .int xs0, .int x_3]) (st' := []) rfl
theorem dc_X13_goesOn_71 {B : Nat} (a0 : Nat) (w1 : Value) (w2 : Value) (w3 : Value) (x4 : Int32) (x5 : Int32) (s : am_S) : rn_ tb_ct tb_mt B mm_X13_goesOn 71 [.ref a0, w1, w2, w3, .int x4, .int x5] [] s = if x4 = 0 then rn_ tb_ct tb_mt B mm_X13_goesOn 125 [.ref a0, am_un, am_un, am_un, .int x4, .int x5] [] s else eI (gI tb_ct s a0 11 7) (fun x_1 => if (x_1 - (1 : Int32)) ≤ x5 then rn_ tb_ct tb_mt B mm_X13_goesOn 125 [.ref a0, am_un, am_un, am_un, .int x4, .int x5] [] s else eA (gA tb_ct s a0 11 5) (eA (gA tb_ct s a0 11 5) (none) (fun b_3 => eI (aI s b_3 (x5 + (1 : Int32))) (fun x_4 => none))) (fun b_2 => eA (gA tb_ct s a0 11 5) (none) (fun b_5 => eI (aI s b_5 (x5 + (1 : Int32))) (fun x_6 => eS (wI B s b_2 x5 x_6) (fun s_7 => eA (gA tb_ct s_7 a0 11 6) (eA (gA tb_ct s_7 a0 11 6) (none) (fun b_9 => eI (aI s_7 b_9 (x5 + (1 : Int32))) (fun x_10 => none))) (fun b_8 => eA (gA tb_ct s_7 a0 11 6) (none) (fun b_11 => eI (aI s_7 b_11 (x5 + (1 : Int32))) (fun x_12 => eS (wI B s_7 b_8 x5 x_12) (fun s_13 => rn_ tb_ct tb_mt B mm_X13_goesOn 71 [.ref a0, am_un, am_un, am_un, .int x4, .int (x5 + (1 : Int32))] [] s_13))))))))) := by
  refine Eq.trans (rn_go 1 (pc' := 73) (L' := [.ref a0, am_un, am_un, am_un, .int x4, .int x5]) (st' := [.int x4]) rfl) ?_
  refine Eq.trans (rn_ifeq (L' := [.ref a0, am_un, am_un, am_un, .int x4, .int x5]) rfl rfl) ?_
  refine if_c ?_ ?_
  · rfl
  · refine Eq.trans (rn_go 2 (pc' := 79) (L' := [.ref a0, am_un, am_un, am_un, .int x4, .int x5]) (st' := [.ref a0, .int x5]) rfl) ?_
    refine Eq.trans (rn_gI (L' := [.ref a0, am_un, am_un, am_un, .int x4, .int x5]) rfl rfl rfl rfl) ?_
    refine eI_c (fun x_1 => ?_)
    refine Eq.trans (rn_go 2 (pc' := 84) (L' := [.ref a0, am_un, am_un, am_un, .int x4, .int x5]) (st' := [.int (x_1 - (1 : Int32)), .int x5]) rfl) ?_
    refine Eq.trans (rn_icge (L' := [.ref a0, am_un, am_un, am_un, .int x4, .int x5]) rfl rfl) ?_
    refine if_c ?_ ?_
    · rfl
    · refine Eq.trans (rn_go 1 (pc' := 88) (L' := [.ref a0, am_un, am_un, am_un, .int x4, .int x5]) (st' := [.ref a0]) rfl) ?_
      refine Eq.trans (rn_gA (L' := [.ref a0, am_un, am_un, am_un, .int x4, .int x5]) rfl rfl rfl rfl) ?_
      refine eA_c ?_ (fun b_2 => ?_)
      · refine Eq.trans (rn_go 2 (pc' := 94) (L' := [.ref a0, am_un, am_un, am_un, .int x4, .int x5]) (st' := [.ref a0, .int x5, .null]) rfl) ?_
        refine Eq.trans (rn_gA (L' := [.ref a0, am_un, am_un, am_un, .int x4, .int x5]) rfl rfl rfl rfl) ?_
        refine eA_c ?_ (fun b_3 => ?_)
        · refine Eq.trans (rn_go 3 (pc' := 101) (L' := [.ref a0, am_un, am_un, am_un, .int x4, .int x5]) (st' := [.int (x5 + (1 : Int32)), .null, .int x5, .null]) rfl) ?_
          exact rn_z rfl rfl
        · refine Eq.trans (rn_go 3 (pc' := 101) (L' := [.ref a0, am_un, am_un, am_un, .int x4, .int x5]) (st' := [.int (x5 + (1 : Int32)), .ref b_3, .int x5, .null]) rfl) ?_
          refine Eq.trans (rn_aI (L' := [.ref a0, am_un, am_un, am_un, .int x4, .int x5]) rfl rfl) ?_
          refine eI_c (fun x_4 => ?_)
          exact rn_z rfl rfl
      · refine Eq.trans (rn_go 2 (pc' := 94) (L' := [.ref a0, am_un, am_un, am_un, .int x4, .int x5]) (st' := [.ref a0, .int x5, .ref b_2]) rfl) ?_
        refine Eq.trans (rn_gA (L' := [.ref a0, am_un, am_un, am_un, .int x4, .int x5]) rfl rfl rfl rfl) ?_
        refine eA_c ?_ (fun b_5 => ?_)
        · refine Eq.trans (rn_go 3 (pc' := 101) (L' := [.ref a0, am_un, am_un, am_un, .int x4, .int x5]) (st' := [.int (x5 + (1 : Int32)), .null, .int x5, .ref b_2]) rfl) ?_
          exact rn_z rfl rfl
        · refine Eq.trans (rn_go 3 (pc' := 101) (L' := [.ref a0, am_un, am_un, am_un, .int x4, .int x5]) (st' := [.int (x5 + (1 : Int32)), .ref b_5, .int x5, .ref b_2]) rfl) ?_
          refine Eq.trans (rn_aI (L' := [.ref a0, am_un, am_un, am_un, .int x4, .int x5]) rfl rfl) ?_
          refine eI_c (fun x_6 => ?_)
          refine Eq.trans (rn_wI (L' := [.ref a0, am_un, am_un, am_un, .int x4, .int x5]) rfl rfl) ?_
          refine eS_c (fun s_7 => ?_)
          refine Eq.trans (rn_go 1 (pc' := 104) (L' := [.ref a0, am_un, am_un, am_un, .int x4, .int x5]) (st' := [.ref a0]) rfl) ?_
          refine Eq.trans (rn_gA (L' := [.ref a0, am_un, am_un, am_un, .int x4, .int x5]) rfl rfl rfl rfl) ?_
          refine eA_c ?_ (fun b_8 => ?_)
          · refine Eq.trans (rn_go 2 (pc' := 110) (L' := [.ref a0, am_un, am_un, am_un, .int x4, .int x5]) (st' := [.ref a0, .int x5, .null]) rfl) ?_
            refine Eq.trans (rn_gA (L' := [.ref a0, am_un, am_un, am_un, .int x4, .int x5]) rfl rfl rfl rfl) ?_
            refine eA_c ?_ (fun b_9 => ?_)
            · refine Eq.trans (rn_go 3 (pc' := 117) (L' := [.ref a0, am_un, am_un, am_un, .int x4, .int x5]) (st' := [.int (x5 + (1 : Int32)), .null, .int x5, .null]) rfl) ?_
              exact rn_z rfl rfl
            · refine Eq.trans (rn_go 3 (pc' := 117) (L' := [.ref a0, am_un, am_un, am_un, .int x4, .int x5]) (st' := [.int (x5 + (1 : Int32)), .ref b_9, .int x5, .null]) rfl) ?_
              refine Eq.trans (rn_aI (L' := [.ref a0, am_un, am_un, am_un, .int x4, .int x5]) rfl rfl) ?_
              refine eI_c (fun x_10 => ?_)
              exact rn_z rfl rfl
          · refine Eq.trans (rn_go 2 (pc' := 110) (L' := [.ref a0, am_un, am_un, am_un, .int x4, .int x5]) (st' := [.ref a0, .int x5, .ref b_8]) rfl) ?_
            refine Eq.trans (rn_gA (L' := [.ref a0, am_un, am_un, am_un, .int x4, .int x5]) rfl rfl rfl rfl) ?_
            refine eA_c ?_ (fun b_11 => ?_)
            · refine Eq.trans (rn_go 3 (pc' := 117) (L' := [.ref a0, am_un, am_un, am_un, .int x4, .int x5]) (st' := [.int (x5 + (1 : Int32)), .null, .int x5, .ref b_8]) rfl) ?_
              exact rn_z rfl rfl
            · refine Eq.trans (rn_go 3 (pc' := 117) (L' := [.ref a0, am_un, am_un, am_un, .int x4, .int x5]) (st' := [.int (x5 + (1 : Int32)), .ref b_11, .int x5, .ref b_8]) rfl) ?_
              refine Eq.trans (rn_aI (L' := [.ref a0, am_un, am_un, am_un, .int x4, .int x5]) rfl rfl) ?_
              refine eI_c (fun x_12 => ?_)
              refine Eq.trans (rn_wI (L' := [.ref a0, am_un, am_un, am_un, .int x4, .int x5]) rfl rfl) ?_
              refine eS_c (fun s_13 => ?_)
              exact rn_go 2 (pc' := 71) (L' := [.ref a0, am_un, am_un, am_un, .int x4, .int (x5 + (1 : Int32))]) (st' := []) rfl
theorem dc_X13_goesOn_125 {B : Nat} (a0 : Nat) (x4 : Int32) (w5 : Value) (s : am_S) : rn_ tb_ct tb_mt B mm_X13_goesOn 125 [.ref a0, am_un, am_un, am_un, .int x4, w5] [] s = eI (gI tb_ct s a0 11 7) (fun x_1 => if x4 = 0 then rn_ tb_ct tb_mt B mm_X13_goesOn 140 [.ref a0, am_un, am_un, am_un, .int x4, am_un] [.int (0 : Int32), .int x_1, .ref a0] s else rn_ tb_ct tb_mt B mm_X13_goesOn 140 [.ref a0, am_un, am_un, am_un, .int x4, am_un] [.int (1 : Int32), .int x_1, .ref a0] s) := by
  refine Eq.trans (rn_go 2 (pc' := 127) (L' := [.ref a0, am_un, am_un, am_un, .int x4, am_un]) (st' := [.ref a0, .ref a0]) rfl) ?_
  refine Eq.trans (rn_gI (L' := [.ref a0, am_un, am_un, am_un, .int x4, am_un]) rfl rfl rfl rfl) ?_
  refine eI_c (fun x_1 => ?_)
  refine Eq.trans (rn_go 1 (pc' := 132) (L' := [.ref a0, am_un, am_un, am_un, .int x4, am_un]) (st' := [.int x4, .int x_1, .ref a0]) rfl) ?_
  refine Eq.trans (rn_ifeq (L' := [.ref a0, am_un, am_un, am_un, .int x4, am_un]) rfl rfl) ?_
  refine if_c ?_ ?_
  · exact rn_go 1 (pc' := 140) (L' := [.ref a0, am_un, am_un, am_un, .int x4, am_un]) (st' := [.int (0 : Int32), .int x_1, .ref a0]) rfl
  · exact rn_go 2 (pc' := 140) (L' := [.ref a0, am_un, am_un, am_un, .int x4, am_un]) (st' := [.int (1 : Int32), .int x_1, .ref a0]) rfl
theorem dc_X13_goesOn_140 {B : Nat} (w0 : Value) (w4 : Value) (xs0 : Int32) (xs1 : Int32) (as2 : Nat) (s : am_S) : rn_ tb_ct tb_mt B mm_X13_goesOn 140 [w0, am_un, am_un, am_un, w4, am_un] [.int xs0, .int xs1, .ref as2] s = eS (am_put tb_ct mm_X13_goesOn B s (.int (xs1 - xs0)) as2 11 7) (fun s_1 => some (.inl none, s_1)) := by
  refine Eq.trans (rn_go 1 (pc' := 141) (L' := [am_un, am_un, am_un, am_un, am_un, am_un]) (st' := [.int (xs1 - xs0), .ref as2]) rfl) ?_
  refine Eq.trans (rn_pF (L' := [am_un, am_un, am_un, am_un, am_un, am_un]) rfl rfl) ?_
  refine eS_c (fun s_1 => ?_)
  exact rn_retV rfl rfl
theorem dc_X13_goesOn_151 {B : Nat} (a0 : Nat) (x1 : Int32) (x2 : Int32) (x3 : Int32) (x4 : Int32) (x5 : Int32) (s : am_S) : rn_ tb_ct tb_mt B mm_X13_goesOn 151 [.ref a0, .int x1, .int x2, .int x3, .int x4, .int x5] [] s = if x4 = 0 then if x5 ≤ x3 then rn_ tb_ct tb_mt B mm_X13_goesOn 200 [.ref a0, .int x1, .int x2, .int x3, .int x4, .int x5] [] s else eA (gA tb_ct s a0 11 5) (eA (gA tb_ct s a0 11 5) (none) (fun b_2 => eI (aI s b_2 (x5 - (1 : Int32))) (fun x_3 => none))) (fun b_1 => eA (gA tb_ct s a0 11 5) (none) (fun b_4 => eI (aI s b_4 (x5 - (1 : Int32))) (fun x_5 => eS (wI B s b_1 x5 x_5) (fun s_6 => eA (gA tb_ct s_6 a0 11 6) (eA (gA tb_ct s_6 a0 11 6) (none) (fun b_8 => eI (aI s_6 b_8 (x5 - (1 : Int32))) (fun x_9 => none))) (fun b_7 => eA (gA tb_ct s_6 a0 11 6) (none) (fun b_10 => eI (aI s_6 b_10 (x5 - (1 : Int32))) (fun x_11 => eS (wI B s_6 b_7 x5 x_11) (fun s_12 => rn_ tb_ct tb_mt B mm_X13_goesOn 151 [.ref a0, .int x1, .int x2, .int x3, .int x4, .int (x5 + (-(1 : Int32)))] [] s_12)))))))) else rn_ tb_ct tb_mt B mm_X13_goesOn 200 [.ref a0, .int x1, .int x2, .int x3, .int x4, .int x5] [] s := by
  refine Eq.trans (rn_go 1 (pc' := 153) (L' := [.ref a0, .int x1, .int x2, .int x3, .int x4, .int x5]) (st' := [.int x4]) rfl) ?_
  refine Eq.trans (rn_ifne (L' := [.ref a0, .int x1, .int x2, .int x3, .int x4, .int x5]) rfl rfl) ?_
  refine if_c ?_ ?_
  · refine Eq.trans (rn_go 2 (pc' := 159) (L' := [.ref a0, .int x1, .int x2, .int x3, .int x4, .int x5]) (st' := [.int x3, .int x5]) rfl) ?_
    refine Eq.trans (rn_icle (L' := [.ref a0, .int x1, .int x2, .int x3, .int x4, .int x5]) rfl rfl) ?_
    refine if_c ?_ ?_
    · rfl
    · refine Eq.trans (rn_go 1 (pc' := 163) (L' := [.ref a0, .int x1, .int x2, .int x3, .int x4, .int x5]) (st' := [.ref a0]) rfl) ?_
      refine Eq.trans (rn_gA (L' := [.ref a0, .int x1, .int x2, .int x3, .int x4, .int x5]) rfl rfl rfl rfl) ?_
      refine eA_c ?_ (fun b_1 => ?_)
      · refine Eq.trans (rn_go 2 (pc' := 169) (L' := [.ref a0, .int x1, .int x2, .int x3, .int x4, .int x5]) (st' := [.ref a0, .int x5, .null]) rfl) ?_
        refine Eq.trans (rn_gA (L' := [.ref a0, .int x1, .int x2, .int x3, .int x4, .int x5]) rfl rfl rfl rfl) ?_
        refine eA_c ?_ (fun b_2 => ?_)
        · refine Eq.trans (rn_go 3 (pc' := 176) (L' := [.ref a0, .int x1, .int x2, .int x3, .int x4, .int x5]) (st' := [.int (x5 - (1 : Int32)), .null, .int x5, .null]) rfl) ?_
          exact rn_z rfl rfl
        · refine Eq.trans (rn_go 3 (pc' := 176) (L' := [.ref a0, .int x1, .int x2, .int x3, .int x4, .int x5]) (st' := [.int (x5 - (1 : Int32)), .ref b_2, .int x5, .null]) rfl) ?_
          refine Eq.trans (rn_aI (L' := [.ref a0, .int x1, .int x2, .int x3, .int x4, .int x5]) rfl rfl) ?_
          refine eI_c (fun x_3 => ?_)
          exact rn_z rfl rfl
      · refine Eq.trans (rn_go 2 (pc' := 169) (L' := [.ref a0, .int x1, .int x2, .int x3, .int x4, .int x5]) (st' := [.ref a0, .int x5, .ref b_1]) rfl) ?_
        refine Eq.trans (rn_gA (L' := [.ref a0, .int x1, .int x2, .int x3, .int x4, .int x5]) rfl rfl rfl rfl) ?_
        refine eA_c ?_ (fun b_4 => ?_)
        · refine Eq.trans (rn_go 3 (pc' := 176) (L' := [.ref a0, .int x1, .int x2, .int x3, .int x4, .int x5]) (st' := [.int (x5 - (1 : Int32)), .null, .int x5, .ref b_1]) rfl) ?_
          exact rn_z rfl rfl
        · refine Eq.trans (rn_go 3 (pc' := 176) (L' := [.ref a0, .int x1, .int x2, .int x3, .int x4, .int x5]) (st' := [.int (x5 - (1 : Int32)), .ref b_4, .int x5, .ref b_1]) rfl) ?_
          refine Eq.trans (rn_aI (L' := [.ref a0, .int x1, .int x2, .int x3, .int x4, .int x5]) rfl rfl) ?_
          refine eI_c (fun x_5 => ?_)
          refine Eq.trans (rn_wI (L' := [.ref a0, .int x1, .int x2, .int x3, .int x4, .int x5]) rfl rfl) ?_
          refine eS_c (fun s_6 => ?_)
          refine Eq.trans (rn_go 1 (pc' := 179) (L' := [.ref a0, .int x1, .int x2, .int x3, .int x4, .int x5]) (st' := [.ref a0]) rfl) ?_
          refine Eq.trans (rn_gA (L' := [.ref a0, .int x1, .int x2, .int x3, .int x4, .int x5]) rfl rfl rfl rfl) ?_
          refine eA_c ?_ (fun b_7 => ?_)
          · refine Eq.trans (rn_go 2 (pc' := 185) (L' := [.ref a0, .int x1, .int x2, .int x3, .int x4, .int x5]) (st' := [.ref a0, .int x5, .null]) rfl) ?_
            refine Eq.trans (rn_gA (L' := [.ref a0, .int x1, .int x2, .int x3, .int x4, .int x5]) rfl rfl rfl rfl) ?_
            refine eA_c ?_ (fun b_8 => ?_)
            · refine Eq.trans (rn_go 3 (pc' := 192) (L' := [.ref a0, .int x1, .int x2, .int x3, .int x4, .int x5]) (st' := [.int (x5 - (1 : Int32)), .null, .int x5, .null]) rfl) ?_
              exact rn_z rfl rfl
            · refine Eq.trans (rn_go 3 (pc' := 192) (L' := [.ref a0, .int x1, .int x2, .int x3, .int x4, .int x5]) (st' := [.int (x5 - (1 : Int32)), .ref b_8, .int x5, .null]) rfl) ?_
              refine Eq.trans (rn_aI (L' := [.ref a0, .int x1, .int x2, .int x3, .int x4, .int x5]) rfl rfl) ?_
              refine eI_c (fun x_9 => ?_)
              exact rn_z rfl rfl
          · refine Eq.trans (rn_go 2 (pc' := 185) (L' := [.ref a0, .int x1, .int x2, .int x3, .int x4, .int x5]) (st' := [.ref a0, .int x5, .ref b_7]) rfl) ?_
            refine Eq.trans (rn_gA (L' := [.ref a0, .int x1, .int x2, .int x3, .int x4, .int x5]) rfl rfl rfl rfl) ?_
            refine eA_c ?_ (fun b_10 => ?_)
            · refine Eq.trans (rn_go 3 (pc' := 192) (L' := [.ref a0, .int x1, .int x2, .int x3, .int x4, .int x5]) (st' := [.int (x5 - (1 : Int32)), .null, .int x5, .ref b_7]) rfl) ?_
              exact rn_z rfl rfl
            · refine Eq.trans (rn_go 3 (pc' := 192) (L' := [.ref a0, .int x1, .int x2, .int x3, .int x4, .int x5]) (st' := [.int (x5 - (1 : Int32)), .ref b_10, .int x5, .ref b_7]) rfl) ?_
              refine Eq.trans (rn_aI (L' := [.ref a0, .int x1, .int x2, .int x3, .int x4, .int x5]) rfl rfl) ?_
              refine eI_c (fun x_11 => ?_)
              refine Eq.trans (rn_wI (L' := [.ref a0, .int x1, .int x2, .int x3, .int x4, .int x5]) rfl rfl) ?_
              refine eS_c (fun s_12 => ?_)
              exact rn_go 2 (pc' := 151) (L' := [.ref a0, .int x1, .int x2, .int x3, .int x4, .int (x5 + (-(1 : Int32)))]) (st' := []) rfl
  · rfl
theorem dc_X13_goesOn_200 {B : Nat} (a0 : Nat) (x1 : Int32) (x2 : Int32) (x3 : Int32) (x4 : Int32) (w5 : Value) (s : am_S) : rn_ tb_ct tb_mt B mm_X13_goesOn 200 [.ref a0, .int x1, .int x2, .int x3, .int x4, w5] [] s = eI (gI tb_ct s a0 11 7) (fun x_1 => if x4 = 0 then rn_ tb_ct tb_mt B mm_X13_goesOn 215 [.ref a0, .int x1, .int x2, .int x3, .int x4, am_un] [.int (1 : Int32), .int x_1, .ref a0] s else rn_ tb_ct tb_mt B mm_X13_goesOn 215 [.ref a0, .int x1, .int x2, .int x3, .int x4, am_un] [.int (0 : Int32), .int x_1, .ref a0] s) := by
  refine Eq.trans (rn_go 2 (pc' := 202) (L' := [.ref a0, .int x1, .int x2, .int x3, .int x4, am_un]) (st' := [.ref a0, .ref a0]) rfl) ?_
  refine Eq.trans (rn_gI (L' := [.ref a0, .int x1, .int x2, .int x3, .int x4, am_un]) rfl rfl rfl rfl) ?_
  refine eI_c (fun x_1 => ?_)
  refine Eq.trans (rn_go 1 (pc' := 207) (L' := [.ref a0, .int x1, .int x2, .int x3, .int x4, am_un]) (st' := [.int x4, .int x_1, .ref a0]) rfl) ?_
  refine Eq.trans (rn_ifeq (L' := [.ref a0, .int x1, .int x2, .int x3, .int x4, am_un]) rfl rfl) ?_
  refine if_c ?_ ?_
  · exact rn_go 1 (pc' := 215) (L' := [.ref a0, .int x1, .int x2, .int x3, .int x4, am_un]) (st' := [.int (1 : Int32), .int x_1, .ref a0]) rfl
  · exact rn_go 2 (pc' := 215) (L' := [.ref a0, .int x1, .int x2, .int x3, .int x4, am_un]) (st' := [.int (0 : Int32), .int x_1, .ref a0]) rfl
theorem dc_X13_goesOn_215 {B : Nat} (a0 : Nat) (x1 : Int32) (x2 : Int32) (x3 : Int32) (w4 : Value) (xs0 : Int32) (xs1 : Int32) (as2 : Nat) (s : am_S) : rn_ tb_ct tb_mt B mm_X13_goesOn 215 [.ref a0, .int x1, .int x2, .int x3, w4, am_un] [.int xs0, .int xs1, .ref as2] s = eS (am_put tb_ct mm_X13_goesOn B s (.int (xs1 + xs0)) as2 11 7) (fun s_1 => eA (gA tb_ct s_1 a0 11 5) (none) (fun b_2 => eS (wI B s_1 b_2 x3 x2) (fun s_3 => eA (gA tb_ct s_3 a0 11 6) (eC (am_cls s_3 a0) 11 (cI (cl_ tb_ct tb_mt B K_X13_eventAt [.ref a0, .int x1, .int (3 : Int32)] s_3) (fun x_6 s_5 => none) xo)) (fun b_4 => eC (am_cls s_3 a0) 11 (cI (cl_ tb_ct tb_mt B K_X13_eventAt [.ref a0, .int x1, .int (3 : Int32)] s_3) (fun x_8 s_7 => eS (wI B s_7 b_4 x3 x_8) (fun s_9 => some (.inl none, s_9))) xo))))) := by
  refine Eq.trans (rn_go 1 (pc' := 216) (L' := [.ref a0, .int x1, .int x2, .int x3, am_un, am_un]) (st' := [.int (xs1 + xs0), .ref as2]) rfl) ?_
  refine Eq.trans (rn_pF (L' := [.ref a0, .int x1, .int x2, .int x3, am_un, am_un]) rfl rfl) ?_
  refine eS_c (fun s_1 => ?_)
  refine Eq.trans (rn_go 1 (pc' := 220) (L' := [.ref a0, .int x1, .int x2, .int x3, am_un, am_un]) (st' := [.ref a0]) rfl) ?_
  refine Eq.trans (rn_gA (L' := [.ref a0, .int x1, .int x2, .int x3, am_un, am_un]) rfl rfl rfl rfl) ?_
  refine eA_c ?_ (fun b_2 => ?_)
  · refine Eq.trans (rn_go 2 (pc' := 225) (L' := [.ref a0, .int x1, .int x2, .int x3, am_un, am_un]) (st' := [.int x2, .int x3, .null]) rfl) ?_
    exact rn_z rfl rfl
  · refine Eq.trans (rn_go 2 (pc' := 225) (L' := [.ref a0, .int x1, .int x2, .int x3, am_un, am_un]) (st' := [.int x2, .int x3, .ref b_2]) rfl) ?_
    refine Eq.trans (rn_wI (L' := [.ref a0, .int x1, .int x2, .int x3, am_un, am_un]) rfl rfl) ?_
    refine eS_c (fun s_3 => ?_)
    refine Eq.trans (rn_go 1 (pc' := 227) (L' := [.ref a0, .int x1, .int x2, .int x3, am_un, am_un]) (st' := [.ref a0]) rfl) ?_
    refine Eq.trans (rn_gA (L' := [.ref a0, .int x1, .int x2, .int x3, am_un, am_un]) rfl rfl rfl rfl) ?_
    refine eA_c ?_ (fun b_4 => ?_)
    · refine Eq.trans (rn_go 4 (pc' := 234) (L' := [.ref a0, .int x1, .int x2, .int x3, am_un, am_un]) (st' := [.int (3 : Int32), .int x1, .ref a0, .int x3, .null]) rfl) ?_
      refine Eq.trans (rn_vir (L' := [.ref a0, .int x1, .int x2, .int x3, am_un, am_un]) (as := [.int x1, .int (3 : Int32)]) (rest := [.int x3, .null]) rfl rfl rfl rfl rfl (Nat.le_of_ble_eq_true rfl) (by decide) (by decide)) ?_
      refine eC_c ?_
      refine Eq.trans (cW_I rfl rfl rfl) ?_
      refine cI_c (fun x_6 s_5 => ?_) (xh_nil rfl)
      exact rn_z rfl rfl
    · refine Eq.trans (rn_go 4 (pc' := 234) (L' := [.ref a0, .int x1, .int x2, .int x3, am_un, am_un]) (st' := [.int (3 : Int32), .int x1, .ref a0, .int x3, .ref b_4]) rfl) ?_
      refine Eq.trans (rn_vir (L' := [.ref a0, .int x1, .int x2, .int x3, am_un, am_un]) (as := [.int x1, .int (3 : Int32)]) (rest := [.int x3, .ref b_4]) rfl rfl rfl rfl rfl (Nat.le_of_ble_eq_true rfl) (by decide) (by decide)) ?_
      refine eC_c ?_
      refine Eq.trans (cW_I rfl rfl rfl) ?_
      refine cI_c (fun x_8 s_7 => ?_) (xh_nil rfl)
      refine Eq.trans (rn_wI (L' := [.ref a0, .int x1, .int x2, .int x3, am_un, am_un]) rfl rfl) ?_
      refine eS_c (fun s_9 => ?_)
      exact rn_retV rfl rfl
theorem in_X13_laysThen {B : Nat} (a0 : Nat) (x1 : Int32) (s : am_S) : cl_ tb_ct tb_mt B K_X13_laysThen [.ref a0, .int x1] s = rn_ tb_ct tb_mt B mm_X13_laysThen 0 [.ref a0, .int x1, am_un] [] s := cl_in rfl rfl rfl rfl
theorem dc_X13_laysThen_0 {B : Nat} (a0 : Nat) (x1 : Int32) (s : am_S) : rn_ tb_ct tb_mt B mm_X13_laysThen 0 [.ref a0, .int x1, am_un] [] s = eA (gA tb_ct s a0 11 0) (none) (fun b_1 => eI (aI s b_1 (12 : Int32)) (fun x_2 => eS (am_put tb_ct mm_X13_laysThen B s (.int x_2) a0 11 7) (fun s_3 => rn_ tb_ct tb_mt B mm_X13_laysThen 13 [.ref a0, .int x1, .int (0 : Int32)] [] s_3))) := by
  refine Eq.trans (rn_go 2 (pc' := 2) (L' := [.ref a0, .int x1, am_un]) (st' := [.ref a0, .ref a0]) rfl) ?_
  refine Eq.trans (rn_gA (L' := [.ref a0, .int x1, am_un]) rfl rfl rfl rfl) ?_
  refine eA_c ?_ (fun b_1 => ?_)
  · refine Eq.trans (rn_go 1 (pc' := 7) (L' := [.ref a0, .int x1, am_un]) (st' := [.int (12 : Int32), .null, .ref a0]) rfl) ?_
    exact rn_z rfl rfl
  · refine Eq.trans (rn_go 1 (pc' := 7) (L' := [.ref a0, .int x1, am_un]) (st' := [.int (12 : Int32), .ref b_1, .ref a0]) rfl) ?_
    refine Eq.trans (rn_aI (L' := [.ref a0, .int x1, am_un]) rfl rfl) ?_
    refine eI_c (fun x_2 => ?_)
    refine Eq.trans (rn_pF (L' := [.ref a0, .int x1, am_un]) rfl rfl) ?_
    refine eS_c (fun s_3 => ?_)
    exact rn_go 2 (pc' := 13) (L' := [.ref a0, .int x1, .int (0 : Int32)]) (st' := []) rfl
theorem dc_X13_laysThen_13 {B : Nat} (a0 : Nat) (x1 : Int32) (x2 : Int32) (s : am_S) : rn_ tb_ct tb_mt B mm_X13_laysThen 13 [.ref a0, .int x1, .int x2] [] s = eI (gI tb_ct s a0 11 7) (fun x_1 => if x_1 ≤ x2 then rn_ tb_ct tb_mt B mm_X13_laysThen 67 [.ref a0, .int x1, .int (0 : Int32)] [] s else eA (gA tb_ct s a0 11 5) (eA (gA tb_ct s a0 11 0) (none) (fun b_3 => eI (aI s b_3 ((157 : Int32) + ((2 : Int32) * x2))) (fun x_4 => none))) (fun b_2 => eA (gA tb_ct s a0 11 0) (none) (fun b_5 => eI (aI s b_5 ((157 : Int32) + ((2 : Int32) * x2))) (fun x_6 => eS (wI B s b_2 x2 x_6) (fun s_7 => eA (gA tb_ct s_7 a0 11 6) (eA (gA tb_ct s_7 a0 11 0) (none) (fun b_9 => eI (aI s_7 b_9 (((157 : Int32) + ((2 : Int32) * x2)) + (1 : Int32))) (fun x_10 => none))) (fun b_8 => eA (gA tb_ct s_7 a0 11 0) (none) (fun b_11 => eI (aI s_7 b_11 (((157 : Int32) + ((2 : Int32) * x2)) + (1 : Int32))) (fun x_12 => eS (wI B s_7 b_8 x2 x_12) (fun s_13 => rn_ tb_ct tb_mt B mm_X13_laysThen 13 [.ref a0, .int x1, .int (x2 + (1 : Int32))] [] s_13))))))))) := by
  refine Eq.trans (rn_go 2 (pc' := 15) (L' := [.ref a0, .int x1, .int x2]) (st' := [.ref a0, .int x2]) rfl) ?_
  refine Eq.trans (rn_gI (L' := [.ref a0, .int x1, .int x2]) rfl rfl rfl rfl) ?_
  refine eI_c (fun x_1 => ?_)
  refine Eq.trans (rn_icge (L' := [.ref a0, .int x1, .int x2]) rfl rfl) ?_
  refine if_c ?_ ?_
  · exact rn_go 2 (pc' := 67) (L' := [.ref a0, .int x1, .int (0 : Int32)]) (st' := []) rfl
  · refine Eq.trans (rn_go 1 (pc' := 22) (L' := [.ref a0, .int x1, .int x2]) (st' := [.ref a0]) rfl) ?_
    refine Eq.trans (rn_gA (L' := [.ref a0, .int x1, .int x2]) rfl rfl rfl rfl) ?_
    refine eA_c ?_ (fun b_2 => ?_)
    · refine Eq.trans (rn_go 2 (pc' := 27) (L' := [.ref a0, .int x1, .int x2]) (st' := [.ref a0, .int x2, .null]) rfl) ?_
      refine Eq.trans (rn_gA (L' := [.ref a0, .int x1, .int x2]) rfl rfl rfl rfl) ?_
      refine eA_c ?_ (fun b_3 => ?_)
      · refine Eq.trans (rn_go 5 (pc' := 37) (L' := [.ref a0, .int x1, .int x2]) (st' := [.int ((157 : Int32) + ((2 : Int32) * x2)), .null, .int x2, .null]) rfl) ?_
        exact rn_z rfl rfl
      · refine Eq.trans (rn_go 5 (pc' := 37) (L' := [.ref a0, .int x1, .int x2]) (st' := [.int ((157 : Int32) + ((2 : Int32) * x2)), .ref b_3, .int x2, .null]) rfl) ?_
        refine Eq.trans (rn_aI (L' := [.ref a0, .int x1, .int x2]) rfl rfl) ?_
        refine eI_c (fun x_4 => ?_)
        exact rn_z rfl rfl
    · refine Eq.trans (rn_go 2 (pc' := 27) (L' := [.ref a0, .int x1, .int x2]) (st' := [.ref a0, .int x2, .ref b_2]) rfl) ?_
      refine Eq.trans (rn_gA (L' := [.ref a0, .int x1, .int x2]) rfl rfl rfl rfl) ?_
      refine eA_c ?_ (fun b_5 => ?_)
      · refine Eq.trans (rn_go 5 (pc' := 37) (L' := [.ref a0, .int x1, .int x2]) (st' := [.int ((157 : Int32) + ((2 : Int32) * x2)), .null, .int x2, .ref b_2]) rfl) ?_
        exact rn_z rfl rfl
      · refine Eq.trans (rn_go 5 (pc' := 37) (L' := [.ref a0, .int x1, .int x2]) (st' := [.int ((157 : Int32) + ((2 : Int32) * x2)), .ref b_5, .int x2, .ref b_2]) rfl) ?_
        refine Eq.trans (rn_aI (L' := [.ref a0, .int x1, .int x2]) rfl rfl) ?_
        refine eI_c (fun x_6 => ?_)
        refine Eq.trans (rn_wI (L' := [.ref a0, .int x1, .int x2]) rfl rfl) ?_
        refine eS_c (fun s_7 => ?_)
        refine Eq.trans (rn_go 1 (pc' := 40) (L' := [.ref a0, .int x1, .int x2]) (st' := [.ref a0]) rfl) ?_
        refine Eq.trans (rn_gA (L' := [.ref a0, .int x1, .int x2]) rfl rfl rfl rfl) ?_
        refine eA_c ?_ (fun b_8 => ?_)
        · refine Eq.trans (rn_go 2 (pc' := 45) (L' := [.ref a0, .int x1, .int x2]) (st' := [.ref a0, .int x2, .null]) rfl) ?_
          refine Eq.trans (rn_gA (L' := [.ref a0, .int x1, .int x2]) rfl rfl rfl rfl) ?_
          refine eA_c ?_ (fun b_9 => ?_)
          · refine Eq.trans (rn_go 7 (pc' := 57) (L' := [.ref a0, .int x1, .int x2]) (st' := [.int (((157 : Int32) + ((2 : Int32) * x2)) + (1 : Int32)), .null, .int x2, .null]) rfl) ?_
            exact rn_z rfl rfl
          · refine Eq.trans (rn_go 7 (pc' := 57) (L' := [.ref a0, .int x1, .int x2]) (st' := [.int (((157 : Int32) + ((2 : Int32) * x2)) + (1 : Int32)), .ref b_9, .int x2, .null]) rfl) ?_
            refine Eq.trans (rn_aI (L' := [.ref a0, .int x1, .int x2]) rfl rfl) ?_
            refine eI_c (fun x_10 => ?_)
            exact rn_z rfl rfl
        · refine Eq.trans (rn_go 2 (pc' := 45) (L' := [.ref a0, .int x1, .int x2]) (st' := [.ref a0, .int x2, .ref b_8]) rfl) ?_
          refine Eq.trans (rn_gA (L' := [.ref a0, .int x1, .int x2]) rfl rfl rfl rfl) ?_
          refine eA_c ?_ (fun b_11 => ?_)
          · refine Eq.trans (rn_go 7 (pc' := 57) (L' := [.ref a0, .int x1, .int x2]) (st' := [.int (((157 : Int32) + ((2 : Int32) * x2)) + (1 : Int32)), .null, .int x2, .ref b_8]) rfl) ?_
            exact rn_z rfl rfl
          · refine Eq.trans (rn_go 7 (pc' := 57) (L' := [.ref a0, .int x1, .int x2]) (st' := [.int (((157 : Int32) + ((2 : Int32) * x2)) + (1 : Int32)), .ref b_11, .int x2, .ref b_8]) rfl) ?_
            refine Eq.trans (rn_aI (L' := [.ref a0, .int x1, .int x2]) rfl rfl) ?_
            refine eI_c (fun x_12 => ?_)
            refine Eq.trans (rn_wI (L' := [.ref a0, .int x1, .int x2]) rfl rfl) ?_
            refine eS_c (fun s_13 => ?_)
            exact rn_go 2 (pc' := 13) (L' := [.ref a0, .int x1, .int (x2 + (1 : Int32))]) (st' := []) rfl
theorem dc_X13_laysThen_67 {B : Nat} (a0 : Nat) (x1 : Int32) (x2 : Int32) (s : am_S) : rn_ tb_ct tb_mt B mm_X13_laysThen 67 [.ref a0, .int x1, .int x2] [] s = eA (gA tb_ct s a0 11 0) (none) (fun b_1 => eI (aI s b_1 (6 : Int32)) (fun x_2 => if x_2 ≤ x2 then some (.inl (some (.int x2)), s) else eC (am_cls s a0) 11 (cI (cl_ tb_ct tb_mt B K_X13_eventAt [.ref a0, .int x2, .int (0 : Int32)] s) (fun x_4 s_3 => if x1 < x_4 then some (.inl (some (.int x2)), s_3) else eC (am_cls s_3 a0) 11 (cV (cl_ tb_ct tb_mt B K_X13_goesOn [.ref a0, .int x2] s_3) (fun s_5 => rn_ tb_ct tb_mt B mm_X13_laysThen 67 [.ref a0, .int x1, .int (x2 + (1 : Int32))] [] s_5) xo)) xo))) := by
  refine Eq.trans (rn_go 2 (pc' := 69) (L' := [.ref a0, .int x1, .int x2]) (st' := [.ref a0, .int x2]) rfl) ?_
  refine Eq.trans (rn_gA (L' := [.ref a0, .int x1, .int x2]) rfl rfl rfl rfl) ?_
  refine eA_c ?_ (fun b_1 => ?_)
  · refine Eq.trans (rn_go 1 (pc' := 74) (L' := [.ref a0, .int x1, .int x2]) (st' := [.int (6 : Int32), .null, .int x2]) rfl) ?_
    exact rn_z rfl rfl
  · refine Eq.trans (rn_go 1 (pc' := 74) (L' := [.ref a0, .int x1, .int x2]) (st' := [.int (6 : Int32), .ref b_1, .int x2]) rfl) ?_
    refine Eq.trans (rn_aI (L' := [.ref a0, .int x1, .int x2]) rfl rfl) ?_
    refine eI_c (fun x_2 => ?_)
    refine Eq.trans (rn_icge (L' := [.ref a0, .int x1, .int x2]) rfl rfl) ?_
    refine if_c ?_ ?_
    · refine Eq.trans (rn_go 1 (pc' := 100) (L' := [.ref a0, .int x1, .int x2]) (st' := [.int x2]) rfl) ?_
      exact rn_retI rfl rfl rfl
    · refine Eq.trans (rn_go 3 (pc' := 81) (L' := [.ref a0, .int x1, .int x2]) (st' := [.int (0 : Int32), .int x2, .ref a0]) rfl) ?_
      refine Eq.trans (rn_vir (L' := [.ref a0, .int x1, .int x2]) (as := [.int x2, .int (0 : Int32)]) (rest := []) rfl rfl rfl rfl rfl (Nat.le_of_ble_eq_true rfl) (by decide) (by decide)) ?_
      refine eC_c ?_
      refine Eq.trans (cW_I rfl rfl rfl) ?_
      refine cI_c (fun x_4 s_3 => ?_) (xh_nil rfl)
      refine Eq.trans (rn_go 1 (pc' := 85) (L' := [.ref a0, .int x1, .int x2]) (st' := [.int x1, .int x_4]) rfl) ?_
      refine Eq.trans (rn_icgt (L' := [.ref a0, .int x1, .int x2]) rfl rfl) ?_
      refine if_c ?_ ?_
      · refine Eq.trans (rn_go 1 (pc' := 100) (L' := [.ref a0, .int x1, .int x2]) (st' := [.int x2]) rfl) ?_
        exact rn_retI rfl rfl rfl
      · refine Eq.trans (rn_go 2 (pc' := 90) (L' := [.ref a0, .int x1, .int x2]) (st' := [.int x2, .ref a0]) rfl) ?_
        refine Eq.trans (rn_vir (L' := [.ref a0, .int x1, .int x2]) (as := [.int x2]) (rest := []) rfl rfl rfl rfl rfl (Nat.le_of_ble_eq_true rfl) (by decide) (by decide)) ?_
        refine eC_c ?_
        refine Eq.trans (cW_V rfl rfl) ?_
        refine cV_c (fun s_5 => ?_) (xh_nil rfl)
        exact rn_go 2 (pc' := 67) (L' := [.ref a0, .int x1, .int (x2 + (1 : Int32))]) (st' := []) rfl
theorem in_X13_valueThen {B : Nat} (a0 : Nat) (x1 : Int32) (s : am_S) : cl_ tb_ct tb_mt B K_X13_valueThen [.ref a0, .int x1] s = rn_ tb_ct tb_mt B mm_X13_valueThen 0 [.ref a0, .int x1, am_un] [] s := cl_in rfl rfl rfl rfl
theorem dc_X13_valueThen_0 {B : Nat} (a0 : Nat) (x1 : Int32) (s : am_S) : rn_ tb_ct tb_mt B mm_X13_valueThen 0 [.ref a0, .int x1, am_un] [] s = rn_ tb_ct tb_mt B mm_X13_valueThen 2 [.ref a0, .int x1, .int (0 : Int32)] [] s := by
  exact rn_go 2 (pc' := 2) (L' := [.ref a0, .int x1, .int (0 : Int32)]) (st' := []) rfl
theorem dc_X13_valueThen_2 {B : Nat} (a0 : Nat) (x1 : Int32) (x2 : Int32) (s : am_S) : rn_ tb_ct tb_mt B mm_X13_valueThen 2 [.ref a0, .int x1, .int x2] [] s = eI (gI tb_ct s a0 11 7) (fun x_1 => if x_1 ≤ x2 then some (.inl (some (.int (-(2000000000 : Int32)))), s) else eA (gA tb_ct s a0 11 5) (none) (fun b_2 => eI (aI s b_2 x2) (fun x_3 => if x_3 = x1 then eA (gA tb_ct s a0 11 6) (none) (fun b_4 => eI (aI s b_4 x2) (fun x_5 => some (.inl (some (.int x_5)), s))) else rn_ tb_ct tb_mt B mm_X13_valueThen 2 [.ref a0, .int x1, .int (x2 + (1 : Int32))] [] s))) := by
  refine Eq.trans (rn_go 2 (pc' := 4) (L' := [.ref a0, .int x1, .int x2]) (st' := [.ref a0, .int x2]) rfl) ?_
  refine Eq.trans (rn_gI (L' := [.ref a0, .int x1, .int x2]) rfl rfl rfl rfl) ?_
  refine eI_c (fun x_1 => ?_)
  refine Eq.trans (rn_icge (L' := [.ref a0, .int x1, .int x2]) rfl rfl) ?_
  refine if_c ?_ ?_
  · refine Eq.trans (rn_go 1 (pc' := 35) (L' := [.ref a0, .int x1, .int x2]) (st' := [.int (-(2000000000 : Int32))]) rfl) ?_
    exact rn_retI rfl rfl rfl
  · refine Eq.trans (rn_go 1 (pc' := 11) (L' := [.ref a0, .int x1, .int x2]) (st' := [.ref a0]) rfl) ?_
    refine Eq.trans (rn_gA (L' := [.ref a0, .int x1, .int x2]) rfl rfl rfl rfl) ?_
    refine eA_c ?_ (fun b_2 => ?_)
    · refine Eq.trans (rn_go 1 (pc' := 15) (L' := [.ref a0, .int x1, .int x2]) (st' := [.int x2, .null]) rfl) ?_
      exact rn_z rfl rfl
    · refine Eq.trans (rn_go 1 (pc' := 15) (L' := [.ref a0, .int x1, .int x2]) (st' := [.int x2, .ref b_2]) rfl) ?_
      refine Eq.trans (rn_aI (L' := [.ref a0, .int x1, .int x2]) rfl rfl) ?_
      refine eI_c (fun x_3 => ?_)
      refine Eq.trans (rn_go 1 (pc' := 17) (L' := [.ref a0, .int x1, .int x2]) (st' := [.int x1, .int x_3]) rfl) ?_
      refine Eq.trans (rn_icne (L' := [.ref a0, .int x1, .int x2]) rfl rfl) ?_
      refine if_c ?_ ?_
      · refine Eq.trans (rn_go 1 (pc' := 21) (L' := [.ref a0, .int x1, .int x2]) (st' := [.ref a0]) rfl) ?_
        refine Eq.trans (rn_gA (L' := [.ref a0, .int x1, .int x2]) rfl rfl rfl rfl) ?_
        refine eA_c ?_ (fun b_4 => ?_)
        · refine Eq.trans (rn_go 1 (pc' := 25) (L' := [.ref a0, .int x1, .int x2]) (st' := [.int x2, .null]) rfl) ?_
          exact rn_z rfl rfl
        · refine Eq.trans (rn_go 1 (pc' := 25) (L' := [.ref a0, .int x1, .int x2]) (st' := [.int x2, .ref b_4]) rfl) ?_
          refine Eq.trans (rn_aI (L' := [.ref a0, .int x1, .int x2]) rfl rfl) ?_
          refine eI_c (fun x_5 => ?_)
          exact rn_retI rfl rfl rfl
      · exact rn_go 2 (pc' := 2) (L' := [.ref a0, .int x1, .int (x2 + (1 : Int32))]) (st' := []) rfl
theorem in_X13_compacts {B : Nat} (a0 : Nat) (x1 : Int32) (s : am_S) : cl_ tb_ct tb_mt B K_X13_compacts [.ref a0, .int x1] s = rn_ tb_ct tb_mt B mm_X13_compacts 0 [.ref a0, .int x1, am_un, am_un] [] s := cl_in rfl rfl rfl rfl
theorem dc_X13_compacts_0 {B : Nat} (a0 : Nat) (x1 : Int32) (s : am_S) : rn_ tb_ct tb_mt B mm_X13_compacts 0 [.ref a0, .int x1, am_un, am_un] [] s = eC (am_cls s a0) 11 (cI (cl_ tb_ct tb_mt B K_X13_laysThen [.ref a0, .int x1] s) (fun x_2 s_1 => rn_ tb_ct tb_mt B mm_X13_compacts 8 [.ref a0, .int x1, .int x_2, .int (0 : Int32)] [] s_1) xo) := by
  refine Eq.trans (rn_go 2 (pc' := 2) (L' := [.ref a0, .int x1, am_un, am_un]) (st' := [.int x1, .ref a0]) rfl) ?_
  refine Eq.trans (rn_vir (L' := [.ref a0, .int x1, am_un, am_un]) (as := [.int x1]) (rest := []) rfl rfl rfl rfl rfl (Nat.le_of_ble_eq_true rfl) (by decide) (by decide)) ?_
  refine eC_c ?_
  refine Eq.trans (cW_I rfl rfl rfl) ?_
  refine cI_c (fun x_2 s_1 => ?_) (xh_nil rfl)
  exact rn_go 3 (pc' := 8) (L' := [.ref a0, .int x1, .int x_2, .int (0 : Int32)]) (st' := []) rfl
theorem dc_X13_compacts_8 {B : Nat} (a0 : Nat) (x1 : Int32) (x2 : Int32) (x3 : Int32) (s : am_S) : rn_ tb_ct tb_mt B mm_X13_compacts 8 [.ref a0, .int x1, .int x2, .int x3] [] s = eA (gA tb_ct s a0 11 0) (none) (fun b_1 => eI (aI s b_1 (5 : Int32)) (fun x_2 => if x_2 ≤ x3 then eA (gA tb_ct s a0 11 0) (eI (gI tb_ct s a0 11 7) (fun x_4 => none)) (fun b_3 => eI (gI tb_ct s a0 11 7) (fun x_5 => eS (wI B s b_3 (12 : Int32) x_5) (fun s_6 => rn_ tb_ct tb_mt B mm_X13_compacts 43 [.ref a0, .int x1, .int x2, .int (0 : Int32)] [] s_6))) else eC (am_cls s a0) 11 (cV (cl_ tb_ct tb_mt B K_X13_misses [.ref a0, .int x3, .int x2] s) (fun s_7 => rn_ tb_ct tb_mt B mm_X13_compacts 8 [.ref a0, .int x1, .int x2, .int (x3 + (1 : Int32))] [] s_7) xo))) := by
  refine Eq.trans (rn_go 2 (pc' := 10) (L' := [.ref a0, .int x1, .int x2, .int x3]) (st' := [.ref a0, .int x3]) rfl) ?_
  refine Eq.trans (rn_gA (L' := [.ref a0, .int x1, .int x2, .int x3]) rfl rfl rfl rfl) ?_
  refine eA_c ?_ (fun b_1 => ?_)
  · refine Eq.trans (rn_go 1 (pc' := 14) (L' := [.ref a0, .int x1, .int x2, .int x3]) (st' := [.int (5 : Int32), .null, .int x3]) rfl) ?_
    exact rn_z rfl rfl
  · refine Eq.trans (rn_go 1 (pc' := 14) (L' := [.ref a0, .int x1, .int x2, .int x3]) (st' := [.int (5 : Int32), .ref b_1, .int x3]) rfl) ?_
    refine Eq.trans (rn_aI (L' := [.ref a0, .int x1, .int x2, .int x3]) rfl rfl) ?_
    refine eI_c (fun x_2 => ?_)
    refine Eq.trans (rn_icge (L' := [.ref a0, .int x1, .int x2, .int x3]) rfl rfl) ?_
    refine if_c ?_ ?_
    · refine Eq.trans (rn_go 1 (pc' := 31) (L' := [.ref a0, .int x1, .int x2, .int x3]) (st' := [.ref a0]) rfl) ?_
      refine Eq.trans (rn_gA (L' := [.ref a0, .int x1, .int x2, .int x3]) rfl rfl rfl rfl) ?_
      refine eA_c ?_ (fun b_3 => ?_)
      · refine Eq.trans (rn_go 2 (pc' := 37) (L' := [.ref a0, .int x1, .int x2, .int x3]) (st' := [.ref a0, .int (12 : Int32), .null]) rfl) ?_
        refine Eq.trans (rn_gI (L' := [.ref a0, .int x1, .int x2, .int x3]) rfl rfl rfl rfl) ?_
        refine eI_c (fun x_4 => ?_)
        exact rn_z rfl rfl
      · refine Eq.trans (rn_go 2 (pc' := 37) (L' := [.ref a0, .int x1, .int x2, .int x3]) (st' := [.ref a0, .int (12 : Int32), .ref b_3]) rfl) ?_
        refine Eq.trans (rn_gI (L' := [.ref a0, .int x1, .int x2, .int x3]) rfl rfl rfl rfl) ?_
        refine eI_c (fun x_5 => ?_)
        refine Eq.trans (rn_wI (L' := [.ref a0, .int x1, .int x2, .int x3]) rfl rfl) ?_
        refine eS_c (fun s_6 => ?_)
        exact rn_go 2 (pc' := 43) (L' := [.ref a0, .int x1, .int x2, .int (0 : Int32)]) (st' := []) rfl
    · refine Eq.trans (rn_go 3 (pc' := 21) (L' := [.ref a0, .int x1, .int x2, .int x3]) (st' := [.int x2, .int x3, .ref a0]) rfl) ?_
      refine Eq.trans (rn_vir (L' := [.ref a0, .int x1, .int x2, .int x3]) (as := [.int x3, .int x2]) (rest := []) rfl rfl rfl rfl rfl (Nat.le_of_ble_eq_true rfl) (by decide) (by decide)) ?_
      refine eC_c ?_
      refine Eq.trans (cW_V rfl rfl) ?_
      refine cV_c (fun s_7 => ?_) (xh_nil rfl)
      exact rn_go 2 (pc' := 8) (L' := [.ref a0, .int x1, .int x2, .int (x3 + (1 : Int32))]) (st' := []) rfl
theorem dc_X13_compacts_43 {B : Nat} (a0 : Nat) (x1 : Int32) (x2 : Int32) (x3 : Int32) (s : am_S) : rn_ tb_ct tb_mt B mm_X13_compacts 43 [.ref a0, .int x1, .int x2, .int x3] [] s = eI (gI tb_ct s a0 11 7) (fun x_1 => if x_1 ≤ x3 then rn_ tb_ct tb_mt B mm_X13_compacts 97 [.ref a0, .int x1, .int x2, .int (0 : Int32)] [] s else eA (gA tb_ct s a0 11 0) (eA (gA tb_ct s a0 11 5) (none) (fun b_3 => eI (aI s b_3 x3) (fun x_4 => none))) (fun b_2 => eA (gA tb_ct s a0 11 5) (none) (fun b_5 => eI (aI s b_5 x3) (fun x_6 => eS (wI B s b_2 ((157 : Int32) + ((2 : Int32) * x3)) x_6) (fun s_7 => eA (gA tb_ct s_7 a0 11 0) (eA (gA tb_ct s_7 a0 11 6) (none) (fun b_9 => eI (aI s_7 b_9 x3) (fun x_10 => none))) (fun b_8 => eA (gA tb_ct s_7 a0 11 6) (none) (fun b_11 => eI (aI s_7 b_11 x3) (fun x_12 => eS (wI B s_7 b_8 (((157 : Int32) + ((2 : Int32) * x3)) + (1 : Int32)) x_12) (fun s_13 => rn_ tb_ct tb_mt B mm_X13_compacts 43 [.ref a0, .int x1, .int x2, .int (x3 + (1 : Int32))] [] s_13))))))))) := by
  refine Eq.trans (rn_go 2 (pc' := 45) (L' := [.ref a0, .int x1, .int x2, .int x3]) (st' := [.ref a0, .int x3]) rfl) ?_
  refine Eq.trans (rn_gI (L' := [.ref a0, .int x1, .int x2, .int x3]) rfl rfl rfl rfl) ?_
  refine eI_c (fun x_1 => ?_)
  refine Eq.trans (rn_icge (L' := [.ref a0, .int x1, .int x2, .int x3]) rfl rfl) ?_
  refine if_c ?_ ?_
  · exact rn_go 2 (pc' := 97) (L' := [.ref a0, .int x1, .int x2, .int (0 : Int32)]) (st' := []) rfl
  · refine Eq.trans (rn_go 1 (pc' := 52) (L' := [.ref a0, .int x1, .int x2, .int x3]) (st' := [.ref a0]) rfl) ?_
    refine Eq.trans (rn_gA (L' := [.ref a0, .int x1, .int x2, .int x3]) rfl rfl rfl rfl) ?_
    refine eA_c ?_ (fun b_2 => ?_)
    · refine Eq.trans (rn_go 6 (pc' := 63) (L' := [.ref a0, .int x1, .int x2, .int x3]) (st' := [.ref a0, .int ((157 : Int32) + ((2 : Int32) * x3)), .null]) rfl) ?_
      refine Eq.trans (rn_gA (L' := [.ref a0, .int x1, .int x2, .int x3]) rfl rfl rfl rfl) ?_
      refine eA_c ?_ (fun b_3 => ?_)
      · refine Eq.trans (rn_go 1 (pc' := 67) (L' := [.ref a0, .int x1, .int x2, .int x3]) (st' := [.int x3, .null, .int ((157 : Int32) + ((2 : Int32) * x3)), .null]) rfl) ?_
        exact rn_z rfl rfl
      · refine Eq.trans (rn_go 1 (pc' := 67) (L' := [.ref a0, .int x1, .int x2, .int x3]) (st' := [.int x3, .ref b_3, .int ((157 : Int32) + ((2 : Int32) * x3)), .null]) rfl) ?_
        refine Eq.trans (rn_aI (L' := [.ref a0, .int x1, .int x2, .int x3]) rfl rfl) ?_
        refine eI_c (fun x_4 => ?_)
        exact rn_z rfl rfl
    · refine Eq.trans (rn_go 6 (pc' := 63) (L' := [.ref a0, .int x1, .int x2, .int x3]) (st' := [.ref a0, .int ((157 : Int32) + ((2 : Int32) * x3)), .ref b_2]) rfl) ?_
      refine Eq.trans (rn_gA (L' := [.ref a0, .int x1, .int x2, .int x3]) rfl rfl rfl rfl) ?_
      refine eA_c ?_ (fun b_5 => ?_)
      · refine Eq.trans (rn_go 1 (pc' := 67) (L' := [.ref a0, .int x1, .int x2, .int x3]) (st' := [.int x3, .null, .int ((157 : Int32) + ((2 : Int32) * x3)), .ref b_2]) rfl) ?_
        exact rn_z rfl rfl
      · refine Eq.trans (rn_go 1 (pc' := 67) (L' := [.ref a0, .int x1, .int x2, .int x3]) (st' := [.int x3, .ref b_5, .int ((157 : Int32) + ((2 : Int32) * x3)), .ref b_2]) rfl) ?_
        refine Eq.trans (rn_aI (L' := [.ref a0, .int x1, .int x2, .int x3]) rfl rfl) ?_
        refine eI_c (fun x_6 => ?_)
        refine Eq.trans (rn_wI (L' := [.ref a0, .int x1, .int x2, .int x3]) rfl rfl) ?_
        refine eS_c (fun s_7 => ?_)
        refine Eq.trans (rn_go 1 (pc' := 70) (L' := [.ref a0, .int x1, .int x2, .int x3]) (st' := [.ref a0]) rfl) ?_
        refine Eq.trans (rn_gA (L' := [.ref a0, .int x1, .int x2, .int x3]) rfl rfl rfl rfl) ?_
        refine eA_c ?_ (fun b_8 => ?_)
        · refine Eq.trans (rn_go 8 (pc' := 83) (L' := [.ref a0, .int x1, .int x2, .int x3]) (st' := [.ref a0, .int (((157 : Int32) + ((2 : Int32) * x3)) + (1 : Int32)), .null]) rfl) ?_
          refine Eq.trans (rn_gA (L' := [.ref a0, .int x1, .int x2, .int x3]) rfl rfl rfl rfl) ?_
          refine eA_c ?_ (fun b_9 => ?_)
          · refine Eq.trans (rn_go 1 (pc' := 87) (L' := [.ref a0, .int x1, .int x2, .int x3]) (st' := [.int x3, .null, .int (((157 : Int32) + ((2 : Int32) * x3)) + (1 : Int32)), .null]) rfl) ?_
            exact rn_z rfl rfl
          · refine Eq.trans (rn_go 1 (pc' := 87) (L' := [.ref a0, .int x1, .int x2, .int x3]) (st' := [.int x3, .ref b_9, .int (((157 : Int32) + ((2 : Int32) * x3)) + (1 : Int32)), .null]) rfl) ?_
            refine Eq.trans (rn_aI (L' := [.ref a0, .int x1, .int x2, .int x3]) rfl rfl) ?_
            refine eI_c (fun x_10 => ?_)
            exact rn_z rfl rfl
        · refine Eq.trans (rn_go 8 (pc' := 83) (L' := [.ref a0, .int x1, .int x2, .int x3]) (st' := [.ref a0, .int (((157 : Int32) + ((2 : Int32) * x3)) + (1 : Int32)), .ref b_8]) rfl) ?_
          refine Eq.trans (rn_gA (L' := [.ref a0, .int x1, .int x2, .int x3]) rfl rfl rfl rfl) ?_
          refine eA_c ?_ (fun b_11 => ?_)
          · refine Eq.trans (rn_go 1 (pc' := 87) (L' := [.ref a0, .int x1, .int x2, .int x3]) (st' := [.int x3, .null, .int (((157 : Int32) + ((2 : Int32) * x3)) + (1 : Int32)), .ref b_8]) rfl) ?_
            exact rn_z rfl rfl
          · refine Eq.trans (rn_go 1 (pc' := 87) (L' := [.ref a0, .int x1, .int x2, .int x3]) (st' := [.int x3, .ref b_11, .int (((157 : Int32) + ((2 : Int32) * x3)) + (1 : Int32)), .ref b_8]) rfl) ?_
            refine Eq.trans (rn_aI (L' := [.ref a0, .int x1, .int x2, .int x3]) rfl rfl) ?_
            refine eI_c (fun x_12 => ?_)
            refine Eq.trans (rn_wI (L' := [.ref a0, .int x1, .int x2, .int x3]) rfl rfl) ?_
            refine eS_c (fun s_13 => ?_)
            exact rn_go 2 (pc' := 43) (L' := [.ref a0, .int x1, .int x2, .int (x3 + (1 : Int32))]) (st' := []) rfl
theorem dc_X13_compacts_97 {B : Nat} (a0 : Nat) (x1 : Int32) (x2 : Int32) (x3 : Int32) (s : am_S) : rn_ tb_ct tb_mt B mm_X13_compacts 97 [.ref a0, .int x1, .int x2, .int x3] [] s = eA (gA tb_ct s a0 11 0) (none) (fun b_1 => eI (aI s b_1 (6 : Int32)) (fun x_2 => if ((6 : Int32) * (x_2 - x2)) ≤ x3 then eA (gA tb_ct s a0 11 0) (none) (fun b_3 => eI (aI s b_3 (6 : Int32)) (fun x_4 => eS (wI B s b_3 (6 : Int32) (x_4 - x2)) (fun s_5 => eA (gA tb_ct s_5 a0 11 0) (none) (fun b_6 => eI (aI s_5 b_6 (7 : Int32)) (fun x_7 => eS (wI B s_5 b_6 (7 : Int32) (x_7 + x2)) (fun s_8 => eA (gA tb_ct s_8 a0 11 0) (none) (fun b_9 => eS (wI B s_8 b_9 (1 : Int32) x1) (fun s_10 => some (.inl (some (.int x2)), s_10))))))))) else eA (gA tb_ct s a0 11 0) (eA (gA tb_ct s a0 11 0) (none) (fun b_12 => eI (aI s b_12 (((189 : Int32) + ((6 : Int32) * x2)) + x3)) (fun x_13 => none))) (fun b_11 => eA (gA tb_ct s a0 11 0) (none) (fun b_14 => eI (aI s b_14 (((189 : Int32) + ((6 : Int32) * x2)) + x3)) (fun x_15 => eS (wI B s b_11 ((189 : Int32) + x3) x_15) (fun s_16 => rn_ tb_ct tb_mt B mm_X13_compacts 97 [.ref a0, .int x1, .int x2, .int (x3 + (1 : Int32))] [] s_16)))))) := by
  refine Eq.trans (rn_go 3 (pc' := 101) (L' := [.ref a0, .int x1, .int x2, .int x3]) (st' := [.ref a0, .int (6 : Int32), .int x3]) rfl) ?_
  refine Eq.trans (rn_gA (L' := [.ref a0, .int x1, .int x2, .int x3]) rfl rfl rfl rfl) ?_
  refine eA_c ?_ (fun b_1 => ?_)
  · refine Eq.trans (rn_go 1 (pc' := 106) (L' := [.ref a0, .int x1, .int x2, .int x3]) (st' := [.int (6 : Int32), .null, .int (6 : Int32), .int x3]) rfl) ?_
    exact rn_z rfl rfl
  · refine Eq.trans (rn_go 1 (pc' := 106) (L' := [.ref a0, .int x1, .int x2, .int x3]) (st' := [.int (6 : Int32), .ref b_1, .int (6 : Int32), .int x3]) rfl) ?_
    refine Eq.trans (rn_aI (L' := [.ref a0, .int x1, .int x2, .int x3]) rfl rfl) ?_
    refine eI_c (fun x_2 => ?_)
    refine Eq.trans (rn_go 3 (pc' := 110) (L' := [.ref a0, .int x1, .int x2, .int x3]) (st' := [.int ((6 : Int32) * (x_2 - x2)), .int x3]) rfl) ?_
    refine Eq.trans (rn_icge (L' := [.ref a0, .int x1, .int x2, .int x3]) rfl rfl) ?_
    refine if_c ?_ ?_
    · refine Eq.trans (rn_go 1 (pc' := 145) (L' := [.ref a0, .int x1, .int x2, .int x3]) (st' := [.ref a0]) rfl) ?_
      refine Eq.trans (rn_gA (L' := [.ref a0, .int x1, .int x2, .int x3]) rfl rfl rfl rfl) ?_
      refine eA_c ?_ (fun b_3 => ?_)
      · refine Eq.trans (rn_go 2 (pc' := 151) (L' := [.ref a0, .int x1, .int x2, .int x3]) (st' := [.int (6 : Int32), .null, .int (6 : Int32), .null]) rfl) ?_
        exact rn_z rfl rfl
      · refine Eq.trans (rn_go 2 (pc' := 151) (L' := [.ref a0, .int x1, .int x2, .int x3]) (st' := [.int (6 : Int32), .ref b_3, .int (6 : Int32), .ref b_3]) rfl) ?_
        refine Eq.trans (rn_aI (L' := [.ref a0, .int x1, .int x2, .int x3]) rfl rfl) ?_
        refine eI_c (fun x_4 => ?_)
        refine Eq.trans (rn_go 2 (pc' := 154) (L' := [.ref a0, .int x1, .int x2, .int x3]) (st' := [.int (x_4 - x2), .int (6 : Int32), .ref b_3]) rfl) ?_
        refine Eq.trans (rn_wI (L' := [.ref a0, .int x1, .int x2, .int x3]) rfl rfl) ?_
        refine eS_c (fun s_5 => ?_)
        refine Eq.trans (rn_go 1 (pc' := 156) (L' := [.ref a0, .int x1, .int x2, .int x3]) (st' := [.ref a0]) rfl) ?_
        refine Eq.trans (rn_gA (L' := [.ref a0, .int x1, .int x2, .int x3]) rfl rfl rfl rfl) ?_
        refine eA_c ?_ (fun b_6 => ?_)
        · refine Eq.trans (rn_go 2 (pc' := 162) (L' := [.ref a0, .int x1, .int x2, .int x3]) (st' := [.int (7 : Int32), .null, .int (7 : Int32), .null]) rfl) ?_
          exact rn_z rfl rfl
        · refine Eq.trans (rn_go 2 (pc' := 162) (L' := [.ref a0, .int x1, .int x2, .int x3]) (st' := [.int (7 : Int32), .ref b_6, .int (7 : Int32), .ref b_6]) rfl) ?_
          refine Eq.trans (rn_aI (L' := [.ref a0, .int x1, .int x2, .int x3]) rfl rfl) ?_
          refine eI_c (fun x_7 => ?_)
          refine Eq.trans (rn_go 2 (pc' := 165) (L' := [.ref a0, .int x1, .int x2, .int x3]) (st' := [.int (x_7 + x2), .int (7 : Int32), .ref b_6]) rfl) ?_
          refine Eq.trans (rn_wI (L' := [.ref a0, .int x1, .int x2, .int x3]) rfl rfl) ?_
          refine eS_c (fun s_8 => ?_)
          refine Eq.trans (rn_go 1 (pc' := 167) (L' := [.ref a0, .int x1, .int x2, .int x3]) (st' := [.ref a0]) rfl) ?_
          refine Eq.trans (rn_gA (L' := [.ref a0, .int x1, .int x2, .int x3]) rfl rfl rfl rfl) ?_
          refine eA_c ?_ (fun b_9 => ?_)
          · refine Eq.trans (rn_go 2 (pc' := 172) (L' := [.ref a0, .int x1, .int x2, .int x3]) (st' := [.int x1, .int (1 : Int32), .null]) rfl) ?_
            exact rn_z rfl rfl
          · refine Eq.trans (rn_go 2 (pc' := 172) (L' := [.ref a0, .int x1, .int x2, .int x3]) (st' := [.int x1, .int (1 : Int32), .ref b_9]) rfl) ?_
            refine Eq.trans (rn_wI (L' := [.ref a0, .int x1, .int x2, .int x3]) rfl rfl) ?_
            refine eS_c (fun s_10 => ?_)
            refine Eq.trans (rn_go 1 (pc' := 174) (L' := [.ref a0, .int x1, .int x2, .int x3]) (st' := [.int x2]) rfl) ?_
            exact rn_retI rfl rfl rfl
    · refine Eq.trans (rn_go 1 (pc' := 114) (L' := [.ref a0, .int x1, .int x2, .int x3]) (st' := [.ref a0]) rfl) ?_
      refine Eq.trans (rn_gA (L' := [.ref a0, .int x1, .int x2, .int x3]) rfl rfl rfl rfl) ?_
      refine eA_c ?_ (fun b_11 => ?_)
      · refine Eq.trans (rn_go 4 (pc' := 123) (L' := [.ref a0, .int x1, .int x2, .int x3]) (st' := [.ref a0, .int ((189 : Int32) + x3), .null]) rfl) ?_
        refine Eq.trans (rn_gA (L' := [.ref a0, .int x1, .int x2, .int x3]) rfl rfl rfl rfl) ?_
        refine eA_c ?_ (fun b_12 => ?_)
        · refine Eq.trans (rn_go 7 (pc' := 136) (L' := [.ref a0, .int x1, .int x2, .int x3]) (st' := [.int (((189 : Int32) + ((6 : Int32) * x2)) + x3), .null, .int ((189 : Int32) + x3), .null]) rfl) ?_
          exact rn_z rfl rfl
        · refine Eq.trans (rn_go 7 (pc' := 136) (L' := [.ref a0, .int x1, .int x2, .int x3]) (st' := [.int (((189 : Int32) + ((6 : Int32) * x2)) + x3), .ref b_12, .int ((189 : Int32) + x3), .null]) rfl) ?_
          refine Eq.trans (rn_aI (L' := [.ref a0, .int x1, .int x2, .int x3]) rfl rfl) ?_
          refine eI_c (fun x_13 => ?_)
          exact rn_z rfl rfl
      · refine Eq.trans (rn_go 4 (pc' := 123) (L' := [.ref a0, .int x1, .int x2, .int x3]) (st' := [.ref a0, .int ((189 : Int32) + x3), .ref b_11]) rfl) ?_
        refine Eq.trans (rn_gA (L' := [.ref a0, .int x1, .int x2, .int x3]) rfl rfl rfl rfl) ?_
        refine eA_c ?_ (fun b_14 => ?_)
        · refine Eq.trans (rn_go 7 (pc' := 136) (L' := [.ref a0, .int x1, .int x2, .int x3]) (st' := [.int (((189 : Int32) + ((6 : Int32) * x2)) + x3), .null, .int ((189 : Int32) + x3), .ref b_11]) rfl) ?_
          exact rn_z rfl rfl
        · refine Eq.trans (rn_go 7 (pc' := 136) (L' := [.ref a0, .int x1, .int x2, .int x3]) (st' := [.int (((189 : Int32) + ((6 : Int32) * x2)) + x3), .ref b_14, .int ((189 : Int32) + x3), .ref b_11]) rfl) ?_
          refine Eq.trans (rn_aI (L' := [.ref a0, .int x1, .int x2, .int x3]) rfl rfl) ?_
          refine eI_c (fun x_15 => ?_)
          refine Eq.trans (rn_wI (L' := [.ref a0, .int x1, .int x2, .int x3]) rfl rfl) ?_
          refine eS_c (fun s_16 => ?_)
          exact rn_go 2 (pc' := 97) (L' := [.ref a0, .int x1, .int x2, .int (x3 + (1 : Int32))]) (st' := []) rfl
theorem in_X13_settles {B : Nat} (a0 : Nat) (s : am_S) : cl_ tb_ct tb_mt B K_X13_settles [.ref a0] s = rn_ tb_ct tb_mt B mm_X13_settles 0 [.ref a0, am_un] [] s := cl_in rfl rfl rfl rfl
theorem dc_X13_settles_0 {B : Nat} (a0 : Nat) (w1 : Value) (s : am_S) : rn_ tb_ct tb_mt B mm_X13_settles 0 [.ref a0, w1] [] s = eA (gA tb_ct s a0 11 0) (none) (fun b_1 => eI (aI s b_1 (6 : Int32)) (fun x_2 => if x_2 ≤ (120 : Int32) then some (.inl none, s) else eC (am_cls s a0) 11 (cI (cl_ tb_ct tb_mt B K_X13_eventAt [.ref a0, .int (0 : Int32), .int (0 : Int32)] s) (fun x_4 s_3 => eC (am_cls s_3 a0) 11 (cI (cl_ tb_ct tb_mt B K_X13_compacts [.ref a0, .int x_4] s_3) (fun x_6 s_5 => rn_ tb_ct tb_mt B mm_X13_settles 0 [.ref a0, .int x_6] [] s_5) xo)) xo))) := by
  refine Eq.trans (rn_go 1 (pc' := 1) (L' := [.ref a0, am_un]) (st' := [.ref a0]) rfl) ?_
  refine Eq.trans (rn_gA (L' := [.ref a0, am_un]) rfl rfl rfl rfl) ?_
  refine eA_c ?_ (fun b_1 => ?_)
  · refine Eq.trans (rn_go 1 (pc' := 6) (L' := [.ref a0, am_un]) (st' := [.int (6 : Int32), .null]) rfl) ?_
    exact rn_z rfl rfl
  · refine Eq.trans (rn_go 1 (pc' := 6) (L' := [.ref a0, am_un]) (st' := [.int (6 : Int32), .ref b_1]) rfl) ?_
    refine Eq.trans (rn_aI (L' := [.ref a0, am_un]) rfl rfl) ?_
    refine eI_c (fun x_2 => ?_)
    refine Eq.trans (rn_go 1 (pc' := 9) (L' := [.ref a0, am_un]) (st' := [.int (120 : Int32), .int x_2]) rfl) ?_
    refine Eq.trans (rn_icle (L' := [.ref a0, am_un]) rfl rfl) ?_
    refine if_c ?_ ?_
    · exact rn_retV rfl rfl
    · refine Eq.trans (rn_go 4 (pc' := 16) (L' := [.ref a0, am_un]) (st' := [.int (0 : Int32), .int (0 : Int32), .ref a0, .ref a0]) rfl) ?_
      refine Eq.trans (rn_vir (L' := [.ref a0, am_un]) (as := [.int (0 : Int32), .int (0 : Int32)]) (rest := [.ref a0]) rfl rfl rfl rfl rfl (Nat.le_of_ble_eq_true rfl) (by decide) (by decide)) ?_
      refine eC_c ?_
      refine Eq.trans (cW_I rfl rfl rfl) ?_
      refine cI_c (fun x_4 s_3 => ?_) (xh_nil rfl)
      refine Eq.trans (rn_vir (L' := [.ref a0, am_un]) (as := [.int x_4]) (rest := []) rfl rfl rfl rfl rfl (Nat.le_of_ble_eq_true rfl) (by decide) (by decide)) ?_
      refine eC_c ?_
      refine Eq.trans (cW_I rfl rfl rfl) ?_
      refine cI_c (fun x_6 s_5 => ?_) (xh_nil rfl)
      exact rn_go 2 (pc' := 0) (L' := [.ref a0, .int x_6]) (st' := []) rfl
theorem in_X13_whyNot {B : Nat} (a0 : Nat) (x1 : Int32) (s : am_S) : cl_ tb_ct tb_mt B K_X13_whyNot [.ref a0, .int x1] s = rn_ tb_ct tb_mt B mm_X13_whyNot 0 [.ref a0, .int x1] [] s := cl_in rfl rfl rfl rfl
theorem dc_X13_whyNot_0 {B : Nat} (a0 : Nat) (x1 : Int32) (s : am_S) : rn_ tb_ct tb_mt B mm_X13_whyNot 0 [.ref a0, .int x1] [] s = eA (gA tb_ct s a0 11 0) (none) (fun b_1 => eI (aI s b_1 (1 : Int32)) (fun x_2 => if x_2 ≤ x1 then eA (gA tb_ct s a0 11 0) (none) (fun b_3 => eI (aI s b_3 (0 : Int32)) (fun x_4 => if x1 ≤ x_4 then some (.inl (some (.int (0 : Int32))), s) else some (.inl (some (.int (-(2000000002 : Int32)))), s))) else some (.inl (some (.int (-(2000000001 : Int32)))), s))) := by
  refine Eq.trans (rn_go 2 (pc' := 2) (L' := [.ref a0, .int x1]) (st' := [.ref a0, .int x1]) rfl) ?_
  refine Eq.trans (rn_gA (L' := [.ref a0, .int x1]) rfl rfl rfl rfl) ?_
  refine eA_c ?_ (fun b_1 => ?_)
  · refine Eq.trans (rn_go 1 (pc' := 6) (L' := [.ref a0, .int x1]) (st' := [.int (1 : Int32), .null, .int x1]) rfl) ?_
    exact rn_z rfl rfl
  · refine Eq.trans (rn_go 1 (pc' := 6) (L' := [.ref a0, .int x1]) (st' := [.int (1 : Int32), .ref b_1, .int x1]) rfl) ?_
    refine Eq.trans (rn_aI (L' := [.ref a0, .int x1]) rfl rfl) ?_
    refine eI_c (fun x_2 => ?_)
    refine Eq.trans (rn_icge (L' := [.ref a0, .int x1]) rfl rfl) ?_
    refine if_c ?_ ?_
    · refine Eq.trans (rn_go 2 (pc' := 17) (L' := [.ref a0, .int x1]) (st' := [.ref a0, .int x1]) rfl) ?_
      refine Eq.trans (rn_gA (L' := [.ref a0, .int x1]) rfl rfl rfl rfl) ?_
      refine eA_c ?_ (fun b_3 => ?_)
      · refine Eq.trans (rn_go 1 (pc' := 21) (L' := [.ref a0, .int x1]) (st' := [.int (0 : Int32), .null, .int x1]) rfl) ?_
        exact rn_z rfl rfl
      · refine Eq.trans (rn_go 1 (pc' := 21) (L' := [.ref a0, .int x1]) (st' := [.int (0 : Int32), .ref b_3, .int x1]) rfl) ?_
        refine Eq.trans (rn_aI (L' := [.ref a0, .int x1]) rfl rfl) ?_
        refine eI_c (fun x_4 => ?_)
        refine Eq.trans (rn_icle (L' := [.ref a0, .int x1]) rfl rfl) ?_
        refine if_c ?_ ?_
        · refine Eq.trans (rn_go 1 (pc' := 31) (L' := [.ref a0, .int x1]) (st' := [.int (0 : Int32)]) rfl) ?_
          exact rn_retI rfl rfl rfl
        · refine Eq.trans (rn_go 2 (pc' := 31) (L' := [.ref a0, .int x1]) (st' := [.int (-(2000000002 : Int32))]) rfl) ?_
          exact rn_retI rfl rfl rfl
    · refine Eq.trans (rn_go 2 (pc' := 31) (L' := [.ref a0, .int x1]) (st' := [.int (-(2000000001 : Int32))]) rfl) ?_
      exact rn_retI rfl rfl rfl
theorem in_X13_asked {B : Nat} (a0 : Nat) (x1 : Int32) (s : am_S) : cl_ tb_ct tb_mt B K_X13_asked [.ref a0, .int x1] s = rn_ tb_ct tb_mt B mm_X13_asked 0 [.ref a0, .int x1] [] s := cl_in rfl rfl rfl rfl
theorem dc_X13_asked_0 {B : Nat} (a0 : Nat) (x1 : Int32) (s : am_S) : rn_ tb_ct tb_mt B mm_X13_asked 0 [.ref a0, .int x1] [] s = if x1 = 0 then eA (gA tb_ct s a0 11 0) (none) (fun b_1 => eI (aI s b_1 (0 : Int32)) (fun x_2 => some (.inl (some (.int x_2)), s))) else some (.inl (some (.int x1)), s) := by
  refine Eq.trans (rn_go 1 (pc' := 1) (L' := [.ref a0, .int x1]) (st' := [.int x1]) rfl) ?_
  refine Eq.trans (rn_ifne (L' := [.ref a0, .int x1]) rfl rfl) ?_
  refine if_c ?_ ?_
  · refine Eq.trans (rn_go 1 (pc' := 5) (L' := [.ref a0, .int x1]) (st' := [.ref a0]) rfl) ?_
    refine Eq.trans (rn_gA (L' := [.ref a0, .int x1]) rfl rfl rfl rfl) ?_
    refine eA_c ?_ (fun b_1 => ?_)
    · refine Eq.trans (rn_go 1 (pc' := 9) (L' := [.ref a0, .int x1]) (st' := [.int (0 : Int32), .null]) rfl) ?_
      exact rn_z rfl rfl
    · refine Eq.trans (rn_go 1 (pc' := 9) (L' := [.ref a0, .int x1]) (st' := [.int (0 : Int32), .ref b_1]) rfl) ?_
      refine Eq.trans (rn_aI (L' := [.ref a0, .int x1]) rfl rfl) ?_
      refine eI_c (fun x_2 => ?_)
      refine Eq.trans (rn_go 1 (pc' := 14) (L' := [.ref a0, .int x1]) (st' := [.int x_2]) rfl) ?_
      exact rn_retI rfl rfl rfl
  · refine Eq.trans (rn_go 1 (pc' := 14) (L' := [.ref a0, .int x1]) (st' := [.int x1]) rfl) ?_
    exact rn_retI rfl rfl rfl
theorem in_X13_byteOf {B : Nat} (j0 : Int64) (x2 : Int32) (s : am_S) : cl_ tb_ct tb_mt B K_X13_byteOf [.long j0, .int x2] s = rn_ tb_ct tb_mt B mm_X13_byteOf 0 [.long j0, am_un, .int x2] [] s := cl_in rfl rfl rfl rfl
theorem dc_X13_byteOf_0 {B : Nat} (j0 : Int64) (x2 : Int32) (s : am_S) : rn_ tb_ct tb_mt B mm_X13_byteOf 0 [.long j0, am_un, .int x2] [] s = some (.inl (some (.int ((j0 >>> (((8 : Int32) * ((7 : Int32) - x2)).toInt64 &&& 63)) &&& (255 : Int64)).toInt32)), s) := by
  refine Eq.trans (rn_go 10 (pc' := 14) (L' := [.long j0, am_un, .int x2]) (st' := [.int ((j0 >>> (((8 : Int32) * ((7 : Int32) - x2)).toInt64 &&& 63)) &&& (255 : Int64)).toInt32]) rfl) ?_
  exact rn_retI rfl rfl rfl
theorem in_X13_append {B : Nat} (a0 : Nat) (j1 : Int64) (s : am_S) : cl_ tb_ct tb_mt B K_X13_append [.ref a0, .long j1] s = rn_ tb_ct tb_mt B mm_X13_append 0 [.ref a0, .long j1, am_un, am_un, am_un] [] s := cl_in rfl rfl rfl rfl
theorem dc_X13_append_0 {B : Nat} (a0 : Nat) (j1 : Int64) (s : am_S) : rn_ tb_ct tb_mt B mm_X13_append 0 [.ref a0, .long j1, am_un, am_un, am_un] [] s = eS (am_put tb_ct mm_X13_append B s (.int (0 : Int32)) a0 11 4) (fun s_1 => rn_ tb_ct tb_mt B mm_X13_append 10 [.ref a0, .long j1, am_un, .int (0 : Int32), .int (0 : Int32)] [] s_1) := by
  refine Eq.trans (rn_go 2 (pc' := 2) (L' := [.ref a0, .long j1, am_un, am_un, am_un]) (st' := [.int (0 : Int32), .ref a0]) rfl) ?_
  refine Eq.trans (rn_pF (L' := [.ref a0, .long j1, am_un, am_un, am_un]) rfl rfl) ?_
  refine eS_c (fun s_1 => ?_)
  exact rn_go 4 (pc' := 10) (L' := [.ref a0, .long j1, am_un, .int (0 : Int32), .int (0 : Int32)]) (st' := []) rfl
theorem dc_X13_append_10 {B : Nat} (a0 : Nat) (j1 : Int64) (x3 : Int32) (x4 : Int32) (s : am_S) : rn_ tb_ct tb_mt B mm_X13_append 10 [.ref a0, .long j1, am_un, .int x3, .int x4] [] s = if (8 : Int32) ≤ x4 then eI (gI tb_ct s a0 11 9) (fun x_1 => if (x_1 + x3) ≤ (500 : Int32) then rn_ tb_ct tb_mt B mm_X13_append 58 [.ref a0, .long j1, am_un, .int x3, .int (0 : Int32)] [] s else some (.inl (some (.int (-(2 : Int32)))), s)) else cI (cl_ tb_ct tb_mt B K_X13_byteOf [.long j1, .int x4] s) (fun x_3 s_2 => if x_3 = 0 then rn_ tb_ct tb_mt B mm_X13_append 32 [.ref a0, .long j1, am_un, .int x3, .int x4] [.int (0 : Int32), .int x3] s_2 else rn_ tb_ct tb_mt B mm_X13_append 32 [.ref a0, .long j1, am_un, .int x3, .int x4] [.int (1 : Int32), .int x3] s_2) xo := by
  refine Eq.trans (rn_go 2 (pc' := 14) (L' := [.ref a0, .long j1, am_un, .int x3, .int x4]) (st' := [.int (8 : Int32), .int x4]) rfl) ?_
  refine Eq.trans (rn_icge (L' := [.ref a0, .long j1, am_un, .int x3, .int x4]) rfl rfl) ?_
  refine if_c ?_ ?_
  · refine Eq.trans (rn_go 1 (pc' := 41) (L' := [.ref a0, .long j1, am_un, .int x3, .int x4]) (st' := [.ref a0]) rfl) ?_
    refine Eq.trans (rn_gI (L' := [.ref a0, .long j1, am_un, .int x3, .int x4]) rfl rfl rfl rfl) ?_
    refine eI_c (fun x_1 => ?_)
    refine Eq.trans (rn_go 3 (pc' := 49) (L' := [.ref a0, .long j1, am_un, .int x3, .int x4]) (st' := [.int (500 : Int32), .int (x_1 + x3)]) rfl) ?_
    refine Eq.trans (rn_icle (L' := [.ref a0, .long j1, am_un, .int x3, .int x4]) rfl rfl) ?_
    refine if_c ?_ ?_
    · exact rn_go 2 (pc' := 58) (L' := [.ref a0, .long j1, am_un, .int x3, .int (0 : Int32)]) (st' := []) rfl
    · refine Eq.trans (rn_go 1 (pc' := 54) (L' := [.ref a0, .long j1, am_un, .int x3, .int x4]) (st' := [.int (-(2 : Int32))]) rfl) ?_
      exact rn_retI rfl rfl rfl
  · refine Eq.trans (rn_go 3 (pc' := 21) (L' := [.ref a0, .long j1, am_un, .int x3, .int x4]) (st' := [.int x4, .long j1, .int x3]) rfl) ?_
    refine Eq.trans (rn_sta (L' := [.ref a0, .long j1, am_un, .int x3, .int x4]) (as := [.long j1, .int x4]) (rest := [.int x3]) rfl rfl rfl rfl rfl (Nat.le_of_ble_eq_true rfl) (by decide) rfl) ?_
    refine Eq.trans (cW_I rfl rfl rfl) ?_
    refine cI_c (fun x_3 s_2 => ?_) (xh_nil rfl)
    refine Eq.trans (rn_ifne (L' := [.ref a0, .long j1, am_un, .int x3, .int x4]) rfl rfl) ?_
    refine if_c ?_ ?_
    · exact rn_go 2 (pc' := 32) (L' := [.ref a0, .long j1, am_un, .int x3, .int x4]) (st' := [.int (0 : Int32), .int x3]) rfl
    · exact rn_go 1 (pc' := 32) (L' := [.ref a0, .long j1, am_un, .int x3, .int x4]) (st' := [.int (1 : Int32), .int x3]) rfl
theorem dc_X13_append_32 {B : Nat} (a0 : Nat) (j1 : Int64) (w3 : Value) (x4 : Int32) (xs0 : Int32) (xs1 : Int32) (s : am_S) : rn_ tb_ct tb_mt B mm_X13_append 32 [.ref a0, .long j1, am_un, w3, .int x4] [.int xs0, .int xs1] s = rn_ tb_ct tb_mt B mm_X13_append 10 [.ref a0, .long j1, am_un, .int (xs1 + xs0), .int (x4 + (1 : Int32))] [] s := by
  exact rn_go 4 (pc' := 10) (L' := [.ref a0, .long j1, am_un, .int (xs1 + xs0), .int (x4 + (1 : Int32))]) (st' := []) rfl
theorem dc_X13_append_58 {B : Nat} (a0 : Nat) (j1 : Int64) (w3 : Value) (x4 : Int32) (s : am_S) : rn_ tb_ct tb_mt B mm_X13_append 58 [.ref a0, .long j1, am_un, w3, .int x4] [] s = if (8 : Int32) ≤ x4 then eI (gI tb_ct s a0 11 9) (fun x_1 => some (.inl (some (.int x_1)), s)) else cI (cl_ tb_ct tb_mt B K_X13_byteOf [.long j1, .int x4] s) (fun x_3 s_2 => if x_3 = 0 then rn_ tb_ct tb_mt B mm_X13_append 100 [.ref a0, .long j1, am_un, am_un, .int x4] [] s_2 else eA (gA tb_ct s_2 a0 11 8) (eI (gI tb_ct s_2 a0 11 9) (fun x_5 => cI (cl_ tb_ct tb_mt B K_X13_byteOf [.long j1, .int x4] s_2) (fun x_7 s_6 => none) xo)) (fun b_4 => eI (gI tb_ct s_2 a0 11 9) (fun x_8 => cI (cl_ tb_ct tb_mt B K_X13_byteOf [.long j1, .int x4] s_2) (fun x_10 s_9 => eS (wB B s_9 b_4 x_8 x_10.toInt8.toInt32) (fun s_11 => eI (gI tb_ct s_11 a0 11 9) (fun x_12 => eS (am_put tb_ct mm_X13_append B s_11 (.int (x_12 + (1 : Int32))) a0 11 9) (fun s_13 => rn_ tb_ct tb_mt B mm_X13_append 100 [.ref a0, .long j1, am_un, am_un, .int x4] [] s_13)))) xo))) xo := by
  refine Eq.trans (rn_go 2 (pc' := 62) (L' := [.ref a0, .long j1, am_un, am_un, .int x4]) (st' := [.int (8 : Int32), .int x4]) rfl) ?_
  refine Eq.trans (rn_icge (L' := [.ref a0, .long j1, am_un, am_un, .int x4]) rfl rfl) ?_
  refine if_c ?_ ?_
  · refine Eq.trans (rn_go 1 (pc' := 107) (L' := [.ref a0, .long j1, am_un, am_un, .int x4]) (st' := [.ref a0]) rfl) ?_
    refine Eq.trans (rn_gI (L' := [.ref a0, .long j1, am_un, am_un, .int x4]) rfl rfl rfl rfl) ?_
    refine eI_c (fun x_1 => ?_)
    exact rn_retI rfl rfl rfl
  · refine Eq.trans (rn_go 2 (pc' := 68) (L' := [.ref a0, .long j1, am_un, am_un, .int x4]) (st' := [.int x4, .long j1]) rfl) ?_
    refine Eq.trans (rn_sta (L' := [.ref a0, .long j1, am_un, am_un, .int x4]) (as := [.long j1, .int x4]) (rest := []) rfl rfl rfl rfl rfl (Nat.le_of_ble_eq_true rfl) (by decide) rfl) ?_
    refine Eq.trans (cW_I rfl rfl rfl) ?_
    refine cI_c (fun x_3 s_2 => ?_) (xh_nil rfl)
    refine Eq.trans (rn_ifeq (L' := [.ref a0, .long j1, am_un, am_un, .int x4]) rfl rfl) ?_
    refine if_c ?_ ?_
    · rfl
    · refine Eq.trans (rn_go 1 (pc' := 75) (L' := [.ref a0, .long j1, am_un, am_un, .int x4]) (st' := [.ref a0]) rfl) ?_
      refine Eq.trans (rn_gA (L' := [.ref a0, .long j1, am_un, am_un, .int x4]) rfl rfl rfl rfl) ?_
      refine eA_c ?_ (fun b_4 => ?_)
      · refine Eq.trans (rn_go 1 (pc' := 79) (L' := [.ref a0, .long j1, am_un, am_un, .int x4]) (st' := [.ref a0, .null]) rfl) ?_
        refine Eq.trans (rn_gI (L' := [.ref a0, .long j1, am_un, am_un, .int x4]) rfl rfl rfl rfl) ?_
        refine eI_c (fun x_5 => ?_)
        refine Eq.trans (rn_go 2 (pc' := 85) (L' := [.ref a0, .long j1, am_un, am_un, .int x4]) (st' := [.int x4, .long j1, .int x_5, .null]) rfl) ?_
        refine Eq.trans (rn_sta (L' := [.ref a0, .long j1, am_un, am_un, .int x4]) (as := [.long j1, .int x4]) (rest := [.int x_5, .null]) rfl rfl rfl rfl rfl (Nat.le_of_ble_eq_true rfl) (by decide) rfl) ?_
        refine Eq.trans (cW_I rfl rfl rfl) ?_
        refine cI_c (fun x_7 s_6 => ?_) (xh_nil rfl)
        refine Eq.trans (rn_go 1 (pc' := 89) (L' := [.ref a0, .long j1, am_un, am_un, .int x4]) (st' := [.int x_7.toInt8.toInt32, .int x_5, .null]) rfl) ?_
        exact rn_z rfl rfl
      · refine Eq.trans (rn_go 1 (pc' := 79) (L' := [.ref a0, .long j1, am_un, am_un, .int x4]) (st' := [.ref a0, .ref b_4]) rfl) ?_
        refine Eq.trans (rn_gI (L' := [.ref a0, .long j1, am_un, am_un, .int x4]) rfl rfl rfl rfl) ?_
        refine eI_c (fun x_8 => ?_)
        refine Eq.trans (rn_go 2 (pc' := 85) (L' := [.ref a0, .long j1, am_un, am_un, .int x4]) (st' := [.int x4, .long j1, .int x_8, .ref b_4]) rfl) ?_
        refine Eq.trans (rn_sta (L' := [.ref a0, .long j1, am_un, am_un, .int x4]) (as := [.long j1, .int x4]) (rest := [.int x_8, .ref b_4]) rfl rfl rfl rfl rfl (Nat.le_of_ble_eq_true rfl) (by decide) rfl) ?_
        refine Eq.trans (cW_I rfl rfl rfl) ?_
        refine cI_c (fun x_10 s_9 => ?_) (xh_nil rfl)
        refine Eq.trans (rn_go 1 (pc' := 89) (L' := [.ref a0, .long j1, am_un, am_un, .int x4]) (st' := [.int x_10.toInt8.toInt32, .int x_8, .ref b_4]) rfl) ?_
        refine Eq.trans (rn_wB (L' := [.ref a0, .long j1, am_un, am_un, .int x4]) rfl rfl) ?_
        refine eS_c (fun s_11 => ?_)
        refine Eq.trans (rn_go 2 (pc' := 92) (L' := [.ref a0, .long j1, am_un, am_un, .int x4]) (st' := [.ref a0, .ref a0]) rfl) ?_
        refine Eq.trans (rn_gI (L' := [.ref a0, .long j1, am_un, am_un, .int x4]) rfl rfl rfl rfl) ?_
        refine eI_c (fun x_12 => ?_)
        refine Eq.trans (rn_go 2 (pc' := 97) (L' := [.ref a0, .long j1, am_un, am_un, .int x4]) (st' := [.int (x_12 + (1 : Int32)), .ref a0]) rfl) ?_
        refine Eq.trans (rn_pF (L' := [.ref a0, .long j1, am_un, am_un, .int x4]) rfl rfl) ?_
        refine eS_c (fun s_13 => ?_)
        rfl
theorem dc_X13_append_100 {B : Nat} (a0 : Nat) (j1 : Int64) (x4 : Int32) (s : am_S) : rn_ tb_ct tb_mt B mm_X13_append 100 [.ref a0, .long j1, am_un, am_un, .int x4] [] s = rn_ tb_ct tb_mt B mm_X13_append 58 [.ref a0, .long j1, am_un, am_un, .int (x4 + (1 : Int32))] [] s := by
  exact rn_go 2 (pc' := 58) (L' := [.ref a0, .long j1, am_un, am_un, .int (x4 + (1 : Int32))]) (st' := []) rfl
theorem in_X13_here {B : Nat} (a0 : Nat) (s : am_S) : cl_ tb_ct tb_mt B K_X13_here [.ref a0] s = rn_ tb_ct tb_mt B mm_X13_here 0 [.ref a0] [] s := cl_in rfl rfl rfl rfl
theorem dc_X13_here_0 {B : Nat} (a0 : Nat) (s : am_S) : rn_ tb_ct tb_mt B mm_X13_here 0 [.ref a0] [] s = eI (gI tb_ct s a0 11 10) (fun x_1 => eI (gI tb_ct s a0 11 9) (fun x_2 => if x_2 ≤ x_1 then some (.inl (some (.int (-(1 : Int32)))), s) else eA (gA tb_ct s a0 11 8) (eI (gI tb_ct s a0 11 10) (fun x_4 => none)) (fun b_3 => eI (gI tb_ct s a0 11 10) (fun x_5 => eI (aB s b_3 x_5) (fun x_6 => some (.inl (some (.int (x_6 &&& (255 : Int32)))), s)))))) := by
  refine Eq.trans (rn_go 1 (pc' := 1) (L' := [.ref a0]) (st' := [.ref a0]) rfl) ?_
  refine Eq.trans (rn_gI (L' := [.ref a0]) rfl rfl rfl rfl) ?_
  refine eI_c (fun x_1 => ?_)
  refine Eq.trans (rn_go 1 (pc' := 5) (L' := [.ref a0]) (st' := [.ref a0, .int x_1]) rfl) ?_
  refine Eq.trans (rn_gI (L' := [.ref a0]) rfl rfl rfl rfl) ?_
  refine eI_c (fun x_2 => ?_)
  refine Eq.trans (rn_icge (L' := [.ref a0]) rfl rfl) ?_
  refine if_c ?_ ?_
  · refine Eq.trans (rn_go 1 (pc' := 28) (L' := [.ref a0]) (st' := [.int (-(1 : Int32))]) rfl) ?_
    exact rn_retI rfl rfl rfl
  · refine Eq.trans (rn_go 1 (pc' := 12) (L' := [.ref a0]) (st' := [.ref a0]) rfl) ?_
    refine Eq.trans (rn_gA (L' := [.ref a0]) rfl rfl rfl rfl) ?_
    refine eA_c ?_ (fun b_3 => ?_)
    · refine Eq.trans (rn_go 1 (pc' := 16) (L' := [.ref a0]) (st' := [.ref a0, .null]) rfl) ?_
      refine Eq.trans (rn_gI (L' := [.ref a0]) rfl rfl rfl rfl) ?_
      refine eI_c (fun x_4 => ?_)
      exact rn_z rfl rfl
    · refine Eq.trans (rn_go 1 (pc' := 16) (L' := [.ref a0]) (st' := [.ref a0, .ref b_3]) rfl) ?_
      refine Eq.trans (rn_gI (L' := [.ref a0]) rfl rfl rfl rfl) ?_
      refine eI_c (fun x_5 => ?_)
      refine Eq.trans (rn_aB (L' := [.ref a0]) rfl rfl) ?_
      refine eI_c (fun x_6 => ?_)
      refine Eq.trans (rn_go 3 (pc' := 28) (L' := [.ref a0]) (st' := [.int (x_6 &&& (255 : Int32))]) rfl) ?_
      exact rn_retI rfl rfl rfl
theorem in_X13_next {B : Nat} (a0 : Nat) (s : am_S) : cl_ tb_ct tb_mt B K_X13_next [.ref a0] s = rn_ tb_ct tb_mt B mm_X13_next 0 [.ref a0] [] s := cl_in rfl rfl rfl rfl
theorem dc_X13_next_0 {B : Nat} (a0 : Nat) (s : am_S) : rn_ tb_ct tb_mt B mm_X13_next 0 [.ref a0] [] s = eC (am_cls s a0) 11 (cI (cl_ tb_ct tb_mt B K_X13_here [.ref a0] s) (fun x_2 s_1 => if x_2 = (32 : Int32) then eI (gI tb_ct s_1 a0 11 10) (fun x_3 => eS (am_put tb_ct mm_X13_next B s_1 (.int (x_3 + (1 : Int32))) a0 11 10) (fun s_4 => rn_ tb_ct tb_mt B mm_X13_next 0 [.ref a0] [] s_4)) else eI (gI tb_ct s_1 a0 11 10) (fun x_5 => eS (am_put tb_ct mm_X13_next B s_1 (.int x_5) a0 11 11) (fun s_6 => eC (am_cls s_6 a0) 11 (cI (cl_ tb_ct tb_mt B K_X13_here [.ref a0] s_6) (fun x_8 s_7 => some (.inl (some (.int x_8)), s_7)) xo)))) xo) := by
  refine Eq.trans (rn_go 1 (pc' := 1) (L' := [.ref a0]) (st' := [.ref a0]) rfl) ?_
  refine Eq.trans (rn_vir (L' := [.ref a0]) (as := []) (rest := []) rfl rfl rfl rfl rfl (Nat.le_of_ble_eq_true rfl) (by decide) (by decide)) ?_
  refine eC_c ?_
  refine Eq.trans (cW_I rfl rfl rfl) ?_
  refine cI_c (fun x_2 s_1 => ?_) (xh_nil rfl)
  refine Eq.trans (rn_go 1 (pc' := 6) (L' := [.ref a0]) (st' := [.int (32 : Int32), .int x_2]) rfl) ?_
  refine Eq.trans (rn_icne (L' := [.ref a0]) rfl rfl) ?_
  refine if_c ?_ ?_
  · refine Eq.trans (rn_go 2 (pc' := 11) (L' := [.ref a0]) (st' := [.ref a0, .ref a0]) rfl) ?_
    refine Eq.trans (rn_gI (L' := [.ref a0]) rfl rfl rfl rfl) ?_
    refine eI_c (fun x_3 => ?_)
    refine Eq.trans (rn_go 2 (pc' := 16) (L' := [.ref a0]) (st' := [.int (x_3 + (1 : Int32)), .ref a0]) rfl) ?_
    refine Eq.trans (rn_pF (L' := [.ref a0]) rfl rfl) ?_
    refine eS_c (fun s_4 => ?_)
    exact rn_go 1 (pc' := 0) (L' := [.ref a0]) (st' := []) rfl
  · refine Eq.trans (rn_go 2 (pc' := 24) (L' := [.ref a0]) (st' := [.ref a0, .ref a0]) rfl) ?_
    refine Eq.trans (rn_gI (L' := [.ref a0]) rfl rfl rfl rfl) ?_
    refine eI_c (fun x_5 => ?_)
    refine Eq.trans (rn_pF (L' := [.ref a0]) rfl rfl) ?_
    refine eS_c (fun s_6 => ?_)
    refine Eq.trans (rn_go 1 (pc' := 31) (L' := [.ref a0]) (st' := [.ref a0]) rfl) ?_
    refine Eq.trans (rn_vir (L' := [.ref a0]) (as := []) (rest := []) rfl rfl rfl rfl rfl (Nat.le_of_ble_eq_true rfl) (by decide) (by decide)) ?_
    refine eC_c ?_
    refine Eq.trans (cW_I rfl rfl rfl) ?_
    refine cI_c (fun x_8 s_7 => ?_) (xh_nil rfl)
    exact rn_retI rfl rfl rfl
theorem in_X13_fails {B : Nat} (a0 : Nat) (x1 : Int32) (s : am_S) : cl_ tb_ct tb_mt B K_X13_fails [.ref a0, .int x1] s = rn_ tb_ct tb_mt B mm_X13_fails 0 [.ref a0, .int x1] [] s := cl_in rfl rfl rfl rfl
theorem dc_X13_fails_0 {B : Nat} (a0 : Nat) (x1 : Int32) (s : am_S) : rn_ tb_ct tb_mt B mm_X13_fails 0 [.ref a0, .int x1] [] s = eI (gI tb_ct s a0 11 12) (fun x_1 => if x_1 = 0 then eS (am_put tb_ct mm_X13_fails B s (.int x1) a0 11 12) (fun s_2 => eI (gI tb_ct s_2 a0 11 11) (fun x_3 => eS (am_put tb_ct mm_X13_fails B s_2 (.int x_3) a0 11 13) (fun s_4 => some (.inl none, s_4)))) else some (.inl none, s)) := by
  refine Eq.trans (rn_go 1 (pc' := 1) (L' := [.ref a0, .int x1]) (st' := [.ref a0]) rfl) ?_
  refine Eq.trans (rn_gI (L' := [.ref a0, .int x1]) rfl rfl rfl rfl) ?_
  refine eI_c (fun x_1 => ?_)
  refine Eq.trans (rn_ifne (L' := [.ref a0, .int x1]) rfl rfl) ?_
  refine if_c ?_ ?_
  · refine Eq.trans (rn_go 2 (pc' := 9) (L' := [.ref a0, .int x1]) (st' := [.int x1, .ref a0]) rfl) ?_
    refine Eq.trans (rn_pF (L' := [.ref a0, .int x1]) rfl rfl) ?_
    refine eS_c (fun s_2 => ?_)
    refine Eq.trans (rn_go 2 (pc' := 14) (L' := [.ref a0, .int x1]) (st' := [.ref a0, .ref a0]) rfl) ?_
    refine Eq.trans (rn_gI (L' := [.ref a0, .int x1]) rfl rfl rfl rfl) ?_
    refine eI_c (fun x_3 => ?_)
    refine Eq.trans (rn_pF (L' := [.ref a0, .int x1]) rfl rfl) ?_
    refine eS_c (fun s_4 => ?_)
    exact rn_retV rfl rfl
  · exact rn_retV rfl rfl
theorem in_X13_reads {B : Nat} (a0 : Nat) (s : am_S) : cl_ tb_ct tb_mt B K_X13_reads [.ref a0] s = rn_ tb_ct tb_mt B mm_X13_reads 0 [.ref a0] [] s := cl_in rfl rfl rfl rfl
theorem dc_X13_reads_0 {B : Nat} (a0 : Nat) (s : am_S) : rn_ tb_ct tb_mt B mm_X13_reads 0 [.ref a0] [] s = eC (am_cls s a0) 11 (cI (cl_ tb_ct tb_mt B K_X13_next [.ref a0] s) (fun x_2 s_1 => rn_ tb_ct tb_mt B mm_X13_reads 5 [.ref a0] [] s_1) xo) := by
  refine Eq.trans (rn_go 1 (pc' := 1) (L' := [.ref a0]) (st' := [.ref a0]) rfl) ?_
  refine Eq.trans (rn_vir (L' := [.ref a0]) (as := []) (rest := []) rfl rfl rfl rfl rfl (Nat.le_of_ble_eq_true rfl) (by decide) (by decide)) ?_
  refine eC_c ?_
  refine Eq.trans (cW_I rfl rfl rfl) ?_
  refine cI_c (fun x_2 s_1 => ?_) (xh_nil rfl)
  exact rn_go 1 (pc' := 5) (L' := [.ref a0]) (st' := []) rfl
theorem dc_X13_reads_5 {B : Nat} (a0 : Nat) (s : am_S) : rn_ tb_ct tb_mt B mm_X13_reads 5 [.ref a0] [] s = eC (am_cls s a0) 11 (cI (cl_ tb_ct tb_mt B K_X13_here [.ref a0] s) (fun x_2 s_1 => cI (cl_ tb_ct tb_mt B K_X13_in [.long x_2.toInt64, .long (97 : Int64), .long (122 : Int64)] s_1) (fun x_4 s_3 => if x_4 = 0 then some (.inl none, s_3) else eI (gI tb_ct s_3 a0 11 10) (fun x_5 => eS (am_put tb_ct mm_X13_reads B s_3 (.int (x_5 + (1 : Int32))) a0 11 10) (fun s_6 => rn_ tb_ct tb_mt B mm_X13_reads 5 [.ref a0] [] s_6))) xo) xo) := by
  refine Eq.trans (rn_go 1 (pc' := 6) (L' := [.ref a0]) (st' := [.ref a0]) rfl) ?_
  refine Eq.trans (rn_vir (L' := [.ref a0]) (as := []) (rest := []) rfl rfl rfl rfl rfl (Nat.le_of_ble_eq_true rfl) (by decide) (by decide)) ?_
  refine eC_c ?_
  refine Eq.trans (cW_I rfl rfl rfl) ?_
  refine cI_c (fun x_2 s_1 => ?_) (xh_nil rfl)
  refine Eq.trans (rn_go 3 (pc' := 16) (L' := [.ref a0]) (st' := [.long (122 : Int64), .long (97 : Int64), .long x_2.toInt64]) rfl) ?_
  refine Eq.trans (rn_sta (L' := [.ref a0]) (as := [.long x_2.toInt64, .long (97 : Int64), .long (122 : Int64)]) (rest := []) rfl rfl rfl rfl rfl (Nat.le_of_ble_eq_true rfl) (by decide) rfl) ?_
  refine Eq.trans (cW_I rfl rfl rfl) ?_
  refine cI_c (fun x_4 s_3 => ?_) (xh_nil rfl)
  refine Eq.trans (rn_ifeq (L' := [.ref a0]) rfl rfl) ?_
  refine if_c ?_ ?_
  · exact rn_retV rfl rfl
  · refine Eq.trans (rn_go 2 (pc' := 24) (L' := [.ref a0]) (st' := [.ref a0, .ref a0]) rfl) ?_
    refine Eq.trans (rn_gI (L' := [.ref a0]) rfl rfl rfl rfl) ?_
    refine eI_c (fun x_5 => ?_)
    refine Eq.trans (rn_go 2 (pc' := 29) (L' := [.ref a0]) (st' := [.int (x_5 + (1 : Int32)), .ref a0]) rfl) ?_
    refine Eq.trans (rn_pF (L' := [.ref a0]) rfl rfl) ?_
    refine eS_c (fun s_6 => ?_)
    exact rn_go 1 (pc' := 5) (L' := [.ref a0]) (st' := []) rfl
theorem in_X13_isWord {B : Nat} (a0 : Nat) (a1 : Nat) (s : am_S) : cl_ tb_ct tb_mt B K_X13_isWord [.ref a0, .ref a1] s = rn_ tb_ct tb_mt B mm_X13_isWord 0 [.ref a0, .ref a1, am_un, am_un] [] s := cl_in rfl rfl rfl rfl
theorem dc_X13_isWord_0 {B : Nat} (a0 : Nat) (a1 : Nat) (s : am_S) : rn_ tb_ct tb_mt B mm_X13_isWord 0 [.ref a0, .ref a1, am_un, am_un] [] s = eI (gI tb_ct s a0 11 10) (fun x_1 => eI (gI tb_ct s a0 11 11) (fun x_2 => eC (am_cls s a1) 13 (cI (cl_ tb_ct tb_mt B K_J0_length_8abf5 [.ref a1] s) (fun x_4 s_3 => if (x_1 - x_2) = x_4 then rn_ tb_ct tb_mt B mm_X13_isWord 21 [.ref a0, .ref a1, am_un, am_un] [.int (1 : Int32)] s_3 else rn_ tb_ct tb_mt B mm_X13_isWord 21 [.ref a0, .ref a1, am_un, am_un] [.int (0 : Int32)] s_3) xo))) := by
  refine Eq.trans (rn_go 1 (pc' := 1) (L' := [.ref a0, .ref a1, am_un, am_un]) (st' := [.ref a0]) rfl) ?_
  refine Eq.trans (rn_gI (L' := [.ref a0, .ref a1, am_un, am_un]) rfl rfl rfl rfl) ?_
  refine eI_c (fun x_1 => ?_)
  refine Eq.trans (rn_go 1 (pc' := 5) (L' := [.ref a0, .ref a1, am_un, am_un]) (st' := [.ref a0, .int x_1]) rfl) ?_
  refine Eq.trans (rn_gI (L' := [.ref a0, .ref a1, am_un, am_un]) rfl rfl rfl rfl) ?_
  refine eI_c (fun x_2 => ?_)
  refine Eq.trans (rn_go 2 (pc' := 10) (L' := [.ref a0, .ref a1, am_un, am_un]) (st' := [.ref a1, .int (x_1 - x_2)]) rfl) ?_
  refine Eq.trans (rn_vir (L' := [.ref a0, .ref a1, am_un, am_un]) (as := []) (rest := [.int (x_1 - x_2)]) rfl rfl rfl rfl rfl (Nat.le_of_ble_eq_true rfl) (by decide) (by decide)) ?_
  refine eC_c ?_
  refine Eq.trans (cW_I rfl rfl rfl) ?_
  refine cI_c (fun x_4 s_3 => ?_) (xh_nil rfl)
  refine Eq.trans (rn_icne (L' := [.ref a0, .ref a1, am_un, am_un]) rfl rfl) ?_
  refine if_c ?_ ?_
  · exact rn_go 2 (pc' := 21) (L' := [.ref a0, .ref a1, am_un, am_un]) (st' := [.int (1 : Int32)]) rfl
  · exact rn_go 1 (pc' := 21) (L' := [.ref a0, .ref a1, am_un, am_un]) (st' := [.int (0 : Int32)]) rfl
theorem dc_X13_isWord_21 {B : Nat} (a0 : Nat) (a1 : Nat) (xs0 : Int32) (s : am_S) : rn_ tb_ct tb_mt B mm_X13_isWord 21 [.ref a0, .ref a1, am_un, am_un] [.int xs0] s = rn_ tb_ct tb_mt B mm_X13_isWord 24 [.ref a0, .ref a1, .int xs0, .int (0 : Int32)] [] s := by
  exact rn_go 3 (pc' := 24) (L' := [.ref a0, .ref a1, .int xs0, .int (0 : Int32)]) (st' := []) rfl
theorem dc_X13_isWord_24 {B : Nat} (a0 : Nat) (a1 : Nat) (x2 : Int32) (x3 : Int32) (s : am_S) : rn_ tb_ct tb_mt B mm_X13_isWord 24 [.ref a0, .ref a1, .int x2, .int x3] [] s = if x2 = 0 then rtI .boolean x2 s else eC (am_cls s a1) 13 (cI (cl_ tb_ct tb_mt B K_J0_length_8abf5 [.ref a1] s) (fun x_2 s_1 => if x_2 ≤ x3 then rtI .boolean x2 s_1 else eA (gA tb_ct s_1 a0 11 8) (eI (gI tb_ct s_1 a0 11 11) (fun x_4 => none)) (fun b_3 => eI (gI tb_ct s_1 a0 11 11) (fun x_5 => eI (aB s_1 b_3 (x_5 + x3)) (fun x_6 => eC (am_cls s_1 a1) 13 (cI (cl_ tb_ct tb_mt B K_J0_charAt_5068e [.ref a1, .int x3] s_1) (fun x_8 s_7 => if x_6 = x_8 then rn_ tb_ct tb_mt B mm_X13_isWord 60 [.ref a0, .ref a1, .int x2, .int x3] [.int (1 : Int32)] s_7 else rn_ tb_ct tb_mt B mm_X13_isWord 60 [.ref a0, .ref a1, .int x2, .int x3] [.int (0 : Int32)] s_7) xo))))) xo) := by
  refine Eq.trans (rn_go 1 (pc' := 25) (L' := [.ref a0, .ref a1, .int x2, .int x3]) (st' := [.int x2]) rfl) ?_
  refine Eq.trans (rn_ifeq (L' := [.ref a0, .ref a1, .int x2, .int x3]) rfl rfl) ?_
  refine if_c ?_ ?_
  · refine Eq.trans (rn_go 1 (pc' := 68) (L' := [.ref a0, .ref a1, .int x2, .int x3]) (st' := [.int x2]) rfl) ?_
    exact rn_rtI rfl rfl
  · refine Eq.trans (rn_go 2 (pc' := 30) (L' := [.ref a0, .ref a1, .int x2, .int x3]) (st' := [.ref a1, .int x3]) rfl) ?_
    refine Eq.trans (rn_vir (L' := [.ref a0, .ref a1, .int x2, .int x3]) (as := []) (rest := [.int x3]) rfl rfl rfl rfl rfl (Nat.le_of_ble_eq_true rfl) (by decide) (by decide)) ?_
    refine eC_c ?_
    refine Eq.trans (cW_I rfl rfl rfl) ?_
    refine cI_c (fun x_2 s_1 => ?_) (xh_nil rfl)
    refine Eq.trans (rn_icge (L' := [.ref a0, .ref a1, .int x2, .int x3]) rfl rfl) ?_
    refine if_c ?_ ?_
    · refine Eq.trans (rn_go 1 (pc' := 68) (L' := [.ref a0, .ref a1, .int x2, .int x3]) (st' := [.int x2]) rfl) ?_
      exact rn_rtI rfl rfl
    · refine Eq.trans (rn_go 1 (pc' := 37) (L' := [.ref a0, .ref a1, .int x2, .int x3]) (st' := [.ref a0]) rfl) ?_
      refine Eq.trans (rn_gA (L' := [.ref a0, .ref a1, .int x2, .int x3]) rfl rfl rfl rfl) ?_
      refine eA_c ?_ (fun b_3 => ?_)
      · refine Eq.trans (rn_go 1 (pc' := 41) (L' := [.ref a0, .ref a1, .int x2, .int x3]) (st' := [.ref a0, .null]) rfl) ?_
        refine Eq.trans (rn_gI (L' := [.ref a0, .ref a1, .int x2, .int x3]) rfl rfl rfl rfl) ?_
        refine eI_c (fun x_4 => ?_)
        refine Eq.trans (rn_go 2 (pc' := 46) (L' := [.ref a0, .ref a1, .int x2, .int x3]) (st' := [.int (x_4 + x3), .null]) rfl) ?_
        exact rn_z rfl rfl
      · refine Eq.trans (rn_go 1 (pc' := 41) (L' := [.ref a0, .ref a1, .int x2, .int x3]) (st' := [.ref a0, .ref b_3]) rfl) ?_
        refine Eq.trans (rn_gI (L' := [.ref a0, .ref a1, .int x2, .int x3]) rfl rfl rfl rfl) ?_
        refine eI_c (fun x_5 => ?_)
        refine Eq.trans (rn_go 2 (pc' := 46) (L' := [.ref a0, .ref a1, .int x2, .int x3]) (st' := [.int (x_5 + x3), .ref b_3]) rfl) ?_
        refine Eq.trans (rn_aB (L' := [.ref a0, .ref a1, .int x2, .int x3]) rfl rfl) ?_
        refine eI_c (fun x_6 => ?_)
        refine Eq.trans (rn_go 2 (pc' := 49) (L' := [.ref a0, .ref a1, .int x2, .int x3]) (st' := [.int x3, .ref a1, .int x_6]) rfl) ?_
        refine Eq.trans (rn_vir (L' := [.ref a0, .ref a1, .int x2, .int x3]) (as := [.int x3]) (rest := [.int x_6]) rfl rfl rfl rfl rfl (Nat.le_of_ble_eq_true rfl) (by decide) (by decide)) ?_
        refine eC_c ?_
        refine Eq.trans (cW_I rfl rfl rfl) ?_
        refine cI_c (fun x_8 s_7 => ?_) (xh_nil rfl)
        refine Eq.trans (rn_icne (L' := [.ref a0, .ref a1, .int x2, .int x3]) rfl rfl) ?_
        refine if_c ?_ ?_
        · exact rn_go 2 (pc' := 60) (L' := [.ref a0, .ref a1, .int x2, .int x3]) (st' := [.int (1 : Int32)]) rfl
        · exact rn_go 1 (pc' := 60) (L' := [.ref a0, .ref a1, .int x2, .int x3]) (st' := [.int (0 : Int32)]) rfl
theorem dc_X13_isWord_60 {B : Nat} (a0 : Nat) (a1 : Nat) (w2 : Value) (x3 : Int32) (xs0 : Int32) (s : am_S) : rn_ tb_ct tb_mt B mm_X13_isWord 60 [.ref a0, .ref a1, w2, .int x3] [.int xs0] s = rn_ tb_ct tb_mt B mm_X13_isWord 24 [.ref a0, .ref a1, .int xs0, .int (x3 + (1 : Int32))] [] s := by
  exact rn_go 3 (pc' := 24) (L' := [.ref a0, .ref a1, .int xs0, .int (x3 + (1 : Int32))]) (st' := []) rfl
theorem in_X13_number {B : Nat} (a0 : Nat) (x1 : Int32) (x2 : Int32) (s : am_S) : cl_ tb_ct tb_mt B K_X13_number [.ref a0, .int x1, .int x2] s = rn_ tb_ct tb_mt B mm_X13_number 0 [.ref a0, .int x1, .int x2, am_un, am_un] [] s := cl_in rfl rfl rfl rfl
theorem dc_X13_number_0 {B : Nat} (a0 : Nat) (x1 : Int32) (x2 : Int32) (s : am_S) : rn_ tb_ct tb_mt B mm_X13_number 0 [.ref a0, .int x1, .int x2, am_un, am_un] [] s = eI (gI tb_ct s a0 11 12) (fun x_1 => if x_1 = 0 then eC (am_cls s a0) 11 (cI (cl_ tb_ct tb_mt B K_X13_next [.ref a0] s) (fun x_3 s_2 => if x_3 = (45 : Int32) then if 0 ≤ x1 then rn_ tb_ct tb_mt B mm_X13_number 26 [.ref a0, .int x1, .int x2, am_un, am_un] [] s_2 else rn_ tb_ct tb_mt B mm_X13_number 27 [.ref a0, .int x1, .int x2, am_un, am_un] [.int (1 : Int32)] s_2 else rn_ tb_ct tb_mt B mm_X13_number 26 [.ref a0, .int x1, .int x2, am_un, am_un] [] s_2) xo) else some (.inl (some (.int x1)), s)) := by
  refine Eq.trans (rn_go 1 (pc' := 1) (L' := [.ref a0, .int x1, .int x2, am_un, am_un]) (st' := [.ref a0]) rfl) ?_
  refine Eq.trans (rn_gI (L' := [.ref a0, .int x1, .int x2, am_un, am_un]) rfl rfl rfl rfl) ?_
  refine eI_c (fun x_1 => ?_)
  refine Eq.trans (rn_ifeq (L' := [.ref a0, .int x1, .int x2, am_un, am_un]) rfl rfl) ?_
  refine if_c ?_ ?_
  · refine Eq.trans (rn_go 1 (pc' := 10) (L' := [.ref a0, .int x1, .int x2, am_un, am_un]) (st' := [.ref a0]) rfl) ?_
    refine Eq.trans (rn_vir (L' := [.ref a0, .int x1, .int x2, am_un, am_un]) (as := []) (rest := []) rfl rfl rfl rfl rfl (Nat.le_of_ble_eq_true rfl) (by decide) (by decide)) ?_
    refine eC_c ?_
    refine Eq.trans (cW_I rfl rfl rfl) ?_
    refine cI_c (fun x_3 s_2 => ?_) (xh_nil rfl)
    refine Eq.trans (rn_go 1 (pc' := 15) (L' := [.ref a0, .int x1, .int x2, am_un, am_un]) (st' := [.int (45 : Int32), .int x_3]) rfl) ?_
    refine Eq.trans (rn_icne (L' := [.ref a0, .int x1, .int x2, am_un, am_un]) rfl rfl) ?_
    refine if_c ?_ ?_
    · refine Eq.trans (rn_go 1 (pc' := 19) (L' := [.ref a0, .int x1, .int x2, am_un, am_un]) (st' := [.int x1]) rfl) ?_
      refine Eq.trans (rn_ifge (L' := [.ref a0, .int x1, .int x2, am_un, am_un]) rfl rfl) ?_
      refine if_c ?_ ?_
      · rfl
      · exact rn_go 2 (pc' := 27) (L' := [.ref a0, .int x1, .int x2, am_un, am_un]) (st' := [.int (1 : Int32)]) rfl
    · rfl
  · refine Eq.trans (rn_go 1 (pc' := 8) (L' := [.ref a0, .int x1, .int x2, am_un, am_un]) (st' := [.int x1]) rfl) ?_
    exact rn_retI rfl rfl rfl
theorem dc_X13_number_26 {B : Nat} (a0 : Nat) (x1 : Int32) (x2 : Int32) (s : am_S) : rn_ tb_ct tb_mt B mm_X13_number 26 [.ref a0, .int x1, .int x2, am_un, am_un] [] s = rn_ tb_ct tb_mt B mm_X13_number 27 [.ref a0, .int x1, .int x2, am_un, am_un] [.int (0 : Int32)] s := by
  exact rn_go 1 (pc' := 27) (L' := [.ref a0, .int x1, .int x2, am_un, am_un]) (st' := [.int (0 : Int32)]) rfl
theorem dc_X13_number_27 {B : Nat} (a0 : Nat) (x1 : Int32) (x2 : Int32) (xs0 : Int32) (s : am_S) : rn_ tb_ct tb_mt B mm_X13_number 27 [.ref a0, .int x1, .int x2, am_un, am_un] [.int xs0] s = eI (gI tb_ct s a0 11 10) (fun x_1 => if xs0 = 0 then rn_ tb_ct tb_mt B mm_X13_number 42 [.ref a0, .int x1, .int x2, .int xs0, am_un] [.int (0 : Int32), .int x_1, .ref a0] s else rn_ tb_ct tb_mt B mm_X13_number 42 [.ref a0, .int x1, .int x2, .int xs0, am_un] [.int (1 : Int32), .int x_1, .ref a0] s) := by
  refine Eq.trans (rn_go 3 (pc' := 30) (L' := [.ref a0, .int x1, .int x2, .int xs0, am_un]) (st' := [.ref a0, .ref a0]) rfl) ?_
  refine Eq.trans (rn_gI (L' := [.ref a0, .int x1, .int x2, .int xs0, am_un]) rfl rfl rfl rfl) ?_
  refine eI_c (fun x_1 => ?_)
  refine Eq.trans (rn_go 1 (pc' := 34) (L' := [.ref a0, .int x1, .int x2, .int xs0, am_un]) (st' := [.int xs0, .int x_1, .ref a0]) rfl) ?_
  refine Eq.trans (rn_ifeq (L' := [.ref a0, .int x1, .int x2, .int xs0, am_un]) rfl rfl) ?_
  refine if_c ?_ ?_
  · exact rn_go 1 (pc' := 42) (L' := [.ref a0, .int x1, .int x2, .int xs0, am_un]) (st' := [.int (0 : Int32), .int x_1, .ref a0]) rfl
  · exact rn_go 2 (pc' := 42) (L' := [.ref a0, .int x1, .int x2, .int xs0, am_un]) (st' := [.int (1 : Int32), .int x_1, .ref a0]) rfl
theorem dc_X13_number_42 {B : Nat} (a0 : Nat) (x1 : Int32) (x2 : Int32) (x3 : Int32) (xs0 : Int32) (xs1 : Int32) (as2 : Nat) (s : am_S) : rn_ tb_ct tb_mt B mm_X13_number 42 [.ref a0, .int x1, .int x2, .int x3, am_un] [.int xs0, .int xs1, .ref as2] s = eS (am_put tb_ct mm_X13_number B s (.int (xs1 + xs0)) as2 11 10) (fun s_1 => eC (am_cls s_1 a0) 11 (cI (cl_ tb_ct tb_mt B K_X13_here [.ref a0] s_1) (fun x_3 s_2 => cI (cl_ tb_ct tb_mt B K_X13_in [.long x_3.toInt64, .long (48 : Int64), .long (57 : Int64)] s_2) (fun x_5 s_4 => if x_5 = 0 then eC (am_cls s_4 a0) 11 (cV (cl_ tb_ct tb_mt B K_X13_fails [.ref a0, .int (1 : Int32)] s_4) (fun s_6 => some (.inl (some (.int x1)), s_6)) xo) else rn_ tb_ct tb_mt B mm_X13_number 73 [.ref a0, .int x1, .int x2, .int x3, .int (0 : Int32)] [] s_4) xo) xo)) := by
  refine Eq.trans (rn_go 1 (pc' := 43) (L' := [.ref a0, .int x1, .int x2, .int x3, am_un]) (st' := [.int (xs1 + xs0), .ref as2]) rfl) ?_
  refine Eq.trans (rn_pF (L' := [.ref a0, .int x1, .int x2, .int x3, am_un]) rfl rfl) ?_
  refine eS_c (fun s_1 => ?_)
  refine Eq.trans (rn_go 1 (pc' := 47) (L' := [.ref a0, .int x1, .int x2, .int x3, am_un]) (st' := [.ref a0]) rfl) ?_
  refine Eq.trans (rn_vir (L' := [.ref a0, .int x1, .int x2, .int x3, am_un]) (as := []) (rest := []) rfl rfl rfl rfl rfl (Nat.le_of_ble_eq_true rfl) (by decide) (by decide)) ?_
  refine eC_c ?_
  refine Eq.trans (cW_I rfl rfl rfl) ?_
  refine cI_c (fun x_3 s_2 => ?_) (xh_nil rfl)
  refine Eq.trans (rn_go 3 (pc' := 57) (L' := [.ref a0, .int x1, .int x2, .int x3, am_un]) (st' := [.long (57 : Int64), .long (48 : Int64), .long x_3.toInt64]) rfl) ?_
  refine Eq.trans (rn_sta (L' := [.ref a0, .int x1, .int x2, .int x3, am_un]) (as := [.long x_3.toInt64, .long (48 : Int64), .long (57 : Int64)]) (rest := []) rfl rfl rfl rfl rfl (Nat.le_of_ble_eq_true rfl) (by decide) rfl) ?_
  refine Eq.trans (cW_I rfl rfl rfl) ?_
  refine cI_c (fun x_5 s_4 => ?_) (xh_nil rfl)
  refine Eq.trans (rn_ifne (L' := [.ref a0, .int x1, .int x2, .int x3, am_un]) rfl rfl) ?_
  refine if_c ?_ ?_
  · refine Eq.trans (rn_go 2 (pc' := 65) (L' := [.ref a0, .int x1, .int x2, .int x3, am_un]) (st' := [.int (1 : Int32), .ref a0]) rfl) ?_
    refine Eq.trans (rn_vir (L' := [.ref a0, .int x1, .int x2, .int x3, am_un]) (as := [.int (1 : Int32)]) (rest := []) rfl rfl rfl rfl rfl (Nat.le_of_ble_eq_true rfl) (by decide) (by decide)) ?_
    refine eC_c ?_
    refine Eq.trans (cW_V rfl rfl) ?_
    refine cV_c (fun s_6 => ?_) (xh_nil rfl)
    refine Eq.trans (rn_go 1 (pc' := 69) (L' := [.ref a0, .int x1, .int x2, .int x3, am_un]) (st' := [.int x1]) rfl) ?_
    exact rn_retI rfl rfl rfl
  · exact rn_go 2 (pc' := 73) (L' := [.ref a0, .int x1, .int x2, .int x3, .int (0 : Int32)]) (st' := []) rfl
theorem dc_X13_number_73 {B : Nat} (a0 : Nat) (x1 : Int32) (x2 : Int32) (x3 : Int32) (x4 : Int32) (s : am_S) : rn_ tb_ct tb_mt B mm_X13_number 73 [.ref a0, .int x1, .int x2, .int x3, .int x4] [] s = eC (am_cls s a0) 11 (cI (cl_ tb_ct tb_mt B K_X13_here [.ref a0] s) (fun x_2 s_1 => cI (cl_ tb_ct tb_mt B K_X13_in [.long x_2.toInt64, .long (48 : Int64), .long (57 : Int64)] s_1) (fun x_4 s_3 => if x_4 = 0 then if x3 = 0 then rn_ tb_ct tb_mt B mm_X13_number 135 [.ref a0, .int x1, .int x2, .int x3, .int x4] [.int x4] s_3 else rn_ tb_ct tb_mt B mm_X13_number 135 [.ref a0, .int x1, .int x2, .int x3, .int x4] [.int (-x4)] s_3 else eC (am_cls s_3 a0) 11 (cI (cl_ tb_ct tb_mt B K_X13_here [.ref a0] s_3) (fun x_6 s_5 => eI (gI tb_ct s_5 a0 11 10) (fun x_7 => eS (am_put tb_ct mm_X13_number B s_5 (.int (x_7 + (1 : Int32))) a0 11 10) (fun s_8 => rn_ tb_ct tb_mt B mm_X13_number 73 [.ref a0, .int x1, .int x2, .int x3, .int (if ((((10 : Int32) * x4) + x_6) - (48 : Int32)) < (100000000 : Int32) then ((((10 : Int32) * x4) + x_6) - (48 : Int32)) else (100000000 : Int32))] [] s_8))) xo)) xo) xo) := by
  refine Eq.trans (rn_go 1 (pc' := 74) (L' := [.ref a0, .int x1, .int x2, .int x3, .int x4]) (st' := [.ref a0]) rfl) ?_
  refine Eq.trans (rn_vir (L' := [.ref a0, .int x1, .int x2, .int x3, .int x4]) (as := []) (rest := []) rfl rfl rfl rfl rfl (Nat.le_of_ble_eq_true rfl) (by decide) (by decide)) ?_
  refine eC_c ?_
  refine Eq.trans (cW_I rfl rfl rfl) ?_
  refine cI_c (fun x_2 s_1 => ?_) (xh_nil rfl)
  refine Eq.trans (rn_go 3 (pc' := 84) (L' := [.ref a0, .int x1, .int x2, .int x3, .int x4]) (st' := [.long (57 : Int64), .long (48 : Int64), .long x_2.toInt64]) rfl) ?_
  refine Eq.trans (rn_sta (L' := [.ref a0, .int x1, .int x2, .int x3, .int x4]) (as := [.long x_2.toInt64, .long (48 : Int64), .long (57 : Int64)]) (rest := []) rfl rfl rfl rfl rfl (Nat.le_of_ble_eq_true rfl) (by decide) rfl) ?_
  refine Eq.trans (cW_I rfl rfl rfl) ?_
  refine cI_c (fun x_4 s_3 => ?_) (xh_nil rfl)
  refine Eq.trans (rn_ifeq (L' := [.ref a0, .int x1, .int x2, .int x3, .int x4]) rfl rfl) ?_
  refine if_c ?_ ?_
  · refine Eq.trans (rn_go 1 (pc' := 124) (L' := [.ref a0, .int x1, .int x2, .int x3, .int x4]) (st' := [.int x3]) rfl) ?_
    refine Eq.trans (rn_ifeq (L' := [.ref a0, .int x1, .int x2, .int x3, .int x4]) rfl rfl) ?_
    refine if_c ?_ ?_
    · exact rn_go 1 (pc' := 135) (L' := [.ref a0, .int x1, .int x2, .int x3, .int x4]) (st' := [.int x4]) rfl
    · exact rn_go 3 (pc' := 135) (L' := [.ref a0, .int x1, .int x2, .int x3, .int x4]) (st' := [.int (-x4)]) rfl
  · refine Eq.trans (rn_go 5 (pc' := 98) (L' := [.ref a0, .int x1, .int x2, .int x3, .int x4]) (st' := [.ref a0, .int ((10 : Int32) * x4), .int (100000000 : Int32)]) rfl) ?_
    refine Eq.trans (rn_vir (L' := [.ref a0, .int x1, .int x2, .int x3, .int x4]) (as := []) (rest := [.int ((10 : Int32) * x4), .int (100000000 : Int32)]) rfl rfl rfl rfl rfl (Nat.le_of_ble_eq_true rfl) (by decide) (by decide)) ?_
    refine eC_c ?_
    refine Eq.trans (cW_I rfl rfl rfl) ?_
    refine cI_c (fun x_6 s_5 => ?_) (xh_nil rfl)
    refine Eq.trans (rn_go 3 (pc' := 105) (L' := [.ref a0, .int x1, .int x2, .int x3, .int x4]) (st' := [.int ((((10 : Int32) * x4) + x_6) - (48 : Int32)), .int (100000000 : Int32)]) rfl) ?_
    refine Eq.trans (rn_min (L' := [.ref a0, .int x1, .int x2, .int x3, .int x4]) rfl rfl (Nat.le_of_ble_eq_true rfl)) ?_
    refine Eq.trans (rn_go 3 (pc' := 112) (L' := [.ref a0, .int x1, .int x2, .int x3, .int (if ((((10 : Int32) * x4) + x_6) - (48 : Int32)) < (100000000 : Int32) then ((((10 : Int32) * x4) + x_6) - (48 : Int32)) else (100000000 : Int32))]) (st' := [.ref a0, .ref a0]) rfl) ?_
    refine Eq.trans (rn_gI (L' := [.ref a0, .int x1, .int x2, .int x3, .int (if ((((10 : Int32) * x4) + x_6) - (48 : Int32)) < (100000000 : Int32) then ((((10 : Int32) * x4) + x_6) - (48 : Int32)) else (100000000 : Int32))]) rfl rfl rfl rfl) ?_
    refine eI_c (fun x_7 => ?_)
    refine Eq.trans (rn_go 2 (pc' := 117) (L' := [.ref a0, .int x1, .int x2, .int x3, .int (if ((((10 : Int32) * x4) + x_6) - (48 : Int32)) < (100000000 : Int32) then ((((10 : Int32) * x4) + x_6) - (48 : Int32)) else (100000000 : Int32))]) (st' := [.int (x_7 + (1 : Int32)), .ref a0]) rfl) ?_
    refine Eq.trans (rn_pF (L' := [.ref a0, .int x1, .int x2, .int x3, .int (if ((((10 : Int32) * x4) + x_6) - (48 : Int32)) < (100000000 : Int32) then ((((10 : Int32) * x4) + x_6) - (48 : Int32)) else (100000000 : Int32))]) rfl rfl) ?_
    refine eS_c (fun s_8 => ?_)
    exact rn_go 1 (pc' := 73) (L' := [.ref a0, .int x1, .int x2, .int x3, .int (if ((((10 : Int32) * x4) + x_6) - (48 : Int32)) < (100000000 : Int32) then ((((10 : Int32) * x4) + x_6) - (48 : Int32)) else (100000000 : Int32))]) (st' := []) rfl
theorem dc_X13_number_135 {B : Nat} (a0 : Nat) (x1 : Int32) (x2 : Int32) (w3 : Value) (w4 : Value) (xs0 : Int32) (s : am_S) : rn_ tb_ct tb_mt B mm_X13_number 135 [.ref a0, .int x1, .int x2, w3, w4] [.int xs0] s = cI (cl_ tb_ct tb_mt B K_X13_in [.long xs0.toInt64, .long x1.toInt64, .long x2.toInt64] s) (fun x_2 s_1 => if x_2 = 0 then eC (am_cls s_1 a0) 11 (cV (cl_ tb_ct tb_mt B K_X13_fails [.ref a0, .int (2 : Int32)] s_1) (fun s_3 => some (.inl (some (.int x1)), s_3)) xo) else some (.inl (some (.int xs0)), s_1)) xo := by
  refine Eq.trans (rn_go 7 (pc' := 144) (L' := [.ref a0, .int x1, .int x2, am_un, .int xs0]) (st' := [.long x2.toInt64, .long x1.toInt64, .long xs0.toInt64]) rfl) ?_
  refine Eq.trans (rn_sta (L' := [.ref a0, .int x1, .int x2, am_un, .int xs0]) (as := [.long xs0.toInt64, .long x1.toInt64, .long x2.toInt64]) (rest := []) rfl rfl rfl rfl rfl (Nat.le_of_ble_eq_true rfl) (by decide) rfl) ?_
  refine Eq.trans (cW_I rfl rfl rfl) ?_
  refine cI_c (fun x_2 s_1 => ?_) (xh_nil rfl)
  refine Eq.trans (rn_ifne (L' := [.ref a0, .int x1, .int x2, am_un, .int xs0]) rfl rfl) ?_
  refine if_c ?_ ?_
  · refine Eq.trans (rn_go 2 (pc' := 152) (L' := [.ref a0, .int x1, .int x2, am_un, .int xs0]) (st' := [.int (2 : Int32), .ref a0]) rfl) ?_
    refine Eq.trans (rn_vir (L' := [.ref a0, .int x1, .int x2, am_un, .int xs0]) (as := [.int (2 : Int32)]) (rest := []) rfl rfl rfl rfl rfl (Nat.le_of_ble_eq_true rfl) (by decide) (by decide)) ?_
    refine eC_c ?_
    refine Eq.trans (cW_V rfl rfl) ?_
    refine cV_c (fun s_3 => ?_) (xh_nil rfl)
    refine Eq.trans (rn_go 1 (pc' := 156) (L' := [.ref a0, .int x1, .int x2, am_un, .int xs0]) (st' := [.int x1]) rfl) ?_
    exact rn_retI rfl rfl rfl
  · refine Eq.trans (rn_go 1 (pc' := 159) (L' := [.ref a0, .int x1, .int x2, am_un, .int xs0]) (st' := [.int xs0]) rfl) ?_
    exact rn_retI rfl rfl rfl
theorem in_X13_isNumber {B : Nat} (a0 : Nat) (s : am_S) : cl_ tb_ct tb_mt B K_X13_isNumber [.ref a0] s = rn_ tb_ct tb_mt B mm_X13_isNumber 0 [.ref a0] [] s := cl_in rfl rfl rfl rfl
theorem dc_X13_isNumber_0 {B : Nat} (a0 : Nat) (s : am_S) : rn_ tb_ct tb_mt B mm_X13_isNumber 0 [.ref a0] [] s = eI (gI tb_ct s a0 11 12) (fun x_1 => if x_1 = 0 then eC (am_cls s a0) 11 (cI (cl_ tb_ct tb_mt B K_X13_next [.ref a0] s) (fun x_3 s_2 => cI (cl_ tb_ct tb_mt B K_X13_in [.long x_3.toInt64, .long (48 : Int64), .long (57 : Int64)] s_2) (fun x_5 s_4 => if x_5 = 0 then some (.inl (some (.int (0 : Int32))), s_4) else some (.inl (some (.int (1 : Int32))), s_4)) xo) xo) else some (.inl (some (.int (0 : Int32))), s)) := by
  refine Eq.trans (rn_go 1 (pc' := 1) (L' := [.ref a0]) (st' := [.ref a0]) rfl) ?_
  refine Eq.trans (rn_gI (L' := [.ref a0]) rfl rfl rfl rfl) ?_
  refine eI_c (fun x_1 => ?_)
  refine Eq.trans (rn_ifne (L' := [.ref a0]) rfl rfl) ?_
  refine if_c ?_ ?_
  · refine Eq.trans (rn_go 1 (pc' := 8) (L' := [.ref a0]) (st' := [.ref a0]) rfl) ?_
    refine Eq.trans (rn_vir (L' := [.ref a0]) (as := []) (rest := []) rfl rfl rfl rfl rfl (Nat.le_of_ble_eq_true rfl) (by decide) (by decide)) ?_
    refine eC_c ?_
    refine Eq.trans (cW_I rfl rfl rfl) ?_
    refine cI_c (fun x_3 s_2 => ?_) (xh_nil rfl)
    refine Eq.trans (rn_go 3 (pc' := 18) (L' := [.ref a0]) (st' := [.long (57 : Int64), .long (48 : Int64), .long x_3.toInt64]) rfl) ?_
    refine Eq.trans (rn_sta (L' := [.ref a0]) (as := [.long x_3.toInt64, .long (48 : Int64), .long (57 : Int64)]) (rest := []) rfl rfl rfl rfl rfl (Nat.le_of_ble_eq_true rfl) (by decide) rfl) ?_
    refine Eq.trans (cW_I rfl rfl rfl) ?_
    refine cI_c (fun x_5 s_4 => ?_) (xh_nil rfl)
    refine Eq.trans (rn_ifeq (L' := [.ref a0]) rfl rfl) ?_
    refine if_c ?_ ?_
    · refine Eq.trans (rn_go 1 (pc' := 29) (L' := [.ref a0]) (st' := [.int (0 : Int32)]) rfl) ?_
      exact rn_retI rfl rfl rfl
    · refine Eq.trans (rn_go 2 (pc' := 29) (L' := [.ref a0]) (st' := [.int (1 : Int32)]) rfl) ?_
      exact rn_retI rfl rfl rfl
  · refine Eq.trans (rn_go 1 (pc' := 29) (L' := [.ref a0]) (st' := [.int (0 : Int32)]) rfl) ?_
    exact rn_retI rfl rfl rfl
theorem in_X13_told {B : Nat} (a0 : Nat) (x1 : Int32) (x2 : Int32) (s : am_S) : cl_ tb_ct tb_mt B K_X13_told [.ref a0, .int x1, .int x2] s = rn_ tb_ct tb_mt B mm_X13_told 0 [.ref a0, .int x1, .int x2] [] s := cl_in rfl rfl rfl rfl
theorem dc_X13_told_0 {B : Nat} (a0 : Nat) (x1 : Int32) (x2 : Int32) (s : am_S) : rn_ tb_ct tb_mt B mm_X13_told 0 [.ref a0, .int x1, .int x2] [] s = eC (am_cls s a0) 11 (cI (cl_ tb_ct tb_mt B K_X13_isNumber [.ref a0] s) (fun x_2 s_1 => if x_2 = 0 then some (.inl (some (.int x1)), s_1) else eC (am_cls s_1 a0) 11 (cI (cl_ tb_ct tb_mt B K_X13_number [.ref a0, .int (0 : Int32), .int x2] s_1) (fun x_4 s_3 => some (.inl (some (.int x_4)), s_3)) xo)) xo) := by
  refine Eq.trans (rn_go 1 (pc' := 1) (L' := [.ref a0, .int x1, .int x2]) (st' := [.ref a0]) rfl) ?_
  refine Eq.trans (rn_vir (L' := [.ref a0, .int x1, .int x2]) (as := []) (rest := []) rfl rfl rfl rfl rfl (Nat.le_of_ble_eq_true rfl) (by decide) (by decide)) ?_
  refine eC_c ?_
  refine Eq.trans (cW_I rfl rfl rfl) ?_
  refine cI_c (fun x_2 s_1 => ?_) (xh_nil rfl)
  refine Eq.trans (rn_ifeq (L' := [.ref a0, .int x1, .int x2]) rfl rfl) ?_
  refine if_c ?_ ?_
  · refine Eq.trans (rn_go 1 (pc' := 17) (L' := [.ref a0, .int x1, .int x2]) (st' := [.int x1]) rfl) ?_
    exact rn_retI rfl rfl rfl
  · refine Eq.trans (rn_go 3 (pc' := 10) (L' := [.ref a0, .int x1, .int x2]) (st' := [.int x2, .int (0 : Int32), .ref a0]) rfl) ?_
    refine Eq.trans (rn_vir (L' := [.ref a0, .int x1, .int x2]) (as := [.int (0 : Int32), .int x2]) (rest := []) rfl rfl rfl rfl rfl (Nat.le_of_ble_eq_true rfl) (by decide) (by decide)) ?_
    refine eC_c ?_
    refine Eq.trans (cW_I rfl rfl rfl) ?_
    refine cI_c (fun x_4 s_3 => ?_) (xh_nil rfl)
    refine Eq.trans (rn_go 1 (pc' := 17) (L' := [.ref a0, .int x1, .int x2]) (st' := [.int x_4]) rfl) ?_
    exact rn_retI rfl rfl rfl
theorem in_X13_putPart {B : Nat} (a0 : Nat) (s : am_S) : cl_ tb_ct tb_mt B K_X13_putPart [.ref a0] s = rn_ tb_ct tb_mt B mm_X13_putPart 0 [.ref a0, am_un, am_un, am_un] [] s := cl_in rfl rfl rfl rfl
theorem dc_X13_putPart_0 {B : Nat} (a0 : Nat) (s : am_S) : rn_ tb_ct tb_mt B mm_X13_putPart 0 [.ref a0, am_un, am_un, am_un] [] s = eC (am_cls s a0) 11 (cI (cl_ tb_ct tb_mt B K_X13_number [.ref a0, .int (0 : Int32), .int (999 : Int32)] s) (fun x_2 s_1 => eC (am_cls s_1 a0) 11 (cI (cl_ tb_ct tb_mt B K_X13_number [.ref a0, .int (-(1000000 : Int32)), .int (1000000 : Int32)] s_1) (fun x_4 s_3 => eC (am_cls s_3 a0) 11 (cI (cl_ tb_ct tb_mt B K_X13_told [.ref a0, .int (0 : Int32), .int (9999 : Int32)] s_3) (fun x_6 s_5 => eI (gI tb_ct s_5 a0 11 12) (fun x_7 => if x_7 = 0 then eC (am_cls s_5 a0) 11 (cI (cl_ tb_ct tb_mt B K_X13_put [.ref a0, .int x_2, .int x_4, .int x_6] s_5) (fun x_9 s_8 => some (.inl (some (.int x_9)), s_8)) xo) else some (.inl (some (.int (0 : Int32))), s_5))) xo)) xo)) xo) := by
  refine Eq.trans (rn_go 3 (pc' := 5) (L' := [.ref a0, am_un, am_un, am_un]) (st' := [.int (999 : Int32), .int (0 : Int32), .ref a0]) rfl) ?_
  refine Eq.trans (rn_vir (L' := [.ref a0, am_un, am_un, am_un]) (as := [.int (0 : Int32), .int (999 : Int32)]) (rest := []) rfl rfl rfl rfl rfl (Nat.le_of_ble_eq_true rfl) (by decide) (by decide)) ?_
  refine eC_c ?_
  refine Eq.trans (cW_I rfl rfl rfl) ?_
  refine cI_c (fun x_2 s_1 => ?_) (xh_nil rfl)
  refine Eq.trans (rn_go 4 (pc' := 14) (L' := [.ref a0, .int x_2, am_un, am_un]) (st' := [.int (1000000 : Int32), .int (-(1000000 : Int32)), .ref a0]) rfl) ?_
  refine Eq.trans (rn_vir (L' := [.ref a0, .int x_2, am_un, am_un]) (as := [.int (-(1000000 : Int32)), .int (1000000 : Int32)]) (rest := []) rfl rfl rfl rfl rfl (Nat.le_of_ble_eq_true rfl) (by decide) (by decide)) ?_
  refine eC_c ?_
  refine Eq.trans (cW_I rfl rfl rfl) ?_
  refine cI_c (fun x_4 s_3 => ?_) (xh_nil rfl)
  refine Eq.trans (rn_go 4 (pc' := 23) (L' := [.ref a0, .int x_2, .int x_4, am_un]) (st' := [.int (9999 : Int32), .int (0 : Int32), .ref a0]) rfl) ?_
  refine Eq.trans (rn_vir (L' := [.ref a0, .int x_2, .int x_4, am_un]) (as := [.int (0 : Int32), .int (9999 : Int32)]) (rest := []) rfl rfl rfl rfl rfl (Nat.le_of_ble_eq_true rfl) (by decide) (by decide)) ?_
  refine eC_c ?_
  refine Eq.trans (cW_I rfl rfl rfl) ?_
  refine cI_c (fun x_6 s_5 => ?_) (xh_nil rfl)
  refine Eq.trans (rn_go 2 (pc' := 28) (L' := [.ref a0, .int x_2, .int x_4, .int x_6]) (st' := [.ref a0]) rfl) ?_
  refine Eq.trans (rn_gI (L' := [.ref a0, .int x_2, .int x_4, .int x_6]) rfl rfl rfl rfl) ?_
  refine eI_c (fun x_7 => ?_)
  refine Eq.trans (rn_ifne (L' := [.ref a0, .int x_2, .int x_4, .int x_6]) rfl rfl) ?_
  refine if_c ?_ ?_
  · refine Eq.trans (rn_go 4 (pc' := 38) (L' := [.ref a0, .int x_2, .int x_4, .int x_6]) (st' := [.int x_6, .int x_4, .int x_2, .ref a0]) rfl) ?_
    refine Eq.trans (rn_vir (L' := [.ref a0, .int x_2, .int x_4, .int x_6]) (as := [.int x_2, .int x_4, .int x_6]) (rest := []) rfl rfl rfl rfl rfl (Nat.le_of_ble_eq_true rfl) (by decide) (by decide)) ?_
    refine eC_c ?_
    refine Eq.trans (cW_I rfl rfl rfl) ?_
    refine cI_c (fun x_9 s_8 => ?_) (xh_nil rfl)
    refine Eq.trans (rn_go 1 (pc' := 45) (L' := [.ref a0, .int x_2, .int x_4, .int x_6]) (st' := [.int x_9]) rfl) ?_
    exact rn_retI rfl rfl rfl
  · refine Eq.trans (rn_go 1 (pc' := 45) (L' := [.ref a0, .int x_2, .int x_4, .int x_6]) (st' := [.int (0 : Int32)]) rfl) ?_
    exact rn_retI rfl rfl rfl
theorem in_X13_deletePart {B : Nat} (a0 : Nat) (s : am_S) : cl_ tb_ct tb_mt B K_X13_deletePart [.ref a0] s = rn_ tb_ct tb_mt B mm_X13_deletePart 0 [.ref a0, am_un, am_un] [] s := cl_in rfl rfl rfl rfl
theorem dc_X13_deletePart_0 {B : Nat} (a0 : Nat) (s : am_S) : rn_ tb_ct tb_mt B mm_X13_deletePart 0 [.ref a0, am_un, am_un] [] s = eC (am_cls s a0) 11 (cI (cl_ tb_ct tb_mt B K_X13_number [.ref a0, .int (0 : Int32), .int (999 : Int32)] s) (fun x_2 s_1 => eC (am_cls s_1 a0) 11 (cI (cl_ tb_ct tb_mt B K_X13_isNumber [.ref a0] s_1) (fun x_4 s_3 => if x_4 = 0 then rn_ tb_ct tb_mt B mm_X13_deletePart 28 [.ref a0, .int x_2, am_un] [.int x_2] s_3 else eC (am_cls s_3 a0) 11 (cI (cl_ tb_ct tb_mt B K_X13_number [.ref a0, .int x_2, .int (999 : Int32)] s_3) (fun x_6 s_5 => rn_ tb_ct tb_mt B mm_X13_deletePart 28 [.ref a0, .int x_2, am_un] [.int x_6] s_5) xo)) xo)) xo) := by
  refine Eq.trans (rn_go 3 (pc' := 5) (L' := [.ref a0, am_un, am_un]) (st' := [.int (999 : Int32), .int (0 : Int32), .ref a0]) rfl) ?_
  refine Eq.trans (rn_vir (L' := [.ref a0, am_un, am_un]) (as := [.int (0 : Int32), .int (999 : Int32)]) (rest := []) rfl rfl rfl rfl rfl (Nat.le_of_ble_eq_true rfl) (by decide) (by decide)) ?_
  refine eC_c ?_
  refine Eq.trans (cW_I rfl rfl rfl) ?_
  refine cI_c (fun x_2 s_1 => ?_) (xh_nil rfl)
  refine Eq.trans (rn_go 2 (pc' := 10) (L' := [.ref a0, .int x_2, am_un]) (st' := [.ref a0]) rfl) ?_
  refine Eq.trans (rn_vir (L' := [.ref a0, .int x_2, am_un]) (as := []) (rest := []) rfl rfl rfl rfl rfl (Nat.le_of_ble_eq_true rfl) (by decide) (by decide)) ?_
  refine eC_c ?_
  refine Eq.trans (cW_I rfl rfl rfl) ?_
  refine cI_c (fun x_4 s_3 => ?_) (xh_nil rfl)
  refine Eq.trans (rn_ifeq (L' := [.ref a0, .int x_2, am_un]) rfl rfl) ?_
  refine if_c ?_ ?_
  · exact rn_go 1 (pc' := 28) (L' := [.ref a0, .int x_2, am_un]) (st' := [.int x_2]) rfl
  · refine Eq.trans (rn_go 3 (pc' := 21) (L' := [.ref a0, .int x_2, am_un]) (st' := [.int (999 : Int32), .int x_2, .ref a0]) rfl) ?_
    refine Eq.trans (rn_vir (L' := [.ref a0, .int x_2, am_un]) (as := [.int x_2, .int (999 : Int32)]) (rest := []) rfl rfl rfl rfl rfl (Nat.le_of_ble_eq_true rfl) (by decide) (by decide)) ?_
    refine eC_c ?_
    refine Eq.trans (cW_I rfl rfl rfl) ?_
    refine cI_c (fun x_6 s_5 => ?_) (xh_nil rfl)
    exact rn_go 1 (pc' := 28) (L' := [.ref a0, .int x_2, am_un]) (st' := [.int x_6]) rfl
theorem dc_X13_deletePart_28 {B : Nat} (a0 : Nat) (x1 : Int32) (xs0 : Int32) (s : am_S) : rn_ tb_ct tb_mt B mm_X13_deletePart 28 [.ref a0, .int x1, am_un] [.int xs0] s = eI (gI tb_ct s a0 11 12) (fun x_1 => if x_1 = 0 then eC (am_cls s a0) 11 (cI (cl_ tb_ct tb_mt B K_X13_delete [.ref a0, .int x1, .int xs0] s) (fun x_3 s_2 => some (.inl (some (.int x_3)), s_2)) xo) else some (.inl (some (.int (0 : Int32))), s)) := by
  refine Eq.trans (rn_go 2 (pc' := 30) (L' := [.ref a0, .int x1, .int xs0]) (st' := [.ref a0]) rfl) ?_
  refine Eq.trans (rn_gI (L' := [.ref a0, .int x1, .int xs0]) rfl rfl rfl rfl) ?_
  refine eI_c (fun x_1 => ?_)
  refine Eq.trans (rn_ifne (L' := [.ref a0, .int x1, .int xs0]) rfl rfl) ?_
  refine if_c ?_ ?_
  · refine Eq.trans (rn_go 3 (pc' := 39) (L' := [.ref a0, .int x1, .int xs0]) (st' := [.int xs0, .int x1, .ref a0]) rfl) ?_
    refine Eq.trans (rn_vir (L' := [.ref a0, .int x1, .int xs0]) (as := [.int x1, .int xs0]) (rest := []) rfl rfl rfl rfl rfl (Nat.le_of_ble_eq_true rfl) (by decide) (by decide)) ?_
    refine eC_c ?_
    refine Eq.trans (cW_I rfl rfl rfl) ?_
    refine cI_c (fun x_3 s_2 => ?_) (xh_nil rfl)
    refine Eq.trans (rn_go 1 (pc' := 46) (L' := [.ref a0, .int x1, .int xs0]) (st' := [.int x_3]) rfl) ?_
    exact rn_retI rfl rfl rfl
  · refine Eq.trans (rn_go 1 (pc' := 46) (L' := [.ref a0, .int x1, .int xs0]) (st' := [.int (0 : Int32)]) rfl) ?_
    exact rn_retI rfl rfl rfl
theorem in_X13_watchPart {B : Nat} (a0 : Nat) (s : am_S) : cl_ tb_ct tb_mt B K_X13_watchPart [.ref a0] s = rn_ tb_ct tb_mt B mm_X13_watchPart 0 [.ref a0, am_un, am_un, am_un] [] s := cl_in rfl rfl rfl rfl
theorem dc_X13_watchPart_0 {B : Nat} (a0 : Nat) (s : am_S) : rn_ tb_ct tb_mt B mm_X13_watchPart 0 [.ref a0, am_un, am_un, am_un] [] s = eC (am_cls s a0) 11 (cI (cl_ tb_ct tb_mt B K_X13_number [.ref a0, .int (0 : Int32), .int (999 : Int32)] s) (fun x_2 s_1 => eC (am_cls s_1 a0) 11 (cI (cl_ tb_ct tb_mt B K_X13_number [.ref a0, .int x_2, .int (999 : Int32)] s_1) (fun x_4 s_3 => eC (am_cls s_3 a0) 11 (cI (cl_ tb_ct tb_mt B K_X13_told [.ref a0, .int (0 : Int32), .int (9999 : Int32)] s_3) (fun x_6 s_5 => eI (gI tb_ct s_5 a0 11 12) (fun x_7 => if x_7 = 0 then eC (am_cls s_5 a0) 11 (cI (cl_ tb_ct tb_mt B K_X13_watch [.ref a0, .int x_2, .int x_4, .int x_6, .int (0 : Int32)] s_5) (fun x_9 s_8 => some (.inl (some (.int x_9)), s_8)) xo) else some (.inl (some (.int (0 : Int32))), s_5))) xo)) xo)) xo) := by
  refine Eq.trans (rn_go 3 (pc' := 5) (L' := [.ref a0, am_un, am_un, am_un]) (st' := [.int (999 : Int32), .int (0 : Int32), .ref a0]) rfl) ?_
  refine Eq.trans (rn_vir (L' := [.ref a0, am_un, am_un, am_un]) (as := [.int (0 : Int32), .int (999 : Int32)]) (rest := []) rfl rfl rfl rfl rfl (Nat.le_of_ble_eq_true rfl) (by decide) (by decide)) ?_
  refine eC_c ?_
  refine Eq.trans (cW_I rfl rfl rfl) ?_
  refine cI_c (fun x_2 s_1 => ?_) (xh_nil rfl)
  refine Eq.trans (rn_go 4 (pc' := 14) (L' := [.ref a0, .int x_2, am_un, am_un]) (st' := [.int (999 : Int32), .int x_2, .ref a0]) rfl) ?_
  refine Eq.trans (rn_vir (L' := [.ref a0, .int x_2, am_un, am_un]) (as := [.int x_2, .int (999 : Int32)]) (rest := []) rfl rfl rfl rfl rfl (Nat.le_of_ble_eq_true rfl) (by decide) (by decide)) ?_
  refine eC_c ?_
  refine Eq.trans (cW_I rfl rfl rfl) ?_
  refine cI_c (fun x_4 s_3 => ?_) (xh_nil rfl)
  refine Eq.trans (rn_go 4 (pc' := 23) (L' := [.ref a0, .int x_2, .int x_4, am_un]) (st' := [.int (9999 : Int32), .int (0 : Int32), .ref a0]) rfl) ?_
  refine Eq.trans (rn_vir (L' := [.ref a0, .int x_2, .int x_4, am_un]) (as := [.int (0 : Int32), .int (9999 : Int32)]) (rest := []) rfl rfl rfl rfl rfl (Nat.le_of_ble_eq_true rfl) (by decide) (by decide)) ?_
  refine eC_c ?_
  refine Eq.trans (cW_I rfl rfl rfl) ?_
  refine cI_c (fun x_6 s_5 => ?_) (xh_nil rfl)
  refine Eq.trans (rn_go 2 (pc' := 28) (L' := [.ref a0, .int x_2, .int x_4, .int x_6]) (st' := [.ref a0]) rfl) ?_
  refine Eq.trans (rn_gI (L' := [.ref a0, .int x_2, .int x_4, .int x_6]) rfl rfl rfl rfl) ?_
  refine eI_c (fun x_7 => ?_)
  refine Eq.trans (rn_ifne (L' := [.ref a0, .int x_2, .int x_4, .int x_6]) rfl rfl) ?_
  refine if_c ?_ ?_
  · refine Eq.trans (rn_go 5 (pc' := 39) (L' := [.ref a0, .int x_2, .int x_4, .int x_6]) (st' := [.int (0 : Int32), .int x_6, .int x_4, .int x_2, .ref a0]) rfl) ?_
    refine Eq.trans (rn_vir (L' := [.ref a0, .int x_2, .int x_4, .int x_6]) (as := [.int x_2, .int x_4, .int x_6, .int (0 : Int32)]) (rest := []) rfl rfl rfl rfl rfl (Nat.le_of_ble_eq_true rfl) (by decide) (by decide)) ?_
    refine eC_c ?_
    refine Eq.trans (cW_I rfl rfl rfl) ?_
    refine cI_c (fun x_9 s_8 => ?_) (xh_nil rfl)
    refine Eq.trans (rn_go 1 (pc' := 46) (L' := [.ref a0, .int x_2, .int x_4, .int x_6]) (st' := [.int x_9]) rfl) ?_
    exact rn_retI rfl rfl rfl
  · refine Eq.trans (rn_go 1 (pc' := 46) (L' := [.ref a0, .int x_2, .int x_4, .int x_6]) (st' := [.int (0 : Int32)]) rfl) ?_
    exact rn_retI rfl rfl rfl
theorem in_X13_attachPart {B : Nat} (a0 : Nat) (s : am_S) : cl_ tb_ct tb_mt B K_X13_attachPart [.ref a0] s = rn_ tb_ct tb_mt B mm_X13_attachPart 0 [.ref a0, am_un, am_un, am_un] [] s := cl_in rfl rfl rfl rfl
theorem dc_X13_attachPart_0 {B : Nat} (a0 : Nat) (s : am_S) : rn_ tb_ct tb_mt B mm_X13_attachPart 0 [.ref a0, am_un, am_un, am_un] [] s = eC (am_cls s a0) 11 (cI (cl_ tb_ct tb_mt B K_X13_number [.ref a0, .int (0 : Int32), .int (999 : Int32)] s) (fun x_2 s_1 => eC (am_cls s_1 a0) 11 (cI (cl_ tb_ct tb_mt B K_X13_number [.ref a0, .int (0 : Int32), .int (9999 : Int32)] s_1) (fun x_4 s_3 => eI (gI tb_ct s_3 a0 11 12) (fun x_5 => if x_5 = 0 then eC (am_cls s_3 a0) 11 (cI (cl_ tb_ct tb_mt B K_X13_attach [.ref a0, .int x_2, .int x_4] s_3) (fun x_7 s_6 => rn_ tb_ct tb_mt B mm_X13_attachPart 35 [.ref a0, .int x_2, .int x_4, am_un] [.int x_7] s_6) xo) else rn_ tb_ct tb_mt B mm_X13_attachPart 35 [.ref a0, .int x_2, .int x_4, am_un] [.int (0 : Int32)] s_3)) xo)) xo) := by
  refine Eq.trans (rn_go 3 (pc' := 5) (L' := [.ref a0, am_un, am_un, am_un]) (st' := [.int (999 : Int32), .int (0 : Int32), .ref a0]) rfl) ?_
  refine Eq.trans (rn_vir (L' := [.ref a0, am_un, am_un, am_un]) (as := [.int (0 : Int32), .int (999 : Int32)]) (rest := []) rfl rfl rfl rfl rfl (Nat.le_of_ble_eq_true rfl) (by decide) (by decide)) ?_
  refine eC_c ?_
  refine Eq.trans (cW_I rfl rfl rfl) ?_
  refine cI_c (fun x_2 s_1 => ?_) (xh_nil rfl)
  refine Eq.trans (rn_go 4 (pc' := 14) (L' := [.ref a0, .int x_2, am_un, am_un]) (st' := [.int (9999 : Int32), .int (0 : Int32), .ref a0]) rfl) ?_
  refine Eq.trans (rn_vir (L' := [.ref a0, .int x_2, am_un, am_un]) (as := [.int (0 : Int32), .int (9999 : Int32)]) (rest := []) rfl rfl rfl rfl rfl (Nat.le_of_ble_eq_true rfl) (by decide) (by decide)) ?_
  refine eC_c ?_
  refine Eq.trans (cW_I rfl rfl rfl) ?_
  refine cI_c (fun x_4 s_3 => ?_) (xh_nil rfl)
  refine Eq.trans (rn_go 2 (pc' := 19) (L' := [.ref a0, .int x_2, .int x_4, am_un]) (st' := [.ref a0]) rfl) ?_
  refine Eq.trans (rn_gI (L' := [.ref a0, .int x_2, .int x_4, am_un]) rfl rfl rfl rfl) ?_
  refine eI_c (fun x_5 => ?_)
  refine Eq.trans (rn_ifne (L' := [.ref a0, .int x_2, .int x_4, am_un]) rfl rfl) ?_
  refine if_c ?_ ?_
  · refine Eq.trans (rn_go 3 (pc' := 28) (L' := [.ref a0, .int x_2, .int x_4, am_un]) (st' := [.int x_4, .int x_2, .ref a0]) rfl) ?_
    refine Eq.trans (rn_vir (L' := [.ref a0, .int x_2, .int x_4, am_un]) (as := [.int x_2, .int x_4]) (rest := []) rfl rfl rfl rfl rfl (Nat.le_of_ble_eq_true rfl) (by decide) (by decide)) ?_
    refine eC_c ?_
    refine Eq.trans (cW_I rfl rfl rfl) ?_
    refine cI_c (fun x_7 s_6 => ?_) (xh_nil rfl)
    exact rn_go 1 (pc' := 35) (L' := [.ref a0, .int x_2, .int x_4, am_un]) (st' := [.int x_7]) rfl
  · exact rn_go 1 (pc' := 35) (L' := [.ref a0, .int x_2, .int x_4, am_un]) (st' := [.int (0 : Int32)]) rfl
theorem dc_X13_attachPart_35 {B : Nat} (w0 : Value) (w1 : Value) (w2 : Value) (xs0 : Int32) (s : am_S) : rn_ tb_ct tb_mt B mm_X13_attachPart 35 [w0, w1, w2, am_un] [.int xs0] s = if xs0 = (-(1 : Int32)) then some (.inl (some (.int (-(2 : Int32)))), s) else some (.inl (some (.int xs0)), s) := by
  refine Eq.trans (rn_go 3 (pc' := 38) (L' := [am_un, am_un, am_un, .int xs0]) (st' := [.int (-(1 : Int32)), .int xs0]) rfl) ?_
  refine Eq.trans (rn_icne (L' := [am_un, am_un, am_un, .int xs0]) rfl rfl) ?_
  refine if_c ?_ ?_
  · refine Eq.trans (rn_go 2 (pc' := 47) (L' := [am_un, am_un, am_un, .int xs0]) (st' := [.int (-(2 : Int32))]) rfl) ?_
    exact rn_retI rfl rfl rfl
  · refine Eq.trans (rn_go 1 (pc' := 47) (L' := [am_un, am_un, am_un, .int xs0]) (st' := [.int xs0]) rfl) ?_
    exact rn_retI rfl rfl rfl
theorem in_X13_otherPart {B : Nat} (a0 : Nat) (s : am_S) : cl_ tb_ct tb_mt B K_X13_otherPart [.ref a0] s = rn_ tb_ct tb_mt B mm_X13_otherPart 0 [.ref a0, am_un, am_un] [] s := cl_in rfl rfl rfl rfl
theorem dc_X13_otherPart_0 {B : Nat} (a0 : Nat) (s : am_S) : rn_ tb_ct tb_mt B mm_X13_otherPart 0 [.ref a0, am_un, am_un] [] s = eK (stR s 102) (fun b_1 => eC (am_cls s a0) 11 (cI (cl_ tb_ct tb_mt B K_X13_isWord [.ref a0, .ref b_1] s) (fun x_3 s_2 => if x_3 = 0 then eK (stR s_2 103) (fun b_4 => eC (am_cls s_2 a0) 11 (cI (cl_ tb_ct tb_mt B K_X13_isWord [.ref a0, .ref b_4] s_2) (fun x_6 s_5 => if x_6 = 0 then eK (stR s_5 104) (fun b_7 => eC (am_cls s_5 a0) 11 (cI (cl_ tb_ct tb_mt B K_X13_isWord [.ref a0, .ref b_7] s_5) (fun x_9 s_8 => if x_9 = 0 then eK (stR s_8 105) (fun b_10 => eC (am_cls s_8 a0) 11 (cI (cl_ tb_ct tb_mt B K_X13_isWord [.ref a0, .ref b_10] s_8) (fun x_12 s_11 => if x_12 = 0 then eK (stR s_11 106) (fun b_13 => eC (am_cls s_11 a0) 11 (cI (cl_ tb_ct tb_mt B K_X13_isWord [.ref a0, .ref b_13] s_11) (fun x_15 s_14 => if x_15 = 0 then eK (stR s_14 107) (fun b_16 => eC (am_cls s_14 a0) 11 (cI (cl_ tb_ct tb_mt B K_X13_isWord [.ref a0, .ref b_16] s_14) (fun x_18 s_17 => if x_18 = 0 then eC (am_cls s_17 a0) 11 (cV (cl_ tb_ct tb_mt B K_X13_fails [.ref a0, .int (1 : Int32)] s_17) (fun s_19 => rn_ tb_ct tb_mt B mm_X13_otherPart 165 [.ref a0, .int x_15, am_un] [] s_19) xo) else rn_ tb_ct tb_mt B mm_X13_otherPart 165 [.ref a0, .int x_15, am_un] [] s_17) xo)) else rn_ tb_ct tb_mt B mm_X13_otherPart 165 [.ref a0, .int x_15, am_un] [] s_14) xo)) else eC (am_cls s_11 a0) 11 (cI (cl_ tb_ct tb_mt B K_X13_number [.ref a0, .int (0 : Int32), .int (9999 : Int32)] s_11) (fun x_21 s_20 => eI (gI tb_ct s_20 a0 11 12) (fun x_22 => if x_22 = 0 then eC (am_cls s_20 a0) 11 (cI (cl_ tb_ct tb_mt B K_X13_revoke [.ref a0, .int x_21] s_20) (fun x_24 s_23 => some (.inl (some (.int x_24)), s_23)) xo) else some (.inl (some (.int (0 : Int32))), s_20))) xo)) xo)) else eC (am_cls s_8 a0) 11 (cI (cl_ tb_ct tb_mt B K_X13_number [.ref a0, .int (0 : Int32), .int (9999 : Int32)] s_8) (fun x_26 s_25 => eI (gI tb_ct s_25 a0 11 12) (fun x_27 => if x_27 = 0 then eC (am_cls s_25 a0) 11 (cI (cl_ tb_ct tb_mt B K_X13_keepAlive [.ref a0, .int x_26] s_25) (fun x_29 s_28 => some (.inl (some (.int x_29)), s_28)) xo) else some (.inl (some (.int (0 : Int32))), s_25))) xo)) xo)) else eC (am_cls s_5 a0) 11 (cI (cl_ tb_ct tb_mt B K_X13_number [.ref a0, .int (1 : Int32), .int (1000 : Int32)] s_5) (fun x_31 s_30 => eI (gI tb_ct s_30 a0 11 12) (fun x_32 => if x_32 = 0 then eC (am_cls s_30 a0) 11 (cI (cl_ tb_ct tb_mt B K_X13_tick [.ref a0, .int x_31] s_30) (fun x_34 s_33 => some (.inl (some (.int x_34)), s_33)) xo) else some (.inl (some (.int (0 : Int32))), s_30))) xo)) xo)) else eC (am_cls s_2 a0) 11 (cI (cl_ tb_ct tb_mt B K_X13_number [.ref a0, .int (1 : Int32), .int (1000 : Int32)] s_2) (fun x_36 s_35 => eI (gI tb_ct s_35 a0 11 12) (fun x_37 => if x_37 = 0 then eC (am_cls s_35 a0) 11 (cI (cl_ tb_ct tb_mt B K_X13_grant [.ref a0, .int x_36] s_35) (fun x_39 s_38 => some (.inl (some (.int x_39)), s_38)) xo) else some (.inl (some (.int (0 : Int32))), s_35))) xo)) xo)) := by
  refine Eq.trans (rn_go 1 (pc' := 1) (L' := [.ref a0, am_un, am_un]) (st' := [.ref a0]) rfl) ?_
  refine Eq.trans (rn_ldS (L' := [.ref a0, am_un, am_un]) rfl rfl) ?_
  refine eK_c (fun b_1 => ?_)
  refine Eq.trans (rn_vir (L' := [.ref a0, am_un, am_un]) (as := [.ref b_1]) (rest := []) rfl rfl rfl rfl rfl (Nat.le_of_ble_eq_true rfl) (by decide) (by decide)) ?_
  refine eC_c ?_
  refine Eq.trans (cW_I rfl rfl rfl) ?_
  refine cI_c (fun x_3 s_2 => ?_) (xh_nil rfl)
  refine Eq.trans (rn_ifeq (L' := [.ref a0, am_un, am_un]) rfl rfl) ?_
  refine if_c ?_ ?_
  · refine Eq.trans (rn_go 1 (pc' := 36) (L' := [.ref a0, am_un, am_un]) (st' := [.ref a0]) rfl) ?_
    refine Eq.trans (rn_ldS (L' := [.ref a0, am_un, am_un]) rfl rfl) ?_
    refine eK_c (fun b_4 => ?_)
    refine Eq.trans (rn_vir (L' := [.ref a0, am_un, am_un]) (as := [.ref b_4]) (rest := []) rfl rfl rfl rfl rfl (Nat.le_of_ble_eq_true rfl) (by decide) (by decide)) ?_
    refine eC_c ?_
    refine Eq.trans (cW_I rfl rfl rfl) ?_
    refine cI_c (fun x_6 s_5 => ?_) (xh_nil rfl)
    refine Eq.trans (rn_ifeq (L' := [.ref a0, am_un, am_un]) rfl rfl) ?_
    refine if_c ?_ ?_
    · refine Eq.trans (rn_go 1 (pc' := 71) (L' := [.ref a0, am_un, am_un]) (st' := [.ref a0]) rfl) ?_
      refine Eq.trans (rn_ldS (L' := [.ref a0, am_un, am_un]) rfl rfl) ?_
      refine eK_c (fun b_7 => ?_)
      refine Eq.trans (rn_vir (L' := [.ref a0, am_un, am_un]) (as := [.ref b_7]) (rest := []) rfl rfl rfl rfl rfl (Nat.le_of_ble_eq_true rfl) (by decide) (by decide)) ?_
      refine eC_c ?_
      refine Eq.trans (cW_I rfl rfl rfl) ?_
      refine cI_c (fun x_9 s_8 => ?_) (xh_nil rfl)
      refine Eq.trans (rn_ifeq (L' := [.ref a0, am_un, am_un]) rfl rfl) ?_
      refine if_c ?_ ?_
      · refine Eq.trans (rn_go 1 (pc' := 106) (L' := [.ref a0, am_un, am_un]) (st' := [.ref a0]) rfl) ?_
        refine Eq.trans (rn_ldS (L' := [.ref a0, am_un, am_un]) rfl rfl) ?_
        refine eK_c (fun b_10 => ?_)
        refine Eq.trans (rn_vir (L' := [.ref a0, am_un, am_un]) (as := [.ref b_10]) (rest := []) rfl rfl rfl rfl rfl (Nat.le_of_ble_eq_true rfl) (by decide) (by decide)) ?_
        refine eC_c ?_
        refine Eq.trans (cW_I rfl rfl rfl) ?_
        refine cI_c (fun x_12 s_11 => ?_) (xh_nil rfl)
        refine Eq.trans (rn_ifeq (L' := [.ref a0, am_un, am_un]) rfl rfl) ?_
        refine if_c ?_ ?_
        · refine Eq.trans (rn_go 1 (pc' := 141) (L' := [.ref a0, am_un, am_un]) (st' := [.ref a0]) rfl) ?_
          refine Eq.trans (rn_ldS (L' := [.ref a0, am_un, am_un]) rfl rfl) ?_
          refine eK_c (fun b_13 => ?_)
          refine Eq.trans (rn_vir (L' := [.ref a0, am_un, am_un]) (as := [.ref b_13]) (rest := []) rfl rfl rfl rfl rfl (Nat.le_of_ble_eq_true rfl) (by decide) (by decide)) ?_
          refine eC_c ?_
          refine Eq.trans (cW_I rfl rfl rfl) ?_
          refine cI_c (fun x_15 s_14 => ?_) (xh_nil rfl)
          refine Eq.trans (rn_go 2 (pc' := 148) (L' := [.ref a0, .int x_15, am_un]) (st' := [.int x_15]) rfl) ?_
          refine Eq.trans (rn_ifne (L' := [.ref a0, .int x_15, am_un]) rfl rfl) ?_
          refine if_c ?_ ?_
          · refine Eq.trans (rn_go 1 (pc' := 152) (L' := [.ref a0, .int x_15, am_un]) (st' := [.ref a0]) rfl) ?_
            refine Eq.trans (rn_ldS (L' := [.ref a0, .int x_15, am_un]) rfl rfl) ?_
            refine eK_c (fun b_16 => ?_)
            refine Eq.trans (rn_vir (L' := [.ref a0, .int x_15, am_un]) (as := [.ref b_16]) (rest := []) rfl rfl rfl rfl rfl (Nat.le_of_ble_eq_true rfl) (by decide) (by decide)) ?_
            refine eC_c ?_
            refine Eq.trans (cW_I rfl rfl rfl) ?_
            refine cI_c (fun x_18 s_17 => ?_) (xh_nil rfl)
            refine Eq.trans (rn_ifne (L' := [.ref a0, .int x_15, am_un]) rfl rfl) ?_
            refine if_c ?_ ?_
            · refine Eq.trans (rn_go 2 (pc' := 162) (L' := [.ref a0, .int x_15, am_un]) (st' := [.int (1 : Int32), .ref a0]) rfl) ?_
              refine Eq.trans (rn_vir (L' := [.ref a0, .int x_15, am_un]) (as := [.int (1 : Int32)]) (rest := []) rfl rfl rfl rfl rfl (Nat.le_of_ble_eq_true rfl) (by decide) (by decide)) ?_
              refine eC_c ?_
              refine Eq.trans (cW_V rfl rfl) ?_
              refine cV_c (fun s_19 => ?_) (xh_nil rfl)
              rfl
            · rfl
          · rfl
        · refine Eq.trans (rn_go 3 (pc' := 119) (L' := [.ref a0, am_un, am_un]) (st' := [.int (9999 : Int32), .int (0 : Int32), .ref a0]) rfl) ?_
          refine Eq.trans (rn_vir (L' := [.ref a0, am_un, am_un]) (as := [.int (0 : Int32), .int (9999 : Int32)]) (rest := []) rfl rfl rfl rfl rfl (Nat.le_of_ble_eq_true rfl) (by decide) (by decide)) ?_
          refine eC_c ?_
          refine Eq.trans (cW_I rfl rfl rfl) ?_
          refine cI_c (fun x_21 s_20 => ?_) (xh_nil rfl)
          refine Eq.trans (rn_go 2 (pc' := 124) (L' := [.ref a0, .int x_21, am_un]) (st' := [.ref a0]) rfl) ?_
          refine Eq.trans (rn_gI (L' := [.ref a0, .int x_21, am_un]) rfl rfl rfl rfl) ?_
          refine eI_c (fun x_22 => ?_)
          refine Eq.trans (rn_ifne (L' := [.ref a0, .int x_21, am_un]) rfl rfl) ?_
          refine if_c ?_ ?_
          · refine Eq.trans (rn_go 2 (pc' := 132) (L' := [.ref a0, .int x_21, am_un]) (st' := [.int x_21, .ref a0]) rfl) ?_
            refine Eq.trans (rn_vir (L' := [.ref a0, .int x_21, am_un]) (as := [.int x_21]) (rest := []) rfl rfl rfl rfl rfl (Nat.le_of_ble_eq_true rfl) (by decide) (by decide)) ?_
            refine eC_c ?_
            refine Eq.trans (cW_I rfl rfl rfl) ?_
            refine cI_c (fun x_24 s_23 => ?_) (xh_nil rfl)
            refine Eq.trans (rn_go 1 (pc' := 139) (L' := [.ref a0, .int x_21, am_un]) (st' := [.int x_24]) rfl) ?_
            exact rn_retI rfl rfl rfl
          · refine Eq.trans (rn_go 1 (pc' := 139) (L' := [.ref a0, .int x_21, am_un]) (st' := [.int (0 : Int32)]) rfl) ?_
            exact rn_retI rfl rfl rfl
      · refine Eq.trans (rn_go 3 (pc' := 84) (L' := [.ref a0, am_un, am_un]) (st' := [.int (9999 : Int32), .int (0 : Int32), .ref a0]) rfl) ?_
        refine Eq.trans (rn_vir (L' := [.ref a0, am_un, am_un]) (as := [.int (0 : Int32), .int (9999 : Int32)]) (rest := []) rfl rfl rfl rfl rfl (Nat.le_of_ble_eq_true rfl) (by decide) (by decide)) ?_
        refine eC_c ?_
        refine Eq.trans (cW_I rfl rfl rfl) ?_
        refine cI_c (fun x_26 s_25 => ?_) (xh_nil rfl)
        refine Eq.trans (rn_go 2 (pc' := 89) (L' := [.ref a0, .int x_26, am_un]) (st' := [.ref a0]) rfl) ?_
        refine Eq.trans (rn_gI (L' := [.ref a0, .int x_26, am_un]) rfl rfl rfl rfl) ?_
        refine eI_c (fun x_27 => ?_)
        refine Eq.trans (rn_ifne (L' := [.ref a0, .int x_26, am_un]) rfl rfl) ?_
        refine if_c ?_ ?_
        · refine Eq.trans (rn_go 2 (pc' := 97) (L' := [.ref a0, .int x_26, am_un]) (st' := [.int x_26, .ref a0]) rfl) ?_
          refine Eq.trans (rn_vir (L' := [.ref a0, .int x_26, am_un]) (as := [.int x_26]) (rest := []) rfl rfl rfl rfl rfl (Nat.le_of_ble_eq_true rfl) (by decide) (by decide)) ?_
          refine eC_c ?_
          refine Eq.trans (cW_I rfl rfl rfl) ?_
          refine cI_c (fun x_29 s_28 => ?_) (xh_nil rfl)
          refine Eq.trans (rn_go 1 (pc' := 104) (L' := [.ref a0, .int x_26, am_un]) (st' := [.int x_29]) rfl) ?_
          exact rn_retI rfl rfl rfl
        · refine Eq.trans (rn_go 1 (pc' := 104) (L' := [.ref a0, .int x_26, am_un]) (st' := [.int (0 : Int32)]) rfl) ?_
          exact rn_retI rfl rfl rfl
    · refine Eq.trans (rn_go 3 (pc' := 49) (L' := [.ref a0, am_un, am_un]) (st' := [.int (1000 : Int32), .int (1 : Int32), .ref a0]) rfl) ?_
      refine Eq.trans (rn_vir (L' := [.ref a0, am_un, am_un]) (as := [.int (1 : Int32), .int (1000 : Int32)]) (rest := []) rfl rfl rfl rfl rfl (Nat.le_of_ble_eq_true rfl) (by decide) (by decide)) ?_
      refine eC_c ?_
      refine Eq.trans (cW_I rfl rfl rfl) ?_
      refine cI_c (fun x_31 s_30 => ?_) (xh_nil rfl)
      refine Eq.trans (rn_go 2 (pc' := 54) (L' := [.ref a0, .int x_31, am_un]) (st' := [.ref a0]) rfl) ?_
      refine Eq.trans (rn_gI (L' := [.ref a0, .int x_31, am_un]) rfl rfl rfl rfl) ?_
      refine eI_c (fun x_32 => ?_)
      refine Eq.trans (rn_ifne (L' := [.ref a0, .int x_31, am_un]) rfl rfl) ?_
      refine if_c ?_ ?_
      · refine Eq.trans (rn_go 2 (pc' := 62) (L' := [.ref a0, .int x_31, am_un]) (st' := [.int x_31, .ref a0]) rfl) ?_
        refine Eq.trans (rn_vir (L' := [.ref a0, .int x_31, am_un]) (as := [.int x_31]) (rest := []) rfl rfl rfl rfl rfl (Nat.le_of_ble_eq_true rfl) (by decide) (by decide)) ?_
        refine eC_c ?_
        refine Eq.trans (cW_I rfl rfl rfl) ?_
        refine cI_c (fun x_34 s_33 => ?_) (xh_nil rfl)
        refine Eq.trans (rn_go 1 (pc' := 69) (L' := [.ref a0, .int x_31, am_un]) (st' := [.int x_34]) rfl) ?_
        exact rn_retI rfl rfl rfl
      · refine Eq.trans (rn_go 1 (pc' := 69) (L' := [.ref a0, .int x_31, am_un]) (st' := [.int (0 : Int32)]) rfl) ?_
        exact rn_retI rfl rfl rfl
  · refine Eq.trans (rn_go 3 (pc' := 14) (L' := [.ref a0, am_un, am_un]) (st' := [.int (1000 : Int32), .int (1 : Int32), .ref a0]) rfl) ?_
    refine Eq.trans (rn_vir (L' := [.ref a0, am_un, am_un]) (as := [.int (1 : Int32), .int (1000 : Int32)]) (rest := []) rfl rfl rfl rfl rfl (Nat.le_of_ble_eq_true rfl) (by decide) (by decide)) ?_
    refine eC_c ?_
    refine Eq.trans (cW_I rfl rfl rfl) ?_
    refine cI_c (fun x_36 s_35 => ?_) (xh_nil rfl)
    refine Eq.trans (rn_go 2 (pc' := 19) (L' := [.ref a0, .int x_36, am_un]) (st' := [.ref a0]) rfl) ?_
    refine Eq.trans (rn_gI (L' := [.ref a0, .int x_36, am_un]) rfl rfl rfl rfl) ?_
    refine eI_c (fun x_37 => ?_)
    refine Eq.trans (rn_ifne (L' := [.ref a0, .int x_36, am_un]) rfl rfl) ?_
    refine if_c ?_ ?_
    · refine Eq.trans (rn_go 2 (pc' := 27) (L' := [.ref a0, .int x_36, am_un]) (st' := [.int x_36, .ref a0]) rfl) ?_
      refine Eq.trans (rn_vir (L' := [.ref a0, .int x_36, am_un]) (as := [.int x_36]) (rest := []) rfl rfl rfl rfl rfl (Nat.le_of_ble_eq_true rfl) (by decide) (by decide)) ?_
      refine eC_c ?_
      refine Eq.trans (cW_I rfl rfl rfl) ?_
      refine cI_c (fun x_39 s_38 => ?_) (xh_nil rfl)
      refine Eq.trans (rn_go 1 (pc' := 34) (L' := [.ref a0, .int x_36, am_un]) (st' := [.int x_39]) rfl) ?_
      exact rn_retI rfl rfl rfl
    · refine Eq.trans (rn_go 1 (pc' := 34) (L' := [.ref a0, .int x_36, am_un]) (st' := [.int (0 : Int32)]) rfl) ?_
      exact rn_retI rfl rfl rfl
theorem dc_X13_otherPart_165 {B : Nat} (a0 : Nat) (x1 : Int32) (s : am_S) : rn_ tb_ct tb_mt B mm_X13_otherPart 165 [.ref a0, .int x1, am_un] [] s = eC (am_cls s a0) 11 (cI (cl_ tb_ct tb_mt B K_X13_number [.ref a0, .int (1 : Int32), .int (9999 : Int32)] s) (fun x_2 s_1 => eI (gI tb_ct s_1 a0 11 12) (fun x_3 => if x_3 = 0 then if x1 = 0 then eC (am_cls s_1 a0) 11 (cI (cl_ tb_ct tb_mt B K_X13_revert [.ref a0, .int x_2] s_1) (fun x_5 s_4 => some (.inl (some (.int x_5)), s_4)) xo) else eC (am_cls s_1 a0) 11 (cI (cl_ tb_ct tb_mt B K_X13_compact [.ref a0, .int x_2] s_1) (fun x_7 s_6 => some (.inl (some (.int x_7)), s_6)) xo) else some (.inl (some (.int (0 : Int32))), s_1))) xo) := by
  refine Eq.trans (rn_go 3 (pc' := 170) (L' := [.ref a0, .int x1, am_un]) (st' := [.int (9999 : Int32), .int (1 : Int32), .ref a0]) rfl) ?_
  refine Eq.trans (rn_vir (L' := [.ref a0, .int x1, am_un]) (as := [.int (1 : Int32), .int (9999 : Int32)]) (rest := []) rfl rfl rfl rfl rfl (Nat.le_of_ble_eq_true rfl) (by decide) (by decide)) ?_
  refine eC_c ?_
  refine Eq.trans (cW_I rfl rfl rfl) ?_
  refine cI_c (fun x_2 s_1 => ?_) (xh_nil rfl)
  refine Eq.trans (rn_go 2 (pc' := 175) (L' := [.ref a0, .int x1, .int x_2]) (st' := [.ref a0]) rfl) ?_
  refine Eq.trans (rn_gI (L' := [.ref a0, .int x1, .int x_2]) rfl rfl rfl rfl) ?_
  refine eI_c (fun x_3 => ?_)
  refine Eq.trans (rn_ifeq (L' := [.ref a0, .int x1, .int x_2]) rfl rfl) ?_
  refine if_c ?_ ?_
  · refine Eq.trans (rn_go 1 (pc' := 186) (L' := [.ref a0, .int x1, .int x_2]) (st' := [.int x1]) rfl) ?_
    refine Eq.trans (rn_ifeq (L' := [.ref a0, .int x1, .int x_2]) rfl rfl) ?_
    refine if_c ?_ ?_
    · refine Eq.trans (rn_go 2 (pc' := 199) (L' := [.ref a0, .int x1, .int x_2]) (st' := [.int x_2, .ref a0]) rfl) ?_
      refine Eq.trans (rn_vir (L' := [.ref a0, .int x1, .int x_2]) (as := [.int x_2]) (rest := []) rfl rfl rfl rfl rfl (Nat.le_of_ble_eq_true rfl) (by decide) (by decide)) ?_
      refine eC_c ?_
      refine Eq.trans (cW_I rfl rfl rfl) ?_
      refine cI_c (fun x_5 s_4 => ?_) (xh_nil rfl)
      exact rn_retI rfl rfl rfl
    · refine Eq.trans (rn_go 2 (pc' := 191) (L' := [.ref a0, .int x1, .int x_2]) (st' := [.int x_2, .ref a0]) rfl) ?_
      refine Eq.trans (rn_vir (L' := [.ref a0, .int x1, .int x_2]) (as := [.int x_2]) (rest := []) rfl rfl rfl rfl rfl (Nat.le_of_ble_eq_true rfl) (by decide) (by decide)) ?_
      refine eC_c ?_
      refine Eq.trans (cW_I rfl rfl rfl) ?_
      refine cI_c (fun x_7 s_6 => ?_) (xh_nil rfl)
      refine Eq.trans (rn_go 1 (pc' := 202) (L' := [.ref a0, .int x1, .int x_2]) (st' := [.int x_7]) rfl) ?_
      exact rn_retI rfl rfl rfl
  · refine Eq.trans (rn_go 2 (pc' := 202) (L' := [.ref a0, .int x1, .int x_2]) (st' := [.int (0 : Int32)]) rfl) ?_
    exact rn_retI rfl rfl rfl
theorem in_X13_isRefused {B : Nat} (x0 : Int32) (s : am_S) : cl_ tb_ct tb_mt B K_X13_isRefused [.int x0] s = rn_ tb_ct tb_mt B mm_X13_isRefused 0 [.int x0] [] s := cl_in rfl rfl rfl rfl
theorem dc_X13_isRefused_0 {B : Nat} (x0 : Int32) (s : am_S) : rn_ tb_ct tb_mt B mm_X13_isRefused 0 [.int x0] [] s = if x0 = (-(2 : Int32)) then rn_ tb_ct tb_mt B mm_X13_isRefused 24 [.int x0] [] s else if x0 = (-(3 : Int32)) then rn_ tb_ct tb_mt B mm_X13_isRefused 24 [.int x0] [] s else if x0 = (-(2000000001 : Int32)) then rn_ tb_ct tb_mt B mm_X13_isRefused 24 [.int x0] [] s else if x0 = (-(2000000002 : Int32)) then rn_ tb_ct tb_mt B mm_X13_isRefused 24 [.int x0] [] s else some (.inl (some (.int (0 : Int32))), s) := by
  refine Eq.trans (rn_go 2 (pc' := 3) (L' := [.int x0]) (st' := [.int (-(2 : Int32)), .int x0]) rfl) ?_
  refine Eq.trans (rn_iceq (L' := [.int x0]) rfl rfl) ?_
  refine if_c ?_ ?_
  · rfl
  · refine Eq.trans (rn_go 2 (pc' := 9) (L' := [.int x0]) (st' := [.int (-(3 : Int32)), .int x0]) rfl) ?_
    refine Eq.trans (rn_iceq (L' := [.int x0]) rfl rfl) ?_
    refine if_c ?_ ?_
    · rfl
    · refine Eq.trans (rn_go 2 (pc' := 15) (L' := [.int x0]) (st' := [.int (-(2000000001 : Int32)), .int x0]) rfl) ?_
      refine Eq.trans (rn_iceq (L' := [.int x0]) rfl rfl) ?_
      refine if_c ?_ ?_
      · rfl
      · refine Eq.trans (rn_go 2 (pc' := 21) (L' := [.int x0]) (st' := [.int (-(2000000002 : Int32)), .int x0]) rfl) ?_
        refine Eq.trans (rn_icne (L' := [.int x0]) rfl rfl) ?_
        refine if_c ?_ ?_
        · rfl
        · refine Eq.trans (rn_go 1 (pc' := 29) (L' := [.int x0]) (st' := [.int (0 : Int32)]) rfl) ?_
          exact rn_retI rfl rfl rfl
theorem dc_X13_isRefused_24 {B : Nat} (w0 : Value) (s : am_S) : rn_ tb_ct tb_mt B mm_X13_isRefused 24 [w0] [] s = some (.inl (some (.int (1 : Int32))), s) := by
  refine Eq.trans (rn_go 2 (pc' := 29) (L' := [am_un]) (st' := [.int (1 : Int32)]) rfl) ?_
  exact rn_retI rfl rfl rfl
theorem in_X13_statement {B : Nat} (a0 : Nat) (s : am_S) : cl_ tb_ct tb_mt B K_X13_statement [.ref a0] s = rn_ tb_ct tb_mt B mm_X13_statement 0 [.ref a0, am_un, am_un] [] s := cl_in rfl rfl rfl rfl
theorem dc_X13_statement_0 {B : Nat} (a0 : Nat) (s : am_S) : rn_ tb_ct tb_mt B mm_X13_statement 0 [.ref a0, am_un, am_un] [] s = eC (am_cls s a0) 11 (cV (cl_ tb_ct tb_mt B K_X13_reads [.ref a0] s) (fun s_1 => eI (gI tb_ct s_1 a0 11 11) (fun x_2 => eK (stR s_1 108) (fun b_3 => eC (am_cls s_1 a0) 11 (cI (cl_ tb_ct tb_mt B K_X13_isWord [.ref a0, .ref b_3] s_1) (fun x_5 s_4 => if x_5 = 0 then eK (stR s_4 109) (fun b_6 => eC (am_cls s_4 a0) 11 (cI (cl_ tb_ct tb_mt B K_X13_isWord [.ref a0, .ref b_6] s_4) (fun x_8 s_7 => if x_8 = 0 then eK (stR s_7 110) (fun b_9 => eC (am_cls s_7 a0) 11 (cI (cl_ tb_ct tb_mt B K_X13_isWord [.ref a0, .ref b_9] s_7) (fun x_11 s_10 => if x_11 = 0 then eK (stR s_10 111) (fun b_12 => eC (am_cls s_10 a0) 11 (cI (cl_ tb_ct tb_mt B K_X13_isWord [.ref a0, .ref b_12] s_10) (fun x_14 s_13 => if x_14 = 0 then eC (am_cls s_13 a0) 11 (cI (cl_ tb_ct tb_mt B K_X13_otherPart [.ref a0] s_13) (fun x_16 s_15 => rn_ tb_ct tb_mt B mm_X13_statement 77 [.ref a0, .int x_2, am_un] [.int x_16] s_15) xo) else eC (am_cls s_13 a0) 11 (cI (cl_ tb_ct tb_mt B K_X13_attachPart [.ref a0] s_13) (fun x_18 s_17 => rn_ tb_ct tb_mt B mm_X13_statement 77 [.ref a0, .int x_2, am_un] [.int x_18] s_17) xo)) xo)) else eC (am_cls s_10 a0) 11 (cI (cl_ tb_ct tb_mt B K_X13_watchPart [.ref a0] s_10) (fun x_20 s_19 => rn_ tb_ct tb_mt B mm_X13_statement 77 [.ref a0, .int x_2, am_un] [.int x_20] s_19) xo)) xo)) else eC (am_cls s_7 a0) 11 (cI (cl_ tb_ct tb_mt B K_X13_deletePart [.ref a0] s_7) (fun x_22 s_21 => rn_ tb_ct tb_mt B mm_X13_statement 77 [.ref a0, .int x_2, am_un] [.int x_22] s_21) xo)) xo)) else eC (am_cls s_4 a0) 11 (cI (cl_ tb_ct tb_mt B K_X13_putPart [.ref a0] s_4) (fun x_24 s_23 => rn_ tb_ct tb_mt B mm_X13_statement 77 [.ref a0, .int x_2, am_un] [.int x_24] s_23) xo)) xo)))) xo) := by
  refine Eq.trans (rn_go 1 (pc' := 1) (L' := [.ref a0, am_un, am_un]) (st' := [.ref a0]) rfl) ?_
  refine Eq.trans (rn_vir (L' := [.ref a0, am_un, am_un]) (as := []) (rest := []) rfl rfl rfl rfl rfl (Nat.le_of_ble_eq_true rfl) (by decide) (by decide)) ?_
  refine eC_c ?_
  refine Eq.trans (cW_V rfl rfl) ?_
  refine cV_c (fun s_1 => ?_) (xh_nil rfl)
  refine Eq.trans (rn_go 1 (pc' := 5) (L' := [.ref a0, am_un, am_un]) (st' := [.ref a0]) rfl) ?_
  refine Eq.trans (rn_gI (L' := [.ref a0, am_un, am_un]) rfl rfl rfl rfl) ?_
  refine eI_c (fun x_2 => ?_)
  refine Eq.trans (rn_go 2 (pc' := 10) (L' := [.ref a0, .int x_2, am_un]) (st' := [.ref a0]) rfl) ?_
  refine Eq.trans (rn_ldS (L' := [.ref a0, .int x_2, am_un]) rfl rfl) ?_
  refine eK_c (fun b_3 => ?_)
  refine Eq.trans (rn_vir (L' := [.ref a0, .int x_2, am_un]) (as := [.ref b_3]) (rest := []) rfl rfl rfl rfl rfl (Nat.le_of_ble_eq_true rfl) (by decide) (by decide)) ?_
  refine eC_c ?_
  refine Eq.trans (cW_I rfl rfl rfl) ?_
  refine cI_c (fun x_5 s_4 => ?_) (xh_nil rfl)
  refine Eq.trans (rn_ifeq (L' := [.ref a0, .int x_2, am_un]) rfl rfl) ?_
  refine if_c ?_ ?_
  · refine Eq.trans (rn_go 1 (pc' := 26) (L' := [.ref a0, .int x_2, am_un]) (st' := [.ref a0]) rfl) ?_
    refine Eq.trans (rn_ldS (L' := [.ref a0, .int x_2, am_un]) rfl rfl) ?_
    refine eK_c (fun b_6 => ?_)
    refine Eq.trans (rn_vir (L' := [.ref a0, .int x_2, am_un]) (as := [.ref b_6]) (rest := []) rfl rfl rfl rfl rfl (Nat.le_of_ble_eq_true rfl) (by decide) (by decide)) ?_
    refine eC_c ?_
    refine Eq.trans (cW_I rfl rfl rfl) ?_
    refine cI_c (fun x_8 s_7 => ?_) (xh_nil rfl)
    refine Eq.trans (rn_ifeq (L' := [.ref a0, .int x_2, am_un]) rfl rfl) ?_
    refine if_c ?_ ?_
    · refine Eq.trans (rn_go 1 (pc' := 42) (L' := [.ref a0, .int x_2, am_un]) (st' := [.ref a0]) rfl) ?_
      refine Eq.trans (rn_ldS (L' := [.ref a0, .int x_2, am_un]) rfl rfl) ?_
      refine eK_c (fun b_9 => ?_)
      refine Eq.trans (rn_vir (L' := [.ref a0, .int x_2, am_un]) (as := [.ref b_9]) (rest := []) rfl rfl rfl rfl rfl (Nat.le_of_ble_eq_true rfl) (by decide) (by decide)) ?_
      refine eC_c ?_
      refine Eq.trans (cW_I rfl rfl rfl) ?_
      refine cI_c (fun x_11 s_10 => ?_) (xh_nil rfl)
      refine Eq.trans (rn_ifeq (L' := [.ref a0, .int x_2, am_un]) rfl rfl) ?_
      refine if_c ?_ ?_
      · refine Eq.trans (rn_go 1 (pc' := 58) (L' := [.ref a0, .int x_2, am_un]) (st' := [.ref a0]) rfl) ?_
        refine Eq.trans (rn_ldS (L' := [.ref a0, .int x_2, am_un]) rfl rfl) ?_
        refine eK_c (fun b_12 => ?_)
        refine Eq.trans (rn_vir (L' := [.ref a0, .int x_2, am_un]) (as := [.ref b_12]) (rest := []) rfl rfl rfl rfl rfl (Nat.le_of_ble_eq_true rfl) (by decide) (by decide)) ?_
        refine eC_c ?_
        refine Eq.trans (cW_I rfl rfl rfl) ?_
        refine cI_c (fun x_14 s_13 => ?_) (xh_nil rfl)
        refine Eq.trans (rn_ifeq (L' := [.ref a0, .int x_2, am_un]) rfl rfl) ?_
        refine if_c ?_ ?_
        · refine Eq.trans (rn_go 1 (pc' := 74) (L' := [.ref a0, .int x_2, am_un]) (st' := [.ref a0]) rfl) ?_
          refine Eq.trans (rn_vir (L' := [.ref a0, .int x_2, am_un]) (as := []) (rest := []) rfl rfl rfl rfl rfl (Nat.le_of_ble_eq_true rfl) (by decide) (by decide)) ?_
          refine eC_c ?_
          refine Eq.trans (cW_I rfl rfl rfl) ?_
          refine cI_c (fun x_16 s_15 => ?_) (xh_nil rfl)
          rfl
        · refine Eq.trans (rn_go 1 (pc' := 67) (L' := [.ref a0, .int x_2, am_un]) (st' := [.ref a0]) rfl) ?_
          refine Eq.trans (rn_vir (L' := [.ref a0, .int x_2, am_un]) (as := []) (rest := []) rfl rfl rfl rfl rfl (Nat.le_of_ble_eq_true rfl) (by decide) (by decide)) ?_
          refine eC_c ?_
          refine Eq.trans (cW_I rfl rfl rfl) ?_
          refine cI_c (fun x_18 s_17 => ?_) (xh_nil rfl)
          exact rn_go 1 (pc' := 77) (L' := [.ref a0, .int x_2, am_un]) (st' := [.int x_18]) rfl
      · refine Eq.trans (rn_go 1 (pc' := 51) (L' := [.ref a0, .int x_2, am_un]) (st' := [.ref a0]) rfl) ?_
        refine Eq.trans (rn_vir (L' := [.ref a0, .int x_2, am_un]) (as := []) (rest := []) rfl rfl rfl rfl rfl (Nat.le_of_ble_eq_true rfl) (by decide) (by decide)) ?_
        refine eC_c ?_
        refine Eq.trans (cW_I rfl rfl rfl) ?_
        refine cI_c (fun x_20 s_19 => ?_) (xh_nil rfl)
        exact rn_go 1 (pc' := 77) (L' := [.ref a0, .int x_2, am_un]) (st' := [.int x_20]) rfl
    · refine Eq.trans (rn_go 1 (pc' := 35) (L' := [.ref a0, .int x_2, am_un]) (st' := [.ref a0]) rfl) ?_
      refine Eq.trans (rn_vir (L' := [.ref a0, .int x_2, am_un]) (as := []) (rest := []) rfl rfl rfl rfl rfl (Nat.le_of_ble_eq_true rfl) (by decide) (by decide)) ?_
      refine eC_c ?_
      refine Eq.trans (cW_I rfl rfl rfl) ?_
      refine cI_c (fun x_22 s_21 => ?_) (xh_nil rfl)
      exact rn_go 1 (pc' := 77) (L' := [.ref a0, .int x_2, am_un]) (st' := [.int x_22]) rfl
  · refine Eq.trans (rn_go 1 (pc' := 19) (L' := [.ref a0, .int x_2, am_un]) (st' := [.ref a0]) rfl) ?_
    refine Eq.trans (rn_vir (L' := [.ref a0, .int x_2, am_un]) (as := []) (rest := []) rfl rfl rfl rfl rfl (Nat.le_of_ble_eq_true rfl) (by decide) (by decide)) ?_
    refine eC_c ?_
    refine Eq.trans (cW_I rfl rfl rfl) ?_
    refine cI_c (fun x_24 s_23 => ?_) (xh_nil rfl)
    exact rn_go 1 (pc' := 77) (L' := [.ref a0, .int x_2, am_un]) (st' := [.int x_24]) rfl
theorem dc_X13_statement_77 {B : Nat} (a0 : Nat) (x1 : Int32) (xs0 : Int32) (s : am_S) : rn_ tb_ct tb_mt B mm_X13_statement 77 [.ref a0, .int x1, am_un] [.int xs0] s = eI (gI tb_ct s a0 11 12) (fun x_1 => if x_1 = 0 then cI (cl_ tb_ct tb_mt B K_X13_isRefused [.int xs0] s) (fun x_3 s_2 => if x_3 = 0 then some (.inl none, s_2) else eS (am_put tb_ct mm_X13_statement B s_2 (.int x1) a0 11 11) (fun s_4 => eC (am_cls s_4 a0) 11 (cV (cl_ tb_ct tb_mt B K_X13_fails [.ref a0, .int (3 : Int32)] s_4) (fun s_5 => some (.inl none, s_5)) xo))) xo else some (.inl none, s)) := by
  refine Eq.trans (rn_go 2 (pc' := 79) (L' := [.ref a0, .int x1, .int xs0]) (st' := [.ref a0]) rfl) ?_
  refine Eq.trans (rn_gI (L' := [.ref a0, .int x1, .int xs0]) rfl rfl rfl rfl) ?_
  refine eI_c (fun x_1 => ?_)
  refine Eq.trans (rn_ifne (L' := [.ref a0, .int x1, .int xs0]) rfl rfl) ?_
  refine if_c ?_ ?_
  · refine Eq.trans (rn_go 1 (pc' := 86) (L' := [.ref a0, .int x1, .int xs0]) (st' := [.int xs0]) rfl) ?_
    refine Eq.trans (rn_sta (L' := [.ref a0, .int x1, .int xs0]) (as := [.int xs0]) (rest := []) rfl rfl rfl rfl rfl (Nat.le_of_ble_eq_true rfl) (by decide) rfl) ?_
    refine Eq.trans (cW_I rfl rfl rfl) ?_
    refine cI_c (fun x_3 s_2 => ?_) (xh_nil rfl)
    refine Eq.trans (rn_ifeq (L' := [.ref a0, .int x1, .int xs0]) rfl rfl) ?_
    refine if_c ?_ ?_
    · exact rn_retV rfl rfl
    · refine Eq.trans (rn_go 2 (pc' := 94) (L' := [.ref a0, .int x1, .int xs0]) (st' := [.int x1, .ref a0]) rfl) ?_
      refine Eq.trans (rn_pF (L' := [.ref a0, .int x1, .int xs0]) rfl rfl) ?_
      refine eS_c (fun s_4 => ?_)
      refine Eq.trans (rn_go 2 (pc' := 99) (L' := [.ref a0, .int x1, .int xs0]) (st' := [.int (3 : Int32), .ref a0]) rfl) ?_
      refine Eq.trans (rn_vir (L' := [.ref a0, .int x1, .int xs0]) (as := [.int (3 : Int32)]) (rest := []) rfl rfl rfl rfl rfl (Nat.le_of_ble_eq_true rfl) (by decide) (by decide)) ?_
      refine eC_c ?_
      refine Eq.trans (cW_V rfl rfl) ?_
      refine cV_c (fun s_5 => ?_) (xh_nil rfl)
      exact rn_retV rfl rfl
  · exact rn_retV rfl rfl
theorem in_X13_isMore {B : Nat} (a0 : Nat) (s : am_S) : cl_ tb_ct tb_mt B K_X13_isMore [.ref a0] s = rn_ tb_ct tb_mt B mm_X13_isMore 0 [.ref a0] [] s := cl_in rfl rfl rfl rfl
theorem dc_X13_isMore_0 {B : Nat} (a0 : Nat) (s : am_S) : rn_ tb_ct tb_mt B mm_X13_isMore 0 [.ref a0] [] s = eI (gI tb_ct s a0 11 12) (fun x_1 => if x_1 = 0 then eC (am_cls s a0) 11 (cI (cl_ tb_ct tb_mt B K_X13_next [.ref a0] s) (fun x_3 s_2 => if 0 ≤ x_3 then eC (am_cls s_2 a0) 11 (cI (cl_ tb_ct tb_mt B K_X13_here [.ref a0] s_2) (fun x_5 s_4 => if x_5 = (59 : Int32) then eI (gI tb_ct s_4 a0 11 10) (fun x_6 => eS (am_put tb_ct mm_X13_isMore B s_4 (.int (x_6 + (1 : Int32))) a0 11 10) (fun s_7 => eI (gI tb_ct s_7 a0 11 14) (fun x_8 => eS (am_put tb_ct mm_X13_isMore B s_7 (.int (x_8 + (1 : Int32))) a0 11 14) (fun s_9 => some (.inl (some (.int (1 : Int32))), s_9))))) else eC (am_cls s_4 a0) 11 (cV (cl_ tb_ct tb_mt B K_X13_fails [.ref a0, .int (1 : Int32)] s_4) (fun s_10 => some (.inl (some (.int (0 : Int32))), s_10)) xo)) xo) else some (.inl (some (.int (0 : Int32))), s_2)) xo) else some (.inl (some (.int (0 : Int32))), s)) := by
  refine Eq.trans (rn_go 1 (pc' := 1) (L' := [.ref a0]) (st' := [.ref a0]) rfl) ?_
  refine Eq.trans (rn_gI (L' := [.ref a0]) rfl rfl rfl rfl) ?_
  refine eI_c (fun x_1 => ?_)
  refine Eq.trans (rn_ifne (L' := [.ref a0]) rfl rfl) ?_
  refine if_c ?_ ?_
  · refine Eq.trans (rn_go 1 (pc' := 8) (L' := [.ref a0]) (st' := [.ref a0]) rfl) ?_
    refine Eq.trans (rn_vir (L' := [.ref a0]) (as := []) (rest := []) rfl rfl rfl rfl rfl (Nat.le_of_ble_eq_true rfl) (by decide) (by decide)) ?_
    refine eC_c ?_
    refine Eq.trans (cW_I rfl rfl rfl) ?_
    refine cI_c (fun x_3 s_2 => ?_) (xh_nil rfl)
    refine Eq.trans (rn_ifge (L' := [.ref a0]) rfl rfl) ?_
    refine if_c ?_ ?_
    · refine Eq.trans (rn_go 1 (pc' := 17) (L' := [.ref a0]) (st' := [.ref a0]) rfl) ?_
      refine Eq.trans (rn_vir (L' := [.ref a0]) (as := []) (rest := []) rfl rfl rfl rfl rfl (Nat.le_of_ble_eq_true rfl) (by decide) (by decide)) ?_
      refine eC_c ?_
      refine Eq.trans (cW_I rfl rfl rfl) ?_
      refine cI_c (fun x_5 s_4 => ?_) (xh_nil rfl)
      refine Eq.trans (rn_go 1 (pc' := 22) (L' := [.ref a0]) (st' := [.int (59 : Int32), .int x_5]) rfl) ?_
      refine Eq.trans (rn_iceq (L' := [.ref a0]) rfl rfl) ?_
      refine if_c ?_ ?_
      · refine Eq.trans (rn_go 2 (pc' := 34) (L' := [.ref a0]) (st' := [.ref a0, .ref a0]) rfl) ?_
        refine Eq.trans (rn_gI (L' := [.ref a0]) rfl rfl rfl rfl) ?_
        refine eI_c (fun x_6 => ?_)
        refine Eq.trans (rn_go 2 (pc' := 39) (L' := [.ref a0]) (st' := [.int (x_6 + (1 : Int32)), .ref a0]) rfl) ?_
        refine Eq.trans (rn_pF (L' := [.ref a0]) rfl rfl) ?_
        refine eS_c (fun s_7 => ?_)
        refine Eq.trans (rn_go 2 (pc' := 44) (L' := [.ref a0]) (st' := [.ref a0, .ref a0]) rfl) ?_
        refine Eq.trans (rn_gI (L' := [.ref a0]) rfl rfl rfl rfl) ?_
        refine eI_c (fun x_8 => ?_)
        refine Eq.trans (rn_go 2 (pc' := 49) (L' := [.ref a0]) (st' := [.int (x_8 + (1 : Int32)), .ref a0]) rfl) ?_
        refine Eq.trans (rn_pF (L' := [.ref a0]) rfl rfl) ?_
        refine eS_c (fun s_9 => ?_)
        refine Eq.trans (rn_go 1 (pc' := 53) (L' := [.ref a0]) (st' := [.int (1 : Int32)]) rfl) ?_
        exact rn_retI rfl rfl rfl
      · refine Eq.trans (rn_go 2 (pc' := 27) (L' := [.ref a0]) (st' := [.int (1 : Int32), .ref a0]) rfl) ?_
        refine Eq.trans (rn_vir (L' := [.ref a0]) (as := [.int (1 : Int32)]) (rest := []) rfl rfl rfl rfl rfl (Nat.le_of_ble_eq_true rfl) (by decide) (by decide)) ?_
        refine eC_c ?_
        refine Eq.trans (cW_V rfl rfl) ?_
        refine cV_c (fun s_10 => ?_) (xh_nil rfl)
        refine Eq.trans (rn_go 1 (pc' := 31) (L' := [.ref a0]) (st' := [.int (0 : Int32)]) rfl) ?_
        exact rn_retI rfl rfl rfl
    · refine Eq.trans (rn_go 1 (pc' := 15) (L' := [.ref a0]) (st' := [.int (0 : Int32)]) rfl) ?_
      exact rn_retI rfl rfl rfl
  · refine Eq.trans (rn_go 1 (pc' := 15) (L' := [.ref a0]) (st' := [.int (0 : Int32)]) rfl) ?_
    exact rn_retI rfl rfl rfl
theorem in_X13_load {B : Nat} (a0 : Nat) (s : am_S) : cl_ tb_ct tb_mt B K_X13_load [.ref a0] s = rn_ tb_ct tb_mt B mm_X13_load 0 [.ref a0] [] s := cl_in rfl rfl rfl rfl
theorem dc_X13_load_0 {B : Nat} (a0 : Nat) (s : am_S) : rn_ tb_ct tb_mt B mm_X13_load 0 [.ref a0] [] s = eS (am_put tb_ct mm_X13_load B s (.int (0 : Int32)) a0 11 10) (fun s_1 => eS (am_put tb_ct mm_X13_load B s_1 (.int (0 : Int32)) a0 11 12) (fun s_2 => eS (am_put tb_ct mm_X13_load B s_2 (.int (0 : Int32)) a0 11 14) (fun s_3 => eA (gA tb_ct s_3 a0 11 0) (eA (gA tb_ct s_3 a0 11 1) (cV (cl_ tb_ct tb_mt B K_X13_copies [.null, .int (0 : Int32), .null, .int (0 : Int32)] s_3) (fun s_6 => eC (am_cls s_6 a0) 11 (cV (cl_ tb_ct tb_mt B K_X13_begins [.ref a0] s_6) (fun s_7 => eC (am_cls s_7 a0) 11 (cV (cl_ tb_ct tb_mt B K_X13_statement [.ref a0] s_7) (fun s_8 => rn_ tb_ct tb_mt B mm_X13_load 36 [.ref a0] [] s_8) xo)) xo)) xo) (fun b_5 => cV (cl_ tb_ct tb_mt B K_X13_copies [.null, .int (0 : Int32), .ref b_5, .int (0 : Int32)] s_3) (fun s_9 => eC (am_cls s_9 a0) 11 (cV (cl_ tb_ct tb_mt B K_X13_begins [.ref a0] s_9) (fun s_10 => eC (am_cls s_10 a0) 11 (cV (cl_ tb_ct tb_mt B K_X13_statement [.ref a0] s_10) (fun s_11 => rn_ tb_ct tb_mt B mm_X13_load 36 [.ref a0] [] s_11) xo)) xo)) xo)) (fun b_4 => eA (gA tb_ct s_3 a0 11 1) (cV (cl_ tb_ct tb_mt B K_X13_copies [.ref b_4, .int (0 : Int32), .null, .int (0 : Int32)] s_3) (fun s_13 => eC (am_cls s_13 a0) 11 (cV (cl_ tb_ct tb_mt B K_X13_begins [.ref a0] s_13) (fun s_14 => eC (am_cls s_14 a0) 11 (cV (cl_ tb_ct tb_mt B K_X13_statement [.ref a0] s_14) (fun s_15 => rn_ tb_ct tb_mt B mm_X13_load 36 [.ref a0] [] s_15) xo)) xo)) xo) (fun b_12 => cV (cl_ tb_ct tb_mt B K_X13_copies [.ref b_4, .int (0 : Int32), .ref b_12, .int (0 : Int32)] s_3) (fun s_16 => eC (am_cls s_16 a0) 11 (cV (cl_ tb_ct tb_mt B K_X13_begins [.ref a0] s_16) (fun s_17 => eC (am_cls s_17 a0) 11 (cV (cl_ tb_ct tb_mt B K_X13_statement [.ref a0] s_17) (fun s_18 => rn_ tb_ct tb_mt B mm_X13_load 36 [.ref a0] [] s_18) xo)) xo)) xo))))) := by
  refine Eq.trans (rn_go 2 (pc' := 2) (L' := [.ref a0]) (st' := [.int (0 : Int32), .ref a0]) rfl) ?_
  refine Eq.trans (rn_pF (L' := [.ref a0]) rfl rfl) ?_
  refine eS_c (fun s_1 => ?_)
  refine Eq.trans (rn_go 2 (pc' := 7) (L' := [.ref a0]) (st' := [.int (0 : Int32), .ref a0]) rfl) ?_
  refine Eq.trans (rn_pF (L' := [.ref a0]) rfl rfl) ?_
  refine eS_c (fun s_2 => ?_)
  refine Eq.trans (rn_go 2 (pc' := 12) (L' := [.ref a0]) (st' := [.int (0 : Int32), .ref a0]) rfl) ?_
  refine Eq.trans (rn_pF (L' := [.ref a0]) rfl rfl) ?_
  refine eS_c (fun s_3 => ?_)
  refine Eq.trans (rn_go 1 (pc' := 16) (L' := [.ref a0]) (st' := [.ref a0]) rfl) ?_
  refine Eq.trans (rn_gA (L' := [.ref a0]) rfl rfl rfl rfl) ?_
  refine eA_c ?_ (fun b_4 => ?_)
  · refine Eq.trans (rn_go 2 (pc' := 21) (L' := [.ref a0]) (st' := [.ref a0, .int (0 : Int32), .null]) rfl) ?_
    refine Eq.trans (rn_gA (L' := [.ref a0]) rfl rfl rfl rfl) ?_
    refine eA_c ?_ (fun b_5 => ?_)
    · refine Eq.trans (rn_go 1 (pc' := 25) (L' := [.ref a0]) (st' := [.int (0 : Int32), .null, .int (0 : Int32), .null]) rfl) ?_
      refine Eq.trans (rn_sta (L' := [.ref a0]) (as := [.null, .int (0 : Int32), .null, .int (0 : Int32)]) (rest := []) rfl rfl rfl rfl rfl (Nat.le_of_ble_eq_true rfl) (by decide) rfl) ?_
      refine Eq.trans (cW_V rfl rfl) ?_
      refine cV_c (fun s_6 => ?_) (xh_nil rfl)
      refine Eq.trans (rn_go 1 (pc' := 29) (L' := [.ref a0]) (st' := [.ref a0]) rfl) ?_
      refine Eq.trans (rn_vir (L' := [.ref a0]) (as := []) (rest := []) rfl rfl rfl rfl rfl (Nat.le_of_ble_eq_true rfl) (by decide) (by decide)) ?_
      refine eC_c ?_
      refine Eq.trans (cW_V rfl rfl) ?_
      refine cV_c (fun s_7 => ?_) (xh_nil rfl)
      refine Eq.trans (rn_go 1 (pc' := 33) (L' := [.ref a0]) (st' := [.ref a0]) rfl) ?_
      refine Eq.trans (rn_vir (L' := [.ref a0]) (as := []) (rest := []) rfl rfl rfl rfl rfl (Nat.le_of_ble_eq_true rfl) (by decide) (by decide)) ?_
      refine eC_c ?_
      refine Eq.trans (cW_V rfl rfl) ?_
      refine cV_c (fun s_8 => ?_) (xh_nil rfl)
      rfl
    · refine Eq.trans (rn_go 1 (pc' := 25) (L' := [.ref a0]) (st' := [.int (0 : Int32), .ref b_5, .int (0 : Int32), .null]) rfl) ?_
      refine Eq.trans (rn_sta (L' := [.ref a0]) (as := [.null, .int (0 : Int32), .ref b_5, .int (0 : Int32)]) (rest := []) rfl rfl rfl rfl rfl (Nat.le_of_ble_eq_true rfl) (by decide) rfl) ?_
      refine Eq.trans (cW_V rfl rfl) ?_
      refine cV_c (fun s_9 => ?_) (xh_nil rfl)
      refine Eq.trans (rn_go 1 (pc' := 29) (L' := [.ref a0]) (st' := [.ref a0]) rfl) ?_
      refine Eq.trans (rn_vir (L' := [.ref a0]) (as := []) (rest := []) rfl rfl rfl rfl rfl (Nat.le_of_ble_eq_true rfl) (by decide) (by decide)) ?_
      refine eC_c ?_
      refine Eq.trans (cW_V rfl rfl) ?_
      refine cV_c (fun s_10 => ?_) (xh_nil rfl)
      refine Eq.trans (rn_go 1 (pc' := 33) (L' := [.ref a0]) (st' := [.ref a0]) rfl) ?_
      refine Eq.trans (rn_vir (L' := [.ref a0]) (as := []) (rest := []) rfl rfl rfl rfl rfl (Nat.le_of_ble_eq_true rfl) (by decide) (by decide)) ?_
      refine eC_c ?_
      refine Eq.trans (cW_V rfl rfl) ?_
      refine cV_c (fun s_11 => ?_) (xh_nil rfl)
      rfl
  · refine Eq.trans (rn_go 2 (pc' := 21) (L' := [.ref a0]) (st' := [.ref a0, .int (0 : Int32), .ref b_4]) rfl) ?_
    refine Eq.trans (rn_gA (L' := [.ref a0]) rfl rfl rfl rfl) ?_
    refine eA_c ?_ (fun b_12 => ?_)
    · refine Eq.trans (rn_go 1 (pc' := 25) (L' := [.ref a0]) (st' := [.int (0 : Int32), .null, .int (0 : Int32), .ref b_4]) rfl) ?_
      refine Eq.trans (rn_sta (L' := [.ref a0]) (as := [.ref b_4, .int (0 : Int32), .null, .int (0 : Int32)]) (rest := []) rfl rfl rfl rfl rfl (Nat.le_of_ble_eq_true rfl) (by decide) rfl) ?_
      refine Eq.trans (cW_V rfl rfl) ?_
      refine cV_c (fun s_13 => ?_) (xh_nil rfl)
      refine Eq.trans (rn_go 1 (pc' := 29) (L' := [.ref a0]) (st' := [.ref a0]) rfl) ?_
      refine Eq.trans (rn_vir (L' := [.ref a0]) (as := []) (rest := []) rfl rfl rfl rfl rfl (Nat.le_of_ble_eq_true rfl) (by decide) (by decide)) ?_
      refine eC_c ?_
      refine Eq.trans (cW_V rfl rfl) ?_
      refine cV_c (fun s_14 => ?_) (xh_nil rfl)
      refine Eq.trans (rn_go 1 (pc' := 33) (L' := [.ref a0]) (st' := [.ref a0]) rfl) ?_
      refine Eq.trans (rn_vir (L' := [.ref a0]) (as := []) (rest := []) rfl rfl rfl rfl rfl (Nat.le_of_ble_eq_true rfl) (by decide) (by decide)) ?_
      refine eC_c ?_
      refine Eq.trans (cW_V rfl rfl) ?_
      refine cV_c (fun s_15 => ?_) (xh_nil rfl)
      rfl
    · refine Eq.trans (rn_go 1 (pc' := 25) (L' := [.ref a0]) (st' := [.int (0 : Int32), .ref b_12, .int (0 : Int32), .ref b_4]) rfl) ?_
      refine Eq.trans (rn_sta (L' := [.ref a0]) (as := [.ref b_4, .int (0 : Int32), .ref b_12, .int (0 : Int32)]) (rest := []) rfl rfl rfl rfl rfl (Nat.le_of_ble_eq_true rfl) (by decide) rfl) ?_
      refine Eq.trans (cW_V rfl rfl) ?_
      refine cV_c (fun s_16 => ?_) (xh_nil rfl)
      refine Eq.trans (rn_go 1 (pc' := 29) (L' := [.ref a0]) (st' := [.ref a0]) rfl) ?_
      refine Eq.trans (rn_vir (L' := [.ref a0]) (as := []) (rest := []) rfl rfl rfl rfl rfl (Nat.le_of_ble_eq_true rfl) (by decide) (by decide)) ?_
      refine eC_c ?_
      refine Eq.trans (cW_V rfl rfl) ?_
      refine cV_c (fun s_17 => ?_) (xh_nil rfl)
      refine Eq.trans (rn_go 1 (pc' := 33) (L' := [.ref a0]) (st' := [.ref a0]) rfl) ?_
      refine Eq.trans (rn_vir (L' := [.ref a0]) (as := []) (rest := []) rfl rfl rfl rfl rfl (Nat.le_of_ble_eq_true rfl) (by decide) (by decide)) ?_
      refine eC_c ?_
      refine Eq.trans (cW_V rfl rfl) ?_
      refine cV_c (fun s_18 => ?_) (xh_nil rfl)
      rfl
theorem dc_X13_load_36 {B : Nat} (a0 : Nat) (s : am_S) : rn_ tb_ct tb_mt B mm_X13_load 36 [.ref a0] [] s = eC (am_cls s a0) 11 (cI (cl_ tb_ct tb_mt B K_X13_isMore [.ref a0] s) (fun x_2 s_1 => if x_2 = 0 then eS (am_put tb_ct mm_X13_load B s_1 (.int (0 : Int32)) a0 11 4) (fun s_3 => eS (am_put tb_ct mm_X13_load B s_3 (.int (0 : Int32)) a0 11 9) (fun s_4 => eI (gI tb_ct s_4 a0 11 12) (fun x_5 => eS (am_put tb_ct mm_X13_load B s_4 (.int x_5) a0 11 15) (fun s_6 => eI (gI tb_ct s_6 a0 11 12) (fun x_7 => if x_7 = 0 then rn_ tb_ct tb_mt B mm_X13_load 84 [.ref a0] [.int (-(1 : Int32)), .ref a0] s_6 else eI (gI tb_ct s_6 a0 11 14) (fun x_8 => rn_ tb_ct tb_mt B mm_X13_load 84 [.ref a0] [.int x_8, .ref a0] s_6)))))) else eC (am_cls s_1 a0) 11 (cV (cl_ tb_ct tb_mt B K_X13_statement [.ref a0] s_1) (fun s_9 => rn_ tb_ct tb_mt B mm_X13_load 36 [.ref a0] [] s_9) xo)) xo) := by
  refine Eq.trans (rn_go 1 (pc' := 37) (L' := [.ref a0]) (st' := [.ref a0]) rfl) ?_
  refine Eq.trans (rn_vir (L' := [.ref a0]) (as := []) (rest := []) rfl rfl rfl rfl rfl (Nat.le_of_ble_eq_true rfl) (by decide) (by decide)) ?_
  refine eC_c ?_
  refine Eq.trans (cW_I rfl rfl rfl) ?_
  refine cI_c (fun x_2 s_1 => ?_) (xh_nil rfl)
  refine Eq.trans (rn_ifeq (L' := [.ref a0]) rfl rfl) ?_
  refine if_c ?_ ?_
  · refine Eq.trans (rn_go 2 (pc' := 52) (L' := [.ref a0]) (st' := [.int (0 : Int32), .ref a0]) rfl) ?_
    refine Eq.trans (rn_pF (L' := [.ref a0]) rfl rfl) ?_
    refine eS_c (fun s_3 => ?_)
    refine Eq.trans (rn_go 2 (pc' := 57) (L' := [.ref a0]) (st' := [.int (0 : Int32), .ref a0]) rfl) ?_
    refine Eq.trans (rn_pF (L' := [.ref a0]) rfl rfl) ?_
    refine eS_c (fun s_4 => ?_)
    refine Eq.trans (rn_go 2 (pc' := 62) (L' := [.ref a0]) (st' := [.ref a0, .ref a0]) rfl) ?_
    refine Eq.trans (rn_gI (L' := [.ref a0]) rfl rfl rfl rfl) ?_
    refine eI_c (fun x_5 => ?_)
    refine Eq.trans (rn_pF (L' := [.ref a0]) rfl rfl) ?_
    refine eS_c (fun s_6 => ?_)
    refine Eq.trans (rn_go 2 (pc' := 70) (L' := [.ref a0]) (st' := [.ref a0, .ref a0]) rfl) ?_
    refine Eq.trans (rn_gI (L' := [.ref a0]) rfl rfl rfl rfl) ?_
    refine eI_c (fun x_7 => ?_)
    refine Eq.trans (rn_ifne (L' := [.ref a0]) rfl rfl) ?_
    refine if_c ?_ ?_
    · exact rn_go 2 (pc' := 84) (L' := [.ref a0]) (st' := [.int (-(1 : Int32)), .ref a0]) rfl
    · refine Eq.trans (rn_go 1 (pc' := 81) (L' := [.ref a0]) (st' := [.ref a0, .ref a0]) rfl) ?_
      refine Eq.trans (rn_gI (L' := [.ref a0]) rfl rfl rfl rfl) ?_
      refine eI_c (fun x_8 => ?_)
      rfl
  · refine Eq.trans (rn_go 1 (pc' := 44) (L' := [.ref a0]) (st' := [.ref a0]) rfl) ?_
    refine Eq.trans (rn_vir (L' := [.ref a0]) (as := []) (rest := []) rfl rfl rfl rfl rfl (Nat.le_of_ble_eq_true rfl) (by decide) (by decide)) ?_
    refine eC_c ?_
    refine Eq.trans (cW_V rfl rfl) ?_
    refine cV_c (fun s_9 => ?_) (xh_nil rfl)
    exact rn_go 1 (pc' := 36) (L' := [.ref a0]) (st' := []) rfl
theorem dc_X13_load_84 {B : Nat} (a0 : Nat) (xs0 : Int32) (as1 : Nat) (s : am_S) : rn_ tb_ct tb_mt B mm_X13_load 84 [.ref a0] [.int xs0, .ref as1] s = eS (am_put tb_ct mm_X13_load B s (.int xs0) as1 11 16) (fun s_1 => eI (gI tb_ct s_1 a0 11 12) (fun x_2 => if x_2 = 0 then eI (gI tb_ct s_1 a0 11 14) (fun x_3 => some (.inl (some (.int (x_3 + (1 : Int32)))), s_1)) else eA (gA tb_ct s_1 a0 11 1) (eA (gA tb_ct s_1 a0 11 0) (cV (cl_ tb_ct tb_mt B K_X13_copies [.null, .int (0 : Int32), .null, .int (0 : Int32)] s_1) (fun s_6 => eI (gI tb_ct s_6 a0 11 13) (fun x_7 => some (.inl (some (.int ((-(100 : Int32)) - x_7))), s_6))) xo) (fun b_5 => cV (cl_ tb_ct tb_mt B K_X13_copies [.null, .int (0 : Int32), .ref b_5, .int (0 : Int32)] s_1) (fun s_8 => eI (gI tb_ct s_8 a0 11 13) (fun x_9 => some (.inl (some (.int ((-(100 : Int32)) - x_9))), s_8))) xo)) (fun b_4 => eA (gA tb_ct s_1 a0 11 0) (cV (cl_ tb_ct tb_mt B K_X13_copies [.ref b_4, .int (0 : Int32), .null, .int (0 : Int32)] s_1) (fun s_11 => eI (gI tb_ct s_11 a0 11 13) (fun x_12 => some (.inl (some (.int ((-(100 : Int32)) - x_12))), s_11))) xo) (fun b_10 => cV (cl_ tb_ct tb_mt B K_X13_copies [.ref b_4, .int (0 : Int32), .ref b_10, .int (0 : Int32)] s_1) (fun s_13 => eI (gI tb_ct s_13 a0 11 13) (fun x_14 => some (.inl (some (.int ((-(100 : Int32)) - x_14))), s_13))) xo)))) := by
  refine Eq.trans (rn_pF (L' := [.ref a0]) rfl rfl) ?_
  refine eS_c (fun s_1 => ?_)
  refine Eq.trans (rn_go 1 (pc' := 88) (L' := [.ref a0]) (st' := [.ref a0]) rfl) ?_
  refine Eq.trans (rn_gI (L' := [.ref a0]) rfl rfl rfl rfl) ?_
  refine eI_c (fun x_2 => ?_)
  refine Eq.trans (rn_ifeq (L' := [.ref a0]) rfl rfl) ?_
  refine if_c ?_ ?_
  · refine Eq.trans (rn_go 1 (pc' := 116) (L' := [.ref a0]) (st' := [.ref a0]) rfl) ?_
    refine Eq.trans (rn_gI (L' := [.ref a0]) rfl rfl rfl rfl) ?_
    refine eI_c (fun x_3 => ?_)
    refine Eq.trans (rn_go 2 (pc' := 121) (L' := [.ref a0]) (st' := [.int (x_3 + (1 : Int32))]) rfl) ?_
    exact rn_retI rfl rfl rfl
  · refine Eq.trans (rn_go 1 (pc' := 95) (L' := [.ref a0]) (st' := [.ref a0]) rfl) ?_
    refine Eq.trans (rn_gA (L' := [.ref a0]) rfl rfl rfl rfl) ?_
    refine eA_c ?_ (fun b_4 => ?_)
    · refine Eq.trans (rn_go 2 (pc' := 100) (L' := [.ref a0]) (st' := [.ref a0, .int (0 : Int32), .null]) rfl) ?_
      refine Eq.trans (rn_gA (L' := [.ref a0]) rfl rfl rfl rfl) ?_
      refine eA_c ?_ (fun b_5 => ?_)
      · refine Eq.trans (rn_go 1 (pc' := 104) (L' := [.ref a0]) (st' := [.int (0 : Int32), .null, .int (0 : Int32), .null]) rfl) ?_
        refine Eq.trans (rn_sta (L' := [.ref a0]) (as := [.null, .int (0 : Int32), .null, .int (0 : Int32)]) (rest := []) rfl rfl rfl rfl rfl (Nat.le_of_ble_eq_true rfl) (by decide) rfl) ?_
        refine Eq.trans (cW_V rfl rfl) ?_
        refine cV_c (fun s_6 => ?_) (xh_nil rfl)
        refine Eq.trans (rn_go 2 (pc' := 110) (L' := [.ref a0]) (st' := [.ref a0, .int (-(100 : Int32))]) rfl) ?_
        refine Eq.trans (rn_gI (L' := [.ref a0]) rfl rfl rfl rfl) ?_
        refine eI_c (fun x_7 => ?_)
        refine Eq.trans (rn_go 1 (pc' := 114) (L' := [.ref a0]) (st' := [.int ((-(100 : Int32)) - x_7)]) rfl) ?_
        exact rn_retI rfl rfl rfl
      · refine Eq.trans (rn_go 1 (pc' := 104) (L' := [.ref a0]) (st' := [.int (0 : Int32), .ref b_5, .int (0 : Int32), .null]) rfl) ?_
        refine Eq.trans (rn_sta (L' := [.ref a0]) (as := [.null, .int (0 : Int32), .ref b_5, .int (0 : Int32)]) (rest := []) rfl rfl rfl rfl rfl (Nat.le_of_ble_eq_true rfl) (by decide) rfl) ?_
        refine Eq.trans (cW_V rfl rfl) ?_
        refine cV_c (fun s_8 => ?_) (xh_nil rfl)
        refine Eq.trans (rn_go 2 (pc' := 110) (L' := [.ref a0]) (st' := [.ref a0, .int (-(100 : Int32))]) rfl) ?_
        refine Eq.trans (rn_gI (L' := [.ref a0]) rfl rfl rfl rfl) ?_
        refine eI_c (fun x_9 => ?_)
        refine Eq.trans (rn_go 1 (pc' := 114) (L' := [.ref a0]) (st' := [.int ((-(100 : Int32)) - x_9)]) rfl) ?_
        exact rn_retI rfl rfl rfl
    · refine Eq.trans (rn_go 2 (pc' := 100) (L' := [.ref a0]) (st' := [.ref a0, .int (0 : Int32), .ref b_4]) rfl) ?_
      refine Eq.trans (rn_gA (L' := [.ref a0]) rfl rfl rfl rfl) ?_
      refine eA_c ?_ (fun b_10 => ?_)
      · refine Eq.trans (rn_go 1 (pc' := 104) (L' := [.ref a0]) (st' := [.int (0 : Int32), .null, .int (0 : Int32), .ref b_4]) rfl) ?_
        refine Eq.trans (rn_sta (L' := [.ref a0]) (as := [.ref b_4, .int (0 : Int32), .null, .int (0 : Int32)]) (rest := []) rfl rfl rfl rfl rfl (Nat.le_of_ble_eq_true rfl) (by decide) rfl) ?_
        refine Eq.trans (cW_V rfl rfl) ?_
        refine cV_c (fun s_11 => ?_) (xh_nil rfl)
        refine Eq.trans (rn_go 2 (pc' := 110) (L' := [.ref a0]) (st' := [.ref a0, .int (-(100 : Int32))]) rfl) ?_
        refine Eq.trans (rn_gI (L' := [.ref a0]) rfl rfl rfl rfl) ?_
        refine eI_c (fun x_12 => ?_)
        refine Eq.trans (rn_go 1 (pc' := 114) (L' := [.ref a0]) (st' := [.int ((-(100 : Int32)) - x_12)]) rfl) ?_
        exact rn_retI rfl rfl rfl
      · refine Eq.trans (rn_go 1 (pc' := 104) (L' := [.ref a0]) (st' := [.int (0 : Int32), .ref b_10, .int (0 : Int32), .ref b_4]) rfl) ?_
        refine Eq.trans (rn_sta (L' := [.ref a0]) (as := [.ref b_4, .int (0 : Int32), .ref b_10, .int (0 : Int32)]) (rest := []) rfl rfl rfl rfl rfl (Nat.le_of_ble_eq_true rfl) (by decide) rfl) ?_
        refine Eq.trans (cW_V rfl rfl) ?_
        refine cV_c (fun s_13 => ?_) (xh_nil rfl)
        refine Eq.trans (rn_go 2 (pc' := 110) (L' := [.ref a0]) (st' := [.ref a0, .int (-(100 : Int32))]) rfl) ?_
        refine Eq.trans (rn_gI (L' := [.ref a0]) rfl rfl rfl rfl) ?_
        refine eI_c (fun x_14 => ?_)
        refine Eq.trans (rn_go 1 (pc' := 114) (L' := [.ref a0]) (st' := [.int ((-(100 : Int32)) - x_14)]) rfl) ?_
        exact rn_retI rfl rfl rfl
theorem in_X13_loadError {B : Nat} (a0 : Nat) (s : am_S) : cl_ tb_ct tb_mt B K_X13_loadError [.ref a0] s = rn_ tb_ct tb_mt B mm_X13_loadError 0 [.ref a0] [] s := cl_in rfl rfl rfl rfl
theorem dc_X13_loadError_0 {B : Nat} (a0 : Nat) (s : am_S) : rn_ tb_ct tb_mt B mm_X13_loadError 0 [.ref a0] [] s = eS (am_put tb_ct mm_X13_loadError B s (.int (0 : Int32)) a0 11 4) (fun s_1 => eI (gI tb_ct s_1 a0 11 15) (fun x_2 => some (.inl (some (.int x_2)), s_1))) := by
  refine Eq.trans (rn_go 2 (pc' := 2) (L' := [.ref a0]) (st' := [.int (0 : Int32), .ref a0]) rfl) ?_
  refine Eq.trans (rn_pF (L' := [.ref a0]) rfl rfl) ?_
  refine eS_c (fun s_1 => ?_)
  refine Eq.trans (rn_go 1 (pc' := 6) (L' := [.ref a0]) (st' := [.ref a0]) rfl) ?_
  refine Eq.trans (rn_gI (L' := [.ref a0]) rfl rfl rfl rfl) ?_
  refine eI_c (fun x_2 => ?_)
  exact rn_retI rfl rfl rfl
theorem in_X13_loadStatement {B : Nat} (a0 : Nat) (s : am_S) : cl_ tb_ct tb_mt B K_X13_loadStatement [.ref a0] s = rn_ tb_ct tb_mt B mm_X13_loadStatement 0 [.ref a0] [] s := cl_in rfl rfl rfl rfl
theorem dc_X13_loadStatement_0 {B : Nat} (a0 : Nat) (s : am_S) : rn_ tb_ct tb_mt B mm_X13_loadStatement 0 [.ref a0] [] s = eS (am_put tb_ct mm_X13_loadStatement B s (.int (0 : Int32)) a0 11 4) (fun s_1 => eI (gI tb_ct s_1 a0 11 16) (fun x_2 => some (.inl (some (.int x_2)), s_1))) := by
  refine Eq.trans (rn_go 2 (pc' := 2) (L' := [.ref a0]) (st' := [.int (0 : Int32), .ref a0]) rfl) ?_
  refine Eq.trans (rn_pF (L' := [.ref a0]) rfl rfl) ?_
  refine eS_c (fun s_1 => ?_)
  refine Eq.trans (rn_go 1 (pc' := 6) (L' := [.ref a0]) (st' := [.ref a0]) rfl) ?_
  refine Eq.trans (rn_gI (L' := [.ref a0]) rfl rfl rfl rfl) ?_
  refine eI_c (fun x_2 => ?_)
  exact rn_retI rfl rfl rfl
theorem in_X13_count {B : Nat} (a0 : Nat) (x1 : Int32) (s : am_S) : cl_ tb_ct tb_mt B K_X13_count [.ref a0, .int x1] s = rn_ tb_ct tb_mt B mm_X13_count 0 [.ref a0, .int x1] [] s := cl_in rfl rfl rfl rfl
theorem dc_X13_count_0 {B : Nat} (a0 : Nat) (x1 : Int32) (s : am_S) : rn_ tb_ct tb_mt B mm_X13_count 0 [.ref a0, .int x1] [] s = cI (cl_ tb_ct tb_mt B K_X13_in [.long x1.toInt64, .long (0 : Int64), .long (9 : Int64)] s) (fun x_2 s_1 => eC (am_cls s_1 a0) 11 (cI (cl_ tb_ct tb_mt B K_X13_isThrown [.ref a0, .int x_2, .int (1 : Int32)] s_1) (fun x_4 s_3 => if x_4 = 0 then sw x1.toInt (0) [eA (gA tb_ct s_3 a0 11 0) (none) (fun b_5 => eI (aI s_3 b_5 (0 : Int32)) (fun x_6 => some (.inl (some (.int x_6)), s_3))), eA (gA tb_ct s_3 a0 11 0) (none) (fun b_7 => eI (aI s_3 b_7 (1 : Int32)) (fun x_8 => some (.inl (some (.int x_8)), s_3))), eA (gA tb_ct s_3 a0 11 0) (none) (fun b_9 => eI (aI s_3 b_9 (3 : Int32)) (fun x_10 => some (.inl (some (.int x_10)), s_3))), eA (gA tb_ct s_3 a0 11 0) (none) (fun b_11 => eI (aI s_3 b_11 (4 : Int32)) (fun x_12 => some (.inl (some (.int x_12)), s_3))), eA (gA tb_ct s_3 a0 11 0) (none) (fun b_13 => eI (aI s_3 b_13 (5 : Int32)) (fun x_14 => some (.inl (some (.int x_14)), s_3))), eA (gA tb_ct s_3 a0 11 0) (none) (fun b_15 => eI (aI s_3 b_15 (6 : Int32)) (fun x_16 => some (.inl (some (.int x_16)), s_3))), eA (gA tb_ct s_3 a0 11 0) (none) (fun b_17 => eI (aI s_3 b_17 (2 : Int32)) (fun x_18 => some (.inl (some (.int x_18)), s_3))), eA (gA tb_ct s_3 a0 11 0) (none) (fun b_19 => eI (aI s_3 b_19 (9 : Int32)) (fun x_20 => some (.inl (some (.int x_20)), s_3)))] (eA (gA tb_ct s_3 a0 11 0) (none) (fun b_21 => eI (aI s_3 b_21 (((10 : Int32) + x1) - (8 : Int32))) (fun x_22 => some (.inl (some (.int x_22)), s_3)))) else some (.inl (some (.int (0 : Int32))), s_3)) xo)) xo := by
  refine Eq.trans (rn_go 5 (pc' := 7) (L' := [.ref a0, .int x1]) (st' := [.long (9 : Int64), .long (0 : Int64), .long x1.toInt64, .ref a0]) rfl) ?_
  refine Eq.trans (rn_sta (L' := [.ref a0, .int x1]) (as := [.long x1.toInt64, .long (0 : Int64), .long (9 : Int64)]) (rest := [.ref a0]) rfl rfl rfl rfl rfl (Nat.le_of_ble_eq_true rfl) (by decide) rfl) ?_
  refine Eq.trans (cW_I rfl rfl rfl) ?_
  refine cI_c (fun x_2 s_1 => ?_) (xh_nil rfl)
  refine Eq.trans (rn_go 1 (pc' := 11) (L' := [.ref a0, .int x1]) (st' := [.int (1 : Int32), .int x_2, .ref a0]) rfl) ?_
  refine Eq.trans (rn_vir (L' := [.ref a0, .int x1]) (as := [.int x_2, .int (1 : Int32)]) (rest := []) rfl rfl rfl rfl rfl (Nat.le_of_ble_eq_true rfl) (by decide) (by decide)) ?_
  refine eC_c ?_
  refine Eq.trans (cW_I rfl rfl rfl) ?_
  refine cI_c (fun x_4 s_3 => ?_) (xh_nil rfl)
  refine Eq.trans (rn_ifeq (L' := [.ref a0, .int x1]) rfl rfl) ?_
  refine if_c ?_ ?_
  · refine Eq.trans (rn_go 1 (pc' := 20) (L' := [.ref a0, .int x1]) (st' := [.int x1]) rfl) ?_
    refine Eq.trans (rn_tsw (L' := [.ref a0, .int x1]) (ts := [68, 75, 82, 89, 96, 103, 111, 118]) (td := 126) rfl rfl (by decide) rfl rfl) ?_
    refine sw_c ?_ ?_
    · refine cons_c ?_ ?_
      · refine Eq.trans (rn_go 1 (pc' := 69) (L' := [.ref a0, .int x1]) (st' := [.ref a0]) rfl) ?_
        refine Eq.trans (rn_gA (L' := [.ref a0, .int x1]) rfl rfl rfl rfl) ?_
        refine eA_c ?_ (fun b_5 => ?_)
        · refine Eq.trans (rn_go 1 (pc' := 73) (L' := [.ref a0, .int x1]) (st' := [.int (0 : Int32), .null]) rfl) ?_
          exact rn_z rfl rfl
        · refine Eq.trans (rn_go 1 (pc' := 73) (L' := [.ref a0, .int x1]) (st' := [.int (0 : Int32), .ref b_5]) rfl) ?_
          refine Eq.trans (rn_aI (L' := [.ref a0, .int x1]) rfl rfl) ?_
          refine eI_c (fun x_6 => ?_)
          exact rn_retI rfl rfl rfl
      refine cons_c ?_ ?_
      · refine Eq.trans (rn_go 1 (pc' := 76) (L' := [.ref a0, .int x1]) (st' := [.ref a0]) rfl) ?_
        refine Eq.trans (rn_gA (L' := [.ref a0, .int x1]) rfl rfl rfl rfl) ?_
        refine eA_c ?_ (fun b_7 => ?_)
        · refine Eq.trans (rn_go 1 (pc' := 80) (L' := [.ref a0, .int x1]) (st' := [.int (1 : Int32), .null]) rfl) ?_
          exact rn_z rfl rfl
        · refine Eq.trans (rn_go 1 (pc' := 80) (L' := [.ref a0, .int x1]) (st' := [.int (1 : Int32), .ref b_7]) rfl) ?_
          refine Eq.trans (rn_aI (L' := [.ref a0, .int x1]) rfl rfl) ?_
          refine eI_c (fun x_8 => ?_)
          exact rn_retI rfl rfl rfl
      refine cons_c ?_ ?_
      · refine Eq.trans (rn_go 1 (pc' := 83) (L' := [.ref a0, .int x1]) (st' := [.ref a0]) rfl) ?_
        refine Eq.trans (rn_gA (L' := [.ref a0, .int x1]) rfl rfl rfl rfl) ?_
        refine eA_c ?_ (fun b_9 => ?_)
        · refine Eq.trans (rn_go 1 (pc' := 87) (L' := [.ref a0, .int x1]) (st' := [.int (3 : Int32), .null]) rfl) ?_
          exact rn_z rfl rfl
        · refine Eq.trans (rn_go 1 (pc' := 87) (L' := [.ref a0, .int x1]) (st' := [.int (3 : Int32), .ref b_9]) rfl) ?_
          refine Eq.trans (rn_aI (L' := [.ref a0, .int x1]) rfl rfl) ?_
          refine eI_c (fun x_10 => ?_)
          exact rn_retI rfl rfl rfl
      refine cons_c ?_ ?_
      · refine Eq.trans (rn_go 1 (pc' := 90) (L' := [.ref a0, .int x1]) (st' := [.ref a0]) rfl) ?_
        refine Eq.trans (rn_gA (L' := [.ref a0, .int x1]) rfl rfl rfl rfl) ?_
        refine eA_c ?_ (fun b_11 => ?_)
        · refine Eq.trans (rn_go 1 (pc' := 94) (L' := [.ref a0, .int x1]) (st' := [.int (4 : Int32), .null]) rfl) ?_
          exact rn_z rfl rfl
        · refine Eq.trans (rn_go 1 (pc' := 94) (L' := [.ref a0, .int x1]) (st' := [.int (4 : Int32), .ref b_11]) rfl) ?_
          refine Eq.trans (rn_aI (L' := [.ref a0, .int x1]) rfl rfl) ?_
          refine eI_c (fun x_12 => ?_)
          exact rn_retI rfl rfl rfl
      refine cons_c ?_ ?_
      · refine Eq.trans (rn_go 1 (pc' := 97) (L' := [.ref a0, .int x1]) (st' := [.ref a0]) rfl) ?_
        refine Eq.trans (rn_gA (L' := [.ref a0, .int x1]) rfl rfl rfl rfl) ?_
        refine eA_c ?_ (fun b_13 => ?_)
        · refine Eq.trans (rn_go 1 (pc' := 101) (L' := [.ref a0, .int x1]) (st' := [.int (5 : Int32), .null]) rfl) ?_
          exact rn_z rfl rfl
        · refine Eq.trans (rn_go 1 (pc' := 101) (L' := [.ref a0, .int x1]) (st' := [.int (5 : Int32), .ref b_13]) rfl) ?_
          refine Eq.trans (rn_aI (L' := [.ref a0, .int x1]) rfl rfl) ?_
          refine eI_c (fun x_14 => ?_)
          exact rn_retI rfl rfl rfl
      refine cons_c ?_ ?_
      · refine Eq.trans (rn_go 1 (pc' := 104) (L' := [.ref a0, .int x1]) (st' := [.ref a0]) rfl) ?_
        refine Eq.trans (rn_gA (L' := [.ref a0, .int x1]) rfl rfl rfl rfl) ?_
        refine eA_c ?_ (fun b_15 => ?_)
        · refine Eq.trans (rn_go 1 (pc' := 109) (L' := [.ref a0, .int x1]) (st' := [.int (6 : Int32), .null]) rfl) ?_
          exact rn_z rfl rfl
        · refine Eq.trans (rn_go 1 (pc' := 109) (L' := [.ref a0, .int x1]) (st' := [.int (6 : Int32), .ref b_15]) rfl) ?_
          refine Eq.trans (rn_aI (L' := [.ref a0, .int x1]) rfl rfl) ?_
          refine eI_c (fun x_16 => ?_)
          exact rn_retI rfl rfl rfl
      refine cons_c ?_ ?_
      · refine Eq.trans (rn_go 1 (pc' := 112) (L' := [.ref a0, .int x1]) (st' := [.ref a0]) rfl) ?_
        refine Eq.trans (rn_gA (L' := [.ref a0, .int x1]) rfl rfl rfl rfl) ?_
        refine eA_c ?_ (fun b_17 => ?_)
        · refine Eq.trans (rn_go 1 (pc' := 116) (L' := [.ref a0, .int x1]) (st' := [.int (2 : Int32), .null]) rfl) ?_
          exact rn_z rfl rfl
        · refine Eq.trans (rn_go 1 (pc' := 116) (L' := [.ref a0, .int x1]) (st' := [.int (2 : Int32), .ref b_17]) rfl) ?_
          refine Eq.trans (rn_aI (L' := [.ref a0, .int x1]) rfl rfl) ?_
          refine eI_c (fun x_18 => ?_)
          exact rn_retI rfl rfl rfl
      refine cons_c ?_ ?_
      · refine Eq.trans (rn_go 1 (pc' := 119) (L' := [.ref a0, .int x1]) (st' := [.ref a0]) rfl) ?_
        refine Eq.trans (rn_gA (L' := [.ref a0, .int x1]) rfl rfl rfl rfl) ?_
        refine eA_c ?_ (fun b_19 => ?_)
        · refine Eq.trans (rn_go 1 (pc' := 124) (L' := [.ref a0, .int x1]) (st' := [.int (9 : Int32), .null]) rfl) ?_
          exact rn_z rfl rfl
        · refine Eq.trans (rn_go 1 (pc' := 124) (L' := [.ref a0, .int x1]) (st' := [.int (9 : Int32), .ref b_19]) rfl) ?_
          refine Eq.trans (rn_aI (L' := [.ref a0, .int x1]) rfl rfl) ?_
          refine eI_c (fun x_20 => ?_)
          exact rn_retI rfl rfl rfl
      rfl
    · refine Eq.trans (rn_go 1 (pc' := 127) (L' := [.ref a0, .int x1]) (st' := [.ref a0]) rfl) ?_
      refine Eq.trans (rn_gA (L' := [.ref a0, .int x1]) rfl rfl rfl rfl) ?_
      refine eA_c ?_ (fun b_21 => ?_)
      · refine Eq.trans (rn_go 5 (pc' := 137) (L' := [.ref a0, .int x1]) (st' := [.int (((10 : Int32) + x1) - (8 : Int32)), .null]) rfl) ?_
        exact rn_z rfl rfl
      · refine Eq.trans (rn_go 5 (pc' := 137) (L' := [.ref a0, .int x1]) (st' := [.int (((10 : Int32) + x1) - (8 : Int32)), .ref b_21]) rfl) ?_
        refine Eq.trans (rn_aI (L' := [.ref a0, .int x1]) rfl rfl) ?_
        refine eI_c (fun x_22 => ?_)
        exact rn_retI rfl rfl rfl
  · refine Eq.trans (rn_go 1 (pc' := 18) (L' := [.ref a0, .int x1]) (st' := [.int (0 : Int32)]) rfl) ?_
    exact rn_retI rfl rfl rfl
theorem in_X13_get {B : Nat} (a0 : Nat) (x1 : Int32) (x2 : Int32) (s : am_S) : cl_ tb_ct tb_mt B K_X13_get [.ref a0, .int x1, .int x2] s = rn_ tb_ct tb_mt B mm_X13_get 0 [.ref a0, .int x1, .int x2] [] s := cl_in rfl rfl rfl rfl
theorem dc_X13_get_0 {B : Nat} (a0 : Nat) (x1 : Int32) (x2 : Int32) (s : am_S) : rn_ tb_ct tb_mt B mm_X13_get 0 [.ref a0, .int x1, .int x2] [] s = cI (cl_ tb_ct tb_mt B K_X13_isKey [.int x1] s) (fun x_2 s_1 => if x_2 = 0 then rn_ tb_ct tb_mt B mm_X13_get 24 [.ref a0, .int x1, .int x2] [.ref a0] s_1 else cI (cl_ tb_ct tb_mt B K_X13_in [.long x2.toInt64, .long (0 : Int64), .long (4 : Int64)] s_1) (fun x_4 s_3 => if x_4 = 0 then rn_ tb_ct tb_mt B mm_X13_get 24 [.ref a0, .int x1, .int x2] [.ref a0] s_3 else rn_ tb_ct tb_mt B mm_X13_get 25 [.ref a0, .int x1, .int x2] [.int (1 : Int32), .ref a0] s_3) xo) xo := by
  refine Eq.trans (rn_go 2 (pc' := 2) (L' := [.ref a0, .int x1, .int x2]) (st' := [.int x1, .ref a0]) rfl) ?_
  refine Eq.trans (rn_sta (L' := [.ref a0, .int x1, .int x2]) (as := [.int x1]) (rest := [.ref a0]) rfl rfl rfl rfl rfl (Nat.le_of_ble_eq_true rfl) (by decide) rfl) ?_
  refine Eq.trans (cW_I rfl rfl rfl) ?_
  refine cI_c (fun x_2 s_1 => ?_) (xh_nil rfl)
  refine Eq.trans (rn_ifeq (L' := [.ref a0, .int x1, .int x2]) rfl rfl) ?_
  refine if_c ?_ ?_
  · rfl
  · refine Eq.trans (rn_go 4 (pc' := 14) (L' := [.ref a0, .int x1, .int x2]) (st' := [.long (4 : Int64), .long (0 : Int64), .long x2.toInt64, .ref a0]) rfl) ?_
    refine Eq.trans (rn_sta (L' := [.ref a0, .int x1, .int x2]) (as := [.long x2.toInt64, .long (0 : Int64), .long (4 : Int64)]) (rest := [.ref a0]) rfl rfl rfl rfl rfl (Nat.le_of_ble_eq_true rfl) (by decide) rfl) ?_
    refine Eq.trans (cW_I rfl rfl rfl) ?_
    refine cI_c (fun x_4 s_3 => ?_) (xh_nil rfl)
    refine Eq.trans (rn_ifeq (L' := [.ref a0, .int x1, .int x2]) rfl rfl) ?_
    refine if_c ?_ ?_
    · rfl
    · exact rn_go 2 (pc' := 25) (L' := [.ref a0, .int x1, .int x2]) (st' := [.int (1 : Int32), .ref a0]) rfl
theorem dc_X13_get_24 {B : Nat} (a0 : Nat) (x1 : Int32) (x2 : Int32) (as0 : Nat) (s : am_S) : rn_ tb_ct tb_mt B mm_X13_get 24 [.ref a0, .int x1, .int x2] [.ref as0] s = rn_ tb_ct tb_mt B mm_X13_get 25 [.ref a0, .int x1, .int x2] [.int (0 : Int32), .ref as0] s := by
  exact rn_go 1 (pc' := 25) (L' := [.ref a0, .int x1, .int x2]) (st' := [.int (0 : Int32), .ref as0]) rfl
theorem dc_X13_get_25 {B : Nat} (a0 : Nat) (x1 : Int32) (x2 : Int32) (xs0 : Int32) (as1 : Nat) (s : am_S) : rn_ tb_ct tb_mt B mm_X13_get 25 [.ref a0, .int x1, .int x2] [.int xs0, .ref as1] s = eC (am_cls s as1) 11 (cI (cl_ tb_ct tb_mt B K_X13_isThrown [.ref as1, .int xs0, .int (1 : Int32)] s) (fun x_2 s_1 => if x_2 = 0 then eC (am_cls s_1 a0) 11 (cI (cl_ tb_ct tb_mt B K_X13_isThere [.ref a0, .int x1] s_1) (fun x_4 s_3 => if x_4 = 0 then some (.inl (some (.int (-(2000000000 : Int32)))), s_3) else eC (am_cls s_3 a0) 11 (cI (cl_ tb_ct tb_mt B K_X13_placeOf [.ref a0, .int x1] s_3) (fun x_6 s_5 => eC (am_cls s_5 a0) 11 (cI (cl_ tb_ct tb_mt B K_X13_keyAt [.ref a0, .int x_6, .int ((1 : Int32) + x2)] s_5) (fun x_8 s_7 => some (.inl (some (.int x_8)), s_7)) xo)) xo)) xo) else some (.inl (some (.int (0 : Int32))), s_1)) xo) := by
  refine Eq.trans (rn_go 1 (pc' := 26) (L' := [.ref a0, .int x1, .int x2]) (st' := [.int (1 : Int32), .int xs0, .ref as1]) rfl) ?_
  refine Eq.trans (rn_vir (L' := [.ref a0, .int x1, .int x2]) (as := [.int xs0, .int (1 : Int32)]) (rest := []) rfl rfl rfl rfl rfl (Nat.le_of_ble_eq_true rfl) (by decide) (by decide)) ?_
  refine eC_c ?_
  refine Eq.trans (cW_I rfl rfl rfl) ?_
  refine cI_c (fun x_2 s_1 => ?_) (xh_nil rfl)
  refine Eq.trans (rn_ifeq (L' := [.ref a0, .int x1, .int x2]) rfl rfl) ?_
  refine if_c ?_ ?_
  · refine Eq.trans (rn_go 2 (pc' := 36) (L' := [.ref a0, .int x1, .int x2]) (st' := [.int x1, .ref a0]) rfl) ?_
    refine Eq.trans (rn_vir (L' := [.ref a0, .int x1, .int x2]) (as := [.int x1]) (rest := []) rfl rfl rfl rfl rfl (Nat.le_of_ble_eq_true rfl) (by decide) (by decide)) ?_
    refine eC_c ?_
    refine Eq.trans (cW_I rfl rfl rfl) ?_
    refine cI_c (fun x_4 s_3 => ?_) (xh_nil rfl)
    refine Eq.trans (rn_ifeq (L' := [.ref a0, .int x1, .int x2]) rfl rfl) ?_
    refine if_c ?_ ?_
    · refine Eq.trans (rn_go 1 (pc' := 59) (L' := [.ref a0, .int x1, .int x2]) (st' := [.int (-(2000000000 : Int32))]) rfl) ?_
      exact rn_retI rfl rfl rfl
    · refine Eq.trans (rn_go 3 (pc' := 45) (L' := [.ref a0, .int x1, .int x2]) (st' := [.int x1, .ref a0, .ref a0]) rfl) ?_
      refine Eq.trans (rn_vir (L' := [.ref a0, .int x1, .int x2]) (as := [.int x1]) (rest := [.ref a0]) rfl rfl rfl rfl rfl (Nat.le_of_ble_eq_true rfl) (by decide) (by decide)) ?_
      refine eC_c ?_
      refine Eq.trans (cW_I rfl rfl rfl) ?_
      refine cI_c (fun x_6 s_5 => ?_) (xh_nil rfl)
      refine Eq.trans (rn_go 3 (pc' := 51) (L' := [.ref a0, .int x1, .int x2]) (st' := [.int ((1 : Int32) + x2), .int x_6, .ref a0]) rfl) ?_
      refine Eq.trans (rn_vir (L' := [.ref a0, .int x1, .int x2]) (as := [.int x_6, .int ((1 : Int32) + x2)]) (rest := []) rfl rfl rfl rfl rfl (Nat.le_of_ble_eq_true rfl) (by decide) (by decide)) ?_
      refine eC_c ?_
      refine Eq.trans (cW_I rfl rfl rfl) ?_
      refine cI_c (fun x_8 s_7 => ?_) (xh_nil rfl)
      refine Eq.trans (rn_go 1 (pc' := 59) (L' := [.ref a0, .int x1, .int x2]) (st' := [.int x_8]) rfl) ?_
      exact rn_retI rfl rfl rfl
  · refine Eq.trans (rn_go 1 (pc' := 33) (L' := [.ref a0, .int x1, .int x2]) (st' := [.int (0 : Int32)]) rfl) ?_
    exact rn_retI rfl rfl rfl
theorem in_X13_getAt {B : Nat} (a0 : Nat) (x1 : Int32) (x2 : Int32) (s : am_S) : cl_ tb_ct tb_mt B K_X13_getAt [.ref a0, .int x1, .int x2] s = rn_ tb_ct tb_mt B mm_X13_getAt 0 [.ref a0, .int x1, .int x2, am_un, am_un] [] s := cl_in rfl rfl rfl rfl
theorem dc_X13_getAt_0 {B : Nat} (a0 : Nat) (x1 : Int32) (x2 : Int32) (s : am_S) : rn_ tb_ct tb_mt B mm_X13_getAt 0 [.ref a0, .int x1, .int x2, am_un, am_un] [] s = cI (cl_ tb_ct tb_mt B K_X13_isKey [.int x1] s) (fun x_2 s_1 => if x_2 = 0 then rn_ tb_ct tb_mt B mm_X13_getAt 16 [.ref a0, .int x1, .int x2, am_un, am_un] [.ref a0] s_1 else if x2 < 0 then rn_ tb_ct tb_mt B mm_X13_getAt 16 [.ref a0, .int x1, .int x2, am_un, am_un] [.ref a0] s_1 else rn_ tb_ct tb_mt B mm_X13_getAt 17 [.ref a0, .int x1, .int x2, am_un, am_un] [.int (1 : Int32), .ref a0] s_1) xo := by
  refine Eq.trans (rn_go 2 (pc' := 2) (L' := [.ref a0, .int x1, .int x2, am_un, am_un]) (st' := [.int x1, .ref a0]) rfl) ?_
  refine Eq.trans (rn_sta (L' := [.ref a0, .int x1, .int x2, am_un, am_un]) (as := [.int x1]) (rest := [.ref a0]) rfl rfl rfl rfl rfl (Nat.le_of_ble_eq_true rfl) (by decide) rfl) ?_
  refine Eq.trans (cW_I rfl rfl rfl) ?_
  refine cI_c (fun x_2 s_1 => ?_) (xh_nil rfl)
  refine Eq.trans (rn_ifeq (L' := [.ref a0, .int x1, .int x2, am_un, am_un]) rfl rfl) ?_
  refine if_c ?_ ?_
  · rfl
  · refine Eq.trans (rn_go 1 (pc' := 9) (L' := [.ref a0, .int x1, .int x2, am_un, am_un]) (st' := [.int x2, .ref a0]) rfl) ?_
    refine Eq.trans (rn_iflt (L' := [.ref a0, .int x1, .int x2, am_un, am_un]) rfl rfl) ?_
    refine if_c ?_ ?_
    · rfl
    · exact rn_go 2 (pc' := 17) (L' := [.ref a0, .int x1, .int x2, am_un, am_un]) (st' := [.int (1 : Int32), .ref a0]) rfl
theorem dc_X13_getAt_16 {B : Nat} (a0 : Nat) (x1 : Int32) (x2 : Int32) (as0 : Nat) (s : am_S) : rn_ tb_ct tb_mt B mm_X13_getAt 16 [.ref a0, .int x1, .int x2, am_un, am_un] [.ref as0] s = rn_ tb_ct tb_mt B mm_X13_getAt 17 [.ref a0, .int x1, .int x2, am_un, am_un] [.int (0 : Int32), .ref as0] s := by
  exact rn_go 1 (pc' := 17) (L' := [.ref a0, .int x1, .int x2, am_un, am_un]) (st' := [.int (0 : Int32), .ref as0]) rfl
theorem dc_X13_getAt_17 {B : Nat} (a0 : Nat) (x1 : Int32) (x2 : Int32) (xs0 : Int32) (as1 : Nat) (s : am_S) : rn_ tb_ct tb_mt B mm_X13_getAt 17 [.ref a0, .int x1, .int x2, am_un, am_un] [.int xs0, .ref as1] s = eC (am_cls s as1) 11 (cI (cl_ tb_ct tb_mt B K_X13_isThrown [.ref as1, .int xs0, .int (1 : Int32)] s) (fun x_2 s_1 => if x_2 = 0 then eC (am_cls s_1 a0) 11 (cI (cl_ tb_ct tb_mt B K_X13_asked [.ref a0, .int x2] s_1) (fun x_4 s_3 => eC (am_cls s_3 a0) 11 (cI (cl_ tb_ct tb_mt B K_X13_whyNot [.ref a0, .int x_4] s_3) (fun x_6 s_5 => if x_6 = 0 then eC (am_cls s_5 a0) 11 (cI (cl_ tb_ct tb_mt B K_X13_asked [.ref a0, .int x2] s_5) (fun x_8 s_7 => eC (am_cls s_7 a0) 11 (cI (cl_ tb_ct tb_mt B K_X13_laysThen [.ref a0, .int x_8] s_7) (fun x_10 s_9 => eC (am_cls s_9 a0) 11 (cI (cl_ tb_ct tb_mt B K_X13_valueThen [.ref a0, .int x1] s_9) (fun x_12 s_11 => some (.inl (some (.int x_12)), s_11)) xo)) xo)) xo) else some (.inl (some (.int x_6)), s_5)) xo)) xo) else some (.inl (some (.int (0 : Int32))), s_1)) xo) := by
  refine Eq.trans (rn_go 1 (pc' := 18) (L' := [.ref a0, .int x1, .int x2, am_un, am_un]) (st' := [.int (1 : Int32), .int xs0, .ref as1]) rfl) ?_
  refine Eq.trans (rn_vir (L' := [.ref a0, .int x1, .int x2, am_un, am_un]) (as := [.int xs0, .int (1 : Int32)]) (rest := []) rfl rfl rfl rfl rfl (Nat.le_of_ble_eq_true rfl) (by decide) (by decide)) ?_
  refine eC_c ?_
  refine Eq.trans (cW_I rfl rfl rfl) ?_
  refine cI_c (fun x_2 s_1 => ?_) (xh_nil rfl)
  refine Eq.trans (rn_ifeq (L' := [.ref a0, .int x1, .int x2, am_un, am_un]) rfl rfl) ?_
  refine if_c ?_ ?_
  · refine Eq.trans (rn_go 3 (pc' := 29) (L' := [.ref a0, .int x1, .int x2, am_un, am_un]) (st' := [.int x2, .ref a0, .ref a0]) rfl) ?_
    refine Eq.trans (rn_vir (L' := [.ref a0, .int x1, .int x2, am_un, am_un]) (as := [.int x2]) (rest := [.ref a0]) rfl rfl rfl rfl rfl (Nat.le_of_ble_eq_true rfl) (by decide) (by decide)) ?_
    refine eC_c ?_
    refine Eq.trans (cW_I rfl rfl rfl) ?_
    refine cI_c (fun x_4 s_3 => ?_) (xh_nil rfl)
    refine Eq.trans (rn_vir (L' := [.ref a0, .int x1, .int x2, am_un, am_un]) (as := [.int x_4]) (rest := []) rfl rfl rfl rfl rfl (Nat.le_of_ble_eq_true rfl) (by decide) (by decide)) ?_
    refine eC_c ?_
    refine Eq.trans (cW_I rfl rfl rfl) ?_
    refine cI_c (fun x_6 s_5 => ?_) (xh_nil rfl)
    refine Eq.trans (rn_go 2 (pc' := 37) (L' := [.ref a0, .int x1, .int x2, .int x_6, am_un]) (st' := [.int x_6]) rfl) ?_
    refine Eq.trans (rn_ifeq (L' := [.ref a0, .int x1, .int x2, .int x_6, am_un]) rfl rfl) ?_
    refine if_c ?_ ?_
    · refine Eq.trans (rn_go 3 (pc' := 45) (L' := [.ref a0, .int x1, .int x2, .int x_6, am_un]) (st' := [.int x2, .ref a0, .ref a0]) rfl) ?_
      refine Eq.trans (rn_vir (L' := [.ref a0, .int x1, .int x2, .int x_6, am_un]) (as := [.int x2]) (rest := [.ref a0]) rfl rfl rfl rfl rfl (Nat.le_of_ble_eq_true rfl) (by decide) (by decide)) ?_
      refine eC_c ?_
      refine Eq.trans (cW_I rfl rfl rfl) ?_
      refine cI_c (fun x_8 s_7 => ?_) (xh_nil rfl)
      refine Eq.trans (rn_vir (L' := [.ref a0, .int x1, .int x2, .int x_6, am_un]) (as := [.int x_8]) (rest := []) rfl rfl rfl rfl rfl (Nat.le_of_ble_eq_true rfl) (by decide) (by decide)) ?_
      refine eC_c ?_
      refine Eq.trans (cW_I rfl rfl rfl) ?_
      refine cI_c (fun x_10 s_9 => ?_) (xh_nil rfl)
      refine Eq.trans (rn_go 3 (pc' := 55) (L' := [.ref a0, .int x1, .int x2, .int x_6, .int x_10]) (st' := [.int x1, .ref a0]) rfl) ?_
      refine Eq.trans (rn_vir (L' := [.ref a0, .int x1, .int x2, .int x_6, .int x_10]) (as := [.int x1]) (rest := []) rfl rfl rfl rfl rfl (Nat.le_of_ble_eq_true rfl) (by decide) (by decide)) ?_
      refine eC_c ?_
      refine Eq.trans (cW_I rfl rfl rfl) ?_
      refine cI_c (fun x_12 s_11 => ?_) (xh_nil rfl)
      exact rn_retI rfl rfl rfl
    · refine Eq.trans (rn_go 1 (pc' := 41) (L' := [.ref a0, .int x1, .int x2, .int x_6, am_un]) (st' := [.int x_6]) rfl) ?_
      exact rn_retI rfl rfl rfl
  · refine Eq.trans (rn_go 1 (pc' := 25) (L' := [.ref a0, .int x1, .int x2, am_un, am_un]) (st' := [.int (0 : Int32)]) rfl) ?_
    exact rn_retI rfl rfl rfl
theorem in_X13_firstThen {B : Nat} (a0 : Nat) (x1 : Int32) (s : am_S) : cl_ tb_ct tb_mt B K_X13_firstThen [.ref a0, .int x1] s = rn_ tb_ct tb_mt B mm_X13_firstThen 0 [.ref a0, .int x1, am_un] [] s := cl_in rfl rfl rfl rfl
theorem dc_X13_firstThen_0 {B : Nat} (a0 : Nat) (x1 : Int32) (s : am_S) : rn_ tb_ct tb_mt B mm_X13_firstThen 0 [.ref a0, .int x1, am_un] [] s = rn_ tb_ct tb_mt B mm_X13_firstThen 2 [.ref a0, .int x1, .int (0 : Int32)] [] s := by
  exact rn_go 2 (pc' := 2) (L' := [.ref a0, .int x1, .int (0 : Int32)]) (st' := []) rfl
theorem dc_X13_firstThen_2 {B : Nat} (a0 : Nat) (x1 : Int32) (x2 : Int32) (s : am_S) : rn_ tb_ct tb_mt B mm_X13_firstThen 2 [.ref a0, .int x1, .int x2] [] s = eI (gI tb_ct s a0 11 7) (fun x_1 => if x_1 ≤ x2 then some (.inl (some (.int x2)), s) else eA (gA tb_ct s a0 11 5) (none) (fun b_2 => eI (aI s b_2 x2) (fun x_3 => if x1 ≤ x_3 then some (.inl (some (.int x2)), s) else rn_ tb_ct tb_mt B mm_X13_firstThen 2 [.ref a0, .int x1, .int (x2 + (1 : Int32))] [] s))) := by
  refine Eq.trans (rn_go 2 (pc' := 4) (L' := [.ref a0, .int x1, .int x2]) (st' := [.ref a0, .int x2]) rfl) ?_
  refine Eq.trans (rn_gI (L' := [.ref a0, .int x1, .int x2]) rfl rfl rfl rfl) ?_
  refine eI_c (fun x_1 => ?_)
  refine Eq.trans (rn_icge (L' := [.ref a0, .int x1, .int x2]) rfl rfl) ?_
  refine if_c ?_ ?_
  · refine Eq.trans (rn_go 1 (pc' := 27) (L' := [.ref a0, .int x1, .int x2]) (st' := [.int x2]) rfl) ?_
    exact rn_retI rfl rfl rfl
  · refine Eq.trans (rn_go 1 (pc' := 11) (L' := [.ref a0, .int x1, .int x2]) (st' := [.ref a0]) rfl) ?_
    refine Eq.trans (rn_gA (L' := [.ref a0, .int x1, .int x2]) rfl rfl rfl rfl) ?_
    refine eA_c ?_ (fun b_2 => ?_)
    · refine Eq.trans (rn_go 1 (pc' := 15) (L' := [.ref a0, .int x1, .int x2]) (st' := [.int x2, .null]) rfl) ?_
      exact rn_z rfl rfl
    · refine Eq.trans (rn_go 1 (pc' := 15) (L' := [.ref a0, .int x1, .int x2]) (st' := [.int x2, .ref b_2]) rfl) ?_
      refine Eq.trans (rn_aI (L' := [.ref a0, .int x1, .int x2]) rfl rfl) ?_
      refine eI_c (fun x_3 => ?_)
      refine Eq.trans (rn_go 1 (pc' := 17) (L' := [.ref a0, .int x1, .int x2]) (st' := [.int x1, .int x_3]) rfl) ?_
      refine Eq.trans (rn_icge (L' := [.ref a0, .int x1, .int x2]) rfl rfl) ?_
      refine if_c ?_ ?_
      · refine Eq.trans (rn_go 1 (pc' := 27) (L' := [.ref a0, .int x1, .int x2]) (st' := [.int x2]) rfl) ?_
        exact rn_retI rfl rfl rfl
      · exact rn_go 2 (pc' := 2) (L' := [.ref a0, .int x1, .int (x2 + (1 : Int32))]) (st' := []) rfl
theorem in_X13_keysAt {B : Nat} (a0 : Nat) (x1 : Int32) (x2 : Int32) (x3 : Int32) (s : am_S) : cl_ tb_ct tb_mt B K_X13_keysAt [.ref a0, .int x1, .int x2, .int x3] s = rn_ tb_ct tb_mt B mm_X13_keysAt 0 [.ref a0, .int x1, .int x2, .int x3, am_un, am_un] [] s := cl_in rfl rfl rfl rfl
theorem dc_X13_keysAt_0 {B : Nat} (a0 : Nat) (x1 : Int32) (x2 : Int32) (x3 : Int32) (s : am_S) : rn_ tb_ct tb_mt B mm_X13_keysAt 0 [.ref a0, .int x1, .int x2, .int x3, am_un, am_un] [] s = cI (cl_ tb_ct tb_mt B K_X13_isRange [.int x1, .int x2] s) (fun x_2 s_1 => if x_2 = 0 then rn_ tb_ct tb_mt B mm_X13_keysAt 17 [.ref a0, .int x1, .int x2, .int x3, am_un, am_un] [.ref a0] s_1 else if x3 < 0 then rn_ tb_ct tb_mt B mm_X13_keysAt 17 [.ref a0, .int x1, .int x2, .int x3, am_un, am_un] [.ref a0] s_1 else rn_ tb_ct tb_mt B mm_X13_keysAt 18 [.ref a0, .int x1, .int x2, .int x3, am_un, am_un] [.int (1 : Int32), .ref a0] s_1) xo := by
  refine Eq.trans (rn_go 3 (pc' := 3) (L' := [.ref a0, .int x1, .int x2, .int x3, am_un, am_un]) (st' := [.int x2, .int x1, .ref a0]) rfl) ?_
  refine Eq.trans (rn_sta (L' := [.ref a0, .int x1, .int x2, .int x3, am_un, am_un]) (as := [.int x1, .int x2]) (rest := [.ref a0]) rfl rfl rfl rfl rfl (Nat.le_of_ble_eq_true rfl) (by decide) rfl) ?_
  refine Eq.trans (cW_I rfl rfl rfl) ?_
  refine cI_c (fun x_2 s_1 => ?_) (xh_nil rfl)
  refine Eq.trans (rn_ifeq (L' := [.ref a0, .int x1, .int x2, .int x3, am_un, am_un]) rfl rfl) ?_
  refine if_c ?_ ?_
  · rfl
  · refine Eq.trans (rn_go 1 (pc' := 10) (L' := [.ref a0, .int x1, .int x2, .int x3, am_un, am_un]) (st' := [.int x3, .ref a0]) rfl) ?_
    refine Eq.trans (rn_iflt (L' := [.ref a0, .int x1, .int x2, .int x3, am_un, am_un]) rfl rfl) ?_
    refine if_c ?_ ?_
    · rfl
    · exact rn_go 2 (pc' := 18) (L' := [.ref a0, .int x1, .int x2, .int x3, am_un, am_un]) (st' := [.int (1 : Int32), .ref a0]) rfl
theorem dc_X13_keysAt_17 {B : Nat} (a0 : Nat) (x1 : Int32) (x2 : Int32) (x3 : Int32) (as0 : Nat) (s : am_S) : rn_ tb_ct tb_mt B mm_X13_keysAt 17 [.ref a0, .int x1, .int x2, .int x3, am_un, am_un] [.ref as0] s = rn_ tb_ct tb_mt B mm_X13_keysAt 18 [.ref a0, .int x1, .int x2, .int x3, am_un, am_un] [.int (0 : Int32), .ref as0] s := by
  exact rn_go 1 (pc' := 18) (L' := [.ref a0, .int x1, .int x2, .int x3, am_un, am_un]) (st' := [.int (0 : Int32), .ref as0]) rfl
theorem dc_X13_keysAt_18 {B : Nat} (a0 : Nat) (x1 : Int32) (x2 : Int32) (x3 : Int32) (xs0 : Int32) (as1 : Nat) (s : am_S) : rn_ tb_ct tb_mt B mm_X13_keysAt 18 [.ref a0, .int x1, .int x2, .int x3, am_un, am_un] [.int xs0, .ref as1] s = eC (am_cls s as1) 11 (cI (cl_ tb_ct tb_mt B K_X13_isThrown [.ref as1, .int xs0, .int (1 : Int32)] s) (fun x_2 s_1 => if x_2 = 0 then eC (am_cls s_1 a0) 11 (cI (cl_ tb_ct tb_mt B K_X13_asked [.ref a0, .int x3] s_1) (fun x_4 s_3 => eC (am_cls s_3 a0) 11 (cI (cl_ tb_ct tb_mt B K_X13_whyNot [.ref a0, .int x_4] s_3) (fun x_6 s_5 => if x_6 = 0 then eC (am_cls s_5 a0) 11 (cI (cl_ tb_ct tb_mt B K_X13_asked [.ref a0, .int x3] s_5) (fun x_8 s_7 => eC (am_cls s_7 a0) 11 (cI (cl_ tb_ct tb_mt B K_X13_laysThen [.ref a0, .int x_8] s_7) (fun x_10 s_9 => eC (am_cls s_9 a0) 11 (cI (cl_ tb_ct tb_mt B K_X13_firstThen [.ref a0, .int (x2 + (1 : Int32))] s_9) (fun x_12 s_11 => eC (am_cls s_11 a0) 11 (cI (cl_ tb_ct tb_mt B K_X13_firstThen [.ref a0, .int x1] s_11) (fun x_14 s_13 => some (.inl (some (.int (x_12 - x_14))), s_13)) xo)) xo)) xo)) xo) else some (.inl (some (.int x_6)), s_5)) xo)) xo) else some (.inl (some (.int (0 : Int32))), s_1)) xo) := by
  refine Eq.trans (rn_go 1 (pc' := 19) (L' := [.ref a0, .int x1, .int x2, .int x3, am_un, am_un]) (st' := [.int (1 : Int32), .int xs0, .ref as1]) rfl) ?_
  refine Eq.trans (rn_vir (L' := [.ref a0, .int x1, .int x2, .int x3, am_un, am_un]) (as := [.int xs0, .int (1 : Int32)]) (rest := []) rfl rfl rfl rfl rfl (Nat.le_of_ble_eq_true rfl) (by decide) (by decide)) ?_
  refine eC_c ?_
  refine Eq.trans (cW_I rfl rfl rfl) ?_
  refine cI_c (fun x_2 s_1 => ?_) (xh_nil rfl)
  refine Eq.trans (rn_ifeq (L' := [.ref a0, .int x1, .int x2, .int x3, am_un, am_un]) rfl rfl) ?_
  refine if_c ?_ ?_
  · refine Eq.trans (rn_go 3 (pc' := 30) (L' := [.ref a0, .int x1, .int x2, .int x3, am_un, am_un]) (st' := [.int x3, .ref a0, .ref a0]) rfl) ?_
    refine Eq.trans (rn_vir (L' := [.ref a0, .int x1, .int x2, .int x3, am_un, am_un]) (as := [.int x3]) (rest := [.ref a0]) rfl rfl rfl rfl rfl (Nat.le_of_ble_eq_true rfl) (by decide) (by decide)) ?_
    refine eC_c ?_
    refine Eq.trans (cW_I rfl rfl rfl) ?_
    refine cI_c (fun x_4 s_3 => ?_) (xh_nil rfl)
    refine Eq.trans (rn_vir (L' := [.ref a0, .int x1, .int x2, .int x3, am_un, am_un]) (as := [.int x_4]) (rest := []) rfl rfl rfl rfl rfl (Nat.le_of_ble_eq_true rfl) (by decide) (by decide)) ?_
    refine eC_c ?_
    refine Eq.trans (cW_I rfl rfl rfl) ?_
    refine cI_c (fun x_6 s_5 => ?_) (xh_nil rfl)
    refine Eq.trans (rn_go 2 (pc' := 40) (L' := [.ref a0, .int x1, .int x2, .int x3, .int x_6, am_un]) (st' := [.int x_6]) rfl) ?_
    refine Eq.trans (rn_ifeq (L' := [.ref a0, .int x1, .int x2, .int x3, .int x_6, am_un]) rfl rfl) ?_
    refine if_c ?_ ?_
    · refine Eq.trans (rn_go 3 (pc' := 49) (L' := [.ref a0, .int x1, .int x2, .int x3, .int x_6, am_un]) (st' := [.int x3, .ref a0, .ref a0]) rfl) ?_
      refine Eq.trans (rn_vir (L' := [.ref a0, .int x1, .int x2, .int x3, .int x_6, am_un]) (as := [.int x3]) (rest := [.ref a0]) rfl rfl rfl rfl rfl (Nat.le_of_ble_eq_true rfl) (by decide) (by decide)) ?_
      refine eC_c ?_
      refine Eq.trans (cW_I rfl rfl rfl) ?_
      refine cI_c (fun x_8 s_7 => ?_) (xh_nil rfl)
      refine Eq.trans (rn_vir (L' := [.ref a0, .int x1, .int x2, .int x3, .int x_6, am_un]) (as := [.int x_8]) (rest := []) rfl rfl rfl rfl rfl (Nat.le_of_ble_eq_true rfl) (by decide) (by decide)) ?_
      refine eC_c ?_
      refine Eq.trans (cW_I rfl rfl rfl) ?_
      refine cI_c (fun x_10 s_9 => ?_) (xh_nil rfl)
      refine Eq.trans (rn_go 5 (pc' := 61) (L' := [.ref a0, .int x1, .int x2, .int x3, .int x_6, .int x_10]) (st' := [.int (x2 + (1 : Int32)), .ref a0]) rfl) ?_
      refine Eq.trans (rn_vir (L' := [.ref a0, .int x1, .int x2, .int x3, .int x_6, .int x_10]) (as := [.int (x2 + (1 : Int32))]) (rest := []) rfl rfl rfl rfl rfl (Nat.le_of_ble_eq_true rfl) (by decide) (by decide)) ?_
      refine eC_c ?_
      refine Eq.trans (cW_I rfl rfl rfl) ?_
      refine cI_c (fun x_12 s_11 => ?_) (xh_nil rfl)
      refine Eq.trans (rn_go 2 (pc' := 66) (L' := [.ref a0, .int x1, .int x2, .int x3, .int x_6, .int x_10]) (st' := [.int x1, .ref a0, .int x_12]) rfl) ?_
      refine Eq.trans (rn_vir (L' := [.ref a0, .int x1, .int x2, .int x3, .int x_6, .int x_10]) (as := [.int x1]) (rest := [.int x_12]) rfl rfl rfl rfl rfl (Nat.le_of_ble_eq_true rfl) (by decide) (by decide)) ?_
      refine eC_c ?_
      refine Eq.trans (cW_I rfl rfl rfl) ?_
      refine cI_c (fun x_14 s_13 => ?_) (xh_nil rfl)
      refine Eq.trans (rn_go 1 (pc' := 70) (L' := [.ref a0, .int x1, .int x2, .int x3, .int x_6, .int x_10]) (st' := [.int (x_12 - x_14)]) rfl) ?_
      exact rn_retI rfl rfl rfl
    · refine Eq.trans (rn_go 1 (pc' := 45) (L' := [.ref a0, .int x1, .int x2, .int x3, .int x_6, am_un]) (st' := [.int x_6]) rfl) ?_
      exact rn_retI rfl rfl rfl
  · refine Eq.trans (rn_go 1 (pc' := 26) (L' := [.ref a0, .int x1, .int x2, .int x3, am_un, am_un]) (st' := [.int (0 : Int32)]) rfl) ?_
    exact rn_retI rfl rfl rfl
theorem in_X13_keyAt_ {B : Nat} (a0 : Nat) (x1 : Int32) (x2 : Int32) (x3 : Int32) (x4 : Int32) (s : am_S) : cl_ tb_ct tb_mt B K_X13_keyAt_ [.ref a0, .int x1, .int x2, .int x3, .int x4] s = rn_ tb_ct tb_mt B mm_X13_keyAt_ 0 [.ref a0, .int x1, .int x2, .int x3, .int x4, am_un, am_un, am_un] [] s := cl_in rfl rfl rfl rfl
theorem dc_X13_keyAt__0 {B : Nat} (a0 : Nat) (x1 : Int32) (x2 : Int32) (x3 : Int32) (x4 : Int32) (s : am_S) : rn_ tb_ct tb_mt B mm_X13_keyAt_ 0 [.ref a0, .int x1, .int x2, .int x3, .int x4, am_un, am_un, am_un] [] s = cI (cl_ tb_ct tb_mt B K_X13_isRange [.int x1, .int x2] s) (fun x_2 s_1 => if x_2 = 0 then rn_ tb_ct tb_mt B mm_X13_keyAt_ 18 [.ref a0, .int x1, .int x2, .int x3, .int x4, am_un, am_un, am_un] [.ref a0] s_1 else if x4 < 0 then rn_ tb_ct tb_mt B mm_X13_keyAt_ 18 [.ref a0, .int x1, .int x2, .int x3, .int x4, am_un, am_un, am_un] [.ref a0] s_1 else rn_ tb_ct tb_mt B mm_X13_keyAt_ 19 [.ref a0, .int x1, .int x2, .int x3, .int x4, am_un, am_un, am_un] [.int (1 : Int32), .ref a0] s_1) xo := by
  refine Eq.trans (rn_go 3 (pc' := 3) (L' := [.ref a0, .int x1, .int x2, .int x3, .int x4, am_un, am_un, am_un]) (st' := [.int x2, .int x1, .ref a0]) rfl) ?_
  refine Eq.trans (rn_sta (L' := [.ref a0, .int x1, .int x2, .int x3, .int x4, am_un, am_un, am_un]) (as := [.int x1, .int x2]) (rest := [.ref a0]) rfl rfl rfl rfl rfl (Nat.le_of_ble_eq_true rfl) (by decide) rfl) ?_
  refine Eq.trans (cW_I rfl rfl rfl) ?_
  refine cI_c (fun x_2 s_1 => ?_) (xh_nil rfl)
  refine Eq.trans (rn_ifeq (L' := [.ref a0, .int x1, .int x2, .int x3, .int x4, am_un, am_un, am_un]) rfl rfl) ?_
  refine if_c ?_ ?_
  · rfl
  · refine Eq.trans (rn_go 1 (pc' := 11) (L' := [.ref a0, .int x1, .int x2, .int x3, .int x4, am_un, am_un, am_un]) (st' := [.int x4, .ref a0]) rfl) ?_
    refine Eq.trans (rn_iflt (L' := [.ref a0, .int x1, .int x2, .int x3, .int x4, am_un, am_un, am_un]) rfl rfl) ?_
    refine if_c ?_ ?_
    · rfl
    · exact rn_go 2 (pc' := 19) (L' := [.ref a0, .int x1, .int x2, .int x3, .int x4, am_un, am_un, am_un]) (st' := [.int (1 : Int32), .ref a0]) rfl
theorem dc_X13_keyAt__18 {B : Nat} (a0 : Nat) (x1 : Int32) (x2 : Int32) (x3 : Int32) (x4 : Int32) (as0 : Nat) (s : am_S) : rn_ tb_ct tb_mt B mm_X13_keyAt_ 18 [.ref a0, .int x1, .int x2, .int x3, .int x4, am_un, am_un, am_un] [.ref as0] s = rn_ tb_ct tb_mt B mm_X13_keyAt_ 19 [.ref a0, .int x1, .int x2, .int x3, .int x4, am_un, am_un, am_un] [.int (0 : Int32), .ref as0] s := by
  exact rn_go 1 (pc' := 19) (L' := [.ref a0, .int x1, .int x2, .int x3, .int x4, am_un, am_un, am_un]) (st' := [.int (0 : Int32), .ref as0]) rfl
theorem dc_X13_keyAt__19 {B : Nat} (a0 : Nat) (x1 : Int32) (x2 : Int32) (x3 : Int32) (x4 : Int32) (xs0 : Int32) (as1 : Nat) (s : am_S) : rn_ tb_ct tb_mt B mm_X13_keyAt_ 19 [.ref a0, .int x1, .int x2, .int x3, .int x4, am_un, am_un, am_un] [.int xs0, .ref as1] s = eC (am_cls s as1) 11 (cI (cl_ tb_ct tb_mt B K_X13_isThrown [.ref as1, .int xs0, .int (1 : Int32)] s) (fun x_2 s_1 => if x_2 = 0 then eC (am_cls s_1 a0) 11 (cI (cl_ tb_ct tb_mt B K_X13_asked [.ref a0, .int x4] s_1) (fun x_4 s_3 => eC (am_cls s_3 a0) 11 (cI (cl_ tb_ct tb_mt B K_X13_whyNot [.ref a0, .int x_4] s_3) (fun x_6 s_5 => if x_6 = 0 then eC (am_cls s_5 a0) 11 (cI (cl_ tb_ct tb_mt B K_X13_asked [.ref a0, .int x4] s_5) (fun x_8 s_7 => eC (am_cls s_7 a0) 11 (cI (cl_ tb_ct tb_mt B K_X13_laysThen [.ref a0, .int x_8] s_7) (fun x_10 s_9 => eC (am_cls s_9 a0) 11 (cI (cl_ tb_ct tb_mt B K_X13_firstThen [.ref a0, .int x1] s_9) (fun x_12 s_11 => eC (am_cls s_11 a0) 11 (cI (cl_ tb_ct tb_mt B K_X13_firstThen [.ref a0, .int (x2 + (1 : Int32))] s_11) (fun x_14 s_13 => cI (cl_ tb_ct tb_mt B K_X13_in [.long x3.toInt64, .long (0 : Int64), .long ((x_14 - x_12) - (1 : Int32)).toInt64] s_13) (fun x_16 s_15 => if x_16 = 0 then some (.inl (some (.int (-(1 : Int32)))), s_15) else eA (gA tb_ct s_15 a0 11 5) (none) (fun b_17 => eI (aI s_15 b_17 (x_12 + x3)) (fun x_18 => some (.inl (some (.int x_18)), s_15)))) xo) xo)) xo)) xo)) xo) else some (.inl (some (.int x_6)), s_5)) xo)) xo) else some (.inl (some (.int (0 : Int32))), s_1)) xo) := by
  refine Eq.trans (rn_go 1 (pc' := 20) (L' := [.ref a0, .int x1, .int x2, .int x3, .int x4, am_un, am_un, am_un]) (st' := [.int (1 : Int32), .int xs0, .ref as1]) rfl) ?_
  refine Eq.trans (rn_vir (L' := [.ref a0, .int x1, .int x2, .int x3, .int x4, am_un, am_un, am_un]) (as := [.int xs0, .int (1 : Int32)]) (rest := []) rfl rfl rfl rfl rfl (Nat.le_of_ble_eq_true rfl) (by decide) (by decide)) ?_
  refine eC_c ?_
  refine Eq.trans (cW_I rfl rfl rfl) ?_
  refine cI_c (fun x_2 s_1 => ?_) (xh_nil rfl)
  refine Eq.trans (rn_ifeq (L' := [.ref a0, .int x1, .int x2, .int x3, .int x4, am_un, am_un, am_un]) rfl rfl) ?_
  refine if_c ?_ ?_
  · refine Eq.trans (rn_go 3 (pc' := 32) (L' := [.ref a0, .int x1, .int x2, .int x3, .int x4, am_un, am_un, am_un]) (st' := [.int x4, .ref a0, .ref a0]) rfl) ?_
    refine Eq.trans (rn_vir (L' := [.ref a0, .int x1, .int x2, .int x3, .int x4, am_un, am_un, am_un]) (as := [.int x4]) (rest := [.ref a0]) rfl rfl rfl rfl rfl (Nat.le_of_ble_eq_true rfl) (by decide) (by decide)) ?_
    refine eC_c ?_
    refine Eq.trans (cW_I rfl rfl rfl) ?_
    refine cI_c (fun x_4 s_3 => ?_) (xh_nil rfl)
    refine Eq.trans (rn_vir (L' := [.ref a0, .int x1, .int x2, .int x3, .int x4, am_un, am_un, am_un]) (as := [.int x_4]) (rest := []) rfl rfl rfl rfl rfl (Nat.le_of_ble_eq_true rfl) (by decide) (by decide)) ?_
    refine eC_c ?_
    refine Eq.trans (cW_I rfl rfl rfl) ?_
    refine cI_c (fun x_6 s_5 => ?_) (xh_nil rfl)
    refine Eq.trans (rn_go 2 (pc' := 42) (L' := [.ref a0, .int x1, .int x2, .int x3, .int x4, .int x_6, am_un, am_un]) (st' := [.int x_6]) rfl) ?_
    refine Eq.trans (rn_ifeq (L' := [.ref a0, .int x1, .int x2, .int x3, .int x4, .int x_6, am_un, am_un]) rfl rfl) ?_
    refine if_c ?_ ?_
    · refine Eq.trans (rn_go 3 (pc' := 52) (L' := [.ref a0, .int x1, .int x2, .int x3, .int x4, .int x_6, am_un, am_un]) (st' := [.int x4, .ref a0, .ref a0]) rfl) ?_
      refine Eq.trans (rn_vir (L' := [.ref a0, .int x1, .int x2, .int x3, .int x4, .int x_6, am_un, am_un]) (as := [.int x4]) (rest := [.ref a0]) rfl rfl rfl rfl rfl (Nat.le_of_ble_eq_true rfl) (by decide) (by decide)) ?_
      refine eC_c ?_
      refine Eq.trans (cW_I rfl rfl rfl) ?_
      refine cI_c (fun x_8 s_7 => ?_) (xh_nil rfl)
      refine Eq.trans (rn_vir (L' := [.ref a0, .int x1, .int x2, .int x3, .int x4, .int x_6, am_un, am_un]) (as := [.int x_8]) (rest := []) rfl rfl rfl rfl rfl (Nat.le_of_ble_eq_true rfl) (by decide) (by decide)) ?_
      refine eC_c ?_
      refine Eq.trans (cW_I rfl rfl rfl) ?_
      refine cI_c (fun x_10 s_9 => ?_) (xh_nil rfl)
      refine Eq.trans (rn_go 3 (pc' := 62) (L' := [.ref a0, .int x1, .int x2, .int x3, .int x4, .int x_6, .int x_10, am_un]) (st' := [.int x1, .ref a0]) rfl) ?_
      refine Eq.trans (rn_vir (L' := [.ref a0, .int x1, .int x2, .int x3, .int x4, .int x_6, .int x_10, am_un]) (as := [.int x1]) (rest := []) rfl rfl rfl rfl rfl (Nat.le_of_ble_eq_true rfl) (by decide) (by decide)) ?_
      refine eC_c ?_
      refine Eq.trans (cW_I rfl rfl rfl) ?_
      refine cI_c (fun x_12 s_11 => ?_) (xh_nil rfl)
      refine Eq.trans (rn_go 8 (pc' := 74) (L' := [.ref a0, .int x1, .int x2, .int x3, .int x4, .int x_6, .int x_10, .int x_12]) (st' := [.int (x2 + (1 : Int32)), .ref a0, .long (0 : Int64), .long x3.toInt64]) rfl) ?_
      refine Eq.trans (rn_vir (L' := [.ref a0, .int x1, .int x2, .int x3, .int x4, .int x_6, .int x_10, .int x_12]) (as := [.int (x2 + (1 : Int32))]) (rest := [.long (0 : Int64), .long x3.toInt64]) rfl rfl rfl rfl rfl (Nat.le_of_ble_eq_true rfl) (by decide) (by decide)) ?_
      refine eC_c ?_
      refine Eq.trans (cW_I rfl rfl rfl) ?_
      refine cI_c (fun x_14 s_13 => ?_) (xh_nil rfl)
      refine Eq.trans (rn_go 5 (pc' := 83) (L' := [.ref a0, .int x1, .int x2, .int x3, .int x4, .int x_6, .int x_10, .int x_12]) (st' := [.long ((x_14 - x_12) - (1 : Int32)).toInt64, .long (0 : Int64), .long x3.toInt64]) rfl) ?_
      refine Eq.trans (rn_sta (L' := [.ref a0, .int x1, .int x2, .int x3, .int x4, .int x_6, .int x_10, .int x_12]) (as := [.long x3.toInt64, .long (0 : Int64), .long ((x_14 - x_12) - (1 : Int32)).toInt64]) (rest := []) rfl rfl rfl rfl rfl (Nat.le_of_ble_eq_true rfl) (by decide) rfl) ?_
      refine Eq.trans (cW_I rfl rfl rfl) ?_
      refine cI_c (fun x_16 s_15 => ?_) (xh_nil rfl)
      refine Eq.trans (rn_ifeq (L' := [.ref a0, .int x1, .int x2, .int x3, .int x4, .int x_6, .int x_10, .int x_12]) rfl rfl) ?_
      refine if_c ?_ ?_
      · refine Eq.trans (rn_go 1 (pc' := 102) (L' := [.ref a0, .int x1, .int x2, .int x3, .int x4, .int x_6, .int x_10, .int x_12]) (st' := [.int (-(1 : Int32))]) rfl) ?_
        exact rn_retI rfl rfl rfl
      · refine Eq.trans (rn_go 1 (pc' := 90) (L' := [.ref a0, .int x1, .int x2, .int x3, .int x4, .int x_6, .int x_10, .int x_12]) (st' := [.ref a0]) rfl) ?_
        refine Eq.trans (rn_gA (L' := [.ref a0, .int x1, .int x2, .int x3, .int x4, .int x_6, .int x_10, .int x_12]) rfl rfl rfl rfl) ?_
        refine eA_c ?_ (fun b_17 => ?_)
        · refine Eq.trans (rn_go 3 (pc' := 97) (L' := [.ref a0, .int x1, .int x2, .int x3, .int x4, .int x_6, .int x_10, .int x_12]) (st' := [.int (x_12 + x3), .null]) rfl) ?_
          exact rn_z rfl rfl
        · refine Eq.trans (rn_go 3 (pc' := 97) (L' := [.ref a0, .int x1, .int x2, .int x3, .int x4, .int x_6, .int x_10, .int x_12]) (st' := [.int (x_12 + x3), .ref b_17]) rfl) ?_
          refine Eq.trans (rn_aI (L' := [.ref a0, .int x1, .int x2, .int x3, .int x4, .int x_6, .int x_10, .int x_12]) rfl rfl) ?_
          refine eI_c (fun x_18 => ?_)
          refine Eq.trans (rn_go 1 (pc' := 102) (L' := [.ref a0, .int x1, .int x2, .int x3, .int x4, .int x_6, .int x_10, .int x_12]) (st' := [.int x_18]) rfl) ?_
          exact rn_retI rfl rfl rfl
    · refine Eq.trans (rn_go 1 (pc' := 47) (L' := [.ref a0, .int x1, .int x2, .int x3, .int x4, .int x_6, am_un, am_un]) (st' := [.int x_6]) rfl) ?_
      exact rn_retI rfl rfl rfl
  · refine Eq.trans (rn_go 1 (pc' := 27) (L' := [.ref a0, .int x1, .int x2, .int x3, .int x4, am_un, am_un, am_un]) (st' := [.int (0 : Int32)]) rfl) ?_
    exact rn_retI rfl rfl rfl
theorem in_X13_sumAt {B : Nat} (a0 : Nat) (x1 : Int32) (x2 : Int32) (x3 : Int32) (s : am_S) : cl_ tb_ct tb_mt B K_X13_sumAt [.ref a0, .int x1, .int x2, .int x3] s = rn_ tb_ct tb_mt B mm_X13_sumAt 0 [.ref a0, .int x1, .int x2, .int x3, am_un, am_un, am_un, am_un, am_un] [] s := cl_in rfl rfl rfl rfl
theorem dc_X13_sumAt_0 {B : Nat} (a0 : Nat) (x1 : Int32) (x2 : Int32) (x3 : Int32) (s : am_S) : rn_ tb_ct tb_mt B mm_X13_sumAt 0 [.ref a0, .int x1, .int x2, .int x3, am_un, am_un, am_un, am_un, am_un] [] s = cI (cl_ tb_ct tb_mt B K_X13_isRange [.int x1, .int x2] s) (fun x_2 s_1 => if x_2 = 0 then rn_ tb_ct tb_mt B mm_X13_sumAt 17 [.ref a0, .int x1, .int x2, .int x3, am_un, am_un, am_un, am_un, am_un] [.ref a0] s_1 else if x3 < 0 then rn_ tb_ct tb_mt B mm_X13_sumAt 17 [.ref a0, .int x1, .int x2, .int x3, am_un, am_un, am_un, am_un, am_un] [.ref a0] s_1 else rn_ tb_ct tb_mt B mm_X13_sumAt 18 [.ref a0, .int x1, .int x2, .int x3, am_un, am_un, am_un, am_un, am_un] [.int (1 : Int32), .ref a0] s_1) xo := by
  refine Eq.trans (rn_go 3 (pc' := 3) (L' := [.ref a0, .int x1, .int x2, .int x3, am_un, am_un, am_un, am_un, am_un]) (st' := [.int x2, .int x1, .ref a0]) rfl) ?_
  refine Eq.trans (rn_sta (L' := [.ref a0, .int x1, .int x2, .int x3, am_un, am_un, am_un, am_un, am_un]) (as := [.int x1, .int x2]) (rest := [.ref a0]) rfl rfl rfl rfl rfl (Nat.le_of_ble_eq_true rfl) (by decide) rfl) ?_
  refine Eq.trans (cW_I rfl rfl rfl) ?_
  refine cI_c (fun x_2 s_1 => ?_) (xh_nil rfl)
  refine Eq.trans (rn_ifeq (L' := [.ref a0, .int x1, .int x2, .int x3, am_un, am_un, am_un, am_un, am_un]) rfl rfl) ?_
  refine if_c ?_ ?_
  · rfl
  · refine Eq.trans (rn_go 1 (pc' := 10) (L' := [.ref a0, .int x1, .int x2, .int x3, am_un, am_un, am_un, am_un, am_un]) (st' := [.int x3, .ref a0]) rfl) ?_
    refine Eq.trans (rn_iflt (L' := [.ref a0, .int x1, .int x2, .int x3, am_un, am_un, am_un, am_un, am_un]) rfl rfl) ?_
    refine if_c ?_ ?_
    · rfl
    · exact rn_go 2 (pc' := 18) (L' := [.ref a0, .int x1, .int x2, .int x3, am_un, am_un, am_un, am_un, am_un]) (st' := [.int (1 : Int32), .ref a0]) rfl
theorem dc_X13_sumAt_17 {B : Nat} (a0 : Nat) (x1 : Int32) (x2 : Int32) (x3 : Int32) (as0 : Nat) (s : am_S) : rn_ tb_ct tb_mt B mm_X13_sumAt 17 [.ref a0, .int x1, .int x2, .int x3, am_un, am_un, am_un, am_un, am_un] [.ref as0] s = rn_ tb_ct tb_mt B mm_X13_sumAt 18 [.ref a0, .int x1, .int x2, .int x3, am_un, am_un, am_un, am_un, am_un] [.int (0 : Int32), .ref as0] s := by
  exact rn_go 1 (pc' := 18) (L' := [.ref a0, .int x1, .int x2, .int x3, am_un, am_un, am_un, am_un, am_un]) (st' := [.int (0 : Int32), .ref as0]) rfl
theorem dc_X13_sumAt_18 {B : Nat} (a0 : Nat) (x1 : Int32) (x2 : Int32) (x3 : Int32) (xs0 : Int32) (as1 : Nat) (s : am_S) : rn_ tb_ct tb_mt B mm_X13_sumAt 18 [.ref a0, .int x1, .int x2, .int x3, am_un, am_un, am_un, am_un, am_un] [.int xs0, .ref as1] s = eC (am_cls s as1) 11 (cI (cl_ tb_ct tb_mt B K_X13_isThrown [.ref as1, .int xs0, .int (1 : Int32)] s) (fun x_2 s_1 => if x_2 = 0 then eC (am_cls s_1 a0) 11 (cI (cl_ tb_ct tb_mt B K_X13_asked [.ref a0, .int x3] s_1) (fun x_4 s_3 => eC (am_cls s_3 a0) 11 (cI (cl_ tb_ct tb_mt B K_X13_whyNot [.ref a0, .int x_4] s_3) (fun x_6 s_5 => if x_6 = 0 then eC (am_cls s_5 a0) 11 (cI (cl_ tb_ct tb_mt B K_X13_asked [.ref a0, .int x3] s_5) (fun x_8 s_7 => eC (am_cls s_7 a0) 11 (cI (cl_ tb_ct tb_mt B K_X13_laysThen [.ref a0, .int x_8] s_7) (fun x_10 s_9 => eC (am_cls s_9 a0) 11 (cI (cl_ tb_ct tb_mt B K_X13_firstThen [.ref a0, .int x1] s_9) (fun x_12 s_11 => rn_ tb_ct tb_mt B mm_X13_sumAt 68 [.ref a0, .int x1, .int x2, .int x3, .int x_6, .int x_10, .long (0 : Int64), am_un, .int x_12] [] s_11) xo)) xo)) xo) else some (.inl (some (.long x_6.toInt64)), s_5)) xo)) xo) else some (.inl (some (.long (0 : Int64))), s_1)) xo) := by
  refine Eq.trans (rn_go 1 (pc' := 19) (L' := [.ref a0, .int x1, .int x2, .int x3, am_un, am_un, am_un, am_un, am_un]) (st' := [.int (1 : Int32), .int xs0, .ref as1]) rfl) ?_
  refine Eq.trans (rn_vir (L' := [.ref a0, .int x1, .int x2, .int x3, am_un, am_un, am_un, am_un, am_un]) (as := [.int xs0, .int (1 : Int32)]) (rest := []) rfl rfl rfl rfl rfl (Nat.le_of_ble_eq_true rfl) (by decide) (by decide)) ?_
  refine eC_c ?_
  refine Eq.trans (cW_I rfl rfl rfl) ?_
  refine cI_c (fun x_2 s_1 => ?_) (xh_nil rfl)
  refine Eq.trans (rn_ifeq (L' := [.ref a0, .int x1, .int x2, .int x3, am_un, am_un, am_un, am_un, am_un]) rfl rfl) ?_
  refine if_c ?_ ?_
  · refine Eq.trans (rn_go 3 (pc' := 30) (L' := [.ref a0, .int x1, .int x2, .int x3, am_un, am_un, am_un, am_un, am_un]) (st' := [.int x3, .ref a0, .ref a0]) rfl) ?_
    refine Eq.trans (rn_vir (L' := [.ref a0, .int x1, .int x2, .int x3, am_un, am_un, am_un, am_un, am_un]) (as := [.int x3]) (rest := [.ref a0]) rfl rfl rfl rfl rfl (Nat.le_of_ble_eq_true rfl) (by decide) (by decide)) ?_
    refine eC_c ?_
    refine Eq.trans (cW_I rfl rfl rfl) ?_
    refine cI_c (fun x_4 s_3 => ?_) (xh_nil rfl)
    refine Eq.trans (rn_vir (L' := [.ref a0, .int x1, .int x2, .int x3, am_un, am_un, am_un, am_un, am_un]) (as := [.int x_4]) (rest := []) rfl rfl rfl rfl rfl (Nat.le_of_ble_eq_true rfl) (by decide) (by decide)) ?_
    refine eC_c ?_
    refine Eq.trans (cW_I rfl rfl rfl) ?_
    refine cI_c (fun x_6 s_5 => ?_) (xh_nil rfl)
    refine Eq.trans (rn_go 2 (pc' := 40) (L' := [.ref a0, .int x1, .int x2, .int x3, .int x_6, am_un, am_un, am_un, am_un]) (st' := [.int x_6]) rfl) ?_
    refine Eq.trans (rn_ifeq (L' := [.ref a0, .int x1, .int x2, .int x3, .int x_6, am_un, am_un, am_un, am_un]) rfl rfl) ?_
    refine if_c ?_ ?_
    · refine Eq.trans (rn_go 3 (pc' := 50) (L' := [.ref a0, .int x1, .int x2, .int x3, .int x_6, am_un, am_un, am_un, am_un]) (st' := [.int x3, .ref a0, .ref a0]) rfl) ?_
      refine Eq.trans (rn_vir (L' := [.ref a0, .int x1, .int x2, .int x3, .int x_6, am_un, am_un, am_un, am_un]) (as := [.int x3]) (rest := [.ref a0]) rfl rfl rfl rfl rfl (Nat.le_of_ble_eq_true rfl) (by decide) (by decide)) ?_
      refine eC_c ?_
      refine Eq.trans (cW_I rfl rfl rfl) ?_
      refine cI_c (fun x_8 s_7 => ?_) (xh_nil rfl)
      refine Eq.trans (rn_vir (L' := [.ref a0, .int x1, .int x2, .int x3, .int x_6, am_un, am_un, am_un, am_un]) (as := [.int x_8]) (rest := []) rfl rfl rfl rfl rfl (Nat.le_of_ble_eq_true rfl) (by decide) (by decide)) ?_
      refine eC_c ?_
      refine Eq.trans (cW_I rfl rfl rfl) ?_
      refine cI_c (fun x_10 s_9 => ?_) (xh_nil rfl)
      refine Eq.trans (rn_go 5 (pc' := 63) (L' := [.ref a0, .int x1, .int x2, .int x3, .int x_6, .int x_10, .long (0 : Int64), am_un, am_un]) (st' := [.int x1, .ref a0]) rfl) ?_
      refine Eq.trans (rn_vir (L' := [.ref a0, .int x1, .int x2, .int x3, .int x_6, .int x_10, .long (0 : Int64), am_un, am_un]) (as := [.int x1]) (rest := []) rfl rfl rfl rfl rfl (Nat.le_of_ble_eq_true rfl) (by decide) (by decide)) ?_
      refine eC_c ?_
      refine Eq.trans (cW_I rfl rfl rfl) ?_
      refine cI_c (fun x_12 s_11 => ?_) (xh_nil rfl)
      exact rn_go 1 (pc' := 68) (L' := [.ref a0, .int x1, .int x2, .int x3, .int x_6, .int x_10, .long (0 : Int64), am_un, .int x_12]) (st' := []) rfl
    · refine Eq.trans (rn_go 2 (pc' := 46) (L' := [.ref a0, .int x1, .int x2, .int x3, .int x_6, am_un, am_un, am_un, am_un]) (st' := [.long x_6.toInt64]) rfl) ?_
      exact rn_retJ rfl rfl
  · refine Eq.trans (rn_go 1 (pc' := 26) (L' := [.ref a0, .int x1, .int x2, .int x3, am_un, am_un, am_un, am_un, am_un]) (st' := [.long (0 : Int64)]) rfl) ?_
    exact rn_retJ rfl rfl
theorem dc_X13_sumAt_68 {B : Nat} (a0 : Nat) (w1 : Value) (x2 : Int32) (w3 : Value) (w4 : Value) (w5 : Value) (j6 : Int64) (x8 : Int32) (s : am_S) : rn_ tb_ct tb_mt B mm_X13_sumAt 68 [.ref a0, w1, .int x2, w3, w4, w5, .long j6, am_un, .int x8] [] s = eC (am_cls s a0) 11 (cI (cl_ tb_ct tb_mt B K_X13_firstThen [.ref a0, .int (x2 + (1 : Int32))] s) (fun x_2 s_1 => if x_2 ≤ x8 then some (.inl (some (.long j6)), s_1) else eA (gA tb_ct s_1 a0 11 6) (none) (fun b_3 => eI (aI s_1 b_3 x8) (fun x_4 => rn_ tb_ct tb_mt B mm_X13_sumAt 68 [.ref a0, am_un, .int x2, am_un, am_un, am_un, .long (j6 + x_4.toInt64), am_un, .int (x8 + (1 : Int32))] [] s_1))) xo) := by
  refine Eq.trans (rn_go 5 (pc' := 74) (L' := [.ref a0, am_un, .int x2, am_un, am_un, am_un, .long j6, am_un, .int x8]) (st' := [.int (x2 + (1 : Int32)), .ref a0, .int x8]) rfl) ?_
  refine Eq.trans (rn_vir (L' := [.ref a0, am_un, .int x2, am_un, am_un, am_un, .long j6, am_un, .int x8]) (as := [.int (x2 + (1 : Int32))]) (rest := [.int x8]) rfl rfl rfl rfl rfl (Nat.le_of_ble_eq_true rfl) (by decide) (by decide)) ?_
  refine eC_c ?_
  refine Eq.trans (cW_I rfl rfl rfl) ?_
  refine cI_c (fun x_2 s_1 => ?_) (xh_nil rfl)
  refine Eq.trans (rn_icge (L' := [.ref a0, am_un, .int x2, am_un, am_un, am_un, .long j6, am_un, .int x8]) rfl rfl) ?_
  refine if_c ?_ ?_
  · refine Eq.trans (rn_go 1 (pc' := 101) (L' := [.ref a0, am_un, .int x2, am_un, am_un, am_un, .long j6, am_un, .int x8]) (st' := [.long j6]) rfl) ?_
    exact rn_retJ rfl rfl
  · refine Eq.trans (rn_go 2 (pc' := 83) (L' := [.ref a0, am_un, .int x2, am_un, am_un, am_un, .long j6, am_un, .int x8]) (st' := [.ref a0, .long j6]) rfl) ?_
    refine Eq.trans (rn_gA (L' := [.ref a0, am_un, .int x2, am_un, am_un, am_un, .long j6, am_un, .int x8]) rfl rfl rfl rfl) ?_
    refine eA_c ?_ (fun b_3 => ?_)
    · refine Eq.trans (rn_go 1 (pc' := 88) (L' := [.ref a0, am_un, .int x2, am_un, am_un, am_un, .long j6, am_un, .int x8]) (st' := [.int x8, .null, .long j6]) rfl) ?_
      exact rn_z rfl rfl
    · refine Eq.trans (rn_go 1 (pc' := 88) (L' := [.ref a0, am_un, .int x2, am_un, am_un, am_un, .long j6, am_un, .int x8]) (st' := [.int x8, .ref b_3, .long j6]) rfl) ?_
      refine Eq.trans (rn_aI (L' := [.ref a0, am_un, .int x2, am_un, am_un, am_un, .long j6, am_un, .int x8]) rfl rfl) ?_
      refine eI_c (fun x_4 => ?_)
      exact rn_go 5 (pc' := 68) (L' := [.ref a0, am_un, .int x2, am_un, am_un, am_un, .long (j6 + x_4.toInt64), am_un, .int (x8 + (1 : Int32))]) (st' := []) rfl
theorem in_X13_changed {B : Nat} (a0 : Nat) (x1 : Int32) (x2 : Int32) (s : am_S) : cl_ tb_ct tb_mt B K_X13_changed [.ref a0, .int x1, .int x2] s = rn_ tb_ct tb_mt B mm_X13_changed 0 [.ref a0, .int x1, .int x2, am_un, am_un, am_un, am_un, am_un, am_un, am_un] [] s := cl_in rfl rfl rfl rfl
theorem dc_X13_changed_0 {B : Nat} (a0 : Nat) (x1 : Int32) (x2 : Int32) (s : am_S) : rn_ tb_ct tb_mt B mm_X13_changed 0 [.ref a0, .int x1, .int x2, am_un, am_un, am_un, am_un, am_un, am_un, am_un] [] s = if x1 < 0 then rn_ tb_ct tb_mt B mm_X13_changed 13 [.ref a0, .int x1, .int x2, am_un, am_un, am_un, am_un, am_un, am_un, am_un] [.ref a0] s else if x2 < 0 then rn_ tb_ct tb_mt B mm_X13_changed 13 [.ref a0, .int x1, .int x2, am_un, am_un, am_un, am_un, am_un, am_un, am_un] [.ref a0] s else rn_ tb_ct tb_mt B mm_X13_changed 14 [.ref a0, .int x1, .int x2, am_un, am_un, am_un, am_un, am_un, am_un, am_un] [.int (1 : Int32), .ref a0] s := by
  refine Eq.trans (rn_go 2 (pc' := 2) (L' := [.ref a0, .int x1, .int x2, am_un, am_un, am_un, am_un, am_un, am_un, am_un]) (st' := [.int x1, .ref a0]) rfl) ?_
  refine Eq.trans (rn_iflt (L' := [.ref a0, .int x1, .int x2, am_un, am_un, am_un, am_un, am_un, am_un, am_un]) rfl rfl) ?_
  refine if_c ?_ ?_
  · rfl
  · refine Eq.trans (rn_go 1 (pc' := 6) (L' := [.ref a0, .int x1, .int x2, am_un, am_un, am_un, am_un, am_un, am_un, am_un]) (st' := [.int x2, .ref a0]) rfl) ?_
    refine Eq.trans (rn_iflt (L' := [.ref a0, .int x1, .int x2, am_un, am_un, am_un, am_un, am_un, am_un, am_un]) rfl rfl) ?_
    refine if_c ?_ ?_
    · rfl
    · exact rn_go 2 (pc' := 14) (L' := [.ref a0, .int x1, .int x2, am_un, am_un, am_un, am_un, am_un, am_un, am_un]) (st' := [.int (1 : Int32), .ref a0]) rfl
theorem dc_X13_changed_13 {B : Nat} (a0 : Nat) (x1 : Int32) (x2 : Int32) (as0 : Nat) (s : am_S) : rn_ tb_ct tb_mt B mm_X13_changed 13 [.ref a0, .int x1, .int x2, am_un, am_un, am_un, am_un, am_un, am_un, am_un] [.ref as0] s = rn_ tb_ct tb_mt B mm_X13_changed 14 [.ref a0, .int x1, .int x2, am_un, am_un, am_un, am_un, am_un, am_un, am_un] [.int (0 : Int32), .ref as0] s := by
  exact rn_go 1 (pc' := 14) (L' := [.ref a0, .int x1, .int x2, am_un, am_un, am_un, am_un, am_un, am_un, am_un]) (st' := [.int (0 : Int32), .ref as0]) rfl
theorem dc_X13_changed_14 {B : Nat} (a0 : Nat) (x1 : Int32) (x2 : Int32) (xs0 : Int32) (as1 : Nat) (s : am_S) : rn_ tb_ct tb_mt B mm_X13_changed 14 [.ref a0, .int x1, .int x2, am_un, am_un, am_un, am_un, am_un, am_un, am_un] [.int xs0, .ref as1] s = eC (am_cls s as1) 11 (cI (cl_ tb_ct tb_mt B K_X13_isThrown [.ref as1, .int xs0, .int (1 : Int32)] s) (fun x_2 s_1 => if x_2 = 0 then eC (am_cls s_1 a0) 11 (cI (cl_ tb_ct tb_mt B K_X13_asked [.ref a0, .int x1] s_1) (fun x_4 s_3 => eC (am_cls s_3 a0) 11 (cI (cl_ tb_ct tb_mt B K_X13_whyNot [.ref a0, .int x_4] s_3) (fun x_6 s_5 => if x_6 = 0 then eC (am_cls s_5 a0) 11 (cI (cl_ tb_ct tb_mt B K_X13_asked [.ref a0, .int x2] s_5) (fun x_8 s_7 => eC (am_cls s_7 a0) 11 (cI (cl_ tb_ct tb_mt B K_X13_whyNot [.ref a0, .int x_8] s_7) (fun x_10 s_9 => rn_ tb_ct tb_mt B mm_X13_changed 50 [.ref a0, .int x1, .int x2, .int x_6, am_un, am_un, am_un, am_un, am_un, am_un] [.int x_10] s_9) xo)) xo) else rn_ tb_ct tb_mt B mm_X13_changed 50 [.ref a0, .int x1, .int x2, .int x_6, am_un, am_un, am_un, am_un, am_un, am_un] [.int x_6] s_5) xo)) xo) else some (.inl (some (.int (0 : Int32))), s_1)) xo) := by
  refine Eq.trans (rn_go 1 (pc' := 15) (L' := [.ref a0, .int x1, .int x2, am_un, am_un, am_un, am_un, am_un, am_un, am_un]) (st' := [.int (1 : Int32), .int xs0, .ref as1]) rfl) ?_
  refine Eq.trans (rn_vir (L' := [.ref a0, .int x1, .int x2, am_un, am_un, am_un, am_un, am_un, am_un, am_un]) (as := [.int xs0, .int (1 : Int32)]) (rest := []) rfl rfl rfl rfl rfl (Nat.le_of_ble_eq_true rfl) (by decide) (by decide)) ?_
  refine eC_c ?_
  refine Eq.trans (cW_I rfl rfl rfl) ?_
  refine cI_c (fun x_2 s_1 => ?_) (xh_nil rfl)
  refine Eq.trans (rn_ifeq (L' := [.ref a0, .int x1, .int x2, am_un, am_un, am_un, am_un, am_un, am_un, am_un]) rfl rfl) ?_
  refine if_c ?_ ?_
  · refine Eq.trans (rn_go 3 (pc' := 26) (L' := [.ref a0, .int x1, .int x2, am_un, am_un, am_un, am_un, am_un, am_un, am_un]) (st' := [.int x1, .ref a0, .ref a0]) rfl) ?_
    refine Eq.trans (rn_vir (L' := [.ref a0, .int x1, .int x2, am_un, am_un, am_un, am_un, am_un, am_un, am_un]) (as := [.int x1]) (rest := [.ref a0]) rfl rfl rfl rfl rfl (Nat.le_of_ble_eq_true rfl) (by decide) (by decide)) ?_
    refine eC_c ?_
    refine Eq.trans (cW_I rfl rfl rfl) ?_
    refine cI_c (fun x_4 s_3 => ?_) (xh_nil rfl)
    refine Eq.trans (rn_vir (L' := [.ref a0, .int x1, .int x2, am_un, am_un, am_un, am_un, am_un, am_un, am_un]) (as := [.int x_4]) (rest := []) rfl rfl rfl rfl rfl (Nat.le_of_ble_eq_true rfl) (by decide) (by decide)) ?_
    refine eC_c ?_
    refine Eq.trans (cW_I rfl rfl rfl) ?_
    refine cI_c (fun x_6 s_5 => ?_) (xh_nil rfl)
    refine Eq.trans (rn_go 2 (pc' := 34) (L' := [.ref a0, .int x1, .int x2, .int x_6, am_un, am_un, am_un, am_un, am_un, am_un]) (st' := [.int x_6]) rfl) ?_
    refine Eq.trans (rn_ifne (L' := [.ref a0, .int x1, .int x2, .int x_6, am_un, am_un, am_un, am_un, am_un, am_un]) rfl rfl) ?_
    refine if_c ?_ ?_
    · refine Eq.trans (rn_go 3 (pc' := 40) (L' := [.ref a0, .int x1, .int x2, .int x_6, am_un, am_un, am_un, am_un, am_un, am_un]) (st' := [.int x2, .ref a0, .ref a0]) rfl) ?_
      refine Eq.trans (rn_vir (L' := [.ref a0, .int x1, .int x2, .int x_6, am_un, am_un, am_un, am_un, am_un, am_un]) (as := [.int x2]) (rest := [.ref a0]) rfl rfl rfl rfl rfl (Nat.le_of_ble_eq_true rfl) (by decide) (by decide)) ?_
      refine eC_c ?_
      refine Eq.trans (cW_I rfl rfl rfl) ?_
      refine cI_c (fun x_8 s_7 => ?_) (xh_nil rfl)
      refine Eq.trans (rn_vir (L' := [.ref a0, .int x1, .int x2, .int x_6, am_un, am_un, am_un, am_un, am_un, am_un]) (as := [.int x_8]) (rest := []) rfl rfl rfl rfl rfl (Nat.le_of_ble_eq_true rfl) (by decide) (by decide)) ?_
      refine eC_c ?_
      refine Eq.trans (cW_I rfl rfl rfl) ?_
      refine cI_c (fun x_10 s_9 => ?_) (xh_nil rfl)
      exact rn_go 1 (pc' := 50) (L' := [.ref a0, .int x1, .int x2, .int x_6, am_un, am_un, am_un, am_un, am_un, am_un]) (st' := [.int x_10]) rfl
    · exact rn_go 1 (pc' := 50) (L' := [.ref a0, .int x1, .int x2, .int x_6, am_un, am_un, am_un, am_un, am_un, am_un]) (st' := [.int x_6]) rfl
  · refine Eq.trans (rn_go 1 (pc' := 22) (L' := [.ref a0, .int x1, .int x2, am_un, am_un, am_un, am_un, am_un, am_un, am_un]) (st' := [.int (0 : Int32)]) rfl) ?_
    exact rn_retI rfl rfl rfl
theorem dc_X13_changed_50 {B : Nat} (a0 : Nat) (x1 : Int32) (x2 : Int32) (w3 : Value) (xs0 : Int32) (s : am_S) : rn_ tb_ct tb_mt B mm_X13_changed 50 [.ref a0, .int x1, .int x2, w3, am_un, am_un, am_un, am_un, am_un, am_un] [.int xs0] s = if xs0 = 0 then eC (am_cls s a0) 11 (cI (cl_ tb_ct tb_mt B K_X13_asked [.ref a0, .int x1] s) (fun x_2 s_1 => eC (am_cls s_1 a0) 11 (cI (cl_ tb_ct tb_mt B K_X13_laysThen [.ref a0, .int x_2] s_1) (fun x_4 s_3 => eI (gI tb_ct s_3 a0 11 7) (fun x_5 => rn_ tb_ct tb_mt B mm_X13_changed 77 [.ref a0, .int x1, .int x2, .int xs0, .int x_4, .int x_5, .int (0 : Int32), am_un, am_un, am_un] [] s_3)) xo)) xo) else some (.inl (some (.int xs0)), s) := by
  refine Eq.trans (rn_go 2 (pc' := 52) (L' := [.ref a0, .int x1, .int x2, .int xs0, am_un, am_un, am_un, am_un, am_un, am_un]) (st' := [.int xs0]) rfl) ?_
  refine Eq.trans (rn_ifeq (L' := [.ref a0, .int x1, .int x2, .int xs0, am_un, am_un, am_un, am_un, am_un, am_un]) rfl rfl) ?_
  refine if_c ?_ ?_
  · refine Eq.trans (rn_go 3 (pc' := 60) (L' := [.ref a0, .int x1, .int x2, .int xs0, am_un, am_un, am_un, am_un, am_un, am_un]) (st' := [.int x1, .ref a0, .ref a0]) rfl) ?_
    refine Eq.trans (rn_vir (L' := [.ref a0, .int x1, .int x2, .int xs0, am_un, am_un, am_un, am_un, am_un, am_un]) (as := [.int x1]) (rest := [.ref a0]) rfl rfl rfl rfl rfl (Nat.le_of_ble_eq_true rfl) (by decide) (by decide)) ?_
    refine eC_c ?_
    refine Eq.trans (cW_I rfl rfl rfl) ?_
    refine cI_c (fun x_2 s_1 => ?_) (xh_nil rfl)
    refine Eq.trans (rn_vir (L' := [.ref a0, .int x1, .int x2, .int xs0, am_un, am_un, am_un, am_un, am_un, am_un]) (as := [.int x_2]) (rest := []) rfl rfl rfl rfl rfl (Nat.le_of_ble_eq_true rfl) (by decide) (by decide)) ?_
    refine eC_c ?_
    refine Eq.trans (cW_I rfl rfl rfl) ?_
    refine cI_c (fun x_4 s_3 => ?_) (xh_nil rfl)
    refine Eq.trans (rn_go 2 (pc' := 69) (L' := [.ref a0, .int x1, .int x2, .int xs0, .int x_4, am_un, am_un, am_un, am_un, am_un]) (st' := [.ref a0]) rfl) ?_
    refine Eq.trans (rn_gI (L' := [.ref a0, .int x1, .int x2, .int xs0, .int x_4, am_un, am_un, am_un, am_un, am_un]) rfl rfl rfl rfl) ?_
    refine eI_c (fun x_5 => ?_)
    exact rn_go 3 (pc' := 77) (L' := [.ref a0, .int x1, .int x2, .int xs0, .int x_4, .int x_5, .int (0 : Int32), am_un, am_un, am_un]) (st' := []) rfl
  · refine Eq.trans (rn_go 1 (pc' := 56) (L' := [.ref a0, .int x1, .int x2, .int xs0, am_un, am_un, am_un, am_un, am_un, am_un]) (st' := [.int xs0]) rfl) ?_
    exact rn_retI rfl rfl rfl
theorem dc_X13_changed_77 {B : Nat} (a0 : Nat) (w1 : Value) (x2 : Int32) (w3 : Value) (w4 : Value) (x5 : Int32) (x6 : Int32) (s : am_S) : rn_ tb_ct tb_mt B mm_X13_changed 77 [.ref a0, w1, .int x2, w3, w4, .int x5, .int x6, am_un, am_un, am_un] [] s = eI (gI tb_ct s a0 11 7) (fun x_1 => if x_1 ≤ x6 then eC (am_cls s a0) 11 (cI (cl_ tb_ct tb_mt B K_X13_asked [.ref a0, .int x2] s) (fun x_3 s_2 => eC (am_cls s_2 a0) 11 (cI (cl_ tb_ct tb_mt B K_X13_laysThen [.ref a0, .int x_3] s_2) (fun x_5 s_4 => rn_ tb_ct tb_mt B mm_X13_changed 140 [.ref a0, am_un, .int x2, am_un, .int x_5, .int x5, .int (0 : Int32), .int (0 : Int32), .int (0 : Int32), am_un] [] s_4) xo)) xo) else eA (gA tb_ct s a0 11 17) (eA (gA tb_ct s a0 11 5) (none) (fun b_7 => eI (aI s b_7 x6) (fun x_8 => none))) (fun b_6 => eA (gA tb_ct s a0 11 5) (none) (fun b_9 => eI (aI s b_9 x6) (fun x_10 => eS (wI B s b_6 x6 x_10) (fun s_11 => eA (gA tb_ct s_11 a0 11 18) (eA (gA tb_ct s_11 a0 11 6) (none) (fun b_13 => eI (aI s_11 b_13 x6) (fun x_14 => none))) (fun b_12 => eA (gA tb_ct s_11 a0 11 6) (none) (fun b_15 => eI (aI s_11 b_15 x6) (fun x_16 => eS (wI B s_11 b_12 x6 x_16) (fun s_17 => rn_ tb_ct tb_mt B mm_X13_changed 77 [.ref a0, am_un, .int x2, am_un, am_un, .int x5, .int (x6 + (1 : Int32)), am_un, am_un, am_un] [] s_17))))))))) := by
  refine Eq.trans (rn_go 2 (pc' := 80) (L' := [.ref a0, am_un, .int x2, am_un, am_un, .int x5, .int x6, am_un, am_un, am_un]) (st' := [.ref a0, .int x6]) rfl) ?_
  refine Eq.trans (rn_gI (L' := [.ref a0, am_un, .int x2, am_un, am_un, .int x5, .int x6, am_un, am_un, am_un]) rfl rfl rfl rfl) ?_
  refine eI_c (fun x_1 => ?_)
  refine Eq.trans (rn_icge (L' := [.ref a0, am_un, .int x2, am_un, am_un, .int x5, .int x6, am_un, am_un, am_un]) rfl rfl) ?_
  refine if_c ?_ ?_
  · refine Eq.trans (rn_go 3 (pc' := 123) (L' := [.ref a0, am_un, .int x2, am_un, am_un, .int x5, .int x6, am_un, am_un, am_un]) (st' := [.int x2, .ref a0, .ref a0]) rfl) ?_
    refine Eq.trans (rn_vir (L' := [.ref a0, am_un, .int x2, am_un, am_un, .int x5, .int x6, am_un, am_un, am_un]) (as := [.int x2]) (rest := [.ref a0]) rfl rfl rfl rfl rfl (Nat.le_of_ble_eq_true rfl) (by decide) (by decide)) ?_
    refine eC_c ?_
    refine Eq.trans (cW_I rfl rfl rfl) ?_
    refine cI_c (fun x_3 s_2 => ?_) (xh_nil rfl)
    refine Eq.trans (rn_vir (L' := [.ref a0, am_un, .int x2, am_un, am_un, .int x5, .int x6, am_un, am_un, am_un]) (as := [.int x_3]) (rest := []) rfl rfl rfl rfl rfl (Nat.le_of_ble_eq_true rfl) (by decide) (by decide)) ?_
    refine eC_c ?_
    refine Eq.trans (cW_I rfl rfl rfl) ?_
    refine cI_c (fun x_5 s_4 => ?_) (xh_nil rfl)
    exact rn_go 7 (pc' := 140) (L' := [.ref a0, am_un, .int x2, am_un, .int x_5, .int x5, .int (0 : Int32), .int (0 : Int32), .int (0 : Int32), am_un]) (st' := []) rfl
  · refine Eq.trans (rn_go 1 (pc' := 87) (L' := [.ref a0, am_un, .int x2, am_un, am_un, .int x5, .int x6, am_un, am_un, am_un]) (st' := [.ref a0]) rfl) ?_
    refine Eq.trans (rn_gA (L' := [.ref a0, am_un, .int x2, am_un, am_un, .int x5, .int x6, am_un, am_un, am_un]) rfl rfl rfl rfl) ?_
    refine eA_c ?_ (fun b_6 => ?_)
    · refine Eq.trans (rn_go 2 (pc' := 93) (L' := [.ref a0, am_un, .int x2, am_un, am_un, .int x5, .int x6, am_un, am_un, am_un]) (st' := [.ref a0, .int x6, .null]) rfl) ?_
      refine Eq.trans (rn_gA (L' := [.ref a0, am_un, .int x2, am_un, am_un, .int x5, .int x6, am_un, am_un, am_un]) rfl rfl rfl rfl) ?_
      refine eA_c ?_ (fun b_7 => ?_)
      · refine Eq.trans (rn_go 1 (pc' := 98) (L' := [.ref a0, am_un, .int x2, am_un, am_un, .int x5, .int x6, am_un, am_un, am_un]) (st' := [.int x6, .null, .int x6, .null]) rfl) ?_
        exact rn_z rfl rfl
      · refine Eq.trans (rn_go 1 (pc' := 98) (L' := [.ref a0, am_un, .int x2, am_un, am_un, .int x5, .int x6, am_un, am_un, am_un]) (st' := [.int x6, .ref b_7, .int x6, .null]) rfl) ?_
        refine Eq.trans (rn_aI (L' := [.ref a0, am_un, .int x2, am_un, am_un, .int x5, .int x6, am_un, am_un, am_un]) rfl rfl) ?_
        refine eI_c (fun x_8 => ?_)
        exact rn_z rfl rfl
    · refine Eq.trans (rn_go 2 (pc' := 93) (L' := [.ref a0, am_un, .int x2, am_un, am_un, .int x5, .int x6, am_un, am_un, am_un]) (st' := [.ref a0, .int x6, .ref b_6]) rfl) ?_
      refine Eq.trans (rn_gA (L' := [.ref a0, am_un, .int x2, am_un, am_un, .int x5, .int x6, am_un, am_un, am_un]) rfl rfl rfl rfl) ?_
      refine eA_c ?_ (fun b_9 => ?_)
      · refine Eq.trans (rn_go 1 (pc' := 98) (L' := [.ref a0, am_un, .int x2, am_un, am_un, .int x5, .int x6, am_un, am_un, am_un]) (st' := [.int x6, .null, .int x6, .ref b_6]) rfl) ?_
        exact rn_z rfl rfl
      · refine Eq.trans (rn_go 1 (pc' := 98) (L' := [.ref a0, am_un, .int x2, am_un, am_un, .int x5, .int x6, am_un, am_un, am_un]) (st' := [.int x6, .ref b_9, .int x6, .ref b_6]) rfl) ?_
        refine Eq.trans (rn_aI (L' := [.ref a0, am_un, .int x2, am_un, am_un, .int x5, .int x6, am_un, am_un, am_un]) rfl rfl) ?_
        refine eI_c (fun x_10 => ?_)
        refine Eq.trans (rn_wI (L' := [.ref a0, am_un, .int x2, am_un, am_un, .int x5, .int x6, am_un, am_un, am_un]) rfl rfl) ?_
        refine eS_c (fun s_11 => ?_)
        refine Eq.trans (rn_go 1 (pc' := 101) (L' := [.ref a0, am_un, .int x2, am_un, am_un, .int x5, .int x6, am_un, am_un, am_un]) (st' := [.ref a0]) rfl) ?_
        refine Eq.trans (rn_gA (L' := [.ref a0, am_un, .int x2, am_un, am_un, .int x5, .int x6, am_un, am_un, am_un]) rfl rfl rfl rfl) ?_
        refine eA_c ?_ (fun b_12 => ?_)
        · refine Eq.trans (rn_go 2 (pc' := 107) (L' := [.ref a0, am_un, .int x2, am_un, am_un, .int x5, .int x6, am_un, am_un, am_un]) (st' := [.ref a0, .int x6, .null]) rfl) ?_
          refine Eq.trans (rn_gA (L' := [.ref a0, am_un, .int x2, am_un, am_un, .int x5, .int x6, am_un, am_un, am_un]) rfl rfl rfl rfl) ?_
          refine eA_c ?_ (fun b_13 => ?_)
          · refine Eq.trans (rn_go 1 (pc' := 112) (L' := [.ref a0, am_un, .int x2, am_un, am_un, .int x5, .int x6, am_un, am_un, am_un]) (st' := [.int x6, .null, .int x6, .null]) rfl) ?_
            exact rn_z rfl rfl
          · refine Eq.trans (rn_go 1 (pc' := 112) (L' := [.ref a0, am_un, .int x2, am_un, am_un, .int x5, .int x6, am_un, am_un, am_un]) (st' := [.int x6, .ref b_13, .int x6, .null]) rfl) ?_
            refine Eq.trans (rn_aI (L' := [.ref a0, am_un, .int x2, am_un, am_un, .int x5, .int x6, am_un, am_un, am_un]) rfl rfl) ?_
            refine eI_c (fun x_14 => ?_)
            exact rn_z rfl rfl
        · refine Eq.trans (rn_go 2 (pc' := 107) (L' := [.ref a0, am_un, .int x2, am_un, am_un, .int x5, .int x6, am_un, am_un, am_un]) (st' := [.ref a0, .int x6, .ref b_12]) rfl) ?_
          refine Eq.trans (rn_gA (L' := [.ref a0, am_un, .int x2, am_un, am_un, .int x5, .int x6, am_un, am_un, am_un]) rfl rfl rfl rfl) ?_
          refine eA_c ?_ (fun b_15 => ?_)
          · refine Eq.trans (rn_go 1 (pc' := 112) (L' := [.ref a0, am_un, .int x2, am_un, am_un, .int x5, .int x6, am_un, am_un, am_un]) (st' := [.int x6, .null, .int x6, .ref b_12]) rfl) ?_
            exact rn_z rfl rfl
          · refine Eq.trans (rn_go 1 (pc' := 112) (L' := [.ref a0, am_un, .int x2, am_un, am_un, .int x5, .int x6, am_un, am_un, am_un]) (st' := [.int x6, .ref b_15, .int x6, .ref b_12]) rfl) ?_
            refine Eq.trans (rn_aI (L' := [.ref a0, am_un, .int x2, am_un, am_un, .int x5, .int x6, am_un, am_un, am_un]) rfl rfl) ?_
            refine eI_c (fun x_16 => ?_)
            refine Eq.trans (rn_wI (L' := [.ref a0, am_un, .int x2, am_un, am_un, .int x5, .int x6, am_un, am_un, am_un]) rfl rfl) ?_
            refine eS_c (fun s_17 => ?_)
            exact rn_go 2 (pc' := 77) (L' := [.ref a0, am_un, .int x2, am_un, am_un, .int x5, .int (x6 + (1 : Int32)), am_un, am_un, am_un]) (st' := []) rfl
theorem dc_X13_changed_140 {B : Nat} (a0 : Nat) (w2 : Value) (w4 : Value) (x5 : Int32) (x6 : Int32) (x7 : Int32) (x8 : Int32) (s : am_S) : rn_ tb_ct tb_mt B mm_X13_changed 140 [.ref a0, am_un, w2, am_un, w4, .int x5, .int x6, .int x7, .int x8, am_un] [] s = if x5 ≤ x8 then eI (gI tb_ct s a0 11 7) (fun x_1 => some (.inl (some (.int ((x7 + x_1) - x6))), s)) else eA (gA tb_ct s a0 11 17) (none) (fun b_2 => eI (aI s b_2 x8) (fun x_3 => eC (am_cls s a0) 11 (cI (cl_ tb_ct tb_mt B K_X13_valueThen [.ref a0, .int x_3] s) (fun x_5 s_4 => if x_5 = (-(2000000000 : Int32)) then rn_ tb_ct tb_mt B mm_X13_changed 174 [.ref a0, am_un, am_un, am_un, am_un, .int x5, .int x6, .int x7, .int x8, .int x_5] [.int (0 : Int32), .int x6] s_4 else rn_ tb_ct tb_mt B mm_X13_changed 174 [.ref a0, am_un, am_un, am_un, am_un, .int x5, .int x6, .int x7, .int x8, .int x_5] [.int (1 : Int32), .int x6] s_4) xo))) := by
  refine Eq.trans (rn_go 2 (pc' := 144) (L' := [.ref a0, am_un, am_un, am_un, am_un, .int x5, .int x6, .int x7, .int x8, am_un]) (st' := [.int x5, .int x8]) rfl) ?_
  refine Eq.trans (rn_icge (L' := [.ref a0, am_un, am_un, am_un, am_un, .int x5, .int x6, .int x7, .int x8, am_un]) rfl rfl) ?_
  refine if_c ?_ ?_
  · refine Eq.trans (rn_go 2 (pc' := 208) (L' := [.ref a0, am_un, am_un, am_un, am_un, .int x5, .int x6, .int x7, .int x8, am_un]) (st' := [.ref a0, .int x7]) rfl) ?_
    refine Eq.trans (rn_gI (L' := [.ref a0, am_un, am_un, am_un, am_un, .int x5, .int x6, .int x7, .int x8, am_un]) rfl rfl rfl rfl) ?_
    refine eI_c (fun x_1 => ?_)
    refine Eq.trans (rn_go 3 (pc' := 215) (L' := [.ref a0, am_un, am_un, am_un, am_un, .int x5, .int x6, .int x7, .int x8, am_un]) (st' := [.int ((x7 + x_1) - x6)]) rfl) ?_
    exact rn_retI rfl rfl rfl
  · refine Eq.trans (rn_go 2 (pc' := 149) (L' := [.ref a0, am_un, am_un, am_un, am_un, .int x5, .int x6, .int x7, .int x8, am_un]) (st' := [.ref a0, .ref a0]) rfl) ?_
    refine Eq.trans (rn_gA (L' := [.ref a0, am_un, am_un, am_un, am_un, .int x5, .int x6, .int x7, .int x8, am_un]) rfl rfl rfl rfl) ?_
    refine eA_c ?_ (fun b_2 => ?_)
    · refine Eq.trans (rn_go 1 (pc' := 154) (L' := [.ref a0, am_un, am_un, am_un, am_un, .int x5, .int x6, .int x7, .int x8, am_un]) (st' := [.int x8, .null, .ref a0]) rfl) ?_
      exact rn_z rfl rfl
    · refine Eq.trans (rn_go 1 (pc' := 154) (L' := [.ref a0, am_un, am_un, am_un, am_un, .int x5, .int x6, .int x7, .int x8, am_un]) (st' := [.int x8, .ref b_2, .ref a0]) rfl) ?_
      refine Eq.trans (rn_aI (L' := [.ref a0, am_un, am_un, am_un, am_un, .int x5, .int x6, .int x7, .int x8, am_un]) rfl rfl) ?_
      refine eI_c (fun x_3 => ?_)
      refine Eq.trans (rn_vir (L' := [.ref a0, am_un, am_un, am_un, am_un, .int x5, .int x6, .int x7, .int x8, am_un]) (as := [.int x_3]) (rest := []) rfl rfl rfl rfl rfl (Nat.le_of_ble_eq_true rfl) (by decide) (by decide)) ?_
      refine eC_c ?_
      refine Eq.trans (cW_I rfl rfl rfl) ?_
      refine cI_c (fun x_5 s_4 => ?_) (xh_nil rfl)
      refine Eq.trans (rn_go 4 (pc' := 166) (L' := [.ref a0, am_un, am_un, am_un, am_un, .int x5, .int x6, .int x7, .int x8, .int x_5]) (st' := [.int (-(2000000000 : Int32)), .int x_5, .int x6]) rfl) ?_
      refine Eq.trans (rn_icne (L' := [.ref a0, am_un, am_un, am_un, am_un, .int x5, .int x6, .int x7, .int x8, .int x_5]) rfl rfl) ?_
      refine if_c ?_ ?_
      · exact rn_go 2 (pc' := 174) (L' := [.ref a0, am_un, am_un, am_un, am_un, .int x5, .int x6, .int x7, .int x8, .int x_5]) (st' := [.int (0 : Int32), .int x6]) rfl
      · exact rn_go 1 (pc' := 174) (L' := [.ref a0, am_un, am_un, am_un, am_un, .int x5, .int x6, .int x7, .int x8, .int x_5]) (st' := [.int (1 : Int32), .int x6]) rfl
theorem dc_X13_changed_174 {B : Nat} (a0 : Nat) (x5 : Int32) (w6 : Value) (x7 : Int32) (x8 : Int32) (x9 : Int32) (xs0 : Int32) (xs1 : Int32) (s : am_S) : rn_ tb_ct tb_mt B mm_X13_changed 174 [.ref a0, am_un, am_un, am_un, am_un, .int x5, w6, .int x7, .int x8, .int x9] [.int xs0, .int xs1] s = eA (gA tb_ct s a0 11 18) (none) (fun b_1 => eI (aI s b_1 x8) (fun x_2 => if x9 = x_2 then rn_ tb_ct tb_mt B mm_X13_changed 196 [.ref a0, am_un, am_un, am_un, am_un, .int x5, .int (xs1 + xs0), .int x7, .int x8, .int x9] [.int (0 : Int32), .int x7] s else rn_ tb_ct tb_mt B mm_X13_changed 196 [.ref a0, am_un, am_un, am_un, am_un, .int x5, .int (xs1 + xs0), .int x7, .int x8, .int x9] [.int (1 : Int32), .int x7] s)) := by
  refine Eq.trans (rn_go 5 (pc' := 182) (L' := [.ref a0, am_un, am_un, am_un, am_un, .int x5, .int (xs1 + xs0), .int x7, .int x8, .int x9]) (st' := [.ref a0, .int x9, .int x7]) rfl) ?_
  refine Eq.trans (rn_gA (L' := [.ref a0, am_un, am_un, am_un, am_un, .int x5, .int (xs1 + xs0), .int x7, .int x8, .int x9]) rfl rfl rfl rfl) ?_
  refine eA_c ?_ (fun b_1 => ?_)
  · refine Eq.trans (rn_go 1 (pc' := 187) (L' := [.ref a0, am_un, am_un, am_un, am_un, .int x5, .int (xs1 + xs0), .int x7, .int x8, .int x9]) (st' := [.int x8, .null, .int x9, .int x7]) rfl) ?_
    exact rn_z rfl rfl
  · refine Eq.trans (rn_go 1 (pc' := 187) (L' := [.ref a0, am_un, am_un, am_un, am_un, .int x5, .int (xs1 + xs0), .int x7, .int x8, .int x9]) (st' := [.int x8, .ref b_1, .int x9, .int x7]) rfl) ?_
    refine Eq.trans (rn_aI (L' := [.ref a0, am_un, am_un, am_un, am_un, .int x5, .int (xs1 + xs0), .int x7, .int x8, .int x9]) rfl rfl) ?_
    refine eI_c (fun x_2 => ?_)
    refine Eq.trans (rn_iceq (L' := [.ref a0, am_un, am_un, am_un, am_un, .int x5, .int (xs1 + xs0), .int x7, .int x8, .int x9]) rfl rfl) ?_
    refine if_c ?_ ?_
    · exact rn_go 1 (pc' := 196) (L' := [.ref a0, am_un, am_un, am_un, am_un, .int x5, .int (xs1 + xs0), .int x7, .int x8, .int x9]) (st' := [.int (0 : Int32), .int x7]) rfl
    · exact rn_go 2 (pc' := 196) (L' := [.ref a0, am_un, am_un, am_un, am_un, .int x5, .int (xs1 + xs0), .int x7, .int x8, .int x9]) (st' := [.int (1 : Int32), .int x7]) rfl
theorem dc_X13_changed_196 {B : Nat} (a0 : Nat) (x5 : Int32) (x6 : Int32) (w7 : Value) (x8 : Int32) (w9 : Value) (xs0 : Int32) (xs1 : Int32) (s : am_S) : rn_ tb_ct tb_mt B mm_X13_changed 196 [.ref a0, am_un, am_un, am_un, am_un, .int x5, .int x6, w7, .int x8, w9] [.int xs0, .int xs1] s = rn_ tb_ct tb_mt B mm_X13_changed 140 [.ref a0, am_un, am_un, am_un, am_un, .int x5, .int x6, .int (xs1 + xs0), .int (x8 + (1 : Int32)), am_un] [] s := by
  exact rn_go 4 (pc' := 140) (L' := [.ref a0, am_un, am_un, am_un, am_un, .int x5, .int x6, .int (xs1 + xs0), .int (x8 + (1 : Int32)), am_un]) (st' := []) rfl
theorem in_X13_digest {B : Nat} (a0 : Nat) (x1 : Int32) (s : am_S) : cl_ tb_ct tb_mt B K_X13_digest [.ref a0, .int x1] s = rn_ tb_ct tb_mt B mm_X13_digest 0 [.ref a0, .int x1, am_un, am_un, am_un] [] s := cl_in rfl rfl rfl rfl
theorem dc_X13_digest_0 {B : Nat} (a0 : Nat) (x1 : Int32) (s : am_S) : rn_ tb_ct tb_mt B mm_X13_digest 0 [.ref a0, .int x1, am_un, am_un, am_un] [] s = if x1 < 0 then rn_ tb_ct tb_mt B mm_X13_digest 10 [.ref a0, .int x1, am_un, am_un, am_un] [.int (0 : Int32), .ref a0] s else rn_ tb_ct tb_mt B mm_X13_digest 10 [.ref a0, .int x1, am_un, am_un, am_un] [.int (1 : Int32), .ref a0] s := by
  refine Eq.trans (rn_go 2 (pc' := 2) (L' := [.ref a0, .int x1, am_un, am_un, am_un]) (st' := [.int x1, .ref a0]) rfl) ?_
  refine Eq.trans (rn_iflt (L' := [.ref a0, .int x1, am_un, am_un, am_un]) rfl rfl) ?_
  refine if_c ?_ ?_
  · exact rn_go 1 (pc' := 10) (L' := [.ref a0, .int x1, am_un, am_un, am_un]) (st' := [.int (0 : Int32), .ref a0]) rfl
  · exact rn_go 2 (pc' := 10) (L' := [.ref a0, .int x1, am_un, am_un, am_un]) (st' := [.int (1 : Int32), .ref a0]) rfl
theorem dc_X13_digest_10 {B : Nat} (a0 : Nat) (x1 : Int32) (xs0 : Int32) (as1 : Nat) (s : am_S) : rn_ tb_ct tb_mt B mm_X13_digest 10 [.ref a0, .int x1, am_un, am_un, am_un] [.int xs0, .ref as1] s = eC (am_cls s as1) 11 (cI (cl_ tb_ct tb_mt B K_X13_isThrown [.ref as1, .int xs0, .int (1 : Int32)] s) (fun x_2 s_1 => if x_2 = 0 then eC (am_cls s_1 a0) 11 (cI (cl_ tb_ct tb_mt B K_X13_asked [.ref a0, .int x1] s_1) (fun x_4 s_3 => eC (am_cls s_3 a0) 11 (cI (cl_ tb_ct tb_mt B K_X13_whyNot [.ref a0, .int x_4] s_3) (fun x_6 s_5 => if x_6 = 0 then eC (am_cls s_5 a0) 11 (cI (cl_ tb_ct tb_mt B K_X13_asked [.ref a0, .int x1] s_5) (fun x_8 s_7 => eC (am_cls s_7 a0) 11 (cI (cl_ tb_ct tb_mt B K_X13_laysThen [.ref a0, .int x_8] s_7) (fun x_10 s_9 => rn_ tb_ct tb_mt B mm_X13_digest 49 [.ref a0, .int x1, .int x_10, .int (17 : Int32), .int (0 : Int32)] [] s_9) xo)) xo) else some (.inl (some (.int (0 : Int32))), s_5)) xo)) xo) else some (.inl (some (.int (0 : Int32))), s_1)) xo) := by
  refine Eq.trans (rn_go 1 (pc' := 11) (L' := [.ref a0, .int x1, am_un, am_un, am_un]) (st' := [.int (1 : Int32), .int xs0, .ref as1]) rfl) ?_
  refine Eq.trans (rn_vir (L' := [.ref a0, .int x1, am_un, am_un, am_un]) (as := [.int xs0, .int (1 : Int32)]) (rest := []) rfl rfl rfl rfl rfl (Nat.le_of_ble_eq_true rfl) (by decide) (by decide)) ?_
  refine eC_c ?_
  refine Eq.trans (cW_I rfl rfl rfl) ?_
  refine cI_c (fun x_2 s_1 => ?_) (xh_nil rfl)
  refine Eq.trans (rn_ifeq (L' := [.ref a0, .int x1, am_un, am_un, am_un]) rfl rfl) ?_
  refine if_c ?_ ?_
  · refine Eq.trans (rn_go 3 (pc' := 22) (L' := [.ref a0, .int x1, am_un, am_un, am_un]) (st' := [.int x1, .ref a0, .ref a0]) rfl) ?_
    refine Eq.trans (rn_vir (L' := [.ref a0, .int x1, am_un, am_un, am_un]) (as := [.int x1]) (rest := [.ref a0]) rfl rfl rfl rfl rfl (Nat.le_of_ble_eq_true rfl) (by decide) (by decide)) ?_
    refine eC_c ?_
    refine Eq.trans (cW_I rfl rfl rfl) ?_
    refine cI_c (fun x_4 s_3 => ?_) (xh_nil rfl)
    refine Eq.trans (rn_vir (L' := [.ref a0, .int x1, am_un, am_un, am_un]) (as := [.int x_4]) (rest := []) rfl rfl rfl rfl rfl (Nat.le_of_ble_eq_true rfl) (by decide) (by decide)) ?_
    refine eC_c ?_
    refine Eq.trans (cW_I rfl rfl rfl) ?_
    refine cI_c (fun x_6 s_5 => ?_) (xh_nil rfl)
    refine Eq.trans (rn_ifeq (L' := [.ref a0, .int x1, am_un, am_un, am_un]) rfl rfl) ?_
    refine if_c ?_ ?_
    · refine Eq.trans (rn_go 3 (pc' := 36) (L' := [.ref a0, .int x1, am_un, am_un, am_un]) (st' := [.int x1, .ref a0, .ref a0]) rfl) ?_
      refine Eq.trans (rn_vir (L' := [.ref a0, .int x1, am_un, am_un, am_un]) (as := [.int x1]) (rest := [.ref a0]) rfl rfl rfl rfl rfl (Nat.le_of_ble_eq_true rfl) (by decide) (by decide)) ?_
      refine eC_c ?_
      refine Eq.trans (cW_I rfl rfl rfl) ?_
      refine cI_c (fun x_8 s_7 => ?_) (xh_nil rfl)
      refine Eq.trans (rn_vir (L' := [.ref a0, .int x1, am_un, am_un, am_un]) (as := [.int x_8]) (rest := []) rfl rfl rfl rfl rfl (Nat.le_of_ble_eq_true rfl) (by decide) (by decide)) ?_
      refine eC_c ?_
      refine Eq.trans (cW_I rfl rfl rfl) ?_
      refine cI_c (fun x_10 s_9 => ?_) (xh_nil rfl)
      exact rn_go 5 (pc' := 49) (L' := [.ref a0, .int x1, .int x_10, .int (17 : Int32), .int (0 : Int32)]) (st' := []) rfl
    · refine Eq.trans (rn_go 1 (pc' := 32) (L' := [.ref a0, .int x1, am_un, am_un, am_un]) (st' := [.int (0 : Int32)]) rfl) ?_
      exact rn_retI rfl rfl rfl
  · refine Eq.trans (rn_go 1 (pc' := 18) (L' := [.ref a0, .int x1, am_un, am_un, am_un]) (st' := [.int (0 : Int32)]) rfl) ?_
    exact rn_retI rfl rfl rfl
theorem dc_X13_digest_49 {B : Nat} (a0 : Nat) (w1 : Value) (w2 : Value) (x3 : Int32) (x4 : Int32) (s : am_S) : rn_ tb_ct tb_mt B mm_X13_digest 49 [.ref a0, w1, w2, .int x3, .int x4] [] s = eI (gI tb_ct s a0 11 7) (fun x_1 => if x_1 ≤ x4 then some (.inl (some (.int x3)), s) else eA (gA tb_ct s a0 11 5) (none) (fun b_2 => eI (aI s b_2 x4) (fun x_3 => eA (gA tb_ct s a0 11 6) (none) (fun b_4 => eI (aI s b_4 x4) (fun x_5 => rn_ tb_ct tb_mt B mm_X13_digest 49 [.ref a0, am_un, am_un, .int (((31 : Int32) * (((31 : Int32) * x3) + x_3)) + x_5), .int (x4 + (1 : Int32))] [] s))))) := by
  refine Eq.trans (rn_go 2 (pc' := 52) (L' := [.ref a0, am_un, am_un, .int x3, .int x4]) (st' := [.ref a0, .int x4]) rfl) ?_
  refine Eq.trans (rn_gI (L' := [.ref a0, am_un, am_un, .int x3, .int x4]) rfl rfl rfl rfl) ?_
  refine eI_c (fun x_1 => ?_)
  refine Eq.trans (rn_icge (L' := [.ref a0, am_un, am_un, .int x3, .int x4]) rfl rfl) ?_
  refine if_c ?_ ?_
  · refine Eq.trans (rn_go 1 (pc' := 91) (L' := [.ref a0, am_un, am_un, .int x3, .int x4]) (st' := [.int x3]) rfl) ?_
    exact rn_retI rfl rfl rfl
  · refine Eq.trans (rn_go 4 (pc' := 63) (L' := [.ref a0, am_un, am_un, .int x3, .int x4]) (st' := [.ref a0, .int ((31 : Int32) * x3)]) rfl) ?_
    refine Eq.trans (rn_gA (L' := [.ref a0, am_un, am_un, .int x3, .int x4]) rfl rfl rfl rfl) ?_
    refine eA_c ?_ (fun b_2 => ?_)
    · refine Eq.trans (rn_go 1 (pc' := 68) (L' := [.ref a0, am_un, am_un, .int x3, .int x4]) (st' := [.int x4, .null, .int ((31 : Int32) * x3)]) rfl) ?_
      exact rn_z rfl rfl
    · refine Eq.trans (rn_go 1 (pc' := 68) (L' := [.ref a0, am_un, am_un, .int x3, .int x4]) (st' := [.int x4, .ref b_2, .int ((31 : Int32) * x3)]) rfl) ?_
      refine Eq.trans (rn_aI (L' := [.ref a0, am_un, am_un, .int x3, .int x4]) rfl rfl) ?_
      refine eI_c (fun x_3 => ?_)
      refine Eq.trans (rn_go 6 (pc' := 76) (L' := [.ref a0, am_un, am_un, .int (((31 : Int32) * x3) + x_3), .int x4]) (st' := [.ref a0, .int ((31 : Int32) * (((31 : Int32) * x3) + x_3))]) rfl) ?_
      refine Eq.trans (rn_gA (L' := [.ref a0, am_un, am_un, .int (((31 : Int32) * x3) + x_3), .int x4]) rfl rfl rfl rfl) ?_
      refine eA_c ?_ (fun b_4 => ?_)
      · refine Eq.trans (rn_go 1 (pc' := 81) (L' := [.ref a0, am_un, am_un, .int (((31 : Int32) * x3) + x_3), .int x4]) (st' := [.int x4, .null, .int ((31 : Int32) * (((31 : Int32) * x3) + x_3))]) rfl) ?_
        exact rn_z rfl rfl
      · refine Eq.trans (rn_go 1 (pc' := 81) (L' := [.ref a0, am_un, am_un, .int (((31 : Int32) * x3) + x_3), .int x4]) (st' := [.int x4, .ref b_4, .int ((31 : Int32) * (((31 : Int32) * x3) + x_3))]) rfl) ?_
        refine Eq.trans (rn_aI (L' := [.ref a0, am_un, am_un, .int (((31 : Int32) * x3) + x_3), .int x4]) rfl rfl) ?_
        refine eI_c (fun x_5 => ?_)
        exact rn_go 4 (pc' := 49) (L' := [.ref a0, am_un, am_un, .int (((31 : Int32) * (((31 : Int32) * x3) + x_3)) + x_5), .int (x4 + (1 : Int32))]) (st' := []) rfl
theorem in_X13_versionAt {B : Nat} (a0 : Nat) (x1 : Int32) (x2 : Int32) (s : am_S) : cl_ tb_ct tb_mt B K_X13_versionAt [.ref a0, .int x1, .int x2] s = rn_ tb_ct tb_mt B mm_X13_versionAt 0 [.ref a0, .int x1, .int x2, am_un, am_un] [] s := cl_in rfl rfl rfl rfl
theorem dc_X13_versionAt_0 {B : Nat} (a0 : Nat) (x1 : Int32) (x2 : Int32) (s : am_S) : rn_ tb_ct tb_mt B mm_X13_versionAt 0 [.ref a0, .int x1, .int x2, am_un, am_un] [] s = cI (cl_ tb_ct tb_mt B K_X13_isKey [.int x1] s) (fun x_2 s_1 => if x_2 = 0 then rn_ tb_ct tb_mt B mm_X13_versionAt 17 [.ref a0, .int x1, .int x2, am_un, am_un] [.ref a0] s_1 else if x2 < (1 : Int32) then rn_ tb_ct tb_mt B mm_X13_versionAt 17 [.ref a0, .int x1, .int x2, am_un, am_un] [.ref a0] s_1 else rn_ tb_ct tb_mt B mm_X13_versionAt 18 [.ref a0, .int x1, .int x2, am_un, am_un] [.int (1 : Int32), .ref a0] s_1) xo := by
  refine Eq.trans (rn_go 2 (pc' := 2) (L' := [.ref a0, .int x1, .int x2, am_un, am_un]) (st' := [.int x1, .ref a0]) rfl) ?_
  refine Eq.trans (rn_sta (L' := [.ref a0, .int x1, .int x2, am_un, am_un]) (as := [.int x1]) (rest := [.ref a0]) rfl rfl rfl rfl rfl (Nat.le_of_ble_eq_true rfl) (by decide) rfl) ?_
  refine Eq.trans (cW_I rfl rfl rfl) ?_
  refine cI_c (fun x_2 s_1 => ?_) (xh_nil rfl)
  refine Eq.trans (rn_ifeq (L' := [.ref a0, .int x1, .int x2, am_un, am_un]) rfl rfl) ?_
  refine if_c ?_ ?_
  · rfl
  · refine Eq.trans (rn_go 2 (pc' := 10) (L' := [.ref a0, .int x1, .int x2, am_un, am_un]) (st' := [.int (1 : Int32), .int x2, .ref a0]) rfl) ?_
    refine Eq.trans (rn_iclt (L' := [.ref a0, .int x1, .int x2, am_un, am_un]) rfl rfl) ?_
    refine if_c ?_ ?_
    · rfl
    · exact rn_go 2 (pc' := 18) (L' := [.ref a0, .int x1, .int x2, am_un, am_un]) (st' := [.int (1 : Int32), .ref a0]) rfl
theorem dc_X13_versionAt_17 {B : Nat} (a0 : Nat) (x1 : Int32) (x2 : Int32) (as0 : Nat) (s : am_S) : rn_ tb_ct tb_mt B mm_X13_versionAt 17 [.ref a0, .int x1, .int x2, am_un, am_un] [.ref as0] s = rn_ tb_ct tb_mt B mm_X13_versionAt 18 [.ref a0, .int x1, .int x2, am_un, am_un] [.int (0 : Int32), .ref as0] s := by
  exact rn_go 1 (pc' := 18) (L' := [.ref a0, .int x1, .int x2, am_un, am_un]) (st' := [.int (0 : Int32), .ref as0]) rfl
theorem dc_X13_versionAt_18 {B : Nat} (a0 : Nat) (x1 : Int32) (x2 : Int32) (xs0 : Int32) (as1 : Nat) (s : am_S) : rn_ tb_ct tb_mt B mm_X13_versionAt 18 [.ref a0, .int x1, .int x2, am_un, am_un] [.int xs0, .ref as1] s = eC (am_cls s as1) 11 (cI (cl_ tb_ct tb_mt B K_X13_isThrown [.ref as1, .int xs0, .int (1 : Int32)] s) (fun x_2 s_1 => if x_2 = 0 then eC (am_cls s_1 a0) 11 (cI (cl_ tb_ct tb_mt B K_X13_isThere [.ref a0, .int x1] s_1) (fun x_4 s_3 => if x_4 = 0 then some (.inl (some (.int (-(2000000000 : Int32)))), s_3) else eC (am_cls s_3 a0) 11 (cI (cl_ tb_ct tb_mt B K_X13_placeOf [.ref a0, .int x1] s_3) (fun x_6 s_5 => eC (am_cls s_5 a0) 11 (cI (cl_ tb_ct tb_mt B K_X13_keyAt [.ref a0, .int x_6, .int (4 : Int32)] s_5) (fun x_8 s_7 => eA (gA tb_ct s_7 a0 11 0) (none) (fun b_9 => eI (aI s_7 b_9 (6 : Int32)) (fun x_10 => rn_ tb_ct tb_mt B mm_X13_versionAt 60 [.ref a0, .int x1, .int x2, .int x_8, .int (x_10 - (1 : Int32))] [] s_7))) xo)) xo)) xo) else some (.inl (some (.int (0 : Int32))), s_1)) xo) := by
  refine Eq.trans (rn_go 1 (pc' := 19) (L' := [.ref a0, .int x1, .int x2, am_un, am_un]) (st' := [.int (1 : Int32), .int xs0, .ref as1]) rfl) ?_
  refine Eq.trans (rn_vir (L' := [.ref a0, .int x1, .int x2, am_un, am_un]) (as := [.int xs0, .int (1 : Int32)]) (rest := []) rfl rfl rfl rfl rfl (Nat.le_of_ble_eq_true rfl) (by decide) (by decide)) ?_
  refine eC_c ?_
  refine Eq.trans (cW_I rfl rfl rfl) ?_
  refine cI_c (fun x_2 s_1 => ?_) (xh_nil rfl)
  refine Eq.trans (rn_ifeq (L' := [.ref a0, .int x1, .int x2, am_un, am_un]) rfl rfl) ?_
  refine if_c ?_ ?_
  · refine Eq.trans (rn_go 2 (pc' := 29) (L' := [.ref a0, .int x1, .int x2, am_un, am_un]) (st' := [.int x1, .ref a0]) rfl) ?_
    refine Eq.trans (rn_vir (L' := [.ref a0, .int x1, .int x2, am_un, am_un]) (as := [.int x1]) (rest := []) rfl rfl rfl rfl rfl (Nat.le_of_ble_eq_true rfl) (by decide) (by decide)) ?_
    refine eC_c ?_
    refine Eq.trans (cW_I rfl rfl rfl) ?_
    refine cI_c (fun x_4 s_3 => ?_) (xh_nil rfl)
    refine Eq.trans (rn_ifne (L' := [.ref a0, .int x1, .int x2, am_un, am_un]) rfl rfl) ?_
    refine if_c ?_ ?_
    · refine Eq.trans (rn_go 1 (pc' := 37) (L' := [.ref a0, .int x1, .int x2, am_un, am_un]) (st' := [.int (-(2000000000 : Int32))]) rfl) ?_
      exact rn_retI rfl rfl rfl
    · refine Eq.trans (rn_go 3 (pc' := 41) (L' := [.ref a0, .int x1, .int x2, am_un, am_un]) (st' := [.int x1, .ref a0, .ref a0]) rfl) ?_
      refine Eq.trans (rn_vir (L' := [.ref a0, .int x1, .int x2, am_un, am_un]) (as := [.int x1]) (rest := [.ref a0]) rfl rfl rfl rfl rfl (Nat.le_of_ble_eq_true rfl) (by decide) (by decide)) ?_
      refine eC_c ?_
      refine Eq.trans (cW_I rfl rfl rfl) ?_
      refine cI_c (fun x_6 s_5 => ?_) (xh_nil rfl)
      refine Eq.trans (rn_go 1 (pc' := 45) (L' := [.ref a0, .int x1, .int x2, am_un, am_un]) (st' := [.int (4 : Int32), .int x_6, .ref a0]) rfl) ?_
      refine Eq.trans (rn_vir (L' := [.ref a0, .int x1, .int x2, am_un, am_un]) (as := [.int x_6, .int (4 : Int32)]) (rest := []) rfl rfl rfl rfl rfl (Nat.le_of_ble_eq_true rfl) (by decide) (by decide)) ?_
      refine eC_c ?_
      refine Eq.trans (cW_I rfl rfl rfl) ?_
      refine cI_c (fun x_8 s_7 => ?_) (xh_nil rfl)
      refine Eq.trans (rn_go 2 (pc' := 50) (L' := [.ref a0, .int x1, .int x2, .int x_8, am_un]) (st' := [.ref a0]) rfl) ?_
      refine Eq.trans (rn_gA (L' := [.ref a0, .int x1, .int x2, .int x_8, am_un]) rfl rfl rfl rfl) ?_
      refine eA_c ?_ (fun b_9 => ?_)
      · refine Eq.trans (rn_go 1 (pc' := 55) (L' := [.ref a0, .int x1, .int x2, .int x_8, am_un]) (st' := [.int (6 : Int32), .null]) rfl) ?_
        exact rn_z rfl rfl
      · refine Eq.trans (rn_go 1 (pc' := 55) (L' := [.ref a0, .int x1, .int x2, .int x_8, am_un]) (st' := [.int (6 : Int32), .ref b_9]) rfl) ?_
        refine Eq.trans (rn_aI (L' := [.ref a0, .int x1, .int x2, .int x_8, am_un]) rfl rfl) ?_
        refine eI_c (fun x_10 => ?_)
        exact rn_go 3 (pc' := 60) (L' := [.ref a0, .int x1, .int x2, .int x_8, .int (x_10 - (1 : Int32))]) (st' := []) rfl
  · refine Eq.trans (rn_go 1 (pc' := 26) (L' := [.ref a0, .int x1, .int x2, am_un, am_un]) (st' := [.int (0 : Int32)]) rfl) ?_
    exact rn_retI rfl rfl rfl
theorem dc_X13_versionAt_60 {B : Nat} (a0 : Nat) (x1 : Int32) (x2 : Int32) (x3 : Int32) (x4 : Int32) (s : am_S) : rn_ tb_ct tb_mt B mm_X13_versionAt 60 [.ref a0, .int x1, .int x2, .int x3, .int x4] [] s = if x4 < 0 then rn_ tb_ct tb_mt B mm_X13_versionAt 106 [.ref a0, .int x1, .int x2, .int x3, .int x4] [] s else if x3 < x2 then rn_ tb_ct tb_mt B mm_X13_versionAt 106 [.ref a0, .int x1, .int x2, .int x3, .int x4] [] s else eC (am_cls s a0) 11 (cI (cl_ tb_ct tb_mt B K_X13_eventAt [.ref a0, .int x4, .int (2 : Int32)] s) (fun x_2 s_1 => if x_2 = x1 then if x3 = x2 then eC (am_cls s_1 a0) 11 (cI (cl_ tb_ct tb_mt B K_X13_eventAt [.ref a0, .int x4, .int (3 : Int32)] s_1) (fun x_4 s_3 => some (.inl (some (.int x_4)), s_3)) xo) else rn_ tb_ct tb_mt B mm_X13_versionAt 100 [.ref a0, .int x1, .int x2, .int (x3 + (-(1 : Int32))), .int x4] [] s_1 else rn_ tb_ct tb_mt B mm_X13_versionAt 100 [.ref a0, .int x1, .int x2, .int x3, .int x4] [] s_1) xo) := by
  refine Eq.trans (rn_go 1 (pc' := 62) (L' := [.ref a0, .int x1, .int x2, .int x3, .int x4]) (st' := [.int x4]) rfl) ?_
  refine Eq.trans (rn_iflt (L' := [.ref a0, .int x1, .int x2, .int x3, .int x4]) rfl rfl) ?_
  refine if_c ?_ ?_
  · rfl
  · refine Eq.trans (rn_go 2 (pc' := 67) (L' := [.ref a0, .int x1, .int x2, .int x3, .int x4]) (st' := [.int x2, .int x3]) rfl) ?_
    refine Eq.trans (rn_iclt (L' := [.ref a0, .int x1, .int x2, .int x3, .int x4]) rfl rfl) ?_
    refine if_c ?_ ?_
    · rfl
    · refine Eq.trans (rn_go 3 (pc' := 74) (L' := [.ref a0, .int x1, .int x2, .int x3, .int x4]) (st' := [.int (2 : Int32), .int x4, .ref a0]) rfl) ?_
      refine Eq.trans (rn_vir (L' := [.ref a0, .int x1, .int x2, .int x3, .int x4]) (as := [.int x4, .int (2 : Int32)]) (rest := []) rfl rfl rfl rfl rfl (Nat.le_of_ble_eq_true rfl) (by decide) (by decide)) ?_
      refine eC_c ?_
      refine Eq.trans (cW_I rfl rfl rfl) ?_
      refine cI_c (fun x_2 s_1 => ?_) (xh_nil rfl)
      refine Eq.trans (rn_go 1 (pc' := 78) (L' := [.ref a0, .int x1, .int x2, .int x3, .int x4]) (st' := [.int x1, .int x_2]) rfl) ?_
      refine Eq.trans (rn_iceq (L' := [.ref a0, .int x1, .int x2, .int x3, .int x4]) rfl rfl) ?_
      refine if_c ?_ ?_
      · refine Eq.trans (rn_go 2 (pc' := 86) (L' := [.ref a0, .int x1, .int x2, .int x3, .int x4]) (st' := [.int x2, .int x3]) rfl) ?_
        refine Eq.trans (rn_icne (L' := [.ref a0, .int x1, .int x2, .int x3, .int x4]) rfl rfl) ?_
        refine if_c ?_ ?_
        · refine Eq.trans (rn_go 3 (pc' := 93) (L' := [.ref a0, .int x1, .int x2, .int x3, .int x4]) (st' := [.int (3 : Int32), .int x4, .ref a0]) rfl) ?_
          refine Eq.trans (rn_vir (L' := [.ref a0, .int x1, .int x2, .int x3, .int x4]) (as := [.int x4, .int (3 : Int32)]) (rest := []) rfl rfl rfl rfl rfl (Nat.le_of_ble_eq_true rfl) (by decide) (by decide)) ?_
          refine eC_c ?_
          refine Eq.trans (cW_I rfl rfl rfl) ?_
          refine cI_c (fun x_4 s_3 => ?_) (xh_nil rfl)
          exact rn_retI rfl rfl rfl
        · exact rn_go 1 (pc' := 100) (L' := [.ref a0, .int x1, .int x2, .int (x3 + (-(1 : Int32))), .int x4]) (st' := []) rfl
      · exact rn_go 1 (pc' := 100) (L' := [.ref a0, .int x1, .int x2, .int x3, .int x4]) (st' := []) rfl
theorem dc_X13_versionAt_100 {B : Nat} (a0 : Nat) (x1 : Int32) (x2 : Int32) (x3 : Int32) (x4 : Int32) (s : am_S) : rn_ tb_ct tb_mt B mm_X13_versionAt 100 [.ref a0, .int x1, .int x2, .int x3, .int x4] [] s = rn_ tb_ct tb_mt B mm_X13_versionAt 60 [.ref a0, .int x1, .int x2, .int x3, .int (x4 + (-(1 : Int32)))] [] s := by
  exact rn_go 2 (pc' := 60) (L' := [.ref a0, .int x1, .int x2, .int x3, .int (x4 + (-(1 : Int32)))]) (st' := []) rfl
theorem dc_X13_versionAt_106 {B : Nat} (w0 : Value) (w1 : Value) (w2 : Value) (w3 : Value) (w4 : Value) (s : am_S) : rn_ tb_ct tb_mt B mm_X13_versionAt 106 [w0, w1, w2, w3, w4] [] s = some (.inl (some (.int (-(2000000000 : Int32)))), s) := by
  refine Eq.trans (rn_go 1 (pc' := 108) (L' := [am_un, am_un, am_un, am_un, am_un]) (st' := [.int (-(2000000000 : Int32))]) rfl) ?_
  exact rn_retI rfl rfl rfl
theorem in_X13_event {B : Nat} (a0 : Nat) (x1 : Int32) (x2 : Int32) (s : am_S) : cl_ tb_ct tb_mt B K_X13_event [.ref a0, .int x1, .int x2] s = rn_ tb_ct tb_mt B mm_X13_event 0 [.ref a0, .int x1, .int x2] [] s := cl_in rfl rfl rfl rfl
theorem dc_X13_event_0 {B : Nat} (a0 : Nat) (x1 : Int32) (x2 : Int32) (s : am_S) : rn_ tb_ct tb_mt B mm_X13_event 0 [.ref a0, .int x1, .int x2] [] s = eA (gA tb_ct s a0 11 0) (none) (fun b_1 => eI (aI s b_1 (6 : Int32)) (fun x_2 => cI (cl_ tb_ct tb_mt B K_X13_in [.long x1.toInt64, .long (0 : Int64), .long (x_2 - (1 : Int32)).toInt64] s) (fun x_4 s_3 => eC (am_cls s_3 a0) 11 (cI (cl_ tb_ct tb_mt B K_X13_isThrown [.ref a0, .int x_4, .int (1 : Int32)] s_3) (fun x_6 s_5 => if x_6 = 0 then cI (cl_ tb_ct tb_mt B K_X13_in [.long x2.toInt64, .long (0 : Int64), .long (5 : Int64)] s_5) (fun x_8 s_7 => eC (am_cls s_7 a0) 11 (cI (cl_ tb_ct tb_mt B K_X13_isThrown [.ref a0, .int x_8, .int (2 : Int32)] s_7) (fun x_10 s_9 => if x_10 = 0 then eC (am_cls s_9 a0) 11 (cI (cl_ tb_ct tb_mt B K_X13_eventAt [.ref a0, .int x1, .int x2] s_9) (fun x_12 s_11 => some (.inl (some (.int x_12)), s_11)) xo) else some (.inl (some (.int (0 : Int32))), s_9)) xo)) xo else some (.inl (some (.int (0 : Int32))), s_5)) xo)) xo)) := by
  refine Eq.trans (rn_go 5 (pc' := 5) (L' := [.ref a0, .int x1, .int x2]) (st' := [.ref a0, .long (0 : Int64), .long x1.toInt64, .ref a0]) rfl) ?_
  refine Eq.trans (rn_gA (L' := [.ref a0, .int x1, .int x2]) rfl rfl rfl rfl) ?_
  refine eA_c ?_ (fun b_1 => ?_)
  · refine Eq.trans (rn_go 1 (pc' := 10) (L' := [.ref a0, .int x1, .int x2]) (st' := [.int (6 : Int32), .null, .long (0 : Int64), .long x1.toInt64, .ref a0]) rfl) ?_
    exact rn_z rfl rfl
  · refine Eq.trans (rn_go 1 (pc' := 10) (L' := [.ref a0, .int x1, .int x2]) (st' := [.int (6 : Int32), .ref b_1, .long (0 : Int64), .long x1.toInt64, .ref a0]) rfl) ?_
    refine Eq.trans (rn_aI (L' := [.ref a0, .int x1, .int x2]) rfl rfl) ?_
    refine eI_c (fun x_2 => ?_)
    refine Eq.trans (rn_go 3 (pc' := 14) (L' := [.ref a0, .int x1, .int x2]) (st' := [.long (x_2 - (1 : Int32)).toInt64, .long (0 : Int64), .long x1.toInt64, .ref a0]) rfl) ?_
    refine Eq.trans (rn_sta (L' := [.ref a0, .int x1, .int x2]) (as := [.long x1.toInt64, .long (0 : Int64), .long (x_2 - (1 : Int32)).toInt64]) (rest := [.ref a0]) rfl rfl rfl rfl rfl (Nat.le_of_ble_eq_true rfl) (by decide) rfl) ?_
    refine Eq.trans (cW_I rfl rfl rfl) ?_
    refine cI_c (fun x_4 s_3 => ?_) (xh_nil rfl)
    refine Eq.trans (rn_go 1 (pc' := 18) (L' := [.ref a0, .int x1, .int x2]) (st' := [.int (1 : Int32), .int x_4, .ref a0]) rfl) ?_
    refine Eq.trans (rn_vir (L' := [.ref a0, .int x1, .int x2]) (as := [.int x_4, .int (1 : Int32)]) (rest := []) rfl rfl rfl rfl rfl (Nat.le_of_ble_eq_true rfl) (by decide) (by decide)) ?_
    refine eC_c ?_
    refine Eq.trans (cW_I rfl rfl rfl) ?_
    refine cI_c (fun x_6 s_5 => ?_) (xh_nil rfl)
    refine Eq.trans (rn_ifne (L' := [.ref a0, .int x1, .int x2]) rfl rfl) ?_
    refine if_c ?_ ?_
    · refine Eq.trans (rn_go 5 (pc' := 31) (L' := [.ref a0, .int x1, .int x2]) (st' := [.long (5 : Int64), .long (0 : Int64), .long x2.toInt64, .ref a0]) rfl) ?_
      refine Eq.trans (rn_sta (L' := [.ref a0, .int x1, .int x2]) (as := [.long x2.toInt64, .long (0 : Int64), .long (5 : Int64)]) (rest := [.ref a0]) rfl rfl rfl rfl rfl (Nat.le_of_ble_eq_true rfl) (by decide) rfl) ?_
      refine Eq.trans (cW_I rfl rfl rfl) ?_
      refine cI_c (fun x_8 s_7 => ?_) (xh_nil rfl)
      refine Eq.trans (rn_go 1 (pc' := 35) (L' := [.ref a0, .int x1, .int x2]) (st' := [.int (2 : Int32), .int x_8, .ref a0]) rfl) ?_
      refine Eq.trans (rn_vir (L' := [.ref a0, .int x1, .int x2]) (as := [.int x_8, .int (2 : Int32)]) (rest := []) rfl rfl rfl rfl rfl (Nat.le_of_ble_eq_true rfl) (by decide) (by decide)) ?_
      refine eC_c ?_
      refine Eq.trans (cW_I rfl rfl rfl) ?_
      refine cI_c (fun x_10 s_9 => ?_) (xh_nil rfl)
      refine Eq.trans (rn_ifeq (L' := [.ref a0, .int x1, .int x2]) rfl rfl) ?_
      refine if_c ?_ ?_
      · refine Eq.trans (rn_go 3 (pc' := 46) (L' := [.ref a0, .int x1, .int x2]) (st' := [.int x2, .int x1, .ref a0]) rfl) ?_
        refine Eq.trans (rn_vir (L' := [.ref a0, .int x1, .int x2]) (as := [.int x1, .int x2]) (rest := []) rfl rfl rfl rfl rfl (Nat.le_of_ble_eq_true rfl) (by decide) (by decide)) ?_
        refine eC_c ?_
        refine Eq.trans (cW_I rfl rfl rfl) ?_
        refine cI_c (fun x_12 s_11 => ?_) (xh_nil rfl)
        exact rn_retI rfl rfl rfl
      · refine Eq.trans (rn_go 1 (pc' := 42) (L' := [.ref a0, .int x1, .int x2]) (st' := [.int (0 : Int32)]) rfl) ?_
        exact rn_retI rfl rfl rfl
    · refine Eq.trans (rn_go 1 (pc' := 42) (L' := [.ref a0, .int x1, .int x2]) (st' := [.int (0 : Int32)]) rfl) ?_
      exact rn_retI rfl rfl rfl
theorem in_X13_writesOf {B : Nat} (a0 : Nat) (x1 : Int32) (s : am_S) : cl_ tb_ct tb_mt B K_X13_writesOf [.ref a0, .int x1] s = rn_ tb_ct tb_mt B mm_X13_writesOf 0 [.ref a0, .int x1, am_un, am_un] [] s := cl_in rfl rfl rfl rfl
theorem dc_X13_writesOf_0 {B : Nat} (a0 : Nat) (x1 : Int32) (s : am_S) : rn_ tb_ct tb_mt B mm_X13_writesOf 0 [.ref a0, .int x1, am_un, am_un] [] s = rn_ tb_ct tb_mt B mm_X13_writesOf 4 [.ref a0, .int x1, .int (0 : Int32), .int (0 : Int32)] [] s := by
  exact rn_go 4 (pc' := 4) (L' := [.ref a0, .int x1, .int (0 : Int32), .int (0 : Int32)]) (st' := []) rfl
theorem dc_X13_writesOf_4 {B : Nat} (a0 : Nat) (x1 : Int32) (x2 : Int32) (x3 : Int32) (s : am_S) : rn_ tb_ct tb_mt B mm_X13_writesOf 4 [.ref a0, .int x1, .int x2, .int x3] [] s = eA (gA tb_ct s a0 11 0) (none) (fun b_1 => eI (aI s b_1 (6 : Int32)) (fun x_2 => if x_2 ≤ x3 then some (.inl (some (.int x2)), s) else eC (am_cls s a0) 11 (cI (cl_ tb_ct tb_mt B K_X13_eventAt [.ref a0, .int x3, .int (2 : Int32)] s) (fun x_4 s_3 => if x_4 = x1 then rn_ tb_ct tb_mt B mm_X13_writesOf 31 [.ref a0, .int x1, .int x2, .int x3] [.int (1 : Int32), .int x2] s_3 else rn_ tb_ct tb_mt B mm_X13_writesOf 31 [.ref a0, .int x1, .int x2, .int x3] [.int (0 : Int32), .int x2] s_3) xo))) := by
  refine Eq.trans (rn_go 2 (pc' := 6) (L' := [.ref a0, .int x1, .int x2, .int x3]) (st' := [.ref a0, .int x3]) rfl) ?_
  refine Eq.trans (rn_gA (L' := [.ref a0, .int x1, .int x2, .int x3]) rfl rfl rfl rfl) ?_
  refine eA_c ?_ (fun b_1 => ?_)
  · refine Eq.trans (rn_go 1 (pc' := 11) (L' := [.ref a0, .int x1, .int x2, .int x3]) (st' := [.int (6 : Int32), .null, .int x3]) rfl) ?_
    exact rn_z rfl rfl
  · refine Eq.trans (rn_go 1 (pc' := 11) (L' := [.ref a0, .int x1, .int x2, .int x3]) (st' := [.int (6 : Int32), .ref b_1, .int x3]) rfl) ?_
    refine Eq.trans (rn_aI (L' := [.ref a0, .int x1, .int x2, .int x3]) rfl rfl) ?_
    refine eI_c (fun x_2 => ?_)
    refine Eq.trans (rn_icge (L' := [.ref a0, .int x1, .int x2, .int x3]) rfl rfl) ?_
    refine if_c ?_ ?_
    · refine Eq.trans (rn_go 1 (pc' := 40) (L' := [.ref a0, .int x1, .int x2, .int x3]) (st' := [.int x2]) rfl) ?_
      exact rn_retI rfl rfl rfl
    · refine Eq.trans (rn_go 4 (pc' := 19) (L' := [.ref a0, .int x1, .int x2, .int x3]) (st' := [.int (2 : Int32), .int x3, .ref a0, .int x2]) rfl) ?_
      refine Eq.trans (rn_vir (L' := [.ref a0, .int x1, .int x2, .int x3]) (as := [.int x3, .int (2 : Int32)]) (rest := [.int x2]) rfl rfl rfl rfl rfl (Nat.le_of_ble_eq_true rfl) (by decide) (by decide)) ?_
      refine eC_c ?_
      refine Eq.trans (cW_I rfl rfl rfl) ?_
      refine cI_c (fun x_4 s_3 => ?_) (xh_nil rfl)
      refine Eq.trans (rn_go 1 (pc' := 23) (L' := [.ref a0, .int x1, .int x2, .int x3]) (st' := [.int x1, .int x_4, .int x2]) rfl) ?_
      refine Eq.trans (rn_icne (L' := [.ref a0, .int x1, .int x2, .int x3]) rfl rfl) ?_
      refine if_c ?_ ?_
      · exact rn_go 2 (pc' := 31) (L' := [.ref a0, .int x1, .int x2, .int x3]) (st' := [.int (1 : Int32), .int x2]) rfl
      · exact rn_go 1 (pc' := 31) (L' := [.ref a0, .int x1, .int x2, .int x3]) (st' := [.int (0 : Int32), .int x2]) rfl
theorem dc_X13_writesOf_31 {B : Nat} (a0 : Nat) (x1 : Int32) (w2 : Value) (x3 : Int32) (xs0 : Int32) (xs1 : Int32) (s : am_S) : rn_ tb_ct tb_mt B mm_X13_writesOf 31 [.ref a0, .int x1, w2, .int x3] [.int xs0, .int xs1] s = rn_ tb_ct tb_mt B mm_X13_writesOf 4 [.ref a0, .int x1, .int (xs1 + xs0), .int (x3 + (1 : Int32))] [] s := by
  exact rn_go 4 (pc' := 4) (L' := [.ref a0, .int x1, .int (xs1 + xs0), .int (x3 + (1 : Int32))]) (st' := []) rfl
theorem in_X13_writes_ {B : Nat} (a0 : Nat) (x1 : Int32) (s : am_S) : cl_ tb_ct tb_mt B K_X13_writes_ [.ref a0, .int x1] s = rn_ tb_ct tb_mt B mm_X13_writes_ 0 [.ref a0, .int x1] [] s := cl_in rfl rfl rfl rfl
theorem dc_X13_writes__0 {B : Nat} (a0 : Nat) (x1 : Int32) (s : am_S) : rn_ tb_ct tb_mt B mm_X13_writes_ 0 [.ref a0, .int x1] [] s = cI (cl_ tb_ct tb_mt B K_X13_isKey [.int x1] s) (fun x_2 s_1 => eC (am_cls s_1 a0) 11 (cI (cl_ tb_ct tb_mt B K_X13_isThrown [.ref a0, .int x_2, .int (1 : Int32)] s_1) (fun x_4 s_3 => if x_4 = 0 then eC (am_cls s_3 a0) 11 (cI (cl_ tb_ct tb_mt B K_X13_writesOf [.ref a0, .int x1] s_3) (fun x_6 s_5 => some (.inl (some (.int x_6)), s_5)) xo) else some (.inl (some (.int (0 : Int32))), s_3)) xo)) xo := by
  refine Eq.trans (rn_go 2 (pc' := 2) (L' := [.ref a0, .int x1]) (st' := [.int x1, .ref a0]) rfl) ?_
  refine Eq.trans (rn_sta (L' := [.ref a0, .int x1]) (as := [.int x1]) (rest := [.ref a0]) rfl rfl rfl rfl rfl (Nat.le_of_ble_eq_true rfl) (by decide) rfl) ?_
  refine Eq.trans (cW_I rfl rfl rfl) ?_
  refine cI_c (fun x_2 s_1 => ?_) (xh_nil rfl)
  refine Eq.trans (rn_go 1 (pc' := 6) (L' := [.ref a0, .int x1]) (st' := [.int (1 : Int32), .int x_2, .ref a0]) rfl) ?_
  refine Eq.trans (rn_vir (L' := [.ref a0, .int x1]) (as := [.int x_2, .int (1 : Int32)]) (rest := []) rfl rfl rfl rfl rfl (Nat.le_of_ble_eq_true rfl) (by decide) (by decide)) ?_
  refine eC_c ?_
  refine Eq.trans (cW_I rfl rfl rfl) ?_
  refine cI_c (fun x_4 s_3 => ?_) (xh_nil rfl)
  refine Eq.trans (rn_ifeq (L' := [.ref a0, .int x1]) rfl rfl) ?_
  refine if_c ?_ ?_
  · refine Eq.trans (rn_go 2 (pc' := 18) (L' := [.ref a0, .int x1]) (st' := [.int x1, .ref a0]) rfl) ?_
    refine Eq.trans (rn_vir (L' := [.ref a0, .int x1]) (as := [.int x1]) (rest := []) rfl rfl rfl rfl rfl (Nat.le_of_ble_eq_true rfl) (by decide) (by decide)) ?_
    refine eC_c ?_
    refine Eq.trans (cW_I rfl rfl rfl) ?_
    refine cI_c (fun x_6 s_5 => ?_) (xh_nil rfl)
    exact rn_retI rfl rfl rfl
  · refine Eq.trans (rn_go 2 (pc' := 21) (L' := [.ref a0, .int x1]) (st' := [.int (0 : Int32)]) rfl) ?_
    exact rn_retI rfl rfl rfl
theorem in_X13_busiest {B : Nat} (a0 : Nat) (s : am_S) : cl_ tb_ct tb_mt B K_X13_busiest [.ref a0] s = rn_ tb_ct tb_mt B mm_X13_busiest 0 [.ref a0, am_un, am_un, am_un, am_un, am_un] [] s := cl_in rfl rfl rfl rfl
theorem dc_X13_busiest_0 {B : Nat} (a0 : Nat) (s : am_S) : rn_ tb_ct tb_mt B mm_X13_busiest 0 [.ref a0, am_un, am_un, am_un, am_un, am_un] [] s = eS (am_put tb_ct mm_X13_busiest B s (.int (0 : Int32)) a0 11 4) (fun s_1 => rn_ tb_ct tb_mt B mm_X13_busiest 11 [.ref a0, .int (-(1 : Int32)), .int (0 : Int32), .int (0 : Int32), am_un, am_un] [] s_1) := by
  refine Eq.trans (rn_go 2 (pc' := 2) (L' := [.ref a0, am_un, am_un, am_un, am_un, am_un]) (st' := [.int (0 : Int32), .ref a0]) rfl) ?_
  refine Eq.trans (rn_pF (L' := [.ref a0, am_un, am_un, am_un, am_un, am_un]) rfl rfl) ?_
  refine eS_c (fun s_1 => ?_)
  exact rn_go 6 (pc' := 11) (L' := [.ref a0, .int (-(1 : Int32)), .int (0 : Int32), .int (0 : Int32), am_un, am_un]) (st' := []) rfl
theorem dc_X13_busiest_11 {B : Nat} (a0 : Nat) (x1 : Int32) (x2 : Int32) (x3 : Int32) (s : am_S) : rn_ tb_ct tb_mt B mm_X13_busiest 11 [.ref a0, .int x1, .int x2, .int x3, am_un, am_un] [] s = eA (gA tb_ct s a0 11 0) (none) (fun b_1 => eI (aI s b_1 (6 : Int32)) (fun x_2 => if x_2 ≤ x3 then some (.inl (some (.int x1)), s) else eC (am_cls s a0) 11 (cI (cl_ tb_ct tb_mt B K_X13_eventAt [.ref a0, .int x3, .int (2 : Int32)] s) (fun x_4 s_3 => eC (am_cls s_3 a0) 11 (cI (cl_ tb_ct tb_mt B K_X13_writesOf [.ref a0, .int x_4] s_3) (fun x_6 s_5 => if x2 < x_6 then rn_ tb_ct tb_mt B mm_X13_busiest 56 [.ref a0, .int x1, .int x2, .int x3, .int x_4, .int x_6] [] s_5 else if x_6 = x2 then if x1 ≤ x_4 then rn_ tb_ct tb_mt B mm_X13_busiest 62 [.ref a0, .int x1, .int x2, .int x3, .int x_4, .int x_6] [] s_5 else rn_ tb_ct tb_mt B mm_X13_busiest 56 [.ref a0, .int x1, .int x2, .int x3, .int x_4, .int x_6] [] s_5 else rn_ tb_ct tb_mt B mm_X13_busiest 62 [.ref a0, .int x1, .int x2, .int x3, .int x_4, .int x_6] [] s_5) xo)) xo))) := by
  refine Eq.trans (rn_go 2 (pc' := 13) (L' := [.ref a0, .int x1, .int x2, .int x3, am_un, am_un]) (st' := [.ref a0, .int x3]) rfl) ?_
  refine Eq.trans (rn_gA (L' := [.ref a0, .int x1, .int x2, .int x3, am_un, am_un]) rfl rfl rfl rfl) ?_
  refine eA_c ?_ (fun b_1 => ?_)
  · refine Eq.trans (rn_go 1 (pc' := 18) (L' := [.ref a0, .int x1, .int x2, .int x3, am_un, am_un]) (st' := [.int (6 : Int32), .null, .int x3]) rfl) ?_
    exact rn_z rfl rfl
  · refine Eq.trans (rn_go 1 (pc' := 18) (L' := [.ref a0, .int x1, .int x2, .int x3, am_un, am_un]) (st' := [.int (6 : Int32), .ref b_1, .int x3]) rfl) ?_
    refine Eq.trans (rn_aI (L' := [.ref a0, .int x1, .int x2, .int x3, am_un, am_un]) rfl rfl) ?_
    refine eI_c (fun x_2 => ?_)
    refine Eq.trans (rn_icge (L' := [.ref a0, .int x1, .int x2, .int x3, am_un, am_un]) rfl rfl) ?_
    refine if_c ?_ ?_
    · refine Eq.trans (rn_go 1 (pc' := 69) (L' := [.ref a0, .int x1, .int x2, .int x3, am_un, am_un]) (st' := [.int x1]) rfl) ?_
      exact rn_retI rfl rfl rfl
    · refine Eq.trans (rn_go 3 (pc' := 25) (L' := [.ref a0, .int x1, .int x2, .int x3, am_un, am_un]) (st' := [.int (2 : Int32), .int x3, .ref a0]) rfl) ?_
      refine Eq.trans (rn_vir (L' := [.ref a0, .int x1, .int x2, .int x3, am_un, am_un]) (as := [.int x3, .int (2 : Int32)]) (rest := []) rfl rfl rfl rfl rfl (Nat.le_of_ble_eq_true rfl) (by decide) (by decide)) ?_
      refine eC_c ?_
      refine Eq.trans (cW_I rfl rfl rfl) ?_
      refine cI_c (fun x_4 s_3 => ?_) (xh_nil rfl)
      refine Eq.trans (rn_go 3 (pc' := 33) (L' := [.ref a0, .int x1, .int x2, .int x3, .int x_4, am_un]) (st' := [.int x_4, .ref a0]) rfl) ?_
      refine Eq.trans (rn_vir (L' := [.ref a0, .int x1, .int x2, .int x3, .int x_4, am_un]) (as := [.int x_4]) (rest := []) rfl rfl rfl rfl rfl (Nat.le_of_ble_eq_true rfl) (by decide) (by decide)) ?_
      refine eC_c ?_
      refine Eq.trans (cW_I rfl rfl rfl) ?_
      refine cI_c (fun x_6 s_5 => ?_) (xh_nil rfl)
      refine Eq.trans (rn_go 3 (pc' := 41) (L' := [.ref a0, .int x1, .int x2, .int x3, .int x_4, .int x_6]) (st' := [.int x2, .int x_6]) rfl) ?_
      refine Eq.trans (rn_icgt (L' := [.ref a0, .int x1, .int x2, .int x3, .int x_4, .int x_6]) rfl rfl) ?_
      refine if_c ?_ ?_
      · rfl
      · refine Eq.trans (rn_go 2 (pc' := 47) (L' := [.ref a0, .int x1, .int x2, .int x3, .int x_4, .int x_6]) (st' := [.int x2, .int x_6]) rfl) ?_
        refine Eq.trans (rn_icne (L' := [.ref a0, .int x1, .int x2, .int x3, .int x_4, .int x_6]) rfl rfl) ?_
        refine if_c ?_ ?_
        · refine Eq.trans (rn_go 2 (pc' := 53) (L' := [.ref a0, .int x1, .int x2, .int x3, .int x_4, .int x_6]) (st' := [.int x1, .int x_4]) rfl) ?_
          refine Eq.trans (rn_icge (L' := [.ref a0, .int x1, .int x2, .int x3, .int x_4, .int x_6]) rfl rfl) ?_
          refine if_c ?_ ?_
          · rfl
          · rfl
        · rfl
theorem dc_X13_busiest_56 {B : Nat} (a0 : Nat) (w1 : Value) (w2 : Value) (x3 : Int32) (x4 : Int32) (x5 : Int32) (s : am_S) : rn_ tb_ct tb_mt B mm_X13_busiest 56 [.ref a0, w1, w2, .int x3, .int x4, .int x5] [] s = rn_ tb_ct tb_mt B mm_X13_busiest 62 [.ref a0, .int x4, .int x5, .int x3, .int x4, .int x5] [] s := by
  exact rn_go 4 (pc' := 62) (L' := [.ref a0, .int x4, .int x5, .int x3, .int x4, .int x5]) (st' := []) rfl
theorem dc_X13_busiest_62 {B : Nat} (a0 : Nat) (x1 : Int32) (x2 : Int32) (x3 : Int32) (w4 : Value) (w5 : Value) (s : am_S) : rn_ tb_ct tb_mt B mm_X13_busiest 62 [.ref a0, .int x1, .int x2, .int x3, w4, w5] [] s = rn_ tb_ct tb_mt B mm_X13_busiest 11 [.ref a0, .int x1, .int x2, .int (x3 + (1 : Int32)), am_un, am_un] [] s := by
  exact rn_go 2 (pc' := 11) (L' := [.ref a0, .int x1, .int x2, .int (x3 + (1 : Int32)), am_un, am_un]) (st' := []) rfl
theorem in_X13_deletedPart {B : Nat} (a0 : Nat) (s : am_S) : cl_ tb_ct tb_mt B K_X13_deletedPart [.ref a0] s = rn_ tb_ct tb_mt B mm_X13_deletedPart 0 [.ref a0, am_un, am_un] [] s := cl_in rfl rfl rfl rfl
theorem dc_X13_deletedPart_0 {B : Nat} (a0 : Nat) (s : am_S) : rn_ tb_ct tb_mt B mm_X13_deletedPart 0 [.ref a0, am_un, am_un] [] s = eS (am_put tb_ct mm_X13_deletedPart B s (.int (0 : Int32)) a0 11 4) (fun s_1 => rn_ tb_ct tb_mt B mm_X13_deletedPart 9 [.ref a0, .int (0 : Int32), .int (0 : Int32)] [] s_1) := by
  refine Eq.trans (rn_go 2 (pc' := 2) (L' := [.ref a0, am_un, am_un]) (st' := [.int (0 : Int32), .ref a0]) rfl) ?_
  refine Eq.trans (rn_pF (L' := [.ref a0, am_un, am_un]) rfl rfl) ?_
  refine eS_c (fun s_1 => ?_)
  exact rn_go 4 (pc' := 9) (L' := [.ref a0, .int (0 : Int32), .int (0 : Int32)]) (st' := []) rfl
theorem dc_X13_deletedPart_9 {B : Nat} (a0 : Nat) (x1 : Int32) (x2 : Int32) (s : am_S) : rn_ tb_ct tb_mt B mm_X13_deletedPart 9 [.ref a0, .int x1, .int x2] [] s = eA (gA tb_ct s a0 11 0) (none) (fun b_1 => eI (aI s b_1 (6 : Int32)) (fun x_2 => if x_2 ≤ x2 then eA (gA tb_ct s a0 11 0) (none) (fun b_3 => eI (aI s b_3 (6 : Int32)) (fun x_4 => if x_4 = 0 then rn_ tb_ct tb_mt B mm_X13_deletedPart 60 [.ref a0, .int x1, .int x2] [.double FP.dconst0] s else eA (gA tb_ct s a0 11 0) (none) (fun b_5 => eI (aI s b_5 (6 : Int32)) (fun x_6 => if (FP.ddiv (FP.i2d x1) (FP.i2d x_6)) &&& 0x7fffffffffffffff ≤ 0x7ff0000000000000 then rn_ tb_ct tb_mt B mm_X13_deletedPart 60 [.ref a0, .int x1, .int x2] [.double (FP.ddiv (FP.i2d x1) (FP.i2d x_6))] s else none)))) else eC (am_cls s a0) 11 (cI (cl_ tb_ct tb_mt B K_X13_eventAt [.ref a0, .int x2, .int (1 : Int32)] s) (fun x_8 s_7 => rn_ tb_ct tb_mt B mm_X13_deletedPart 9 [.ref a0, .int (x1 + x_8), .int (x2 + (1 : Int32))] [] s_7) xo))) := by
  refine Eq.trans (rn_go 2 (pc' := 11) (L' := [.ref a0, .int x1, .int x2]) (st' := [.ref a0, .int x2]) rfl) ?_
  refine Eq.trans (rn_gA (L' := [.ref a0, .int x1, .int x2]) rfl rfl rfl rfl) ?_
  refine eA_c ?_ (fun b_1 => ?_)
  · refine Eq.trans (rn_go 1 (pc' := 16) (L' := [.ref a0, .int x1, .int x2]) (st' := [.int (6 : Int32), .null, .int x2]) rfl) ?_
    exact rn_z rfl rfl
  · refine Eq.trans (rn_go 1 (pc' := 16) (L' := [.ref a0, .int x1, .int x2]) (st' := [.int (6 : Int32), .ref b_1, .int x2]) rfl) ?_
    refine Eq.trans (rn_aI (L' := [.ref a0, .int x1, .int x2]) rfl rfl) ?_
    refine eI_c (fun x_2 => ?_)
    refine Eq.trans (rn_icge (L' := [.ref a0, .int x1, .int x2]) rfl rfl) ?_
    refine if_c ?_ ?_
    · refine Eq.trans (rn_go 1 (pc' := 36) (L' := [.ref a0, .int x1, .int x2]) (st' := [.ref a0]) rfl) ?_
      refine Eq.trans (rn_gA (L' := [.ref a0, .int x1, .int x2]) rfl rfl rfl rfl) ?_
      refine eA_c ?_ (fun b_3 => ?_)
      · refine Eq.trans (rn_go 1 (pc' := 41) (L' := [.ref a0, .int x1, .int x2]) (st' := [.int (6 : Int32), .null]) rfl) ?_
        exact rn_z rfl rfl
      · refine Eq.trans (rn_go 1 (pc' := 41) (L' := [.ref a0, .int x1, .int x2]) (st' := [.int (6 : Int32), .ref b_3]) rfl) ?_
        refine Eq.trans (rn_aI (L' := [.ref a0, .int x1, .int x2]) rfl rfl) ?_
        refine eI_c (fun x_4 => ?_)
        refine Eq.trans (rn_ifne (L' := [.ref a0, .int x1, .int x2]) rfl rfl) ?_
        refine if_c ?_ ?_
        · exact rn_go 2 (pc' := 60) (L' := [.ref a0, .int x1, .int x2]) (st' := [.double FP.dconst0]) rfl
        · refine Eq.trans (rn_go 3 (pc' := 52) (L' := [.ref a0, .int x1, .int x2]) (st' := [.ref a0, .double (FP.i2d x1)]) rfl) ?_
          refine Eq.trans (rn_gA (L' := [.ref a0, .int x1, .int x2]) rfl rfl rfl rfl) ?_
          refine eA_c ?_ (fun b_5 => ?_)
          · refine Eq.trans (rn_go 1 (pc' := 57) (L' := [.ref a0, .int x1, .int x2]) (st' := [.int (6 : Int32), .null, .double (FP.i2d x1)]) rfl) ?_
            exact rn_z rfl rfl
          · refine Eq.trans (rn_go 1 (pc' := 57) (L' := [.ref a0, .int x1, .int x2]) (st' := [.int (6 : Int32), .ref b_5, .double (FP.i2d x1)]) rfl) ?_
            refine Eq.trans (rn_aI (L' := [.ref a0, .int x1, .int x2]) rfl rfl) ?_
            refine eI_c (fun x_6 => ?_)
            refine Eq.trans (rn_go 1 (pc' := 59) (L' := [.ref a0, .int x1, .int x2]) (st' := [.double (FP.i2d x_6), .double (FP.i2d x1)]) rfl) ?_
            refine Eq.trans (rn_ddiv (L' := [.ref a0, .int x1, .int x2]) rfl rfl) ?_
            refine if_c ?_ rfl
            rfl
    · refine Eq.trans (rn_go 4 (pc' := 24) (L' := [.ref a0, .int x1, .int x2]) (st' := [.int (1 : Int32), .int x2, .ref a0, .int x1]) rfl) ?_
      refine Eq.trans (rn_vir (L' := [.ref a0, .int x1, .int x2]) (as := [.int x2, .int (1 : Int32)]) (rest := [.int x1]) rfl rfl rfl rfl rfl (Nat.le_of_ble_eq_true rfl) (by decide) (by decide)) ?_
      refine eC_c ?_
      refine Eq.trans (cW_I rfl rfl rfl) ?_
      refine cI_c (fun x_8 s_7 => ?_) (xh_nil rfl)
      exact rn_go 4 (pc' := 9) (L' := [.ref a0, .int (x1 + x_8), .int (x2 + (1 : Int32))]) (st' := []) rfl
theorem dc_X13_deletedPart_60 {B : Nat} (w0 : Value) (w1 : Value) (w2 : Value) (ds0 : UInt64) (s : am_S) : rn_ tb_ct tb_mt B mm_X13_deletedPart 60 [w0, w1, w2] [.double ds0] s = some (.inl (some (.double ds0)), s) := by
  exact rn_retD rfl rfl
theorem in_X13_isIn {B : Nat} (a0 : Nat) (x1 : Int32) (x2 : Int32) (x3 : Int32) (s : am_S) : cl_ tb_ct tb_mt B K_X13_isIn [.ref a0, .int x1, .int x2, .int x3] s = rn_ tb_ct tb_mt B mm_X13_isIn 0 [.ref a0, .int x1, .int x2, .int x3] [] s := cl_in rfl rfl rfl rfl
theorem dc_X13_isIn_0 {B : Nat} (a0 : Nat) (x1 : Int32) (x2 : Int32) (x3 : Int32) (s : am_S) : rn_ tb_ct tb_mt B mm_X13_isIn 0 [.ref a0, .int x1, .int x2, .int x3] [] s = eC (am_cls s a0) 11 (cI (cl_ tb_ct tb_mt B K_X13_keyAt [.ref a0, .int x1, .int (0 : Int32)] s) (fun x_2 s_1 => cI (cl_ tb_ct tb_mt B K_X13_in [.long x_2.toInt64, .long x2.toInt64, .long x3.toInt64] s_1) (fun x_4 s_3 => rtI .boolean x_4 s_3) xo) xo) := by
  refine Eq.trans (rn_go 3 (pc' := 3) (L' := [.ref a0, .int x1, .int x2, .int x3]) (st' := [.int (0 : Int32), .int x1, .ref a0]) rfl) ?_
  refine Eq.trans (rn_vir (L' := [.ref a0, .int x1, .int x2, .int x3]) (as := [.int x1, .int (0 : Int32)]) (rest := []) rfl rfl rfl rfl rfl (Nat.le_of_ble_eq_true rfl) (by decide) (by decide)) ?_
  refine eC_c ?_
  refine Eq.trans (cW_I rfl rfl rfl) ?_
  refine cI_c (fun x_2 s_1 => ?_) (xh_nil rfl)
  refine Eq.trans (rn_go 5 (pc' := 11) (L' := [.ref a0, .int x1, .int x2, .int x3]) (st' := [.long x3.toInt64, .long x2.toInt64, .long x_2.toInt64]) rfl) ?_
  refine Eq.trans (rn_sta (L' := [.ref a0, .int x1, .int x2, .int x3]) (as := [.long x_2.toInt64, .long x2.toInt64, .long x3.toInt64]) (rest := []) rfl rfl rfl rfl rfl (Nat.le_of_ble_eq_true rfl) (by decide) rfl) ?_
  refine Eq.trans (cW_I rfl rfl rfl) ?_
  refine cI_c (fun x_4 s_3 => ?_) (xh_nil rfl)
  exact rn_rtI rfl rfl
theorem in_X13_cameAhead {B : Nat} (a0 : Nat) (x1 : Int32) (x2 : Int32) (s : am_S) : cl_ tb_ct tb_mt B K_X13_cameAhead [.ref a0, .int x1, .int x2] s = rn_ tb_ct tb_mt B mm_X13_cameAhead 0 [.ref a0, .int x1, .int x2, am_un, am_un] [] s := cl_in rfl rfl rfl rfl
theorem dc_X13_cameAhead_0 {B : Nat} (a0 : Nat) (x1 : Int32) (x2 : Int32) (s : am_S) : rn_ tb_ct tb_mt B mm_X13_cameAhead 0 [.ref a0, .int x1, .int x2, am_un, am_un] [] s = eC (am_cls s a0) 11 (cI (cl_ tb_ct tb_mt B K_X13_keyAt [.ref a0, .int x1, .int (2 : Int32)] s) (fun x_2 s_1 => eC (am_cls s_1 a0) 11 (cI (cl_ tb_ct tb_mt B K_X13_keyAt [.ref a0, .int x2, .int (2 : Int32)] s_1) (fun x_4 s_3 => if x_2 = x_4 then if x2 ≤ x1 then some (.inl (some (.int (0 : Int32))), s_3) else some (.inl (some (.int (1 : Int32))), s_3) else if x_4 ≤ x_2 then some (.inl (some (.int (0 : Int32))), s_3) else some (.inl (some (.int (1 : Int32))), s_3)) xo)) xo) := by
  refine Eq.trans (rn_go 3 (pc' := 3) (L' := [.ref a0, .int x1, .int x2, am_un, am_un]) (st' := [.int (2 : Int32), .int x1, .ref a0]) rfl) ?_
  refine Eq.trans (rn_vir (L' := [.ref a0, .int x1, .int x2, am_un, am_un]) (as := [.int x1, .int (2 : Int32)]) (rest := []) rfl rfl rfl rfl rfl (Nat.le_of_ble_eq_true rfl) (by decide) (by decide)) ?_
  refine eC_c ?_
  refine Eq.trans (cW_I rfl rfl rfl) ?_
  refine cI_c (fun x_2 s_1 => ?_) (xh_nil rfl)
  refine Eq.trans (rn_go 4 (pc' := 10) (L' := [.ref a0, .int x1, .int x2, .int x_2, am_un]) (st' := [.int (2 : Int32), .int x2, .ref a0]) rfl) ?_
  refine Eq.trans (rn_vir (L' := [.ref a0, .int x1, .int x2, .int x_2, am_un]) (as := [.int x2, .int (2 : Int32)]) (rest := []) rfl rfl rfl rfl rfl (Nat.le_of_ble_eq_true rfl) (by decide) (by decide)) ?_
  refine eC_c ?_
  refine Eq.trans (cW_I rfl rfl rfl) ?_
  refine cI_c (fun x_4 s_3 => ?_) (xh_nil rfl)
  refine Eq.trans (rn_go 3 (pc' := 18) (L' := [.ref a0, .int x1, .int x2, .int x_2, .int x_4]) (st' := [.int x_4, .int x_2]) rfl) ?_
  refine Eq.trans (rn_iceq (L' := [.ref a0, .int x1, .int x2, .int x_2, .int x_4]) rfl rfl) ?_
  refine if_c ?_ ?_
  · refine Eq.trans (rn_go 2 (pc' := 37) (L' := [.ref a0, .int x1, .int x2, .int x_2, .int x_4]) (st' := [.int x2, .int x1]) rfl) ?_
    refine Eq.trans (rn_icge (L' := [.ref a0, .int x1, .int x2, .int x_2, .int x_4]) rfl rfl) ?_
    refine if_c ?_ ?_
    · refine Eq.trans (rn_go 1 (pc' := 45) (L' := [.ref a0, .int x1, .int x2, .int x_2, .int x_4]) (st' := [.int (0 : Int32)]) rfl) ?_
      exact rn_retI rfl rfl rfl
    · refine Eq.trans (rn_go 2 (pc' := 45) (L' := [.ref a0, .int x1, .int x2, .int x_2, .int x_4]) (st' := [.int (1 : Int32)]) rfl) ?_
      exact rn_retI rfl rfl rfl
  · refine Eq.trans (rn_go 2 (pc' := 24) (L' := [.ref a0, .int x1, .int x2, .int x_2, .int x_4]) (st' := [.int x_4, .int x_2]) rfl) ?_
    refine Eq.trans (rn_icge (L' := [.ref a0, .int x1, .int x2, .int x_2, .int x_4]) rfl rfl) ?_
    refine if_c ?_ ?_
    · refine Eq.trans (rn_go 2 (pc' := 45) (L' := [.ref a0, .int x1, .int x2, .int x_2, .int x_4]) (st' := [.int (0 : Int32)]) rfl) ?_
      exact rn_retI rfl rfl rfl
    · refine Eq.trans (rn_go 2 (pc' := 45) (L' := [.ref a0, .int x1, .int x2, .int x_2, .int x_4]) (st' := [.int (1 : Int32)]) rfl) ?_
      exact rn_retI rfl rfl rfl
theorem in_X13_leader {B : Nat} (a0 : Nat) (x1 : Int32) (x2 : Int32) (s : am_S) : cl_ tb_ct tb_mt B K_X13_leader [.ref a0, .int x1, .int x2] s = rn_ tb_ct tb_mt B mm_X13_leader 0 [.ref a0, .int x1, .int x2, am_un, am_un] [] s := cl_in rfl rfl rfl rfl
theorem dc_X13_leader_0 {B : Nat} (a0 : Nat) (x1 : Int32) (x2 : Int32) (s : am_S) : rn_ tb_ct tb_mt B mm_X13_leader 0 [.ref a0, .int x1, .int x2, am_un, am_un] [] s = cI (cl_ tb_ct tb_mt B K_X13_isRange [.int x1, .int x2] s) (fun x_2 s_1 => eC (am_cls s_1 a0) 11 (cI (cl_ tb_ct tb_mt B K_X13_isThrown [.ref a0, .int x_2, .int (1 : Int32)] s_1) (fun x_4 s_3 => if x_4 = 0 then rn_ tb_ct tb_mt B mm_X13_leader 20 [.ref a0, .int x1, .int x2, .int (-(1 : Int32)), .int (0 : Int32)] [] s_3 else some (.inl (some (.int (0 : Int32))), s_3)) xo)) xo := by
  refine Eq.trans (rn_go 3 (pc' := 3) (L' := [.ref a0, .int x1, .int x2, am_un, am_un]) (st' := [.int x2, .int x1, .ref a0]) rfl) ?_
  refine Eq.trans (rn_sta (L' := [.ref a0, .int x1, .int x2, am_un, am_un]) (as := [.int x1, .int x2]) (rest := [.ref a0]) rfl rfl rfl rfl rfl (Nat.le_of_ble_eq_true rfl) (by decide) rfl) ?_
  refine Eq.trans (cW_I rfl rfl rfl) ?_
  refine cI_c (fun x_2 s_1 => ?_) (xh_nil rfl)
  refine Eq.trans (rn_go 1 (pc' := 7) (L' := [.ref a0, .int x1, .int x2, am_un, am_un]) (st' := [.int (1 : Int32), .int x_2, .ref a0]) rfl) ?_
  refine Eq.trans (rn_vir (L' := [.ref a0, .int x1, .int x2, am_un, am_un]) (as := [.int x_2, .int (1 : Int32)]) (rest := []) rfl rfl rfl rfl rfl (Nat.le_of_ble_eq_true rfl) (by decide) (by decide)) ?_
  refine eC_c ?_
  refine Eq.trans (cW_I rfl rfl rfl) ?_
  refine cI_c (fun x_4 s_3 => ?_) (xh_nil rfl)
  refine Eq.trans (rn_ifeq (L' := [.ref a0, .int x1, .int x2, am_un, am_un]) rfl rfl) ?_
  refine if_c ?_ ?_
  · exact rn_go 4 (pc' := 20) (L' := [.ref a0, .int x1, .int x2, .int (-(1 : Int32)), .int (0 : Int32)]) (st' := []) rfl
  · refine Eq.trans (rn_go 1 (pc' := 14) (L' := [.ref a0, .int x1, .int x2, am_un, am_un]) (st' := [.int (0 : Int32)]) rfl) ?_
    exact rn_retI rfl rfl rfl
theorem dc_X13_leader_20 {B : Nat} (a0 : Nat) (x1 : Int32) (x2 : Int32) (x3 : Int32) (x4 : Int32) (s : am_S) : rn_ tb_ct tb_mt B mm_X13_leader 20 [.ref a0, .int x1, .int x2, .int x3, .int x4] [] s = eA (gA tb_ct s a0 11 0) (none) (fun b_1 => eI (aI s b_1 (3 : Int32)) (fun x_2 => if x_2 ≤ x4 then if x3 = (-(1 : Int32)) then some (.inl (some (.int (-(1 : Int32)))), s) else eC (am_cls s a0) 11 (cI (cl_ tb_ct tb_mt B K_X13_keyAt [.ref a0, .int x3, .int (0 : Int32)] s) (fun x_4 s_3 => some (.inl (some (.int x_4)), s_3)) xo) else eC (am_cls s a0) 11 (cI (cl_ tb_ct tb_mt B K_X13_isIn [.ref a0, .int x4, .int x1, .int x2] s) (fun x_6 s_5 => if x_6 = 0 then rn_ tb_ct tb_mt B mm_X13_leader 60 [.ref a0, .int x1, .int x2, .int x3, .int x4] [] s_5 else if x3 = (-(1 : Int32)) then rn_ tb_ct tb_mt B mm_X13_leader 57 [.ref a0, .int x1, .int x2, .int x3, .int x4] [] s_5 else eC (am_cls s_5 a0) 11 (cI (cl_ tb_ct tb_mt B K_X13_cameAhead [.ref a0, .int x4, .int x3] s_5) (fun x_8 s_7 => if x_8 = 0 then rn_ tb_ct tb_mt B mm_X13_leader 60 [.ref a0, .int x1, .int x2, .int x3, .int x4] [] s_7 else rn_ tb_ct tb_mt B mm_X13_leader 57 [.ref a0, .int x1, .int x2, .int x3, .int x4] [] s_7) xo)) xo))) := by
  refine Eq.trans (rn_go 2 (pc' := 23) (L' := [.ref a0, .int x1, .int x2, .int x3, .int x4]) (st' := [.ref a0, .int x4]) rfl) ?_
  refine Eq.trans (rn_gA (L' := [.ref a0, .int x1, .int x2, .int x3, .int x4]) rfl rfl rfl rfl) ?_
  refine eA_c ?_ (fun b_1 => ?_)
  · refine Eq.trans (rn_go 1 (pc' := 27) (L' := [.ref a0, .int x1, .int x2, .int x3, .int x4]) (st' := [.int (3 : Int32), .null, .int x4]) rfl) ?_
    exact rn_z rfl rfl
  · refine Eq.trans (rn_go 1 (pc' := 27) (L' := [.ref a0, .int x1, .int x2, .int x3, .int x4]) (st' := [.int (3 : Int32), .ref b_1, .int x4]) rfl) ?_
    refine Eq.trans (rn_aI (L' := [.ref a0, .int x1, .int x2, .int x3, .int x4]) rfl rfl) ?_
    refine eI_c (fun x_2 => ?_)
    refine Eq.trans (rn_icge (L' := [.ref a0, .int x1, .int x2, .int x3, .int x4]) rfl rfl) ?_
    refine if_c ?_ ?_
    · refine Eq.trans (rn_go 2 (pc' := 68) (L' := [.ref a0, .int x1, .int x2, .int x3, .int x4]) (st' := [.int (-(1 : Int32)), .int x3]) rfl) ?_
      refine Eq.trans (rn_icne (L' := [.ref a0, .int x1, .int x2, .int x3, .int x4]) rfl rfl) ?_
      refine if_c ?_ ?_
      · refine Eq.trans (rn_go 2 (pc' := 81) (L' := [.ref a0, .int x1, .int x2, .int x3, .int x4]) (st' := [.int (-(1 : Int32))]) rfl) ?_
        exact rn_retI rfl rfl rfl
      · refine Eq.trans (rn_go 3 (pc' := 78) (L' := [.ref a0, .int x1, .int x2, .int x3, .int x4]) (st' := [.int (0 : Int32), .int x3, .ref a0]) rfl) ?_
        refine Eq.trans (rn_vir (L' := [.ref a0, .int x1, .int x2, .int x3, .int x4]) (as := [.int x3, .int (0 : Int32)]) (rest := []) rfl rfl rfl rfl rfl (Nat.le_of_ble_eq_true rfl) (by decide) (by decide)) ?_
        refine eC_c ?_
        refine Eq.trans (cW_I rfl rfl rfl) ?_
        refine cI_c (fun x_4 s_3 => ?_) (xh_nil rfl)
        exact rn_retI rfl rfl rfl
    · refine Eq.trans (rn_go 4 (pc' := 36) (L' := [.ref a0, .int x1, .int x2, .int x3, .int x4]) (st' := [.int x2, .int x1, .int x4, .ref a0]) rfl) ?_
      refine Eq.trans (rn_vir (L' := [.ref a0, .int x1, .int x2, .int x3, .int x4]) (as := [.int x4, .int x1, .int x2]) (rest := []) rfl rfl rfl rfl rfl (Nat.le_of_ble_eq_true rfl) (by decide) (by decide)) ?_
      refine eC_c ?_
      refine Eq.trans (cW_I rfl rfl rfl) ?_
      refine cI_c (fun x_6 s_5 => ?_) (xh_nil rfl)
      refine Eq.trans (rn_ifeq (L' := [.ref a0, .int x1, .int x2, .int x3, .int x4]) rfl rfl) ?_
      refine if_c ?_ ?_
      · rfl
      · refine Eq.trans (rn_go 2 (pc' := 44) (L' := [.ref a0, .int x1, .int x2, .int x3, .int x4]) (st' := [.int (-(1 : Int32)), .int x3]) rfl) ?_
        refine Eq.trans (rn_iceq (L' := [.ref a0, .int x1, .int x2, .int x3, .int x4]) rfl rfl) ?_
        refine if_c ?_ ?_
        · rfl
        · refine Eq.trans (rn_go 3 (pc' := 51) (L' := [.ref a0, .int x1, .int x2, .int x3, .int x4]) (st' := [.int x3, .int x4, .ref a0]) rfl) ?_
          refine Eq.trans (rn_vir (L' := [.ref a0, .int x1, .int x2, .int x3, .int x4]) (as := [.int x4, .int x3]) (rest := []) rfl rfl rfl rfl rfl (Nat.le_of_ble_eq_true rfl) (by decide) (by decide)) ?_
          refine eC_c ?_
          refine Eq.trans (cW_I rfl rfl rfl) ?_
          refine cI_c (fun x_8 s_7 => ?_) (xh_nil rfl)
          refine Eq.trans (rn_ifeq (L' := [.ref a0, .int x1, .int x2, .int x3, .int x4]) rfl rfl) ?_
          refine if_c ?_ ?_
          · rfl
          · rfl
theorem dc_X13_leader_57 {B : Nat} (a0 : Nat) (x1 : Int32) (x2 : Int32) (w3 : Value) (x4 : Int32) (s : am_S) : rn_ tb_ct tb_mt B mm_X13_leader 57 [.ref a0, .int x1, .int x2, w3, .int x4] [] s = rn_ tb_ct tb_mt B mm_X13_leader 60 [.ref a0, .int x1, .int x2, .int x4, .int x4] [] s := by
  exact rn_go 2 (pc' := 60) (L' := [.ref a0, .int x1, .int x2, .int x4, .int x4]) (st' := []) rfl
theorem dc_X13_leader_60 {B : Nat} (a0 : Nat) (x1 : Int32) (x2 : Int32) (x3 : Int32) (x4 : Int32) (s : am_S) : rn_ tb_ct tb_mt B mm_X13_leader 60 [.ref a0, .int x1, .int x2, .int x3, .int x4] [] s = rn_ tb_ct tb_mt B mm_X13_leader 20 [.ref a0, .int x1, .int x2, .int x3, .int (x4 + (1 : Int32))] [] s := by
  exact rn_go 2 (pc' := 20) (L' := [.ref a0, .int x1, .int x2, .int x3, .int (x4 + (1 : Int32))]) (st' := []) rfl
theorem in_X13_stands {B : Nat} (a0 : Nat) (x1 : Int32) (x2 : Int32) (x3 : Int32) (s : am_S) : cl_ tb_ct tb_mt B K_X13_stands [.ref a0, .int x1, .int x2, .int x3] s = rn_ tb_ct tb_mt B mm_X13_stands 0 [.ref a0, .int x1, .int x2, .int x3] [] s := cl_in rfl rfl rfl rfl
theorem dc_X13_stands_0 {B : Nat} (a0 : Nat) (x1 : Int32) (x2 : Int32) (x3 : Int32) (s : am_S) : rn_ tb_ct tb_mt B mm_X13_stands 0 [.ref a0, .int x1, .int x2, .int x3] [] s = eC (am_cls s a0) 11 (cI (cl_ tb_ct tb_mt B K_X13_isThere [.ref a0, .int x1] s) (fun x_2 s_1 => if x_2 = 0 then some (.inl (some (.int (0 : Int32))), s_1) else cI (cl_ tb_ct tb_mt B K_X13_in [.long x1.toInt64, .long x2.toInt64, .long x3.toInt64] s_1) (fun x_4 s_3 => if x_4 = 0 then some (.inl (some (.int (0 : Int32))), s_3) else some (.inl (some (.int (1 : Int32))), s_3)) xo) xo) := by
  refine Eq.trans (rn_go 2 (pc' := 2) (L' := [.ref a0, .int x1, .int x2, .int x3]) (st' := [.int x1, .ref a0]) rfl) ?_
  refine Eq.trans (rn_vir (L' := [.ref a0, .int x1, .int x2, .int x3]) (as := [.int x1]) (rest := []) rfl rfl rfl rfl rfl (Nat.le_of_ble_eq_true rfl) (by decide) (by decide)) ?_
  refine eC_c ?_
  refine Eq.trans (cW_I rfl rfl rfl) ?_
  refine cI_c (fun x_2 s_1 => ?_) (xh_nil rfl)
  refine Eq.trans (rn_ifeq (L' := [.ref a0, .int x1, .int x2, .int x3]) rfl rfl) ?_
  refine if_c ?_ ?_
  · refine Eq.trans (rn_go 1 (pc' := 25) (L' := [.ref a0, .int x1, .int x2, .int x3]) (st' := [.int (0 : Int32)]) rfl) ?_
    exact rn_retI rfl rfl rfl
  · refine Eq.trans (rn_go 6 (pc' := 14) (L' := [.ref a0, .int x1, .int x2, .int x3]) (st' := [.long x3.toInt64, .long x2.toInt64, .long x1.toInt64]) rfl) ?_
    refine Eq.trans (rn_sta (L' := [.ref a0, .int x1, .int x2, .int x3]) (as := [.long x1.toInt64, .long x2.toInt64, .long x3.toInt64]) (rest := []) rfl rfl rfl rfl rfl (Nat.le_of_ble_eq_true rfl) (by decide) rfl) ?_
    refine Eq.trans (cW_I rfl rfl rfl) ?_
    refine cI_c (fun x_4 s_3 => ?_) (xh_nil rfl)
    refine Eq.trans (rn_ifeq (L' := [.ref a0, .int x1, .int x2, .int x3]) rfl rfl) ?_
    refine if_c ?_ ?_
    · refine Eq.trans (rn_go 1 (pc' := 25) (L' := [.ref a0, .int x1, .int x2, .int x3]) (st' := [.int (0 : Int32)]) rfl) ?_
      exact rn_retI rfl rfl rfl
    · refine Eq.trans (rn_go 2 (pc' := 25) (L' := [.ref a0, .int x1, .int x2, .int x3]) (st' := [.int (1 : Int32)]) rfl) ?_
      exact rn_retI rfl rfl rfl
theorem in_X13_ahead {B : Nat} (a0 : Nat) (x1 : Int32) (x2 : Int32) (x3 : Int32) (s : am_S) : cl_ tb_ct tb_mt B K_X13_ahead [.ref a0, .int x1, .int x2, .int x3] s = rn_ tb_ct tb_mt B mm_X13_ahead 0 [.ref a0, .int x1, .int x2, .int x3, am_un, am_un, am_un] [] s := cl_in rfl rfl rfl rfl
theorem dc_X13_ahead_0 {B : Nat} (a0 : Nat) (x1 : Int32) (x2 : Int32) (x3 : Int32) (s : am_S) : rn_ tb_ct tb_mt B mm_X13_ahead 0 [.ref a0, .int x1, .int x2, .int x3, am_un, am_un, am_un] [] s = cI (cl_ tb_ct tb_mt B K_X13_isKey [.int x1] s) (fun x_2 s_1 => if x_2 = 0 then rn_ tb_ct tb_mt B mm_X13_ahead 20 [.ref a0, .int x1, .int x2, .int x3, am_un, am_un, am_un] [.ref a0] s_1 else cI (cl_ tb_ct tb_mt B K_X13_isRange [.int x2, .int x3] s_1) (fun x_4 s_3 => if x_4 = 0 then rn_ tb_ct tb_mt B mm_X13_ahead 20 [.ref a0, .int x1, .int x2, .int x3, am_un, am_un, am_un] [.ref a0] s_3 else rn_ tb_ct tb_mt B mm_X13_ahead 21 [.ref a0, .int x1, .int x2, .int x3, am_un, am_un, am_un] [.int (1 : Int32), .ref a0] s_3) xo) xo := by
  refine Eq.trans (rn_go 2 (pc' := 2) (L' := [.ref a0, .int x1, .int x2, .int x3, am_un, am_un, am_un]) (st' := [.int x1, .ref a0]) rfl) ?_
  refine Eq.trans (rn_sta (L' := [.ref a0, .int x1, .int x2, .int x3, am_un, am_un, am_un]) (as := [.int x1]) (rest := [.ref a0]) rfl rfl rfl rfl rfl (Nat.le_of_ble_eq_true rfl) (by decide) rfl) ?_
  refine Eq.trans (cW_I rfl rfl rfl) ?_
  refine cI_c (fun x_2 s_1 => ?_) (xh_nil rfl)
  refine Eq.trans (rn_ifeq (L' := [.ref a0, .int x1, .int x2, .int x3, am_un, am_un, am_un]) rfl rfl) ?_
  refine if_c ?_ ?_
  · rfl
  · refine Eq.trans (rn_go 2 (pc' := 10) (L' := [.ref a0, .int x1, .int x2, .int x3, am_un, am_un, am_un]) (st' := [.int x3, .int x2, .ref a0]) rfl) ?_
    refine Eq.trans (rn_sta (L' := [.ref a0, .int x1, .int x2, .int x3, am_un, am_un, am_un]) (as := [.int x2, .int x3]) (rest := [.ref a0]) rfl rfl rfl rfl rfl (Nat.le_of_ble_eq_true rfl) (by decide) rfl) ?_
    refine Eq.trans (cW_I rfl rfl rfl) ?_
    refine cI_c (fun x_4 s_3 => ?_) (xh_nil rfl)
    refine Eq.trans (rn_ifeq (L' := [.ref a0, .int x1, .int x2, .int x3, am_un, am_un, am_un]) rfl rfl) ?_
    refine if_c ?_ ?_
    · rfl
    · exact rn_go 2 (pc' := 21) (L' := [.ref a0, .int x1, .int x2, .int x3, am_un, am_un, am_un]) (st' := [.int (1 : Int32), .ref a0]) rfl
theorem dc_X13_ahead_20 {B : Nat} (a0 : Nat) (x1 : Int32) (x2 : Int32) (x3 : Int32) (as0 : Nat) (s : am_S) : rn_ tb_ct tb_mt B mm_X13_ahead 20 [.ref a0, .int x1, .int x2, .int x3, am_un, am_un, am_un] [.ref as0] s = rn_ tb_ct tb_mt B mm_X13_ahead 21 [.ref a0, .int x1, .int x2, .int x3, am_un, am_un, am_un] [.int (0 : Int32), .ref as0] s := by
  exact rn_go 1 (pc' := 21) (L' := [.ref a0, .int x1, .int x2, .int x3, am_un, am_un, am_un]) (st' := [.int (0 : Int32), .ref as0]) rfl
theorem dc_X13_ahead_21 {B : Nat} (a0 : Nat) (x1 : Int32) (x2 : Int32) (x3 : Int32) (xs0 : Int32) (as1 : Nat) (s : am_S) : rn_ tb_ct tb_mt B mm_X13_ahead 21 [.ref a0, .int x1, .int x2, .int x3, am_un, am_un, am_un] [.int xs0, .ref as1] s = eC (am_cls s as1) 11 (cI (cl_ tb_ct tb_mt B K_X13_isThrown [.ref as1, .int xs0, .int (1 : Int32)] s) (fun x_2 s_1 => if x_2 = 0 then eC (am_cls s_1 a0) 11 (cI (cl_ tb_ct tb_mt B K_X13_stands [.ref a0, .int x1, .int x2, .int x3] s_1) (fun x_4 s_3 => if x_4 = 0 then some (.inl (some (.int (-(1 : Int32)))), s_3) else eC (am_cls s_3 a0) 11 (cI (cl_ tb_ct tb_mt B K_X13_placeOf [.ref a0, .int x1] s_3) (fun x_6 s_5 => rn_ tb_ct tb_mt B mm_X13_ahead 55 [.ref a0, .int x1, .int x2, .int x3, .int x_6, .int (-(1 : Int32)), .int (0 : Int32)] [] s_5) xo)) xo) else some (.inl (some (.int (0 : Int32))), s_1)) xo) := by
  refine Eq.trans (rn_go 1 (pc' := 22) (L' := [.ref a0, .int x1, .int x2, .int x3, am_un, am_un, am_un]) (st' := [.int (1 : Int32), .int xs0, .ref as1]) rfl) ?_
  refine Eq.trans (rn_vir (L' := [.ref a0, .int x1, .int x2, .int x3, am_un, am_un, am_un]) (as := [.int xs0, .int (1 : Int32)]) (rest := []) rfl rfl rfl rfl rfl (Nat.le_of_ble_eq_true rfl) (by decide) (by decide)) ?_
  refine eC_c ?_
  refine Eq.trans (cW_I rfl rfl rfl) ?_
  refine cI_c (fun x_2 s_1 => ?_) (xh_nil rfl)
  refine Eq.trans (rn_ifeq (L' := [.ref a0, .int x1, .int x2, .int x3, am_un, am_un, am_un]) rfl rfl) ?_
  refine if_c ?_ ?_
  · refine Eq.trans (rn_go 4 (pc' := 34) (L' := [.ref a0, .int x1, .int x2, .int x3, am_un, am_un, am_un]) (st' := [.int x3, .int x2, .int x1, .ref a0]) rfl) ?_
    refine Eq.trans (rn_vir (L' := [.ref a0, .int x1, .int x2, .int x3, am_un, am_un, am_un]) (as := [.int x1, .int x2, .int x3]) (rest := []) rfl rfl rfl rfl rfl (Nat.le_of_ble_eq_true rfl) (by decide) (by decide)) ?_
    refine eC_c ?_
    refine Eq.trans (cW_I rfl rfl rfl) ?_
    refine cI_c (fun x_4 s_3 => ?_) (xh_nil rfl)
    refine Eq.trans (rn_ifne (L' := [.ref a0, .int x1, .int x2, .int x3, am_un, am_un, am_un]) rfl rfl) ?_
    refine if_c ?_ ?_
    · refine Eq.trans (rn_go 1 (pc' := 41) (L' := [.ref a0, .int x1, .int x2, .int x3, am_un, am_un, am_un]) (st' := [.int (-(1 : Int32))]) rfl) ?_
      exact rn_retI rfl rfl rfl
    · refine Eq.trans (rn_go 2 (pc' := 44) (L' := [.ref a0, .int x1, .int x2, .int x3, am_un, am_un, am_un]) (st' := [.int x1, .ref a0]) rfl) ?_
      refine Eq.trans (rn_vir (L' := [.ref a0, .int x1, .int x2, .int x3, am_un, am_un, am_un]) (as := [.int x1]) (rest := []) rfl rfl rfl rfl rfl (Nat.le_of_ble_eq_true rfl) (by decide) (by decide)) ?_
      refine eC_c ?_
      refine Eq.trans (cW_I rfl rfl rfl) ?_
      refine cI_c (fun x_6 s_5 => ?_) (xh_nil rfl)
      exact rn_go 5 (pc' := 55) (L' := [.ref a0, .int x1, .int x2, .int x3, .int x_6, .int (-(1 : Int32)), .int (0 : Int32)]) (st' := []) rfl
  · refine Eq.trans (rn_go 1 (pc' := 29) (L' := [.ref a0, .int x1, .int x2, .int x3, am_un, am_un, am_un]) (st' := [.int (0 : Int32)]) rfl) ?_
    exact rn_retI rfl rfl rfl
theorem dc_X13_ahead_55 {B : Nat} (a0 : Nat) (w1 : Value) (x2 : Int32) (x3 : Int32) (x4 : Int32) (x5 : Int32) (x6 : Int32) (s : am_S) : rn_ tb_ct tb_mt B mm_X13_ahead 55 [.ref a0, w1, .int x2, .int x3, .int x4, .int x5, .int x6] [] s = eA (gA tb_ct s a0 11 0) (none) (fun b_1 => eI (aI s b_1 (3 : Int32)) (fun x_2 => if x_2 ≤ x6 then if x5 = (-(1 : Int32)) then some (.inl (some (.int (-(1 : Int32)))), s) else eC (am_cls s a0) 11 (cI (cl_ tb_ct tb_mt B K_X13_keyAt [.ref a0, .int x5, .int (0 : Int32)] s) (fun x_4 s_3 => some (.inl (some (.int x_4)), s_3)) xo) else if x6 = x4 then rn_ tb_ct tb_mt B mm_X13_ahead 116 [.ref a0, am_un, .int x2, .int x3, .int x4, .int x5, .int x6] [] s else eC (am_cls s a0) 11 (cI (cl_ tb_ct tb_mt B K_X13_isIn [.ref a0, .int x6, .int x2, .int x3] s) (fun x_6 s_5 => if x_6 = 0 then rn_ tb_ct tb_mt B mm_X13_ahead 116 [.ref a0, am_un, .int x2, .int x3, .int x4, .int x5, .int x6] [] s_5 else eC (am_cls s_5 a0) 11 (cI (cl_ tb_ct tb_mt B K_X13_cameAhead [.ref a0, .int x6, .int x4] s_5) (fun x_8 s_7 => if x_8 = 0 then rn_ tb_ct tb_mt B mm_X13_ahead 116 [.ref a0, am_un, .int x2, .int x3, .int x4, .int x5, .int x6] [] s_7 else if x5 = (-(1 : Int32)) then rn_ tb_ct tb_mt B mm_X13_ahead 112 [.ref a0, am_un, .int x2, .int x3, .int x4, .int x5, .int x6] [] s_7 else eC (am_cls s_7 a0) 11 (cI (cl_ tb_ct tb_mt B K_X13_cameAhead [.ref a0, .int x5, .int x6] s_7) (fun x_10 s_9 => if x_10 = 0 then rn_ tb_ct tb_mt B mm_X13_ahead 116 [.ref a0, am_un, .int x2, .int x3, .int x4, .int x5, .int x6] [] s_9 else rn_ tb_ct tb_mt B mm_X13_ahead 112 [.ref a0, am_un, .int x2, .int x3, .int x4, .int x5, .int x6] [] s_9) xo)) xo)) xo))) := by
  refine Eq.trans (rn_go 2 (pc' := 58) (L' := [.ref a0, am_un, .int x2, .int x3, .int x4, .int x5, .int x6]) (st' := [.ref a0, .int x6]) rfl) ?_
  refine Eq.trans (rn_gA (L' := [.ref a0, am_un, .int x2, .int x3, .int x4, .int x5, .int x6]) rfl rfl rfl rfl) ?_
  refine eA_c ?_ (fun b_1 => ?_)
  · refine Eq.trans (rn_go 1 (pc' := 62) (L' := [.ref a0, am_un, .int x2, .int x3, .int x4, .int x5, .int x6]) (st' := [.int (3 : Int32), .null, .int x6]) rfl) ?_
    exact rn_z rfl rfl
  · refine Eq.trans (rn_go 1 (pc' := 62) (L' := [.ref a0, am_un, .int x2, .int x3, .int x4, .int x5, .int x6]) (st' := [.int (3 : Int32), .ref b_1, .int x6]) rfl) ?_
    refine Eq.trans (rn_aI (L' := [.ref a0, am_un, .int x2, .int x3, .int x4, .int x5, .int x6]) rfl rfl) ?_
    refine eI_c (fun x_2 => ?_)
    refine Eq.trans (rn_icge (L' := [.ref a0, am_un, .int x2, .int x3, .int x4, .int x5, .int x6]) rfl rfl) ?_
    refine if_c ?_ ?_
    · refine Eq.trans (rn_go 2 (pc' := 125) (L' := [.ref a0, am_un, .int x2, .int x3, .int x4, .int x5, .int x6]) (st' := [.int (-(1 : Int32)), .int x5]) rfl) ?_
      refine Eq.trans (rn_icne (L' := [.ref a0, am_un, .int x2, .int x3, .int x4, .int x5, .int x6]) rfl rfl) ?_
      refine if_c ?_ ?_
      · refine Eq.trans (rn_go 2 (pc' := 139) (L' := [.ref a0, am_un, .int x2, .int x3, .int x4, .int x5, .int x6]) (st' := [.int (-(1 : Int32))]) rfl) ?_
        exact rn_retI rfl rfl rfl
      · refine Eq.trans (rn_go 3 (pc' := 136) (L' := [.ref a0, am_un, .int x2, .int x3, .int x4, .int x5, .int x6]) (st' := [.int (0 : Int32), .int x5, .ref a0]) rfl) ?_
        refine Eq.trans (rn_vir (L' := [.ref a0, am_un, .int x2, .int x3, .int x4, .int x5, .int x6]) (as := [.int x5, .int (0 : Int32)]) (rest := []) rfl rfl rfl rfl rfl (Nat.le_of_ble_eq_true rfl) (by decide) (by decide)) ?_
        refine eC_c ?_
        refine Eq.trans (cW_I rfl rfl rfl) ?_
        refine cI_c (fun x_4 s_3 => ?_) (xh_nil rfl)
        exact rn_retI rfl rfl rfl
    · refine Eq.trans (rn_go 2 (pc' := 70) (L' := [.ref a0, am_un, .int x2, .int x3, .int x4, .int x5, .int x6]) (st' := [.int x4, .int x6]) rfl) ?_
      refine Eq.trans (rn_iceq (L' := [.ref a0, am_un, .int x2, .int x3, .int x4, .int x5, .int x6]) rfl rfl) ?_
      refine if_c ?_ ?_
      · rfl
      · refine Eq.trans (rn_go 4 (pc' := 78) (L' := [.ref a0, am_un, .int x2, .int x3, .int x4, .int x5, .int x6]) (st' := [.int x3, .int x2, .int x6, .ref a0]) rfl) ?_
        refine Eq.trans (rn_vir (L' := [.ref a0, am_un, .int x2, .int x3, .int x4, .int x5, .int x6]) (as := [.int x6, .int x2, .int x3]) (rest := []) rfl rfl rfl rfl rfl (Nat.le_of_ble_eq_true rfl) (by decide) (by decide)) ?_
        refine eC_c ?_
        refine Eq.trans (cW_I rfl rfl rfl) ?_
        refine cI_c (fun x_6 s_5 => ?_) (xh_nil rfl)
        refine Eq.trans (rn_ifeq (L' := [.ref a0, am_un, .int x2, .int x3, .int x4, .int x5, .int x6]) rfl rfl) ?_
        refine if_c ?_ ?_
        · rfl
        · refine Eq.trans (rn_go 3 (pc' := 89) (L' := [.ref a0, am_un, .int x2, .int x3, .int x4, .int x5, .int x6]) (st' := [.int x4, .int x6, .ref a0]) rfl) ?_
          refine Eq.trans (rn_vir (L' := [.ref a0, am_un, .int x2, .int x3, .int x4, .int x5, .int x6]) (as := [.int x6, .int x4]) (rest := []) rfl rfl rfl rfl rfl (Nat.le_of_ble_eq_true rfl) (by decide) (by decide)) ?_
          refine eC_c ?_
          refine Eq.trans (cW_I rfl rfl rfl) ?_
          refine cI_c (fun x_8 s_7 => ?_) (xh_nil rfl)
          refine Eq.trans (rn_ifeq (L' := [.ref a0, am_un, .int x2, .int x3, .int x4, .int x5, .int x6]) rfl rfl) ?_
          refine if_c ?_ ?_
          · rfl
          · refine Eq.trans (rn_go 2 (pc' := 98) (L' := [.ref a0, am_un, .int x2, .int x3, .int x4, .int x5, .int x6]) (st' := [.int (-(1 : Int32)), .int x5]) rfl) ?_
            refine Eq.trans (rn_iceq (L' := [.ref a0, am_un, .int x2, .int x3, .int x4, .int x5, .int x6]) rfl rfl) ?_
            refine if_c ?_ ?_
            · rfl
            · refine Eq.trans (rn_go 3 (pc' := 106) (L' := [.ref a0, am_un, .int x2, .int x3, .int x4, .int x5, .int x6]) (st' := [.int x6, .int x5, .ref a0]) rfl) ?_
              refine Eq.trans (rn_vir (L' := [.ref a0, am_un, .int x2, .int x3, .int x4, .int x5, .int x6]) (as := [.int x5, .int x6]) (rest := []) rfl rfl rfl rfl rfl (Nat.le_of_ble_eq_true rfl) (by decide) (by decide)) ?_
              refine eC_c ?_
              refine Eq.trans (cW_I rfl rfl rfl) ?_
              refine cI_c (fun x_10 s_9 => ?_) (xh_nil rfl)
              refine Eq.trans (rn_ifeq (L' := [.ref a0, am_un, .int x2, .int x3, .int x4, .int x5, .int x6]) rfl rfl) ?_
              refine if_c ?_ ?_
              · rfl
              · rfl
theorem dc_X13_ahead_112 {B : Nat} (a0 : Nat) (x2 : Int32) (x3 : Int32) (x4 : Int32) (w5 : Value) (x6 : Int32) (s : am_S) : rn_ tb_ct tb_mt B mm_X13_ahead 112 [.ref a0, am_un, .int x2, .int x3, .int x4, w5, .int x6] [] s = rn_ tb_ct tb_mt B mm_X13_ahead 116 [.ref a0, am_un, .int x2, .int x3, .int x4, .int x6, .int x6] [] s := by
  exact rn_go 2 (pc' := 116) (L' := [.ref a0, am_un, .int x2, .int x3, .int x4, .int x6, .int x6]) (st' := []) rfl
theorem dc_X13_ahead_116 {B : Nat} (a0 : Nat) (x2 : Int32) (x3 : Int32) (x4 : Int32) (x5 : Int32) (x6 : Int32) (s : am_S) : rn_ tb_ct tb_mt B mm_X13_ahead 116 [.ref a0, am_un, .int x2, .int x3, .int x4, .int x5, .int x6] [] s = rn_ tb_ct tb_mt B mm_X13_ahead 55 [.ref a0, am_un, .int x2, .int x3, .int x4, .int x5, .int (x6 + (1 : Int32))] [] s := by
  exact rn_go 2 (pc' := 55) (L' := [.ref a0, am_un, .int x2, .int x3, .int x4, .int x5, .int (x6 + (1 : Int32))]) (st' := []) rfl
theorem in_X13_place {B : Nat} (a0 : Nat) (x1 : Int32) (x2 : Int32) (x3 : Int32) (s : am_S) : cl_ tb_ct tb_mt B K_X13_place [.ref a0, .int x1, .int x2, .int x3] s = rn_ tb_ct tb_mt B mm_X13_place 0 [.ref a0, .int x1, .int x2, .int x3, am_un, am_un, am_un] [] s := cl_in rfl rfl rfl rfl
theorem dc_X13_place_0 {B : Nat} (a0 : Nat) (x1 : Int32) (x2 : Int32) (x3 : Int32) (s : am_S) : rn_ tb_ct tb_mt B mm_X13_place 0 [.ref a0, .int x1, .int x2, .int x3, am_un, am_un, am_un] [] s = cI (cl_ tb_ct tb_mt B K_X13_isKey [.int x1] s) (fun x_2 s_1 => if x_2 = 0 then rn_ tb_ct tb_mt B mm_X13_place 20 [.ref a0, .int x1, .int x2, .int x3, am_un, am_un, am_un] [.ref a0] s_1 else cI (cl_ tb_ct tb_mt B K_X13_isRange [.int x2, .int x3] s_1) (fun x_4 s_3 => if x_4 = 0 then rn_ tb_ct tb_mt B mm_X13_place 20 [.ref a0, .int x1, .int x2, .int x3, am_un, am_un, am_un] [.ref a0] s_3 else rn_ tb_ct tb_mt B mm_X13_place 21 [.ref a0, .int x1, .int x2, .int x3, am_un, am_un, am_un] [.int (1 : Int32), .ref a0] s_3) xo) xo := by
  refine Eq.trans (rn_go 2 (pc' := 2) (L' := [.ref a0, .int x1, .int x2, .int x3, am_un, am_un, am_un]) (st' := [.int x1, .ref a0]) rfl) ?_
  refine Eq.trans (rn_sta (L' := [.ref a0, .int x1, .int x2, .int x3, am_un, am_un, am_un]) (as := [.int x1]) (rest := [.ref a0]) rfl rfl rfl rfl rfl (Nat.le_of_ble_eq_true rfl) (by decide) rfl) ?_
  refine Eq.trans (cW_I rfl rfl rfl) ?_
  refine cI_c (fun x_2 s_1 => ?_) (xh_nil rfl)
  refine Eq.trans (rn_ifeq (L' := [.ref a0, .int x1, .int x2, .int x3, am_un, am_un, am_un]) rfl rfl) ?_
  refine if_c ?_ ?_
  · rfl
  · refine Eq.trans (rn_go 2 (pc' := 10) (L' := [.ref a0, .int x1, .int x2, .int x3, am_un, am_un, am_un]) (st' := [.int x3, .int x2, .ref a0]) rfl) ?_
    refine Eq.trans (rn_sta (L' := [.ref a0, .int x1, .int x2, .int x3, am_un, am_un, am_un]) (as := [.int x2, .int x3]) (rest := [.ref a0]) rfl rfl rfl rfl rfl (Nat.le_of_ble_eq_true rfl) (by decide) rfl) ?_
    refine Eq.trans (cW_I rfl rfl rfl) ?_
    refine cI_c (fun x_4 s_3 => ?_) (xh_nil rfl)
    refine Eq.trans (rn_ifeq (L' := [.ref a0, .int x1, .int x2, .int x3, am_un, am_un, am_un]) rfl rfl) ?_
    refine if_c ?_ ?_
    · rfl
    · exact rn_go 2 (pc' := 21) (L' := [.ref a0, .int x1, .int x2, .int x3, am_un, am_un, am_un]) (st' := [.int (1 : Int32), .ref a0]) rfl
theorem dc_X13_place_20 {B : Nat} (a0 : Nat) (x1 : Int32) (x2 : Int32) (x3 : Int32) (as0 : Nat) (s : am_S) : rn_ tb_ct tb_mt B mm_X13_place 20 [.ref a0, .int x1, .int x2, .int x3, am_un, am_un, am_un] [.ref as0] s = rn_ tb_ct tb_mt B mm_X13_place 21 [.ref a0, .int x1, .int x2, .int x3, am_un, am_un, am_un] [.int (0 : Int32), .ref as0] s := by
  exact rn_go 1 (pc' := 21) (L' := [.ref a0, .int x1, .int x2, .int x3, am_un, am_un, am_un]) (st' := [.int (0 : Int32), .ref as0]) rfl
theorem dc_X13_place_21 {B : Nat} (a0 : Nat) (x1 : Int32) (x2 : Int32) (x3 : Int32) (xs0 : Int32) (as1 : Nat) (s : am_S) : rn_ tb_ct tb_mt B mm_X13_place 21 [.ref a0, .int x1, .int x2, .int x3, am_un, am_un, am_un] [.int xs0, .ref as1] s = eC (am_cls s as1) 11 (cI (cl_ tb_ct tb_mt B K_X13_isThrown [.ref as1, .int xs0, .int (1 : Int32)] s) (fun x_2 s_1 => if x_2 = 0 then eC (am_cls s_1 a0) 11 (cI (cl_ tb_ct tb_mt B K_X13_stands [.ref a0, .int x1, .int x2, .int x3] s_1) (fun x_4 s_3 => if x_4 = 0 then some (.inl (some (.int (-(1 : Int32)))), s_3) else eC (am_cls s_3 a0) 11 (cI (cl_ tb_ct tb_mt B K_X13_placeOf [.ref a0, .int x1] s_3) (fun x_6 s_5 => rn_ tb_ct tb_mt B mm_X13_place 55 [.ref a0, .int x1, .int x2, .int x3, .int x_6, .int (0 : Int32), .int (0 : Int32)] [] s_5) xo)) xo) else some (.inl (some (.int (0 : Int32))), s_1)) xo) := by
  refine Eq.trans (rn_go 1 (pc' := 22) (L' := [.ref a0, .int x1, .int x2, .int x3, am_un, am_un, am_un]) (st' := [.int (1 : Int32), .int xs0, .ref as1]) rfl) ?_
  refine Eq.trans (rn_vir (L' := [.ref a0, .int x1, .int x2, .int x3, am_un, am_un, am_un]) (as := [.int xs0, .int (1 : Int32)]) (rest := []) rfl rfl rfl rfl rfl (Nat.le_of_ble_eq_true rfl) (by decide) (by decide)) ?_
  refine eC_c ?_
  refine Eq.trans (cW_I rfl rfl rfl) ?_
  refine cI_c (fun x_2 s_1 => ?_) (xh_nil rfl)
  refine Eq.trans (rn_ifeq (L' := [.ref a0, .int x1, .int x2, .int x3, am_un, am_un, am_un]) rfl rfl) ?_
  refine if_c ?_ ?_
  · refine Eq.trans (rn_go 4 (pc' := 34) (L' := [.ref a0, .int x1, .int x2, .int x3, am_un, am_un, am_un]) (st' := [.int x3, .int x2, .int x1, .ref a0]) rfl) ?_
    refine Eq.trans (rn_vir (L' := [.ref a0, .int x1, .int x2, .int x3, am_un, am_un, am_un]) (as := [.int x1, .int x2, .int x3]) (rest := []) rfl rfl rfl rfl rfl (Nat.le_of_ble_eq_true rfl) (by decide) (by decide)) ?_
    refine eC_c ?_
    refine Eq.trans (cW_I rfl rfl rfl) ?_
    refine cI_c (fun x_4 s_3 => ?_) (xh_nil rfl)
    refine Eq.trans (rn_ifne (L' := [.ref a0, .int x1, .int x2, .int x3, am_un, am_un, am_un]) rfl rfl) ?_
    refine if_c ?_ ?_
    · refine Eq.trans (rn_go 1 (pc' := 41) (L' := [.ref a0, .int x1, .int x2, .int x3, am_un, am_un, am_un]) (st' := [.int (-(1 : Int32))]) rfl) ?_
      exact rn_retI rfl rfl rfl
    · refine Eq.trans (rn_go 2 (pc' := 44) (L' := [.ref a0, .int x1, .int x2, .int x3, am_un, am_un, am_un]) (st' := [.int x1, .ref a0]) rfl) ?_
      refine Eq.trans (rn_vir (L' := [.ref a0, .int x1, .int x2, .int x3, am_un, am_un, am_un]) (as := [.int x1]) (rest := []) rfl rfl rfl rfl rfl (Nat.le_of_ble_eq_true rfl) (by decide) (by decide)) ?_
      refine eC_c ?_
      refine Eq.trans (cW_I rfl rfl rfl) ?_
      refine cI_c (fun x_6 s_5 => ?_) (xh_nil rfl)
      exact rn_go 5 (pc' := 55) (L' := [.ref a0, .int x1, .int x2, .int x3, .int x_6, .int (0 : Int32), .int (0 : Int32)]) (st' := []) rfl
  · refine Eq.trans (rn_go 1 (pc' := 29) (L' := [.ref a0, .int x1, .int x2, .int x3, am_un, am_un, am_un]) (st' := [.int (0 : Int32)]) rfl) ?_
    exact rn_retI rfl rfl rfl
theorem dc_X13_place_55 {B : Nat} (a0 : Nat) (w1 : Value) (x2 : Int32) (x3 : Int32) (x4 : Int32) (x5 : Int32) (x6 : Int32) (s : am_S) : rn_ tb_ct tb_mt B mm_X13_place 55 [.ref a0, w1, .int x2, .int x3, .int x4, .int x5, .int x6] [] s = eA (gA tb_ct s a0 11 0) (none) (fun b_1 => eI (aI s b_1 (3 : Int32)) (fun x_2 => if x_2 ≤ x6 then some (.inl (some (.int x5)), s) else if x6 = x4 then rn_ tb_ct tb_mt B mm_X13_place 101 [.ref a0, am_un, .int x2, .int x3, .int x4, .int x5, .int x6] [.int x5] s else eC (am_cls s a0) 11 (cI (cl_ tb_ct tb_mt B K_X13_isIn [.ref a0, .int x6, .int x2, .int x3] s) (fun x_4 s_3 => if x_4 = 0 then rn_ tb_ct tb_mt B mm_X13_place 101 [.ref a0, am_un, .int x2, .int x3, .int x4, .int x5, .int x6] [.int x5] s_3 else eC (am_cls s_3 a0) 11 (cI (cl_ tb_ct tb_mt B K_X13_cameAhead [.ref a0, .int x6, .int x4] s_3) (fun x_6 s_5 => if x_6 = 0 then rn_ tb_ct tb_mt B mm_X13_place 101 [.ref a0, am_un, .int x2, .int x3, .int x4, .int x5, .int x6] [.int x5] s_5 else rn_ tb_ct tb_mt B mm_X13_place 102 [.ref a0, am_un, .int x2, .int x3, .int x4, .int x5, .int x6] [.int (1 : Int32), .int x5] s_5) xo)) xo))) := by
  refine Eq.trans (rn_go 2 (pc' := 58) (L' := [.ref a0, am_un, .int x2, .int x3, .int x4, .int x5, .int x6]) (st' := [.ref a0, .int x6]) rfl) ?_
  refine Eq.trans (rn_gA (L' := [.ref a0, am_un, .int x2, .int x3, .int x4, .int x5, .int x6]) rfl rfl rfl rfl) ?_
  refine eA_c ?_ (fun b_1 => ?_)
  · refine Eq.trans (rn_go 1 (pc' := 62) (L' := [.ref a0, am_un, .int x2, .int x3, .int x4, .int x5, .int x6]) (st' := [.int (3 : Int32), .null, .int x6]) rfl) ?_
    exact rn_z rfl rfl
  · refine Eq.trans (rn_go 1 (pc' := 62) (L' := [.ref a0, am_un, .int x2, .int x3, .int x4, .int x5, .int x6]) (st' := [.int (3 : Int32), .ref b_1, .int x6]) rfl) ?_
    refine Eq.trans (rn_aI (L' := [.ref a0, am_un, .int x2, .int x3, .int x4, .int x5, .int x6]) rfl rfl) ?_
    refine eI_c (fun x_2 => ?_)
    refine Eq.trans (rn_icge (L' := [.ref a0, am_un, .int x2, .int x3, .int x4, .int x5, .int x6]) rfl rfl) ?_
    refine if_c ?_ ?_
    · refine Eq.trans (rn_go 1 (pc' := 113) (L' := [.ref a0, am_un, .int x2, .int x3, .int x4, .int x5, .int x6]) (st' := [.int x5]) rfl) ?_
      exact rn_retI rfl rfl rfl
    · refine Eq.trans (rn_go 3 (pc' := 72) (L' := [.ref a0, am_un, .int x2, .int x3, .int x4, .int x5, .int x6]) (st' := [.int x4, .int x6, .int x5]) rfl) ?_
      refine Eq.trans (rn_iceq (L' := [.ref a0, am_un, .int x2, .int x3, .int x4, .int x5, .int x6]) rfl rfl) ?_
      refine if_c ?_ ?_
      · rfl
      · refine Eq.trans (rn_go 4 (pc' := 80) (L' := [.ref a0, am_un, .int x2, .int x3, .int x4, .int x5, .int x6]) (st' := [.int x3, .int x2, .int x6, .ref a0, .int x5]) rfl) ?_
        refine Eq.trans (rn_vir (L' := [.ref a0, am_un, .int x2, .int x3, .int x4, .int x5, .int x6]) (as := [.int x6, .int x2, .int x3]) (rest := [.int x5]) rfl rfl rfl rfl rfl (Nat.le_of_ble_eq_true rfl) (by decide) (by decide)) ?_
        refine eC_c ?_
        refine Eq.trans (cW_I rfl rfl rfl) ?_
        refine cI_c (fun x_4 s_3 => ?_) (xh_nil rfl)
        refine Eq.trans (rn_ifeq (L' := [.ref a0, am_un, .int x2, .int x3, .int x4, .int x5, .int x6]) rfl rfl) ?_
        refine if_c ?_ ?_
        · rfl
        · refine Eq.trans (rn_go 3 (pc' := 91) (L' := [.ref a0, am_un, .int x2, .int x3, .int x4, .int x5, .int x6]) (st' := [.int x4, .int x6, .ref a0, .int x5]) rfl) ?_
          refine Eq.trans (rn_vir (L' := [.ref a0, am_un, .int x2, .int x3, .int x4, .int x5, .int x6]) (as := [.int x6, .int x4]) (rest := [.int x5]) rfl rfl rfl rfl rfl (Nat.le_of_ble_eq_true rfl) (by decide) (by decide)) ?_
          refine eC_c ?_
          refine Eq.trans (cW_I rfl rfl rfl) ?_
          refine cI_c (fun x_6 s_5 => ?_) (xh_nil rfl)
          refine Eq.trans (rn_ifeq (L' := [.ref a0, am_un, .int x2, .int x3, .int x4, .int x5, .int x6]) rfl rfl) ?_
          refine if_c ?_ ?_
          · rfl
          · exact rn_go 2 (pc' := 102) (L' := [.ref a0, am_un, .int x2, .int x3, .int x4, .int x5, .int x6]) (st' := [.int (1 : Int32), .int x5]) rfl
theorem dc_X13_place_101 {B : Nat} (a0 : Nat) (x2 : Int32) (x3 : Int32) (x4 : Int32) (w5 : Value) (x6 : Int32) (xs0 : Int32) (s : am_S) : rn_ tb_ct tb_mt B mm_X13_place 101 [.ref a0, am_un, .int x2, .int x3, .int x4, w5, .int x6] [.int xs0] s = rn_ tb_ct tb_mt B mm_X13_place 102 [.ref a0, am_un, .int x2, .int x3, .int x4, am_un, .int x6] [.int (0 : Int32), .int xs0] s := by
  exact rn_go 1 (pc' := 102) (L' := [.ref a0, am_un, .int x2, .int x3, .int x4, am_un, .int x6]) (st' := [.int (0 : Int32), .int xs0]) rfl
theorem dc_X13_place_102 {B : Nat} (a0 : Nat) (x2 : Int32) (x3 : Int32) (x4 : Int32) (w5 : Value) (x6 : Int32) (xs0 : Int32) (xs1 : Int32) (s : am_S) : rn_ tb_ct tb_mt B mm_X13_place 102 [.ref a0, am_un, .int x2, .int x3, .int x4, w5, .int x6] [.int xs0, .int xs1] s = rn_ tb_ct tb_mt B mm_X13_place 55 [.ref a0, am_un, .int x2, .int x3, .int x4, .int (xs1 + xs0), .int (x6 + (1 : Int32))] [] s := by
  exact rn_go 4 (pc' := 55) (L' := [.ref a0, am_un, .int x2, .int x3, .int x4, .int (xs1 + xs0), .int (x6 + (1 : Int32))]) (st' := []) rfl
theorem in_X13_isLease {B : Nat} (a0 : Nat) (x1 : Int32) (s : am_S) : cl_ tb_ct tb_mt B K_X13_isLease [.ref a0, .int x1] s = rn_ tb_ct tb_mt B mm_X13_isLease 0 [.ref a0, .int x1] [] s := cl_in rfl rfl rfl rfl
theorem dc_X13_isLease_0 {B : Nat} (a0 : Nat) (x1 : Int32) (s : am_S) : rn_ tb_ct tb_mt B mm_X13_isLease 0 [.ref a0, .int x1] [] s = eC (am_cls s a0) 11 (cI (cl_ tb_ct tb_mt B K_X13_leaseOf [.ref a0, .int x1] s) (fun x_2 s_1 => if x_2 = (-(1 : Int32)) then some (.inl (some (.int (0 : Int32))), s_1) else some (.inl (some (.int (1 : Int32))), s_1)) xo) := by
  refine Eq.trans (rn_go 2 (pc' := 2) (L' := [.ref a0, .int x1]) (st' := [.int x1, .ref a0]) rfl) ?_
  refine Eq.trans (rn_vir (L' := [.ref a0, .int x1]) (as := [.int x1]) (rest := []) rfl rfl rfl rfl rfl (Nat.le_of_ble_eq_true rfl) (by decide) (by decide)) ?_
  refine eC_c ?_
  refine Eq.trans (cW_I rfl rfl rfl) ?_
  refine cI_c (fun x_2 s_1 => ?_) (xh_nil rfl)
  refine Eq.trans (rn_go 1 (pc' := 6) (L' := [.ref a0, .int x1]) (st' := [.int (-(1 : Int32)), .int x_2]) rfl) ?_
  refine Eq.trans (rn_iceq (L' := [.ref a0, .int x1]) rfl rfl) ?_
  refine if_c ?_ ?_
  · refine Eq.trans (rn_go 1 (pc' := 14) (L' := [.ref a0, .int x1]) (st' := [.int (0 : Int32)]) rfl) ?_
    exact rn_retI rfl rfl rfl
  · refine Eq.trans (rn_go 2 (pc' := 14) (L' := [.ref a0, .int x1]) (st' := [.int (1 : Int32)]) rfl) ?_
    exact rn_retI rfl rfl rfl
theorem in_X13_leaseOf {B : Nat} (a0 : Nat) (x1 : Int32) (s : am_S) : cl_ tb_ct tb_mt B K_X13_leaseOf [.ref a0, .int x1] s = rn_ tb_ct tb_mt B mm_X13_leaseOf 0 [.ref a0, .int x1, am_un] [] s := cl_in rfl rfl rfl rfl
theorem dc_X13_leaseOf_0 {B : Nat} (a0 : Nat) (x1 : Int32) (s : am_S) : rn_ tb_ct tb_mt B mm_X13_leaseOf 0 [.ref a0, .int x1, am_un] [] s = rn_ tb_ct tb_mt B mm_X13_leaseOf 2 [.ref a0, .int x1, .int (0 : Int32)] [] s := by
  exact rn_go 2 (pc' := 2) (L' := [.ref a0, .int x1, .int (0 : Int32)]) (st' := []) rfl
theorem dc_X13_leaseOf_2 {B : Nat} (a0 : Nat) (x1 : Int32) (x2 : Int32) (s : am_S) : rn_ tb_ct tb_mt B mm_X13_leaseOf 2 [.ref a0, .int x1, .int x2] [] s = eA (gA tb_ct s a0 11 0) (none) (fun b_1 => eI (aI s b_1 (4 : Int32)) (fun x_2 => if x_2 ≤ x2 then some (.inl (some (.int (-(1 : Int32)))), s) else eA (gA tb_ct s a0 11 0) (none) (fun b_3 => eI (aI s b_3 ((1149 : Int32) + ((3 : Int32) * x2))) (fun x_4 => if x_4 = x1 then some (.inl (some (.int x2)), s) else rn_ tb_ct tb_mt B mm_X13_leaseOf 2 [.ref a0, .int x1, .int (x2 + (1 : Int32))] [] s)))) := by
  refine Eq.trans (rn_go 2 (pc' := 4) (L' := [.ref a0, .int x1, .int x2]) (st' := [.ref a0, .int x2]) rfl) ?_
  refine Eq.trans (rn_gA (L' := [.ref a0, .int x1, .int x2]) rfl rfl rfl rfl) ?_
  refine eA_c ?_ (fun b_1 => ?_)
  · refine Eq.trans (rn_go 1 (pc' := 8) (L' := [.ref a0, .int x1, .int x2]) (st' := [.int (4 : Int32), .null, .int x2]) rfl) ?_
    exact rn_z rfl rfl
  · refine Eq.trans (rn_go 1 (pc' := 8) (L' := [.ref a0, .int x1, .int x2]) (st' := [.int (4 : Int32), .ref b_1, .int x2]) rfl) ?_
    refine Eq.trans (rn_aI (L' := [.ref a0, .int x1, .int x2]) rfl rfl) ?_
    refine eI_c (fun x_2 => ?_)
    refine Eq.trans (rn_icge (L' := [.ref a0, .int x1, .int x2]) rfl rfl) ?_
    refine if_c ?_ ?_
    · refine Eq.trans (rn_go 1 (pc' := 37) (L' := [.ref a0, .int x1, .int x2]) (st' := [.int (-(1 : Int32))]) rfl) ?_
      exact rn_retI rfl rfl rfl
    · refine Eq.trans (rn_go 1 (pc' := 13) (L' := [.ref a0, .int x1, .int x2]) (st' := [.ref a0]) rfl) ?_
      refine Eq.trans (rn_gA (L' := [.ref a0, .int x1, .int x2]) rfl rfl rfl rfl) ?_
      refine eA_c ?_ (fun b_3 => ?_)
      · refine Eq.trans (rn_go 5 (pc' := 23) (L' := [.ref a0, .int x1, .int x2]) (st' := [.int ((1149 : Int32) + ((3 : Int32) * x2)), .null]) rfl) ?_
        exact rn_z rfl rfl
      · refine Eq.trans (rn_go 5 (pc' := 23) (L' := [.ref a0, .int x1, .int x2]) (st' := [.int ((1149 : Int32) + ((3 : Int32) * x2)), .ref b_3]) rfl) ?_
        refine Eq.trans (rn_aI (L' := [.ref a0, .int x1, .int x2]) rfl rfl) ?_
        refine eI_c (fun x_4 => ?_)
        refine Eq.trans (rn_go 1 (pc' := 25) (L' := [.ref a0, .int x1, .int x2]) (st' := [.int x1, .int x_4]) rfl) ?_
        refine Eq.trans (rn_icne (L' := [.ref a0, .int x1, .int x2]) rfl rfl) ?_
        refine if_c ?_ ?_
        · refine Eq.trans (rn_go 1 (pc' := 29) (L' := [.ref a0, .int x1, .int x2]) (st' := [.int x2]) rfl) ?_
          exact rn_retI rfl rfl rfl
        · exact rn_go 2 (pc' := 2) (L' := [.ref a0, .int x1, .int (x2 + (1 : Int32))]) (st' := []) rfl
theorem in_X13_isValue {B : Nat} (x0 : Int32) (s : am_S) : cl_ tb_ct tb_mt B K_X13_isValue [.int x0] s = rn_ tb_ct tb_mt B mm_X13_isValue 0 [.int x0] [] s := cl_in rfl rfl rfl rfl
theorem dc_X13_isValue_0 {B : Nat} (x0 : Int32) (s : am_S) : rn_ tb_ct tb_mt B mm_X13_isValue 0 [.int x0] [] s = cI (cl_ tb_ct tb_mt B K_X13_in [.long x0.toInt64, .long (18446744073708551616 : Int64), .long (1000000 : Int64)] s) (fun x_2 s_1 => rtI .boolean x_2 s_1) xo := by
  refine Eq.trans (rn_go 4 (pc' := 8) (L' := [.int x0]) (st' := [.long (1000000 : Int64), .long (18446744073708551616 : Int64), .long x0.toInt64]) rfl) ?_
  refine Eq.trans (rn_sta (L' := [.int x0]) (as := [.long x0.toInt64, .long (18446744073708551616 : Int64), .long (1000000 : Int64)]) (rest := []) rfl rfl rfl rfl rfl (Nat.le_of_ble_eq_true rfl) (by decide) rfl) ?_
  refine Eq.trans (cW_I rfl rfl rfl) ?_
  refine cI_c (fun x_2 s_1 => ?_) (xh_nil rfl)
  exact rn_rtI rfl rfl
theorem in_X13_put {B : Nat} (a0 : Nat) (x1 : Int32) (x2 : Int32) (x3 : Int32) (s : am_S) : cl_ tb_ct tb_mt B K_X13_put [.ref a0, .int x1, .int x2, .int x3] s = rn_ tb_ct tb_mt B mm_X13_put 0 [.ref a0, .int x1, .int x2, .int x3, am_un] [] s := cl_in rfl rfl rfl rfl
theorem dc_X13_put_0 {B : Nat} (a0 : Nat) (x1 : Int32) (x2 : Int32) (x3 : Int32) (s : am_S) : rn_ tb_ct tb_mt B mm_X13_put 0 [.ref a0, .int x1, .int x2, .int x3, am_un] [] s = cI (cl_ tb_ct tb_mt B K_X13_isKey [.int x1] s) (fun x_2 s_1 => if x_2 = 0 then rn_ tb_ct tb_mt B mm_X13_put 23 [.ref a0, .int x1, .int x2, .int x3, am_un] [.ref a0] s_1 else cI (cl_ tb_ct tb_mt B K_X13_isValue [.int x2] s_1) (fun x_4 s_3 => if x_4 = 0 then rn_ tb_ct tb_mt B mm_X13_put 23 [.ref a0, .int x1, .int x2, .int x3, am_un] [.ref a0] s_3 else if x3 < 0 then rn_ tb_ct tb_mt B mm_X13_put 23 [.ref a0, .int x1, .int x2, .int x3, am_un] [.ref a0] s_3 else rn_ tb_ct tb_mt B mm_X13_put 24 [.ref a0, .int x1, .int x2, .int x3, am_un] [.int (1 : Int32), .ref a0] s_3) xo) xo := by
  refine Eq.trans (rn_go 2 (pc' := 2) (L' := [.ref a0, .int x1, .int x2, .int x3, am_un]) (st' := [.int x1, .ref a0]) rfl) ?_
  refine Eq.trans (rn_sta (L' := [.ref a0, .int x1, .int x2, .int x3, am_un]) (as := [.int x1]) (rest := [.ref a0]) rfl rfl rfl rfl rfl (Nat.le_of_ble_eq_true rfl) (by decide) rfl) ?_
  refine Eq.trans (cW_I rfl rfl rfl) ?_
  refine cI_c (fun x_2 s_1 => ?_) (xh_nil rfl)
  refine Eq.trans (rn_ifeq (L' := [.ref a0, .int x1, .int x2, .int x3, am_un]) rfl rfl) ?_
  refine if_c ?_ ?_
  · rfl
  · refine Eq.trans (rn_go 1 (pc' := 9) (L' := [.ref a0, .int x1, .int x2, .int x3, am_un]) (st' := [.int x2, .ref a0]) rfl) ?_
    refine Eq.trans (rn_sta (L' := [.ref a0, .int x1, .int x2, .int x3, am_un]) (as := [.int x2]) (rest := [.ref a0]) rfl rfl rfl rfl rfl (Nat.le_of_ble_eq_true rfl) (by decide) rfl) ?_
    refine Eq.trans (cW_I rfl rfl rfl) ?_
    refine cI_c (fun x_4 s_3 => ?_) (xh_nil rfl)
    refine Eq.trans (rn_ifeq (L' := [.ref a0, .int x1, .int x2, .int x3, am_un]) rfl rfl) ?_
    refine if_c ?_ ?_
    · rfl
    · refine Eq.trans (rn_go 1 (pc' := 16) (L' := [.ref a0, .int x1, .int x2, .int x3, am_un]) (st' := [.int x3, .ref a0]) rfl) ?_
      refine Eq.trans (rn_iflt (L' := [.ref a0, .int x1, .int x2, .int x3, am_un]) rfl rfl) ?_
      refine if_c ?_ ?_
      · rfl
      · exact rn_go 2 (pc' := 24) (L' := [.ref a0, .int x1, .int x2, .int x3, am_un]) (st' := [.int (1 : Int32), .ref a0]) rfl
theorem dc_X13_put_23 {B : Nat} (a0 : Nat) (x1 : Int32) (x2 : Int32) (x3 : Int32) (as0 : Nat) (s : am_S) : rn_ tb_ct tb_mt B mm_X13_put 23 [.ref a0, .int x1, .int x2, .int x3, am_un] [.ref as0] s = rn_ tb_ct tb_mt B mm_X13_put 24 [.ref a0, .int x1, .int x2, .int x3, am_un] [.int (0 : Int32), .ref as0] s := by
  exact rn_go 1 (pc' := 24) (L' := [.ref a0, .int x1, .int x2, .int x3, am_un]) (st' := [.int (0 : Int32), .ref as0]) rfl
theorem dc_X13_put_24 {B : Nat} (a0 : Nat) (x1 : Int32) (x2 : Int32) (x3 : Int32) (xs0 : Int32) (as1 : Nat) (s : am_S) : rn_ tb_ct tb_mt B mm_X13_put 24 [.ref a0, .int x1, .int x2, .int x3, am_un] [.int xs0, .ref as1] s = eC (am_cls s as1) 11 (cI (cl_ tb_ct tb_mt B K_X13_isThrown [.ref as1, .int xs0, .int (1 : Int32)] s) (fun x_2 s_1 => if x_2 = 0 then eC (am_cls s_1 a0) 11 (cI (cl_ tb_ct tb_mt B K_X13_isThere [.ref a0, .int x1] s_1) (fun x_4 s_3 => if x_4 = 0 then eA (gA tb_ct s_3 a0 11 0) (none) (fun b_5 => eI (aI s_3 b_5 (3 : Int32)) (fun x_6 => if x_6 = (16 : Int32) then some (.inl (some (.int (-(2 : Int32)))), s_3) else rn_ tb_ct tb_mt B mm_X13_put 55 [.ref a0, .int x1, .int x2, .int x3, am_un] [] s_3)) else rn_ tb_ct tb_mt B mm_X13_put 55 [.ref a0, .int x1, .int x2, .int x3, am_un] [] s_3) xo) else some (.inl (some (.int (0 : Int32))), s_1)) xo) := by
  refine Eq.trans (rn_go 1 (pc' := 25) (L' := [.ref a0, .int x1, .int x2, .int x3, am_un]) (st' := [.int (1 : Int32), .int xs0, .ref as1]) rfl) ?_
  refine Eq.trans (rn_vir (L' := [.ref a0, .int x1, .int x2, .int x3, am_un]) (as := [.int xs0, .int (1 : Int32)]) (rest := []) rfl rfl rfl rfl rfl (Nat.le_of_ble_eq_true rfl) (by decide) (by decide)) ?_
  refine eC_c ?_
  refine Eq.trans (cW_I rfl rfl rfl) ?_
  refine cI_c (fun x_2 s_1 => ?_) (xh_nil rfl)
  refine Eq.trans (rn_ifeq (L' := [.ref a0, .int x1, .int x2, .int x3, am_un]) rfl rfl) ?_
  refine if_c ?_ ?_
  · refine Eq.trans (rn_go 2 (pc' := 35) (L' := [.ref a0, .int x1, .int x2, .int x3, am_un]) (st' := [.int x1, .ref a0]) rfl) ?_
    refine Eq.trans (rn_vir (L' := [.ref a0, .int x1, .int x2, .int x3, am_un]) (as := [.int x1]) (rest := []) rfl rfl rfl rfl rfl (Nat.le_of_ble_eq_true rfl) (by decide) (by decide)) ?_
    refine eC_c ?_
    refine Eq.trans (cW_I rfl rfl rfl) ?_
    refine cI_c (fun x_4 s_3 => ?_) (xh_nil rfl)
    refine Eq.trans (rn_ifne (L' := [.ref a0, .int x1, .int x2, .int x3, am_un]) rfl rfl) ?_
    refine if_c ?_ ?_
    · refine Eq.trans (rn_go 1 (pc' := 42) (L' := [.ref a0, .int x1, .int x2, .int x3, am_un]) (st' := [.ref a0]) rfl) ?_
      refine Eq.trans (rn_gA (L' := [.ref a0, .int x1, .int x2, .int x3, am_un]) rfl rfl rfl rfl) ?_
      refine eA_c ?_ (fun b_5 => ?_)
      · refine Eq.trans (rn_go 1 (pc' := 46) (L' := [.ref a0, .int x1, .int x2, .int x3, am_un]) (st' := [.int (3 : Int32), .null]) rfl) ?_
        exact rn_z rfl rfl
      · refine Eq.trans (rn_go 1 (pc' := 46) (L' := [.ref a0, .int x1, .int x2, .int x3, am_un]) (st' := [.int (3 : Int32), .ref b_5]) rfl) ?_
        refine Eq.trans (rn_aI (L' := [.ref a0, .int x1, .int x2, .int x3, am_un]) rfl rfl) ?_
        refine eI_c (fun x_6 => ?_)
        refine Eq.trans (rn_go 1 (pc' := 49) (L' := [.ref a0, .int x1, .int x2, .int x3, am_un]) (st' := [.int (16 : Int32), .int x_6]) rfl) ?_
        refine Eq.trans (rn_icne (L' := [.ref a0, .int x1, .int x2, .int x3, am_un]) rfl rfl) ?_
        refine if_c ?_ ?_
        · refine Eq.trans (rn_go 1 (pc' := 54) (L' := [.ref a0, .int x1, .int x2, .int x3, am_un]) (st' := [.int (-(2 : Int32))]) rfl) ?_
          exact rn_retI rfl rfl rfl
        · rfl
    · rfl
  · refine Eq.trans (rn_go 1 (pc' := 32) (L' := [.ref a0, .int x1, .int x2, .int x3, am_un]) (st' := [.int (0 : Int32)]) rfl) ?_
    exact rn_retI rfl rfl rfl
theorem dc_X13_put_55 {B : Nat} (a0 : Nat) (x1 : Int32) (x2 : Int32) (x3 : Int32) (s : am_S) : rn_ tb_ct tb_mt B mm_X13_put 55 [.ref a0, .int x1, .int x2, .int x3, am_un] [] s = if x3 ≤ 0 then rn_ tb_ct tb_mt B mm_X13_put 70 [.ref a0, .int x1, .int x2, .int x3, am_un] [] s else eC (am_cls s a0) 11 (cI (cl_ tb_ct tb_mt B K_X13_isLease [.ref a0, .int x3] s) (fun x_2 s_1 => if x_2 = 0 then some (.inl (some (.int (-(3 : Int32)))), s_1) else rn_ tb_ct tb_mt B mm_X13_put 70 [.ref a0, .int x1, .int x2, .int x3, am_un] [] s_1) xo) := by
  refine Eq.trans (rn_go 1 (pc' := 56) (L' := [.ref a0, .int x1, .int x2, .int x3, am_un]) (st' := [.int x3]) rfl) ?_
  refine Eq.trans (rn_ifle (L' := [.ref a0, .int x1, .int x2, .int x3, am_un]) rfl rfl) ?_
  refine if_c ?_ ?_
  · rfl
  · refine Eq.trans (rn_go 2 (pc' := 61) (L' := [.ref a0, .int x1, .int x2, .int x3, am_un]) (st' := [.int x3, .ref a0]) rfl) ?_
    refine Eq.trans (rn_vir (L' := [.ref a0, .int x1, .int x2, .int x3, am_un]) (as := [.int x3]) (rest := []) rfl rfl rfl rfl rfl (Nat.le_of_ble_eq_true rfl) (by decide) (by decide)) ?_
    refine eC_c ?_
    refine Eq.trans (cW_I rfl rfl rfl) ?_
    refine cI_c (fun x_2 s_1 => ?_) (xh_nil rfl)
    refine Eq.trans (rn_ifne (L' := [.ref a0, .int x1, .int x2, .int x3, am_un]) rfl rfl) ?_
    refine if_c ?_ ?_
    · refine Eq.trans (rn_go 1 (pc' := 69) (L' := [.ref a0, .int x1, .int x2, .int x3, am_un]) (st' := [.int (-(3 : Int32))]) rfl) ?_
      exact rn_retI rfl rfl rfl
    · rfl
theorem dc_X13_put_70 {B : Nat} (a0 : Nat) (x1 : Int32) (x2 : Int32) (x3 : Int32) (s : am_S) : rn_ tb_ct tb_mt B mm_X13_put 70 [.ref a0, .int x1, .int x2, .int x3, am_un] [] s = eA (gA tb_ct s a0 11 0) (none) (fun b_1 => eI (aI s b_1 (0 : Int32)) (fun x_2 => eS (wI B s b_1 (0 : Int32) (x_2 + (1 : Int32))) (fun s_3 => eC (am_cls s_3 a0) 11 (cV (cl_ tb_ct tb_mt B K_X13_writes [.ref a0, .int x1, .int x2, .int x3] s_3) (fun s_4 => eA (gA tb_ct s_4 a0 11 0) (none) (fun b_5 => eI (aI s_4 b_5 (0 : Int32)) (fun x_6 => eC (am_cls s_4 a0) 11 (cV (cl_ tb_ct tb_mt B K_X13_settles [.ref a0] s_4) (fun s_7 => some (.inl (some (.int x_6)), s_7)) xo)))) xo)))) := by
  refine Eq.trans (rn_go 1 (pc' := 71) (L' := [.ref a0, .int x1, .int x2, .int x3, am_un]) (st' := [.ref a0]) rfl) ?_
  refine Eq.trans (rn_gA (L' := [.ref a0, .int x1, .int x2, .int x3, am_un]) rfl rfl rfl rfl) ?_
  refine eA_c ?_ (fun b_1 => ?_)
  · refine Eq.trans (rn_go 2 (pc' := 76) (L' := [.ref a0, .int x1, .int x2, .int x3, am_un]) (st' := [.int (0 : Int32), .null, .int (0 : Int32), .null]) rfl) ?_
    exact rn_z rfl rfl
  · refine Eq.trans (rn_go 2 (pc' := 76) (L' := [.ref a0, .int x1, .int x2, .int x3, am_un]) (st' := [.int (0 : Int32), .ref b_1, .int (0 : Int32), .ref b_1]) rfl) ?_
    refine Eq.trans (rn_aI (L' := [.ref a0, .int x1, .int x2, .int x3, am_un]) rfl rfl) ?_
    refine eI_c (fun x_2 => ?_)
    refine Eq.trans (rn_go 2 (pc' := 79) (L' := [.ref a0, .int x1, .int x2, .int x3, am_un]) (st' := [.int (x_2 + (1 : Int32)), .int (0 : Int32), .ref b_1]) rfl) ?_
    refine Eq.trans (rn_wI (L' := [.ref a0, .int x1, .int x2, .int x3, am_un]) rfl rfl) ?_
    refine eS_c (fun s_3 => ?_)
    refine Eq.trans (rn_go 4 (pc' := 84) (L' := [.ref a0, .int x1, .int x2, .int x3, am_un]) (st' := [.int x3, .int x2, .int x1, .ref a0]) rfl) ?_
    refine Eq.trans (rn_vir (L' := [.ref a0, .int x1, .int x2, .int x3, am_un]) (as := [.int x1, .int x2, .int x3]) (rest := []) rfl rfl rfl rfl rfl (Nat.le_of_ble_eq_true rfl) (by decide) (by decide)) ?_
    refine eC_c ?_
    refine Eq.trans (cW_V rfl rfl) ?_
    refine cV_c (fun s_4 => ?_) (xh_nil rfl)
    refine Eq.trans (rn_go 1 (pc' := 88) (L' := [.ref a0, .int x1, .int x2, .int x3, am_un]) (st' := [.ref a0]) rfl) ?_
    refine Eq.trans (rn_gA (L' := [.ref a0, .int x1, .int x2, .int x3, am_un]) rfl rfl rfl rfl) ?_
    refine eA_c ?_ (fun b_5 => ?_)
    · refine Eq.trans (rn_go 1 (pc' := 92) (L' := [.ref a0, .int x1, .int x2, .int x3, am_un]) (st' := [.int (0 : Int32), .null]) rfl) ?_
      exact rn_z rfl rfl
    · refine Eq.trans (rn_go 1 (pc' := 92) (L' := [.ref a0, .int x1, .int x2, .int x3, am_un]) (st' := [.int (0 : Int32), .ref b_5]) rfl) ?_
      refine Eq.trans (rn_aI (L' := [.ref a0, .int x1, .int x2, .int x3, am_un]) rfl rfl) ?_
      refine eI_c (fun x_6 => ?_)
      refine Eq.trans (rn_go 2 (pc' := 96) (L' := [.ref a0, .int x1, .int x2, .int x3, .int x_6]) (st' := [.ref a0]) rfl) ?_
      refine Eq.trans (rn_vir (L' := [.ref a0, .int x1, .int x2, .int x3, .int x_6]) (as := []) (rest := []) rfl rfl rfl rfl rfl (Nat.le_of_ble_eq_true rfl) (by decide) (by decide)) ?_
      refine eC_c ?_
      refine Eq.trans (cW_V rfl rfl) ?_
      refine cV_c (fun s_7 => ?_) (xh_nil rfl)
      refine Eq.trans (rn_go 1 (pc' := 101) (L' := [.ref a0, .int x1, .int x2, .int x3, .int x_6]) (st' := [.int x_6]) rfl) ?_
      exact rn_retI rfl rfl rfl
theorem in_X13_deletesAll {B : Nat} (a0 : Nat) (x1 : Int32) (s : am_S) : cl_ tb_ct tb_mt B K_X13_deletesAll [.ref a0, .int x1] s = rn_ tb_ct tb_mt B mm_X13_deletesAll 0 [.ref a0, .int x1, am_un] [] s := cl_in rfl rfl rfl rfl
theorem dc_X13_deletesAll_0 {B : Nat} (a0 : Nat) (x1 : Int32) (s : am_S) : rn_ tb_ct tb_mt B mm_X13_deletesAll 0 [.ref a0, .int x1, am_un] [] s = if x1 ≤ 0 then rn_ tb_ct tb_mt B mm_X13_deletesAll 14 [.ref a0, .int x1, am_un] [] s else eA (gA tb_ct s a0 11 0) (none) (fun b_1 => eI (aI s b_1 (0 : Int32)) (fun x_2 => eS (wI B s b_1 (0 : Int32) (x_2 + (1 : Int32))) (fun s_3 => rn_ tb_ct tb_mt B mm_X13_deletesAll 14 [.ref a0, .int x1, am_un] [] s_3))) := by
  refine Eq.trans (rn_go 1 (pc' := 1) (L' := [.ref a0, .int x1, am_un]) (st' := [.int x1]) rfl) ?_
  refine Eq.trans (rn_ifle (L' := [.ref a0, .int x1, am_un]) rfl rfl) ?_
  refine if_c ?_ ?_
  · rfl
  · refine Eq.trans (rn_go 1 (pc' := 5) (L' := [.ref a0, .int x1, am_un]) (st' := [.ref a0]) rfl) ?_
    refine Eq.trans (rn_gA (L' := [.ref a0, .int x1, am_un]) rfl rfl rfl rfl) ?_
    refine eA_c ?_ (fun b_1 => ?_)
    · refine Eq.trans (rn_go 2 (pc' := 10) (L' := [.ref a0, .int x1, am_un]) (st' := [.int (0 : Int32), .null, .int (0 : Int32), .null]) rfl) ?_
      exact rn_z rfl rfl
    · refine Eq.trans (rn_go 2 (pc' := 10) (L' := [.ref a0, .int x1, am_un]) (st' := [.int (0 : Int32), .ref b_1, .int (0 : Int32), .ref b_1]) rfl) ?_
      refine Eq.trans (rn_aI (L' := [.ref a0, .int x1, am_un]) rfl rfl) ?_
      refine eI_c (fun x_2 => ?_)
      refine Eq.trans (rn_go 2 (pc' := 13) (L' := [.ref a0, .int x1, am_un]) (st' := [.int (x_2 + (1 : Int32)), .int (0 : Int32), .ref b_1]) rfl) ?_
      refine Eq.trans (rn_wI (L' := [.ref a0, .int x1, am_un]) rfl rfl) ?_
      refine eS_c (fun s_3 => ?_)
      rfl
theorem dc_X13_deletesAll_14 {B : Nat} (a0 : Nat) (x1 : Int32) (s : am_S) : rn_ tb_ct tb_mt B mm_X13_deletesAll 14 [.ref a0, .int x1, am_un] [] s = rn_ tb_ct tb_mt B mm_X13_deletesAll 16 [.ref a0, .int x1, .int (0 : Int32)] [] s := by
  exact rn_go 2 (pc' := 16) (L' := [.ref a0, .int x1, .int (0 : Int32)]) (st' := []) rfl
theorem dc_X13_deletesAll_16 {B : Nat} (a0 : Nat) (x1 : Int32) (x2 : Int32) (s : am_S) : rn_ tb_ct tb_mt B mm_X13_deletesAll 16 [.ref a0, .int x1, .int x2] [] s = if x1 ≤ x2 then eC (am_cls s a0) 11 (cV (cl_ tb_ct tb_mt B K_X13_settles [.ref a0] s) (fun s_1 => some (.inl (some (.int x1)), s_1)) xo) else eA (gA tb_ct s a0 11 19) (none) (fun b_2 => eI (aI s b_2 x2) (fun x_3 => eC (am_cls s a0) 11 (cV (cl_ tb_ct tb_mt B K_X13_deletes [.ref a0, .int x_3] s) (fun s_4 => rn_ tb_ct tb_mt B mm_X13_deletesAll 16 [.ref a0, .int x1, .int (x2 + (1 : Int32))] [] s_4) xo))) := by
  refine Eq.trans (rn_go 2 (pc' := 18) (L' := [.ref a0, .int x1, .int x2]) (st' := [.int x1, .int x2]) rfl) ?_
  refine Eq.trans (rn_icge (L' := [.ref a0, .int x1, .int x2]) rfl rfl) ?_
  refine if_c ?_ ?_
  · refine Eq.trans (rn_go 1 (pc' := 38) (L' := [.ref a0, .int x1, .int x2]) (st' := [.ref a0]) rfl) ?_
    refine Eq.trans (rn_vir (L' := [.ref a0, .int x1, .int x2]) (as := []) (rest := []) rfl rfl rfl rfl rfl (Nat.le_of_ble_eq_true rfl) (by decide) (by decide)) ?_
    refine eC_c ?_
    refine Eq.trans (cW_V rfl rfl) ?_
    refine cV_c (fun s_1 => ?_) (xh_nil rfl)
    refine Eq.trans (rn_go 1 (pc' := 42) (L' := [.ref a0, .int x1, .int x2]) (st' := [.int x1]) rfl) ?_
    exact rn_retI rfl rfl rfl
  · refine Eq.trans (rn_go 2 (pc' := 23) (L' := [.ref a0, .int x1, .int x2]) (st' := [.ref a0, .ref a0]) rfl) ?_
    refine Eq.trans (rn_gA (L' := [.ref a0, .int x1, .int x2]) rfl rfl rfl rfl) ?_
    refine eA_c ?_ (fun b_2 => ?_)
    · refine Eq.trans (rn_go 1 (pc' := 27) (L' := [.ref a0, .int x1, .int x2]) (st' := [.int x2, .null, .ref a0]) rfl) ?_
      exact rn_z rfl rfl
    · refine Eq.trans (rn_go 1 (pc' := 27) (L' := [.ref a0, .int x1, .int x2]) (st' := [.int x2, .ref b_2, .ref a0]) rfl) ?_
      refine Eq.trans (rn_aI (L' := [.ref a0, .int x1, .int x2]) rfl rfl) ?_
      refine eI_c (fun x_3 => ?_)
      refine Eq.trans (rn_vir (L' := [.ref a0, .int x1, .int x2]) (as := [.int x_3]) (rest := []) rfl rfl rfl rfl rfl (Nat.le_of_ble_eq_true rfl) (by decide) (by decide)) ?_
      refine eC_c ?_
      refine Eq.trans (cW_V rfl rfl) ?_
      refine cV_c (fun s_4 => ?_) (xh_nil rfl)
      exact rn_go 2 (pc' := 16) (L' := [.ref a0, .int x1, .int (x2 + (1 : Int32))]) (st' := []) rfl
theorem in_X13_delete {B : Nat} (a0 : Nat) (x1 : Int32) (x2 : Int32) (s : am_S) : cl_ tb_ct tb_mt B K_X13_delete [.ref a0, .int x1, .int x2] s = rn_ tb_ct tb_mt B mm_X13_delete 0 [.ref a0, .int x1, .int x2, am_un, am_un] [] s := cl_in rfl rfl rfl rfl
theorem dc_X13_delete_0 {B : Nat} (a0 : Nat) (x1 : Int32) (x2 : Int32) (s : am_S) : rn_ tb_ct tb_mt B mm_X13_delete 0 [.ref a0, .int x1, .int x2, am_un, am_un] [] s = cI (cl_ tb_ct tb_mt B K_X13_isRange [.int x1, .int x2] s) (fun x_2 s_1 => eC (am_cls s_1 a0) 11 (cI (cl_ tb_ct tb_mt B K_X13_isThrown [.ref a0, .int x_2, .int (1 : Int32)] s_1) (fun x_4 s_3 => if x_4 = 0 then rn_ tb_ct tb_mt B mm_X13_delete 20 [.ref a0, .int x1, .int x2, .int (0 : Int32), .int (0 : Int32)] [] s_3 else some (.inl (some (.int (0 : Int32))), s_3)) xo)) xo := by
  refine Eq.trans (rn_go 3 (pc' := 3) (L' := [.ref a0, .int x1, .int x2, am_un, am_un]) (st' := [.int x2, .int x1, .ref a0]) rfl) ?_
  refine Eq.trans (rn_sta (L' := [.ref a0, .int x1, .int x2, am_un, am_un]) (as := [.int x1, .int x2]) (rest := [.ref a0]) rfl rfl rfl rfl rfl (Nat.le_of_ble_eq_true rfl) (by decide) rfl) ?_
  refine Eq.trans (cW_I rfl rfl rfl) ?_
  refine cI_c (fun x_2 s_1 => ?_) (xh_nil rfl)
  refine Eq.trans (rn_go 1 (pc' := 7) (L' := [.ref a0, .int x1, .int x2, am_un, am_un]) (st' := [.int (1 : Int32), .int x_2, .ref a0]) rfl) ?_
  refine Eq.trans (rn_vir (L' := [.ref a0, .int x1, .int x2, am_un, am_un]) (as := [.int x_2, .int (1 : Int32)]) (rest := []) rfl rfl rfl rfl rfl (Nat.le_of_ble_eq_true rfl) (by decide) (by decide)) ?_
  refine eC_c ?_
  refine Eq.trans (cW_I rfl rfl rfl) ?_
  refine cI_c (fun x_4 s_3 => ?_) (xh_nil rfl)
  refine Eq.trans (rn_ifeq (L' := [.ref a0, .int x1, .int x2, am_un, am_un]) rfl rfl) ?_
  refine if_c ?_ ?_
  · exact rn_go 4 (pc' := 20) (L' := [.ref a0, .int x1, .int x2, .int (0 : Int32), .int (0 : Int32)]) (st' := []) rfl
  · refine Eq.trans (rn_go 1 (pc' := 14) (L' := [.ref a0, .int x1, .int x2, am_un, am_un]) (st' := [.int (0 : Int32)]) rfl) ?_
    exact rn_retI rfl rfl rfl
theorem dc_X13_delete_20 {B : Nat} (a0 : Nat) (x1 : Int32) (x2 : Int32) (x3 : Int32) (x4 : Int32) (s : am_S) : rn_ tb_ct tb_mt B mm_X13_delete 20 [.ref a0, .int x1, .int x2, .int x3, .int x4] [] s = eA (gA tb_ct s a0 11 0) (none) (fun b_1 => eI (aI s b_1 (3 : Int32)) (fun x_2 => if x_2 ≤ x4 then eC (am_cls s a0) 11 (cI (cl_ tb_ct tb_mt B K_X13_deletesAll [.ref a0, .int x3] s) (fun x_4 s_3 => some (.inl (some (.int x_4)), s_3)) xo) else eC (am_cls s a0) 11 (cI (cl_ tb_ct tb_mt B K_X13_isIn [.ref a0, .int x4, .int x1, .int x2] s) (fun x_6 s_5 => if x_6 = 0 then rn_ tb_ct tb_mt B mm_X13_delete 58 [.ref a0, .int x1, .int x2, .int x3, .int x4] [] s_5 else eA (gA tb_ct s_5 a0 11 19) (eC (am_cls s_5 a0) 11 (cI (cl_ tb_ct tb_mt B K_X13_keyAt [.ref a0, .int x4, .int (0 : Int32)] s_5) (fun x_9 s_8 => none) xo)) (fun b_7 => eC (am_cls s_5 a0) 11 (cI (cl_ tb_ct tb_mt B K_X13_keyAt [.ref a0, .int x4, .int (0 : Int32)] s_5) (fun x_11 s_10 => eS (wI B s_10 b_7 x3 x_11) (fun s_12 => rn_ tb_ct tb_mt B mm_X13_delete 58 [.ref a0, .int x1, .int x2, .int (x3 + (1 : Int32)), .int x4] [] s_12)) xo))) xo))) := by
  refine Eq.trans (rn_go 2 (pc' := 23) (L' := [.ref a0, .int x1, .int x2, .int x3, .int x4]) (st' := [.ref a0, .int x4]) rfl) ?_
  refine Eq.trans (rn_gA (L' := [.ref a0, .int x1, .int x2, .int x3, .int x4]) rfl rfl rfl rfl) ?_
  refine eA_c ?_ (fun b_1 => ?_)
  · refine Eq.trans (rn_go 1 (pc' := 27) (L' := [.ref a0, .int x1, .int x2, .int x3, .int x4]) (st' := [.int (3 : Int32), .null, .int x4]) rfl) ?_
    exact rn_z rfl rfl
  · refine Eq.trans (rn_go 1 (pc' := 27) (L' := [.ref a0, .int x1, .int x2, .int x3, .int x4]) (st' := [.int (3 : Int32), .ref b_1, .int x4]) rfl) ?_
    refine Eq.trans (rn_aI (L' := [.ref a0, .int x1, .int x2, .int x3, .int x4]) rfl rfl) ?_
    refine eI_c (fun x_2 => ?_)
    refine Eq.trans (rn_icge (L' := [.ref a0, .int x1, .int x2, .int x3, .int x4]) rfl rfl) ?_
    refine if_c ?_ ?_
    · refine Eq.trans (rn_go 2 (pc' := 66) (L' := [.ref a0, .int x1, .int x2, .int x3, .int x4]) (st' := [.int x3, .ref a0]) rfl) ?_
      refine Eq.trans (rn_vir (L' := [.ref a0, .int x1, .int x2, .int x3, .int x4]) (as := [.int x3]) (rest := []) rfl rfl rfl rfl rfl (Nat.le_of_ble_eq_true rfl) (by decide) (by decide)) ?_
      refine eC_c ?_
      refine Eq.trans (cW_I rfl rfl rfl) ?_
      refine cI_c (fun x_4 s_3 => ?_) (xh_nil rfl)
      exact rn_retI rfl rfl rfl
    · refine Eq.trans (rn_go 4 (pc' := 36) (L' := [.ref a0, .int x1, .int x2, .int x3, .int x4]) (st' := [.int x2, .int x1, .int x4, .ref a0]) rfl) ?_
      refine Eq.trans (rn_vir (L' := [.ref a0, .int x1, .int x2, .int x3, .int x4]) (as := [.int x4, .int x1, .int x2]) (rest := []) rfl rfl rfl rfl rfl (Nat.le_of_ble_eq_true rfl) (by decide) (by decide)) ?_
      refine eC_c ?_
      refine Eq.trans (cW_I rfl rfl rfl) ?_
      refine cI_c (fun x_6 s_5 => ?_) (xh_nil rfl)
      refine Eq.trans (rn_ifeq (L' := [.ref a0, .int x1, .int x2, .int x3, .int x4]) rfl rfl) ?_
      refine if_c ?_ ?_
      · rfl
      · refine Eq.trans (rn_go 1 (pc' := 43) (L' := [.ref a0, .int x1, .int x2, .int x3, .int x4]) (st' := [.ref a0]) rfl) ?_
        refine Eq.trans (rn_gA (L' := [.ref a0, .int x1, .int x2, .int x3, .int x4]) rfl rfl rfl rfl) ?_
        refine eA_c ?_ (fun b_7 => ?_)
        · refine Eq.trans (rn_go 4 (pc' := 51) (L' := [.ref a0, .int x1, .int x2, .int x3, .int x4]) (st' := [.int (0 : Int32), .int x4, .ref a0, .int x3, .null]) rfl) ?_
          refine Eq.trans (rn_vir (L' := [.ref a0, .int x1, .int x2, .int x3, .int x4]) (as := [.int x4, .int (0 : Int32)]) (rest := [.int x3, .null]) rfl rfl rfl rfl rfl (Nat.le_of_ble_eq_true rfl) (by decide) (by decide)) ?_
          refine eC_c ?_
          refine Eq.trans (cW_I rfl rfl rfl) ?_
          refine cI_c (fun x_9 s_8 => ?_) (xh_nil rfl)
          exact rn_z rfl rfl
        · refine Eq.trans (rn_go 4 (pc' := 51) (L' := [.ref a0, .int x1, .int x2, .int x3, .int x4]) (st' := [.int (0 : Int32), .int x4, .ref a0, .int x3, .ref b_7]) rfl) ?_
          refine Eq.trans (rn_vir (L' := [.ref a0, .int x1, .int x2, .int x3, .int x4]) (as := [.int x4, .int (0 : Int32)]) (rest := [.int x3, .ref b_7]) rfl rfl rfl rfl rfl (Nat.le_of_ble_eq_true rfl) (by decide) (by decide)) ?_
          refine eC_c ?_
          refine Eq.trans (cW_I rfl rfl rfl) ?_
          refine cI_c (fun x_11 s_10 => ?_) (xh_nil rfl)
          refine Eq.trans (rn_wI (L' := [.ref a0, .int x1, .int x2, .int x3, .int x4]) rfl rfl) ?_
          refine eS_c (fun s_12 => ?_)
          exact rn_go 1 (pc' := 58) (L' := [.ref a0, .int x1, .int x2, .int (x3 + (1 : Int32)), .int x4]) (st' := []) rfl
theorem dc_X13_delete_58 {B : Nat} (a0 : Nat) (x1 : Int32) (x2 : Int32) (x3 : Int32) (x4 : Int32) (s : am_S) : rn_ tb_ct tb_mt B mm_X13_delete 58 [.ref a0, .int x1, .int x2, .int x3, .int x4] [] s = rn_ tb_ct tb_mt B mm_X13_delete 20 [.ref a0, .int x1, .int x2, .int x3, .int (x4 + (1 : Int32))] [] s := by
  exact rn_go 2 (pc' := 20) (L' := [.ref a0, .int x1, .int x2, .int x3, .int (x4 + (1 : Int32))]) (st' := []) rfl
theorem in_X13_compact {B : Nat} (a0 : Nat) (x1 : Int32) (s : am_S) : cl_ tb_ct tb_mt B K_X13_compact [.ref a0, .int x1] s = rn_ tb_ct tb_mt B mm_X13_compact 0 [.ref a0, .int x1] [] s := cl_in rfl rfl rfl rfl
theorem dc_X13_compact_0 {B : Nat} (a0 : Nat) (x1 : Int32) (s : am_S) : rn_ tb_ct tb_mt B mm_X13_compact 0 [.ref a0, .int x1] [] s = if x1 < (1 : Int32) then rn_ tb_ct tb_mt B mm_X13_compact 11 [.ref a0, .int x1] [.int (0 : Int32), .ref a0] s else rn_ tb_ct tb_mt B mm_X13_compact 11 [.ref a0, .int x1] [.int (1 : Int32), .ref a0] s := by
  refine Eq.trans (rn_go 3 (pc' := 3) (L' := [.ref a0, .int x1]) (st' := [.int (1 : Int32), .int x1, .ref a0]) rfl) ?_
  refine Eq.trans (rn_iclt (L' := [.ref a0, .int x1]) rfl rfl) ?_
  refine if_c ?_ ?_
  · exact rn_go 1 (pc' := 11) (L' := [.ref a0, .int x1]) (st' := [.int (0 : Int32), .ref a0]) rfl
  · exact rn_go 2 (pc' := 11) (L' := [.ref a0, .int x1]) (st' := [.int (1 : Int32), .ref a0]) rfl
theorem dc_X13_compact_11 {B : Nat} (a0 : Nat) (x1 : Int32) (xs0 : Int32) (as1 : Nat) (s : am_S) : rn_ tb_ct tb_mt B mm_X13_compact 11 [.ref a0, .int x1] [.int xs0, .ref as1] s = eC (am_cls s as1) 11 (cI (cl_ tb_ct tb_mt B K_X13_isThrown [.ref as1, .int xs0, .int (1 : Int32)] s) (fun x_2 s_1 => if x_2 = 0 then eA (gA tb_ct s_1 a0 11 0) (none) (fun b_3 => eI (aI s_1 b_3 (1 : Int32)) (fun x_4 => if x_4 < x1 then eA (gA tb_ct s_1 a0 11 0) (none) (fun b_5 => eI (aI s_1 b_5 (0 : Int32)) (fun x_6 => if x1 ≤ x_6 then eC (am_cls s_1 a0) 11 (cI (cl_ tb_ct tb_mt B K_X13_compacts [.ref a0, .int x1] s_1) (fun x_8 s_7 => some (.inl (some (.int x_8)), s_7)) xo) else some (.inl (some (.int (-(2000000002 : Int32)))), s_1))) else some (.inl (some (.int (-(2000000001 : Int32)))), s_1))) else some (.inl (some (.int (0 : Int32))), s_1)) xo) := by
  refine Eq.trans (rn_go 1 (pc' := 12) (L' := [.ref a0, .int x1]) (st' := [.int (1 : Int32), .int xs0, .ref as1]) rfl) ?_
  refine Eq.trans (rn_vir (L' := [.ref a0, .int x1]) (as := [.int xs0, .int (1 : Int32)]) (rest := []) rfl rfl rfl rfl rfl (Nat.le_of_ble_eq_true rfl) (by decide) (by decide)) ?_
  refine eC_c ?_
  refine Eq.trans (cW_I rfl rfl rfl) ?_
  refine cI_c (fun x_2 s_1 => ?_) (xh_nil rfl)
  refine Eq.trans (rn_ifeq (L' := [.ref a0, .int x1]) rfl rfl) ?_
  refine if_c ?_ ?_
  · refine Eq.trans (rn_go 2 (pc' := 22) (L' := [.ref a0, .int x1]) (st' := [.ref a0, .int x1]) rfl) ?_
    refine Eq.trans (rn_gA (L' := [.ref a0, .int x1]) rfl rfl rfl rfl) ?_
    refine eA_c ?_ (fun b_3 => ?_)
    · refine Eq.trans (rn_go 1 (pc' := 26) (L' := [.ref a0, .int x1]) (st' := [.int (1 : Int32), .null, .int x1]) rfl) ?_
      exact rn_z rfl rfl
    · refine Eq.trans (rn_go 1 (pc' := 26) (L' := [.ref a0, .int x1]) (st' := [.int (1 : Int32), .ref b_3, .int x1]) rfl) ?_
      refine Eq.trans (rn_aI (L' := [.ref a0, .int x1]) rfl rfl) ?_
      refine eI_c (fun x_4 => ?_)
      refine Eq.trans (rn_icgt (L' := [.ref a0, .int x1]) rfl rfl) ?_
      refine if_c ?_ ?_
      · refine Eq.trans (rn_go 2 (pc' := 35) (L' := [.ref a0, .int x1]) (st' := [.ref a0, .int x1]) rfl) ?_
        refine Eq.trans (rn_gA (L' := [.ref a0, .int x1]) rfl rfl rfl rfl) ?_
        refine eA_c ?_ (fun b_5 => ?_)
        · refine Eq.trans (rn_go 1 (pc' := 39) (L' := [.ref a0, .int x1]) (st' := [.int (0 : Int32), .null, .int x1]) rfl) ?_
          exact rn_z rfl rfl
        · refine Eq.trans (rn_go 1 (pc' := 39) (L' := [.ref a0, .int x1]) (st' := [.int (0 : Int32), .ref b_5, .int x1]) rfl) ?_
          refine Eq.trans (rn_aI (L' := [.ref a0, .int x1]) rfl rfl) ?_
          refine eI_c (fun x_6 => ?_)
          refine Eq.trans (rn_icle (L' := [.ref a0, .int x1]) rfl rfl) ?_
          refine if_c ?_ ?_
          · refine Eq.trans (rn_go 2 (pc' := 50) (L' := [.ref a0, .int x1]) (st' := [.int x1, .ref a0]) rfl) ?_
            refine Eq.trans (rn_vir (L' := [.ref a0, .int x1]) (as := [.int x1]) (rest := []) rfl rfl rfl rfl rfl (Nat.le_of_ble_eq_true rfl) (by decide) (by decide)) ?_
            refine eC_c ?_
            refine Eq.trans (cW_I rfl rfl rfl) ?_
            refine cI_c (fun x_8 s_7 => ?_) (xh_nil rfl)
            exact rn_retI rfl rfl rfl
          · refine Eq.trans (rn_go 2 (pc' := 53) (L' := [.ref a0, .int x1]) (st' := [.int (-(2000000002 : Int32))]) rfl) ?_
            exact rn_retI rfl rfl rfl
      · refine Eq.trans (rn_go 1 (pc' := 32) (L' := [.ref a0, .int x1]) (st' := [.int (-(2000000001 : Int32))]) rfl) ?_
        exact rn_retI rfl rfl rfl
  · refine Eq.trans (rn_go 1 (pc' := 19) (L' := [.ref a0, .int x1]) (st' := [.int (0 : Int32)]) rfl) ?_
    exact rn_retI rfl rfl rfl
theorem in_X13_revert {B : Nat} (a0 : Nat) (x1 : Int32) (s : am_S) : cl_ tb_ct tb_mt B K_X13_revert [.ref a0, .int x1] s = rn_ tb_ct tb_mt B mm_X13_revert 0 [.ref a0, .int x1, am_un, am_un, am_un, am_un, am_un] [] s := cl_in rfl rfl rfl rfl
theorem dc_X13_revert_0 {B : Nat} (a0 : Nat) (x1 : Int32) (s : am_S) : rn_ tb_ct tb_mt B mm_X13_revert 0 [.ref a0, .int x1, am_un, am_un, am_un, am_un, am_un] [] s = if x1 < (1 : Int32) then rn_ tb_ct tb_mt B mm_X13_revert 11 [.ref a0, .int x1, am_un, am_un, am_un, am_un, am_un] [.int (0 : Int32), .ref a0] s else rn_ tb_ct tb_mt B mm_X13_revert 11 [.ref a0, .int x1, am_un, am_un, am_un, am_un, am_un] [.int (1 : Int32), .ref a0] s := by
  refine Eq.trans (rn_go 3 (pc' := 3) (L' := [.ref a0, .int x1, am_un, am_un, am_un, am_un, am_un]) (st' := [.int (1 : Int32), .int x1, .ref a0]) rfl) ?_
  refine Eq.trans (rn_iclt (L' := [.ref a0, .int x1, am_un, am_un, am_un, am_un, am_un]) rfl rfl) ?_
  refine if_c ?_ ?_
  · exact rn_go 1 (pc' := 11) (L' := [.ref a0, .int x1, am_un, am_un, am_un, am_un, am_un]) (st' := [.int (0 : Int32), .ref a0]) rfl
  · exact rn_go 2 (pc' := 11) (L' := [.ref a0, .int x1, am_un, am_un, am_un, am_un, am_un]) (st' := [.int (1 : Int32), .ref a0]) rfl
theorem dc_X13_revert_11 {B : Nat} (a0 : Nat) (x1 : Int32) (xs0 : Int32) (as1 : Nat) (s : am_S) : rn_ tb_ct tb_mt B mm_X13_revert 11 [.ref a0, .int x1, am_un, am_un, am_un, am_un, am_un] [.int xs0, .ref as1] s = eC (am_cls s as1) 11 (cI (cl_ tb_ct tb_mt B K_X13_isThrown [.ref as1, .int xs0, .int (1 : Int32)] s) (fun x_2 s_1 => if x_2 = 0 then eC (am_cls s_1 a0) 11 (cI (cl_ tb_ct tb_mt B K_X13_whyNot [.ref a0, .int x1] s_1) (fun x_4 s_3 => if x_4 = 0 then eC (am_cls s_3 a0) 11 (cI (cl_ tb_ct tb_mt B K_X13_laysThen [.ref a0, .int x1] s_3) (fun x_6 s_5 => rn_ tb_ct tb_mt B mm_X13_revert 44 [.ref a0, .int x1, .int x_4, .int x_6, .int (0 : Int32), .int (0 : Int32), am_un] [] s_5) xo) else some (.inl (some (.int x_4)), s_3)) xo) else some (.inl (some (.int (0 : Int32))), s_1)) xo) := by
  refine Eq.trans (rn_go 1 (pc' := 12) (L' := [.ref a0, .int x1, am_un, am_un, am_un, am_un, am_un]) (st' := [.int (1 : Int32), .int xs0, .ref as1]) rfl) ?_
  refine Eq.trans (rn_vir (L' := [.ref a0, .int x1, am_un, am_un, am_un, am_un, am_un]) (as := [.int xs0, .int (1 : Int32)]) (rest := []) rfl rfl rfl rfl rfl (Nat.le_of_ble_eq_true rfl) (by decide) (by decide)) ?_
  refine eC_c ?_
  refine Eq.trans (cW_I rfl rfl rfl) ?_
  refine cI_c (fun x_2 s_1 => ?_) (xh_nil rfl)
  refine Eq.trans (rn_ifeq (L' := [.ref a0, .int x1, am_un, am_un, am_un, am_un, am_un]) rfl rfl) ?_
  refine if_c ?_ ?_
  · refine Eq.trans (rn_go 2 (pc' := 22) (L' := [.ref a0, .int x1, am_un, am_un, am_un, am_un, am_un]) (st' := [.int x1, .ref a0]) rfl) ?_
    refine Eq.trans (rn_vir (L' := [.ref a0, .int x1, am_un, am_un, am_un, am_un, am_un]) (as := [.int x1]) (rest := []) rfl rfl rfl rfl rfl (Nat.le_of_ble_eq_true rfl) (by decide) (by decide)) ?_
    refine eC_c ?_
    refine Eq.trans (cW_I rfl rfl rfl) ?_
    refine cI_c (fun x_4 s_3 => ?_) (xh_nil rfl)
    refine Eq.trans (rn_go 2 (pc' := 27) (L' := [.ref a0, .int x1, .int x_4, am_un, am_un, am_un, am_un]) (st' := [.int x_4]) rfl) ?_
    refine Eq.trans (rn_ifeq (L' := [.ref a0, .int x1, .int x_4, am_un, am_un, am_un, am_un]) rfl rfl) ?_
    refine if_c ?_ ?_
    · refine Eq.trans (rn_go 2 (pc' := 34) (L' := [.ref a0, .int x1, .int x_4, am_un, am_un, am_un, am_un]) (st' := [.int x1, .ref a0]) rfl) ?_
      refine Eq.trans (rn_vir (L' := [.ref a0, .int x1, .int x_4, am_un, am_un, am_un, am_un]) (as := [.int x1]) (rest := []) rfl rfl rfl rfl rfl (Nat.le_of_ble_eq_true rfl) (by decide) (by decide)) ?_
      refine eC_c ?_
      refine Eq.trans (cW_I rfl rfl rfl) ?_
      refine cI_c (fun x_6 s_5 => ?_) (xh_nil rfl)
      exact rn_go 5 (pc' := 44) (L' := [.ref a0, .int x1, .int x_4, .int x_6, .int (0 : Int32), .int (0 : Int32), am_un]) (st' := []) rfl
    · refine Eq.trans (rn_go 1 (pc' := 31) (L' := [.ref a0, .int x1, .int x_4, am_un, am_un, am_un, am_un]) (st' := [.int x_4]) rfl) ?_
      exact rn_retI rfl rfl rfl
  · refine Eq.trans (rn_go 1 (pc' := 19) (L' := [.ref a0, .int x1, am_un, am_un, am_un, am_un, am_un]) (st' := [.int (0 : Int32)]) rfl) ?_
    exact rn_retI rfl rfl rfl
theorem dc_X13_revert_44 {B : Nat} (a0 : Nat) (w1 : Value) (w2 : Value) (w3 : Value) (x4 : Int32) (x5 : Int32) (s : am_S) : rn_ tb_ct tb_mt B mm_X13_revert 44 [.ref a0, w1, w2, w3, .int x4, .int x5, am_un] [] s = eA (gA tb_ct s a0 11 0) (none) (fun b_1 => eI (aI s b_1 (3 : Int32)) (fun x_2 => if x_2 ≤ x5 then rn_ tb_ct tb_mt B mm_X13_revert 100 [.ref a0, am_un, am_un, am_un, .int x4, .int (0 : Int32), .int (0 : Int32)] [] s else eC (am_cls s a0) 11 (cI (cl_ tb_ct tb_mt B K_X13_keyAt [.ref a0, .int x5, .int (0 : Int32)] s) (fun x_4 s_3 => eC (am_cls s_3 a0) 11 (cI (cl_ tb_ct tb_mt B K_X13_valueThen [.ref a0, .int x_4] s_3) (fun x_6 s_5 => if x_6 = (-(2000000000 : Int32)) then eA (gA tb_ct s_5 a0 11 19) (eC (am_cls s_5 a0) 11 (cI (cl_ tb_ct tb_mt B K_X13_keyAt [.ref a0, .int x5, .int (0 : Int32)] s_5) (fun x_9 s_8 => none) xo)) (fun b_7 => eC (am_cls s_5 a0) 11 (cI (cl_ tb_ct tb_mt B K_X13_keyAt [.ref a0, .int x5, .int (0 : Int32)] s_5) (fun x_11 s_10 => eS (wI B s_10 b_7 x4 x_11) (fun s_12 => rn_ tb_ct tb_mt B mm_X13_revert 88 [.ref a0, am_un, am_un, am_un, .int (x4 + (1 : Int32)), .int x5, am_un] [] s_12)) xo)) else rn_ tb_ct tb_mt B mm_X13_revert 88 [.ref a0, am_un, am_un, am_un, .int x4, .int x5, am_un] [] s_5) xo)) xo))) := by
  refine Eq.trans (rn_go 2 (pc' := 47) (L' := [.ref a0, am_un, am_un, am_un, .int x4, .int x5, am_un]) (st' := [.ref a0, .int x5]) rfl) ?_
  refine Eq.trans (rn_gA (L' := [.ref a0, am_un, am_un, am_un, .int x4, .int x5, am_un]) rfl rfl rfl rfl) ?_
  refine eA_c ?_ (fun b_1 => ?_)
  · refine Eq.trans (rn_go 1 (pc' := 51) (L' := [.ref a0, am_un, am_un, am_un, .int x4, .int x5, am_un]) (st' := [.int (3 : Int32), .null, .int x5]) rfl) ?_
    exact rn_z rfl rfl
  · refine Eq.trans (rn_go 1 (pc' := 51) (L' := [.ref a0, am_un, am_un, am_un, .int x4, .int x5, am_un]) (st' := [.int (3 : Int32), .ref b_1, .int x5]) rfl) ?_
    refine Eq.trans (rn_aI (L' := [.ref a0, am_un, am_un, am_un, .int x4, .int x5, am_un]) rfl rfl) ?_
    refine eI_c (fun x_2 => ?_)
    refine Eq.trans (rn_icge (L' := [.ref a0, am_un, am_un, am_un, .int x4, .int x5, am_un]) rfl rfl) ?_
    refine if_c ?_ ?_
    · exact rn_go 4 (pc' := 100) (L' := [.ref a0, am_un, am_un, am_un, .int x4, .int (0 : Int32), .int (0 : Int32)]) (st' := []) rfl
    · refine Eq.trans (rn_go 4 (pc' := 60) (L' := [.ref a0, am_un, am_un, am_un, .int x4, .int x5, am_un]) (st' := [.int (0 : Int32), .int x5, .ref a0, .ref a0]) rfl) ?_
      refine Eq.trans (rn_vir (L' := [.ref a0, am_un, am_un, am_un, .int x4, .int x5, am_un]) (as := [.int x5, .int (0 : Int32)]) (rest := [.ref a0]) rfl rfl rfl rfl rfl (Nat.le_of_ble_eq_true rfl) (by decide) (by decide)) ?_
      refine eC_c ?_
      refine Eq.trans (cW_I rfl rfl rfl) ?_
      refine cI_c (fun x_4 s_3 => ?_) (xh_nil rfl)
      refine Eq.trans (rn_vir (L' := [.ref a0, am_un, am_un, am_un, .int x4, .int x5, am_un]) (as := [.int x_4]) (rest := []) rfl rfl rfl rfl rfl (Nat.le_of_ble_eq_true rfl) (by decide) (by decide)) ?_
      refine eC_c ?_
      refine Eq.trans (cW_I rfl rfl rfl) ?_
      refine cI_c (fun x_6 s_5 => ?_) (xh_nil rfl)
      refine Eq.trans (rn_go 1 (pc' := 68) (L' := [.ref a0, am_un, am_un, am_un, .int x4, .int x5, am_un]) (st' := [.int (-(2000000000 : Int32)), .int x_6]) rfl) ?_
      refine Eq.trans (rn_icne (L' := [.ref a0, am_un, am_un, am_un, .int x4, .int x5, am_un]) rfl rfl) ?_
      refine if_c ?_ ?_
      · refine Eq.trans (rn_go 1 (pc' := 72) (L' := [.ref a0, am_un, am_un, am_un, .int x4, .int x5, am_un]) (st' := [.ref a0]) rfl) ?_
        refine Eq.trans (rn_gA (L' := [.ref a0, am_un, am_un, am_un, .int x4, .int x5, am_un]) rfl rfl rfl rfl) ?_
        refine eA_c ?_ (fun b_7 => ?_)
        · refine Eq.trans (rn_go 4 (pc' := 81) (L' := [.ref a0, am_un, am_un, am_un, .int x4, .int x5, am_un]) (st' := [.int (0 : Int32), .int x5, .ref a0, .int x4, .null]) rfl) ?_
          refine Eq.trans (rn_vir (L' := [.ref a0, am_un, am_un, am_un, .int x4, .int x5, am_un]) (as := [.int x5, .int (0 : Int32)]) (rest := [.int x4, .null]) rfl rfl rfl rfl rfl (Nat.le_of_ble_eq_true rfl) (by decide) (by decide)) ?_
          refine eC_c ?_
          refine Eq.trans (cW_I rfl rfl rfl) ?_
          refine cI_c (fun x_9 s_8 => ?_) (xh_nil rfl)
          exact rn_z rfl rfl
        · refine Eq.trans (rn_go 4 (pc' := 81) (L' := [.ref a0, am_un, am_un, am_un, .int x4, .int x5, am_un]) (st' := [.int (0 : Int32), .int x5, .ref a0, .int x4, .ref b_7]) rfl) ?_
          refine Eq.trans (rn_vir (L' := [.ref a0, am_un, am_un, am_un, .int x4, .int x5, am_un]) (as := [.int x5, .int (0 : Int32)]) (rest := [.int x4, .ref b_7]) rfl rfl rfl rfl rfl (Nat.le_of_ble_eq_true rfl) (by decide) (by decide)) ?_
          refine eC_c ?_
          refine Eq.trans (cW_I rfl rfl rfl) ?_
          refine cI_c (fun x_11 s_10 => ?_) (xh_nil rfl)
          refine Eq.trans (rn_wI (L' := [.ref a0, am_un, am_un, am_un, .int x4, .int x5, am_un]) rfl rfl) ?_
          refine eS_c (fun s_12 => ?_)
          exact rn_go 1 (pc' := 88) (L' := [.ref a0, am_un, am_un, am_un, .int (x4 + (1 : Int32)), .int x5, am_un]) (st' := []) rfl
      · rfl
theorem dc_X13_revert_88 {B : Nat} (a0 : Nat) (x4 : Int32) (x5 : Int32) (s : am_S) : rn_ tb_ct tb_mt B mm_X13_revert 88 [.ref a0, am_un, am_un, am_un, .int x4, .int x5, am_un] [] s = rn_ tb_ct tb_mt B mm_X13_revert 44 [.ref a0, am_un, am_un, am_un, .int x4, .int (x5 + (1 : Int32)), am_un] [] s := by
  exact rn_go 2 (pc' := 44) (L' := [.ref a0, am_un, am_un, am_un, .int x4, .int (x5 + (1 : Int32)), am_un]) (st' := []) rfl
theorem dc_X13_revert_100 {B : Nat} (a0 : Nat) (x4 : Int32) (x5 : Int32) (x6 : Int32) (s : am_S) : rn_ tb_ct tb_mt B mm_X13_revert 100 [.ref a0, am_un, am_un, am_un, .int x4, .int x5, .int x6] [] s = eI (gI tb_ct s a0 11 7) (fun x_1 => if x_1 ≤ x6 then if (x4 + x5) = 0 then some (.inl (some (.int (0 : Int32))), s) else eA (gA tb_ct s a0 11 0) (none) (fun b_2 => eI (aI s b_2 (0 : Int32)) (fun x_3 => eS (wI B s b_2 (0 : Int32) (x_3 + (1 : Int32))) (fun s_4 => rn_ tb_ct tb_mt B mm_X13_revert 157 [.ref a0, am_un, am_un, am_un, .int x4, .int x5, .int (0 : Int32)] [] s_4))) else eC (am_cls s a0) 11 (cI (cl_ tb_ct tb_mt B K_X13_differs [.ref a0, .int x6] s) (fun x_6 s_5 => if x_6 = 0 then rn_ tb_ct tb_mt B mm_X13_revert 125 [.ref a0, am_un, am_un, am_un, .int x4, .int x5, .int x6] [.int (0 : Int32), .int x5] s_5 else rn_ tb_ct tb_mt B mm_X13_revert 125 [.ref a0, am_un, am_un, am_un, .int x4, .int x5, .int x6] [.int (1 : Int32), .int x5] s_5) xo)) := by
  refine Eq.trans (rn_go 2 (pc' := 103) (L' := [.ref a0, am_un, am_un, am_un, .int x4, .int x5, .int x6]) (st' := [.ref a0, .int x6]) rfl) ?_
  refine Eq.trans (rn_gI (L' := [.ref a0, am_un, am_un, am_un, .int x4, .int x5, .int x6]) rfl rfl rfl rfl) ?_
  refine eI_c (fun x_1 => ?_)
  refine Eq.trans (rn_icge (L' := [.ref a0, am_un, am_un, am_un, .int x4, .int x5, .int x6]) rfl rfl) ?_
  refine if_c ?_ ?_
  · refine Eq.trans (rn_go 3 (pc' := 139) (L' := [.ref a0, am_un, am_un, am_un, .int x4, .int x5, .int x6]) (st' := [.int (x4 + x5)]) rfl) ?_
    refine Eq.trans (rn_ifne (L' := [.ref a0, am_un, am_un, am_un, .int x4, .int x5, .int x6]) rfl rfl) ?_
    refine if_c ?_ ?_
    · refine Eq.trans (rn_go 1 (pc' := 143) (L' := [.ref a0, am_un, am_un, am_un, .int x4, .int x5, .int x6]) (st' := [.int (0 : Int32)]) rfl) ?_
      exact rn_retI rfl rfl rfl
    · refine Eq.trans (rn_go 1 (pc' := 145) (L' := [.ref a0, am_un, am_un, am_un, .int x4, .int x5, .int x6]) (st' := [.ref a0]) rfl) ?_
      refine Eq.trans (rn_gA (L' := [.ref a0, am_un, am_un, am_un, .int x4, .int x5, .int x6]) rfl rfl rfl rfl) ?_
      refine eA_c ?_ (fun b_2 => ?_)
      · refine Eq.trans (rn_go 2 (pc' := 150) (L' := [.ref a0, am_un, am_un, am_un, .int x4, .int x5, .int x6]) (st' := [.int (0 : Int32), .null, .int (0 : Int32), .null]) rfl) ?_
        exact rn_z rfl rfl
      · refine Eq.trans (rn_go 2 (pc' := 150) (L' := [.ref a0, am_un, am_un, am_un, .int x4, .int x5, .int x6]) (st' := [.int (0 : Int32), .ref b_2, .int (0 : Int32), .ref b_2]) rfl) ?_
        refine Eq.trans (rn_aI (L' := [.ref a0, am_un, am_un, am_un, .int x4, .int x5, .int x6]) rfl rfl) ?_
        refine eI_c (fun x_3 => ?_)
        refine Eq.trans (rn_go 2 (pc' := 153) (L' := [.ref a0, am_un, am_un, am_un, .int x4, .int x5, .int x6]) (st' := [.int (x_3 + (1 : Int32)), .int (0 : Int32), .ref b_2]) rfl) ?_
        refine Eq.trans (rn_wI (L' := [.ref a0, am_un, am_un, am_un, .int x4, .int x5, .int x6]) rfl rfl) ?_
        refine eS_c (fun s_4 => ?_)
        exact rn_go 2 (pc' := 157) (L' := [.ref a0, am_un, am_un, am_un, .int x4, .int x5, .int (0 : Int32)]) (st' := []) rfl
  · refine Eq.trans (rn_go 3 (pc' := 114) (L' := [.ref a0, am_un, am_un, am_un, .int x4, .int x5, .int x6]) (st' := [.int x6, .ref a0, .int x5]) rfl) ?_
    refine Eq.trans (rn_vir (L' := [.ref a0, am_un, am_un, am_un, .int x4, .int x5, .int x6]) (as := [.int x6]) (rest := [.int x5]) rfl rfl rfl rfl rfl (Nat.le_of_ble_eq_true rfl) (by decide) (by decide)) ?_
    refine eC_c ?_
    refine Eq.trans (cW_I rfl rfl rfl) ?_
    refine cI_c (fun x_6 s_5 => ?_) (xh_nil rfl)
    refine Eq.trans (rn_ifeq (L' := [.ref a0, am_un, am_un, am_un, .int x4, .int x5, .int x6]) rfl rfl) ?_
    refine if_c ?_ ?_
    · exact rn_go 1 (pc' := 125) (L' := [.ref a0, am_un, am_un, am_un, .int x4, .int x5, .int x6]) (st' := [.int (0 : Int32), .int x5]) rfl
    · exact rn_go 2 (pc' := 125) (L' := [.ref a0, am_un, am_un, am_un, .int x4, .int x5, .int x6]) (st' := [.int (1 : Int32), .int x5]) rfl
theorem dc_X13_revert_125 {B : Nat} (a0 : Nat) (x4 : Int32) (w5 : Value) (x6 : Int32) (xs0 : Int32) (xs1 : Int32) (s : am_S) : rn_ tb_ct tb_mt B mm_X13_revert 125 [.ref a0, am_un, am_un, am_un, .int x4, w5, .int x6] [.int xs0, .int xs1] s = rn_ tb_ct tb_mt B mm_X13_revert 100 [.ref a0, am_un, am_un, am_un, .int x4, .int (xs1 + xs0), .int (x6 + (1 : Int32))] [] s := by
  exact rn_go 4 (pc' := 100) (L' := [.ref a0, am_un, am_un, am_un, .int x4, .int (xs1 + xs0), .int (x6 + (1 : Int32))]) (st' := []) rfl
theorem dc_X13_revert_157 {B : Nat} (a0 : Nat) (x4 : Int32) (x5 : Int32) (x6 : Int32) (s : am_S) : rn_ tb_ct tb_mt B mm_X13_revert 157 [.ref a0, am_un, am_un, am_un, .int x4, .int x5, .int x6] [] s = if x4 ≤ x6 then rn_ tb_ct tb_mt B mm_X13_revert 184 [.ref a0, am_un, am_un, am_un, .int x4, .int x5, .int (0 : Int32)] [] s else eA (gA tb_ct s a0 11 19) (none) (fun b_1 => eI (aI s b_1 x6) (fun x_2 => eC (am_cls s a0) 11 (cV (cl_ tb_ct tb_mt B K_X13_deletes [.ref a0, .int x_2] s) (fun s_3 => rn_ tb_ct tb_mt B mm_X13_revert 157 [.ref a0, am_un, am_un, am_un, .int x4, .int x5, .int (x6 + (1 : Int32))] [] s_3) xo))) := by
  refine Eq.trans (rn_go 2 (pc' := 161) (L' := [.ref a0, am_un, am_un, am_un, .int x4, .int x5, .int x6]) (st' := [.int x4, .int x6]) rfl) ?_
  refine Eq.trans (rn_icge (L' := [.ref a0, am_un, am_un, am_un, .int x4, .int x5, .int x6]) rfl rfl) ?_
  refine if_c ?_ ?_
  · exact rn_go 2 (pc' := 184) (L' := [.ref a0, am_un, am_un, am_un, .int x4, .int x5, .int (0 : Int32)]) (st' := []) rfl
  · refine Eq.trans (rn_go 2 (pc' := 166) (L' := [.ref a0, am_un, am_un, am_un, .int x4, .int x5, .int x6]) (st' := [.ref a0, .ref a0]) rfl) ?_
    refine Eq.trans (rn_gA (L' := [.ref a0, am_un, am_un, am_un, .int x4, .int x5, .int x6]) rfl rfl rfl rfl) ?_
    refine eA_c ?_ (fun b_1 => ?_)
    · refine Eq.trans (rn_go 1 (pc' := 171) (L' := [.ref a0, am_un, am_un, am_un, .int x4, .int x5, .int x6]) (st' := [.int x6, .null, .ref a0]) rfl) ?_
      exact rn_z rfl rfl
    · refine Eq.trans (rn_go 1 (pc' := 171) (L' := [.ref a0, am_un, am_un, am_un, .int x4, .int x5, .int x6]) (st' := [.int x6, .ref b_1, .ref a0]) rfl) ?_
      refine Eq.trans (rn_aI (L' := [.ref a0, am_un, am_un, am_un, .int x4, .int x5, .int x6]) rfl rfl) ?_
      refine eI_c (fun x_2 => ?_)
      refine Eq.trans (rn_vir (L' := [.ref a0, am_un, am_un, am_un, .int x4, .int x5, .int x6]) (as := [.int x_2]) (rest := []) rfl rfl rfl rfl rfl (Nat.le_of_ble_eq_true rfl) (by decide) (by decide)) ?_
      refine eC_c ?_
      refine Eq.trans (cW_V rfl rfl) ?_
      refine cV_c (fun s_3 => ?_) (xh_nil rfl)
      exact rn_go 2 (pc' := 157) (L' := [.ref a0, am_un, am_un, am_un, .int x4, .int x5, .int (x6 + (1 : Int32))]) (st' := []) rfl
theorem dc_X13_revert_184 {B : Nat} (a0 : Nat) (x4 : Int32) (x5 : Int32) (x6 : Int32) (s : am_S) : rn_ tb_ct tb_mt B mm_X13_revert 184 [.ref a0, am_un, am_un, am_un, .int x4, .int x5, .int x6] [] s = eI (gI tb_ct s a0 11 7) (fun x_1 => if x_1 ≤ x6 then eC (am_cls s a0) 11 (cV (cl_ tb_ct tb_mt B K_X13_settles [.ref a0] s) (fun s_2 => some (.inl (some (.int (x4 + x5))), s_2)) xo) else eC (am_cls s a0) 11 (cI (cl_ tb_ct tb_mt B K_X13_differs [.ref a0, .int x6] s) (fun x_4 s_3 => if x_4 = 0 then rn_ tb_ct tb_mt B mm_X13_revert 221 [.ref a0, am_un, am_un, am_un, .int x4, .int x5, .int x6] [] s_3 else eA (gA tb_ct s_3 a0 11 5) (none) (fun b_5 => eI (aI s_3 b_5 x6) (fun x_6 => eA (gA tb_ct s_3 a0 11 6) (none) (fun b_7 => eI (aI s_3 b_7 x6) (fun x_8 => eC (am_cls s_3 a0) 11 (cV (cl_ tb_ct tb_mt B K_X13_writes [.ref a0, .int x_6, .int x_8, .int (0 : Int32)] s_3) (fun s_9 => rn_ tb_ct tb_mt B mm_X13_revert 221 [.ref a0, am_un, am_un, am_un, .int x4, .int x5, .int x6] [] s_9) xo)))))) xo)) := by
  refine Eq.trans (rn_go 2 (pc' := 187) (L' := [.ref a0, am_un, am_un, am_un, .int x4, .int x5, .int x6]) (st' := [.ref a0, .int x6]) rfl) ?_
  refine Eq.trans (rn_gI (L' := [.ref a0, am_un, am_un, am_un, .int x4, .int x5, .int x6]) rfl rfl rfl rfl) ?_
  refine eI_c (fun x_1 => ?_)
  refine Eq.trans (rn_icge (L' := [.ref a0, am_un, am_un, am_un, .int x4, .int x5, .int x6]) rfl rfl) ?_
  refine if_c ?_ ?_
  · refine Eq.trans (rn_go 1 (pc' := 228) (L' := [.ref a0, am_un, am_un, am_un, .int x4, .int x5, .int x6]) (st' := [.ref a0]) rfl) ?_
    refine Eq.trans (rn_vir (L' := [.ref a0, am_un, am_un, am_un, .int x4, .int x5, .int x6]) (as := []) (rest := []) rfl rfl rfl rfl rfl (Nat.le_of_ble_eq_true rfl) (by decide) (by decide)) ?_
    refine eC_c ?_
    refine Eq.trans (cW_V rfl rfl) ?_
    refine cV_c (fun s_2 => ?_) (xh_nil rfl)
    refine Eq.trans (rn_go 3 (pc' := 236) (L' := [.ref a0, am_un, am_un, am_un, .int x4, .int x5, .int x6]) (st' := [.int (x4 + x5)]) rfl) ?_
    exact rn_retI rfl rfl rfl
  · refine Eq.trans (rn_go 2 (pc' := 196) (L' := [.ref a0, am_un, am_un, am_un, .int x4, .int x5, .int x6]) (st' := [.int x6, .ref a0]) rfl) ?_
    refine Eq.trans (rn_vir (L' := [.ref a0, am_un, am_un, am_un, .int x4, .int x5, .int x6]) (as := [.int x6]) (rest := []) rfl rfl rfl rfl rfl (Nat.le_of_ble_eq_true rfl) (by decide) (by decide)) ?_
    refine eC_c ?_
    refine Eq.trans (cW_I rfl rfl rfl) ?_
    refine cI_c (fun x_4 s_3 => ?_) (xh_nil rfl)
    refine Eq.trans (rn_ifeq (L' := [.ref a0, am_un, am_un, am_un, .int x4, .int x5, .int x6]) rfl rfl) ?_
    refine if_c ?_ ?_
    · rfl
    · refine Eq.trans (rn_go 2 (pc' := 204) (L' := [.ref a0, am_un, am_un, am_un, .int x4, .int x5, .int x6]) (st' := [.ref a0, .ref a0]) rfl) ?_
      refine Eq.trans (rn_gA (L' := [.ref a0, am_un, am_un, am_un, .int x4, .int x5, .int x6]) rfl rfl rfl rfl) ?_
      refine eA_c ?_ (fun b_5 => ?_)
      · refine Eq.trans (rn_go 1 (pc' := 209) (L' := [.ref a0, am_un, am_un, am_un, .int x4, .int x5, .int x6]) (st' := [.int x6, .null, .ref a0]) rfl) ?_
        exact rn_z rfl rfl
      · refine Eq.trans (rn_go 1 (pc' := 209) (L' := [.ref a0, am_un, am_un, am_un, .int x4, .int x5, .int x6]) (st' := [.int x6, .ref b_5, .ref a0]) rfl) ?_
        refine Eq.trans (rn_aI (L' := [.ref a0, am_un, am_un, am_un, .int x4, .int x5, .int x6]) rfl rfl) ?_
        refine eI_c (fun x_6 => ?_)
        refine Eq.trans (rn_go 1 (pc' := 211) (L' := [.ref a0, am_un, am_un, am_un, .int x4, .int x5, .int x6]) (st' := [.ref a0, .int x_6, .ref a0]) rfl) ?_
        refine Eq.trans (rn_gA (L' := [.ref a0, am_un, am_un, am_un, .int x4, .int x5, .int x6]) rfl rfl rfl rfl) ?_
        refine eA_c ?_ (fun b_7 => ?_)
        · refine Eq.trans (rn_go 1 (pc' := 216) (L' := [.ref a0, am_un, am_un, am_un, .int x4, .int x5, .int x6]) (st' := [.int x6, .null, .int x_6, .ref a0]) rfl) ?_
          exact rn_z rfl rfl
        · refine Eq.trans (rn_go 1 (pc' := 216) (L' := [.ref a0, am_un, am_un, am_un, .int x4, .int x5, .int x6]) (st' := [.int x6, .ref b_7, .int x_6, .ref a0]) rfl) ?_
          refine Eq.trans (rn_aI (L' := [.ref a0, am_un, am_un, am_un, .int x4, .int x5, .int x6]) rfl rfl) ?_
          refine eI_c (fun x_8 => ?_)
          refine Eq.trans (rn_go 1 (pc' := 218) (L' := [.ref a0, am_un, am_un, am_un, .int x4, .int x5, .int x6]) (st' := [.int (0 : Int32), .int x_8, .int x_6, .ref a0]) rfl) ?_
          refine Eq.trans (rn_vir (L' := [.ref a0, am_un, am_un, am_un, .int x4, .int x5, .int x6]) (as := [.int x_6, .int x_8, .int (0 : Int32)]) (rest := []) rfl rfl rfl rfl rfl (Nat.le_of_ble_eq_true rfl) (by decide) (by decide)) ?_
          refine eC_c ?_
          refine Eq.trans (cW_V rfl rfl) ?_
          refine cV_c (fun s_9 => ?_) (xh_nil rfl)
          rfl
theorem dc_X13_revert_221 {B : Nat} (a0 : Nat) (x4 : Int32) (x5 : Int32) (x6 : Int32) (s : am_S) : rn_ tb_ct tb_mt B mm_X13_revert 221 [.ref a0, am_un, am_un, am_un, .int x4, .int x5, .int x6] [] s = rn_ tb_ct tb_mt B mm_X13_revert 184 [.ref a0, am_un, am_un, am_un, .int x4, .int x5, .int (x6 + (1 : Int32))] [] s := by
  exact rn_go 2 (pc' := 184) (L' := [.ref a0, am_un, am_un, am_un, .int x4, .int x5, .int (x6 + (1 : Int32))]) (st' := []) rfl
theorem in_X13_differs {B : Nat} (a0 : Nat) (x1 : Int32) (s : am_S) : cl_ tb_ct tb_mt B K_X13_differs [.ref a0, .int x1] s = rn_ tb_ct tb_mt B mm_X13_differs 0 [.ref a0, .int x1] [] s := cl_in rfl rfl rfl rfl
theorem dc_X13_differs_0 {B : Nat} (a0 : Nat) (x1 : Int32) (s : am_S) : rn_ tb_ct tb_mt B mm_X13_differs 0 [.ref a0, .int x1] [] s = eA (gA tb_ct s a0 11 5) (none) (fun b_1 => eI (aI s b_1 x1) (fun x_2 => eC (am_cls s a0) 11 (cI (cl_ tb_ct tb_mt B K_X13_isThere [.ref a0, .int x_2] s) (fun x_4 s_3 => if x_4 = 0 then rn_ tb_ct tb_mt B mm_X13_differs 37 [.ref a0, .int x1] [] s_3 else eA (gA tb_ct s_3 a0 11 5) (none) (fun b_5 => eI (aI s_3 b_5 x1) (fun x_6 => eC (am_cls s_3 a0) 11 (cI (cl_ tb_ct tb_mt B K_X13_placeOf [.ref a0, .int x_6] s_3) (fun x_8 s_7 => eC (am_cls s_7 a0) 11 (cI (cl_ tb_ct tb_mt B K_X13_keyAt [.ref a0, .int x_8, .int (1 : Int32)] s_7) (fun x_10 s_9 => eA (gA tb_ct s_9 a0 11 6) (none) (fun b_11 => eI (aI s_9 b_11 x1) (fun x_12 => if x_10 = x_12 then some (.inl (some (.int (0 : Int32))), s_9) else rn_ tb_ct tb_mt B mm_X13_differs 37 [.ref a0, .int x1] [] s_9))) xo)) xo)))) xo))) := by
  refine Eq.trans (rn_go 2 (pc' := 2) (L' := [.ref a0, .int x1]) (st' := [.ref a0, .ref a0]) rfl) ?_
  refine Eq.trans (rn_gA (L' := [.ref a0, .int x1]) rfl rfl rfl rfl) ?_
  refine eA_c ?_ (fun b_1 => ?_)
  · refine Eq.trans (rn_go 1 (pc' := 6) (L' := [.ref a0, .int x1]) (st' := [.int x1, .null, .ref a0]) rfl) ?_
    exact rn_z rfl rfl
  · refine Eq.trans (rn_go 1 (pc' := 6) (L' := [.ref a0, .int x1]) (st' := [.int x1, .ref b_1, .ref a0]) rfl) ?_
    refine Eq.trans (rn_aI (L' := [.ref a0, .int x1]) rfl rfl) ?_
    refine eI_c (fun x_2 => ?_)
    refine Eq.trans (rn_vir (L' := [.ref a0, .int x1]) (as := [.int x_2]) (rest := []) rfl rfl rfl rfl rfl (Nat.le_of_ble_eq_true rfl) (by decide) (by decide)) ?_
    refine eC_c ?_
    refine Eq.trans (cW_I rfl rfl rfl) ?_
    refine cI_c (fun x_4 s_3 => ?_) (xh_nil rfl)
    refine Eq.trans (rn_ifeq (L' := [.ref a0, .int x1]) rfl rfl) ?_
    refine if_c ?_ ?_
    · rfl
    · refine Eq.trans (rn_go 3 (pc' := 16) (L' := [.ref a0, .int x1]) (st' := [.ref a0, .ref a0, .ref a0]) rfl) ?_
      refine Eq.trans (rn_gA (L' := [.ref a0, .int x1]) rfl rfl rfl rfl) ?_
      refine eA_c ?_ (fun b_5 => ?_)
      · refine Eq.trans (rn_go 1 (pc' := 20) (L' := [.ref a0, .int x1]) (st' := [.int x1, .null, .ref a0, .ref a0]) rfl) ?_
        exact rn_z rfl rfl
      · refine Eq.trans (rn_go 1 (pc' := 20) (L' := [.ref a0, .int x1]) (st' := [.int x1, .ref b_5, .ref a0, .ref a0]) rfl) ?_
        refine Eq.trans (rn_aI (L' := [.ref a0, .int x1]) rfl rfl) ?_
        refine eI_c (fun x_6 => ?_)
        refine Eq.trans (rn_vir (L' := [.ref a0, .int x1]) (as := [.int x_6]) (rest := [.ref a0]) rfl rfl rfl rfl rfl (Nat.le_of_ble_eq_true rfl) (by decide) (by decide)) ?_
        refine eC_c ?_
        refine Eq.trans (cW_I rfl rfl rfl) ?_
        refine cI_c (fun x_8 s_7 => ?_) (xh_nil rfl)
        refine Eq.trans (rn_go 1 (pc' := 25) (L' := [.ref a0, .int x1]) (st' := [.int (1 : Int32), .int x_8, .ref a0]) rfl) ?_
        refine Eq.trans (rn_vir (L' := [.ref a0, .int x1]) (as := [.int x_8, .int (1 : Int32)]) (rest := []) rfl rfl rfl rfl rfl (Nat.le_of_ble_eq_true rfl) (by decide) (by decide)) ?_
        refine eC_c ?_
        refine Eq.trans (cW_I rfl rfl rfl) ?_
        refine cI_c (fun x_10 s_9 => ?_) (xh_nil rfl)
        refine Eq.trans (rn_go 1 (pc' := 29) (L' := [.ref a0, .int x1]) (st' := [.ref a0, .int x_10]) rfl) ?_
        refine Eq.trans (rn_gA (L' := [.ref a0, .int x1]) rfl rfl rfl rfl) ?_
        refine eA_c ?_ (fun b_11 => ?_)
        · refine Eq.trans (rn_go 1 (pc' := 33) (L' := [.ref a0, .int x1]) (st' := [.int x1, .null, .int x_10]) rfl) ?_
          exact rn_z rfl rfl
        · refine Eq.trans (rn_go 1 (pc' := 33) (L' := [.ref a0, .int x1]) (st' := [.int x1, .ref b_11, .int x_10]) rfl) ?_
          refine Eq.trans (rn_aI (L' := [.ref a0, .int x1]) rfl rfl) ?_
          refine eI_c (fun x_12 => ?_)
          refine Eq.trans (rn_iceq (L' := [.ref a0, .int x1]) rfl rfl) ?_
          refine if_c ?_ ?_
          · refine Eq.trans (rn_go 1 (pc' := 42) (L' := [.ref a0, .int x1]) (st' := [.int (0 : Int32)]) rfl) ?_
            exact rn_retI rfl rfl rfl
          · rfl
theorem dc_X13_differs_37 {B : Nat} (w0 : Value) (w1 : Value) (s : am_S) : rn_ tb_ct tb_mt B mm_X13_differs 37 [w0, w1] [] s = some (.inl (some (.int (1 : Int32))), s) := by
  refine Eq.trans (rn_go 2 (pc' := 42) (L' := [am_un, am_un]) (st' := [.int (1 : Int32)]) rfl) ?_
  exact rn_retI rfl rfl rfl
theorem in_X13_attach {B : Nat} (a0 : Nat) (x1 : Int32) (x2 : Int32) (s : am_S) : cl_ tb_ct tb_mt B K_X13_attach [.ref a0, .int x1, .int x2] s = rn_ tb_ct tb_mt B mm_X13_attach 0 [.ref a0, .int x1, .int x2, am_un, am_un] [] s := cl_in rfl rfl rfl rfl
theorem dc_X13_attach_0 {B : Nat} (a0 : Nat) (x1 : Int32) (x2 : Int32) (s : am_S) : rn_ tb_ct tb_mt B mm_X13_attach 0 [.ref a0, .int x1, .int x2, am_un, am_un] [] s = cI (cl_ tb_ct tb_mt B K_X13_isKey [.int x1] s) (fun x_2 s_1 => if x_2 = 0 then rn_ tb_ct tb_mt B mm_X13_attach 16 [.ref a0, .int x1, .int x2, am_un, am_un] [.ref a0] s_1 else if x2 < 0 then rn_ tb_ct tb_mt B mm_X13_attach 16 [.ref a0, .int x1, .int x2, am_un, am_un] [.ref a0] s_1 else rn_ tb_ct tb_mt B mm_X13_attach 17 [.ref a0, .int x1, .int x2, am_un, am_un] [.int (1 : Int32), .ref a0] s_1) xo := by
  refine Eq.trans (rn_go 2 (pc' := 2) (L' := [.ref a0, .int x1, .int x2, am_un, am_un]) (st' := [.int x1, .ref a0]) rfl) ?_
  refine Eq.trans (rn_sta (L' := [.ref a0, .int x1, .int x2, am_un, am_un]) (as := [.int x1]) (rest := [.ref a0]) rfl rfl rfl rfl rfl (Nat.le_of_ble_eq_true rfl) (by decide) rfl) ?_
  refine Eq.trans (cW_I rfl rfl rfl) ?_
  refine cI_c (fun x_2 s_1 => ?_) (xh_nil rfl)
  refine Eq.trans (rn_ifeq (L' := [.ref a0, .int x1, .int x2, am_un, am_un]) rfl rfl) ?_
  refine if_c ?_ ?_
  · rfl
  · refine Eq.trans (rn_go 1 (pc' := 9) (L' := [.ref a0, .int x1, .int x2, am_un, am_un]) (st' := [.int x2, .ref a0]) rfl) ?_
    refine Eq.trans (rn_iflt (L' := [.ref a0, .int x1, .int x2, am_un, am_un]) rfl rfl) ?_
    refine if_c ?_ ?_
    · rfl
    · exact rn_go 2 (pc' := 17) (L' := [.ref a0, .int x1, .int x2, am_un, am_un]) (st' := [.int (1 : Int32), .ref a0]) rfl
theorem dc_X13_attach_16 {B : Nat} (a0 : Nat) (x1 : Int32) (x2 : Int32) (as0 : Nat) (s : am_S) : rn_ tb_ct tb_mt B mm_X13_attach 16 [.ref a0, .int x1, .int x2, am_un, am_un] [.ref as0] s = rn_ tb_ct tb_mt B mm_X13_attach 17 [.ref a0, .int x1, .int x2, am_un, am_un] [.int (0 : Int32), .ref as0] s := by
  exact rn_go 1 (pc' := 17) (L' := [.ref a0, .int x1, .int x2, am_un, am_un]) (st' := [.int (0 : Int32), .ref as0]) rfl
theorem dc_X13_attach_17 {B : Nat} (a0 : Nat) (x1 : Int32) (x2 : Int32) (xs0 : Int32) (as1 : Nat) (s : am_S) : rn_ tb_ct tb_mt B mm_X13_attach 17 [.ref a0, .int x1, .int x2, am_un, am_un] [.int xs0, .ref as1] s = eC (am_cls s as1) 11 (cI (cl_ tb_ct tb_mt B K_X13_isThrown [.ref as1, .int xs0, .int (1 : Int32)] s) (fun x_2 s_1 => if x_2 = 0 then eC (am_cls s_1 a0) 11 (cI (cl_ tb_ct tb_mt B K_X13_isThere [.ref a0, .int x1] s_1) (fun x_4 s_3 => if x_4 = 0 then some (.inl (some (.int (-(1 : Int32)))), s_3) else if x2 ≤ 0 then rn_ tb_ct tb_mt B mm_X13_attach 51 [.ref a0, .int x1, .int x2, am_un, am_un] [] s_3 else eC (am_cls s_3 a0) 11 (cI (cl_ tb_ct tb_mt B K_X13_isLease [.ref a0, .int x2] s_3) (fun x_6 s_5 => if x_6 = 0 then some (.inl (some (.int (-(3 : Int32)))), s_5) else rn_ tb_ct tb_mt B mm_X13_attach 51 [.ref a0, .int x1, .int x2, am_un, am_un] [] s_5) xo)) xo) else some (.inl (some (.int (0 : Int32))), s_1)) xo) := by
  refine Eq.trans (rn_go 1 (pc' := 18) (L' := [.ref a0, .int x1, .int x2, am_un, am_un]) (st' := [.int (1 : Int32), .int xs0, .ref as1]) rfl) ?_
  refine Eq.trans (rn_vir (L' := [.ref a0, .int x1, .int x2, am_un, am_un]) (as := [.int xs0, .int (1 : Int32)]) (rest := []) rfl rfl rfl rfl rfl (Nat.le_of_ble_eq_true rfl) (by decide) (by decide)) ?_
  refine eC_c ?_
  refine Eq.trans (cW_I rfl rfl rfl) ?_
  refine cI_c (fun x_2 s_1 => ?_) (xh_nil rfl)
  refine Eq.trans (rn_ifeq (L' := [.ref a0, .int x1, .int x2, am_un, am_un]) rfl rfl) ?_
  refine if_c ?_ ?_
  · refine Eq.trans (rn_go 2 (pc' := 28) (L' := [.ref a0, .int x1, .int x2, am_un, am_un]) (st' := [.int x1, .ref a0]) rfl) ?_
    refine Eq.trans (rn_vir (L' := [.ref a0, .int x1, .int x2, am_un, am_un]) (as := [.int x1]) (rest := []) rfl rfl rfl rfl rfl (Nat.le_of_ble_eq_true rfl) (by decide) (by decide)) ?_
    refine eC_c ?_
    refine Eq.trans (cW_I rfl rfl rfl) ?_
    refine cI_c (fun x_4 s_3 => ?_) (xh_nil rfl)
    refine Eq.trans (rn_ifne (L' := [.ref a0, .int x1, .int x2, am_un, am_un]) rfl rfl) ?_
    refine if_c ?_ ?_
    · refine Eq.trans (rn_go 1 (pc' := 35) (L' := [.ref a0, .int x1, .int x2, am_un, am_un]) (st' := [.int (-(1 : Int32))]) rfl) ?_
      exact rn_retI rfl rfl rfl
    · refine Eq.trans (rn_go 1 (pc' := 37) (L' := [.ref a0, .int x1, .int x2, am_un, am_un]) (st' := [.int x2]) rfl) ?_
      refine Eq.trans (rn_ifle (L' := [.ref a0, .int x1, .int x2, am_un, am_un]) rfl rfl) ?_
      refine if_c ?_ ?_
      · rfl
      · refine Eq.trans (rn_go 2 (pc' := 42) (L' := [.ref a0, .int x1, .int x2, am_un, am_un]) (st' := [.int x2, .ref a0]) rfl) ?_
        refine Eq.trans (rn_vir (L' := [.ref a0, .int x1, .int x2, am_un, am_un]) (as := [.int x2]) (rest := []) rfl rfl rfl rfl rfl (Nat.le_of_ble_eq_true rfl) (by decide) (by decide)) ?_
        refine eC_c ?_
        refine Eq.trans (cW_I rfl rfl rfl) ?_
        refine cI_c (fun x_6 s_5 => ?_) (xh_nil rfl)
        refine Eq.trans (rn_ifne (L' := [.ref a0, .int x1, .int x2, am_un, am_un]) rfl rfl) ?_
        refine if_c ?_ ?_
        · refine Eq.trans (rn_go 1 (pc' := 50) (L' := [.ref a0, .int x1, .int x2, am_un, am_un]) (st' := [.int (-(3 : Int32))]) rfl) ?_
          exact rn_retI rfl rfl rfl
        · rfl
  · refine Eq.trans (rn_go 1 (pc' := 25) (L' := [.ref a0, .int x1, .int x2, am_un, am_un]) (st' := [.int (0 : Int32)]) rfl) ?_
    exact rn_retI rfl rfl rfl
theorem dc_X13_attach_51 {B : Nat} (a0 : Nat) (x1 : Int32) (x2 : Int32) (s : am_S) : rn_ tb_ct tb_mt B mm_X13_attach 51 [.ref a0, .int x1, .int x2, am_un, am_un] [] s = eC (am_cls s a0) 11 (cI (cl_ tb_ct tb_mt B K_X13_placeOf [.ref a0, .int x1] s) (fun x_2 s_1 => eA (gA tb_ct s_1 a0 11 0) (none) (fun b_3 => eI (aI s_1 b_3 (((13 : Int32) + ((6 : Int32) * x_2)) + (5 : Int32))) (fun x_4 => eA (gA tb_ct s_1 a0 11 0) (none) (fun b_5 => eS (wI B s_1 b_5 (((13 : Int32) + ((6 : Int32) * x_2)) + (5 : Int32)) x2) (fun s_6 => some (.inl (some (.int x_4)), s_6)))))) xo) := by
  refine Eq.trans (rn_go 4 (pc' := 57) (L' := [.ref a0, .int x1, .int x2, am_un, am_un]) (st' := [.int x1, .ref a0, .int (6 : Int32), .int (13 : Int32)]) rfl) ?_
  refine Eq.trans (rn_vir (L' := [.ref a0, .int x1, .int x2, am_un, am_un]) (as := [.int x1]) (rest := [.int (6 : Int32), .int (13 : Int32)]) rfl rfl rfl rfl rfl (Nat.le_of_ble_eq_true rfl) (by decide) (by decide)) ?_
  refine eC_c ?_
  refine Eq.trans (cW_I rfl rfl rfl) ?_
  refine cI_c (fun x_2 s_1 => ?_) (xh_nil rfl)
  refine Eq.trans (rn_go 6 (pc' := 66) (L' := [.ref a0, .int x1, .int x2, .int (((13 : Int32) + ((6 : Int32) * x_2)) + (5 : Int32)), am_un]) (st' := [.ref a0]) rfl) ?_
  refine Eq.trans (rn_gA (L' := [.ref a0, .int x1, .int x2, .int (((13 : Int32) + ((6 : Int32) * x_2)) + (5 : Int32)), am_un]) rfl rfl rfl rfl) ?_
  refine eA_c ?_ (fun b_3 => ?_)
  · refine Eq.trans (rn_go 1 (pc' := 70) (L' := [.ref a0, .int x1, .int x2, .int (((13 : Int32) + ((6 : Int32) * x_2)) + (5 : Int32)), am_un]) (st' := [.int (((13 : Int32) + ((6 : Int32) * x_2)) + (5 : Int32)), .null]) rfl) ?_
    exact rn_z rfl rfl
  · refine Eq.trans (rn_go 1 (pc' := 70) (L' := [.ref a0, .int x1, .int x2, .int (((13 : Int32) + ((6 : Int32) * x_2)) + (5 : Int32)), am_un]) (st' := [.int (((13 : Int32) + ((6 : Int32) * x_2)) + (5 : Int32)), .ref b_3]) rfl) ?_
    refine Eq.trans (rn_aI (L' := [.ref a0, .int x1, .int x2, .int (((13 : Int32) + ((6 : Int32) * x_2)) + (5 : Int32)), am_un]) rfl rfl) ?_
    refine eI_c (fun x_4 => ?_)
    refine Eq.trans (rn_go 2 (pc' := 74) (L' := [.ref a0, .int x1, .int x2, .int (((13 : Int32) + ((6 : Int32) * x_2)) + (5 : Int32)), .int x_4]) (st' := [.ref a0]) rfl) ?_
    refine Eq.trans (rn_gA (L' := [.ref a0, .int x1, .int x2, .int (((13 : Int32) + ((6 : Int32) * x_2)) + (5 : Int32)), .int x_4]) rfl rfl rfl rfl) ?_
    refine eA_c ?_ (fun b_5 => ?_)
    · refine Eq.trans (rn_go 2 (pc' := 79) (L' := [.ref a0, .int x1, .int x2, .int (((13 : Int32) + ((6 : Int32) * x_2)) + (5 : Int32)), .int x_4]) (st' := [.int x2, .int (((13 : Int32) + ((6 : Int32) * x_2)) + (5 : Int32)), .null]) rfl) ?_
      exact rn_z rfl rfl
    · refine Eq.trans (rn_go 2 (pc' := 79) (L' := [.ref a0, .int x1, .int x2, .int (((13 : Int32) + ((6 : Int32) * x_2)) + (5 : Int32)), .int x_4]) (st' := [.int x2, .int (((13 : Int32) + ((6 : Int32) * x_2)) + (5 : Int32)), .ref b_5]) rfl) ?_
      refine Eq.trans (rn_wI (L' := [.ref a0, .int x1, .int x2, .int (((13 : Int32) + ((6 : Int32) * x_2)) + (5 : Int32)), .int x_4]) rfl rfl) ?_
      refine eS_c (fun s_6 => ?_)
      refine Eq.trans (rn_go 1 (pc' := 82) (L' := [.ref a0, .int x1, .int x2, .int (((13 : Int32) + ((6 : Int32) * x_2)) + (5 : Int32)), .int x_4]) (st' := [.int x_4]) rfl) ?_
      exact rn_retI rfl rfl rfl
theorem in_X13_watchAt {B : Nat} (a0 : Nat) (x1 : Int32) (x2 : Int32) (s : am_S) : cl_ tb_ct tb_mt B K_X13_watchAt [.ref a0, .int x1, .int x2] s = rn_ tb_ct tb_mt B mm_X13_watchAt 0 [.ref a0, .int x1, .int x2] [] s := cl_in rfl rfl rfl rfl
theorem dc_X13_watchAt_0 {B : Nat} (a0 : Nat) (x1 : Int32) (x2 : Int32) (s : am_S) : rn_ tb_ct tb_mt B mm_X13_watchAt 0 [.ref a0, .int x1, .int x2] [] s = eA (gA tb_ct s a0 11 0) (none) (fun b_1 => eI (aI s b_1 (((1173 : Int32) + ((12 : Int32) * x1)) + x2)) (fun x_2 => some (.inl (some (.int x_2)), s))) := by
  refine Eq.trans (rn_go 1 (pc' := 1) (L' := [.ref a0, .int x1, .int x2]) (st' := [.ref a0]) rfl) ?_
  refine Eq.trans (rn_gA (L' := [.ref a0, .int x1, .int x2]) rfl rfl rfl rfl) ?_
  refine eA_c ?_ (fun b_1 => ?_)
  · refine Eq.trans (rn_go 7 (pc' := 14) (L' := [.ref a0, .int x1, .int x2]) (st' := [.int (((1173 : Int32) + ((12 : Int32) * x1)) + x2), .null]) rfl) ?_
    exact rn_z rfl rfl
  · refine Eq.trans (rn_go 7 (pc' := 14) (L' := [.ref a0, .int x1, .int x2]) (st' := [.int (((1173 : Int32) + ((12 : Int32) * x1)) + x2), .ref b_1]) rfl) ?_
    refine Eq.trans (rn_aI (L' := [.ref a0, .int x1, .int x2]) rfl rfl) ?_
    refine eI_c (fun x_2 => ?_)
    exact rn_retI rfl rfl rfl
theorem in_X13_sets {B : Nat} (a0 : Nat) (x1 : Int32) (x2 : Int32) (x3 : Int32) (s : am_S) : cl_ tb_ct tb_mt B K_X13_sets [.ref a0, .int x1, .int x2, .int x3] s = rn_ tb_ct tb_mt B mm_X13_sets 0 [.ref a0, .int x1, .int x2, .int x3] [] s := cl_in rfl rfl rfl rfl
theorem dc_X13_sets_0 {B : Nat} (a0 : Nat) (x1 : Int32) (x2 : Int32) (x3 : Int32) (s : am_S) : rn_ tb_ct tb_mt B mm_X13_sets 0 [.ref a0, .int x1, .int x2, .int x3] [] s = eA (gA tb_ct s a0 11 0) (none) (fun b_1 => eS (wI B s b_1 (((1173 : Int32) + ((12 : Int32) * x1)) + x2) x3) (fun s_2 => some (.inl none, s_2))) := by
  refine Eq.trans (rn_go 1 (pc' := 1) (L' := [.ref a0, .int x1, .int x2, .int x3]) (st' := [.ref a0]) rfl) ?_
  refine Eq.trans (rn_gA (L' := [.ref a0, .int x1, .int x2, .int x3]) rfl rfl rfl rfl) ?_
  refine eA_c ?_ (fun b_1 => ?_)
  · refine Eq.trans (rn_go 8 (pc' := 15) (L' := [.ref a0, .int x1, .int x2, .int x3]) (st' := [.int x3, .int (((1173 : Int32) + ((12 : Int32) * x1)) + x2), .null]) rfl) ?_
    exact rn_z rfl rfl
  · refine Eq.trans (rn_go 8 (pc' := 15) (L' := [.ref a0, .int x1, .int x2, .int x3]) (st' := [.int x3, .int (((1173 : Int32) + ((12 : Int32) * x1)) + x2), .ref b_1]) rfl) ?_
    refine Eq.trans (rn_wI (L' := [.ref a0, .int x1, .int x2, .int x3]) rfl rfl) ?_
    refine eS_c (fun s_2 => ?_)
    exact rn_retV rfl rfl
theorem in_X13_isWatch {B : Nat} (a0 : Nat) (x1 : Int32) (s : am_S) : cl_ tb_ct tb_mt B K_X13_isWatch [.ref a0, .int x1] s = rn_ tb_ct tb_mt B mm_X13_isWatch 0 [.ref a0, .int x1] [] s := cl_in rfl rfl rfl rfl
theorem dc_X13_isWatch_0 {B : Nat} (a0 : Nat) (x1 : Int32) (s : am_S) : rn_ tb_ct tb_mt B mm_X13_isWatch 0 [.ref a0, .int x1] [] s = eA (gA tb_ct s a0 11 0) (none) (fun b_1 => eI (aI s b_1 (5 : Int32)) (fun x_2 => cI (cl_ tb_ct tb_mt B K_X13_in [.long x1.toInt64, .long (0 : Int64), .long (x_2 - (1 : Int32)).toInt64] s) (fun x_4 s_3 => rtI .boolean x_4 s_3) xo)) := by
  refine Eq.trans (rn_go 4 (pc' := 4) (L' := [.ref a0, .int x1]) (st' := [.ref a0, .long (0 : Int64), .long x1.toInt64]) rfl) ?_
  refine Eq.trans (rn_gA (L' := [.ref a0, .int x1]) rfl rfl rfl rfl) ?_
  refine eA_c ?_ (fun b_1 => ?_)
  · refine Eq.trans (rn_go 1 (pc' := 8) (L' := [.ref a0, .int x1]) (st' := [.int (5 : Int32), .null, .long (0 : Int64), .long x1.toInt64]) rfl) ?_
    exact rn_z rfl rfl
  · refine Eq.trans (rn_go 1 (pc' := 8) (L' := [.ref a0, .int x1]) (st' := [.int (5 : Int32), .ref b_1, .long (0 : Int64), .long x1.toInt64]) rfl) ?_
    refine Eq.trans (rn_aI (L' := [.ref a0, .int x1]) rfl rfl) ?_
    refine eI_c (fun x_2 => ?_)
    refine Eq.trans (rn_go 3 (pc' := 12) (L' := [.ref a0, .int x1]) (st' := [.long (x_2 - (1 : Int32)).toInt64, .long (0 : Int64), .long x1.toInt64]) rfl) ?_
    refine Eq.trans (rn_sta (L' := [.ref a0, .int x1]) (as := [.long x1.toInt64, .long (0 : Int64), .long (x_2 - (1 : Int32)).toInt64]) (rest := []) rfl rfl rfl rfl rfl (Nat.le_of_ble_eq_true rfl) (by decide) rfl) ?_
    refine Eq.trans (cW_I rfl rfl rfl) ?_
    refine cI_c (fun x_4 s_3 => ?_) (xh_nil rfl)
    exact rn_rtI rfl rfl
theorem in_X13_sees {B : Nat} (a0 : Nat) (x1 : Int32) (x2 : Int32) (s : am_S) : cl_ tb_ct tb_mt B K_X13_sees [.ref a0, .int x1, .int x2] s = rn_ tb_ct tb_mt B mm_X13_sees 0 [.ref a0, .int x1, .int x2, am_un] [] s := cl_in rfl rfl rfl rfl
theorem dc_X13_sees_0 {B : Nat} (a0 : Nat) (x1 : Int32) (x2 : Int32) (s : am_S) : rn_ tb_ct tb_mt B mm_X13_sees 0 [.ref a0, .int x1, .int x2, am_un] [] s = eC (am_cls s a0) 11 (cI (cl_ tb_ct tb_mt B K_X13_watchAt [.ref a0, .int x1, .int (2 : Int32)] s) (fun x_2 s_1 => eA (gA tb_ct s_1 a0 11 0) (none) (fun b_3 => eI (aI s_1 b_3 (7 : Int32)) (fun x_4 => eC (am_cls s_1 a0) 11 (cI (cl_ tb_ct tb_mt B K_X13_watchAt [.ref a0, .int x1, .int (3 : Int32)] s_1) (fun x_6 s_5 => if (x_4 + x2) < x_6 then some (.inl (some (.int (0 : Int32))), s_5) else eC (am_cls s_5 a0) 11 (cI (cl_ tb_ct tb_mt B K_X13_eventAt [.ref a0, .int x2, .int (2 : Int32)] s_5) (fun x_8 s_7 => eC (am_cls s_7 a0) 11 (cI (cl_ tb_ct tb_mt B K_X13_watchAt [.ref a0, .int x1, .int (0 : Int32)] s_7) (fun x_10 s_9 => eC (am_cls s_9 a0) 11 (cI (cl_ tb_ct tb_mt B K_X13_watchAt [.ref a0, .int x1, .int (1 : Int32)] s_9) (fun x_12 s_11 => cI (cl_ tb_ct tb_mt B K_X13_in [.long x_8.toInt64, .long x_10.toInt64, .long x_12.toInt64] s_11) (fun x_14 s_13 => if x_14 = 0 then some (.inl (some (.int (0 : Int32))), s_13) else if x_2 = 0 then rn_ tb_ct tb_mt B mm_X13_sees 68 [.ref a0, .int x1, .int x2, .int x_2] [] s_13 else eC (am_cls s_13 a0) 11 (cI (cl_ tb_ct tb_mt B K_X13_eventAt [.ref a0, .int x2, .int (1 : Int32)] s_13) (fun x_16 s_15 => if x_16 = (x_2 - (1 : Int32)) then rn_ tb_ct tb_mt B mm_X13_sees 68 [.ref a0, .int x1, .int x2, .int x_2] [] s_15 else some (.inl (some (.int (0 : Int32))), s_15)) xo)) xo) xo)) xo)) xo)) xo)))) xo) := by
  refine Eq.trans (rn_go 3 (pc' := 3) (L' := [.ref a0, .int x1, .int x2, am_un]) (st' := [.int (2 : Int32), .int x1, .ref a0]) rfl) ?_
  refine Eq.trans (rn_vir (L' := [.ref a0, .int x1, .int x2, am_un]) (as := [.int x1, .int (2 : Int32)]) (rest := []) rfl rfl rfl rfl rfl (Nat.le_of_ble_eq_true rfl) (by decide) (by decide)) ?_
  refine eC_c ?_
  refine Eq.trans (cW_I rfl rfl rfl) ?_
  refine cI_c (fun x_2 s_1 => ?_) (xh_nil rfl)
  refine Eq.trans (rn_go 2 (pc' := 8) (L' := [.ref a0, .int x1, .int x2, .int x_2]) (st' := [.ref a0]) rfl) ?_
  refine Eq.trans (rn_gA (L' := [.ref a0, .int x1, .int x2, .int x_2]) rfl rfl rfl rfl) ?_
  refine eA_c ?_ (fun b_3 => ?_)
  · refine Eq.trans (rn_go 1 (pc' := 13) (L' := [.ref a0, .int x1, .int x2, .int x_2]) (st' := [.int (7 : Int32), .null]) rfl) ?_
    exact rn_z rfl rfl
  · refine Eq.trans (rn_go 1 (pc' := 13) (L' := [.ref a0, .int x1, .int x2, .int x_2]) (st' := [.int (7 : Int32), .ref b_3]) rfl) ?_
    refine Eq.trans (rn_aI (L' := [.ref a0, .int x1, .int x2, .int x_2]) rfl rfl) ?_
    refine eI_c (fun x_4 => ?_)
    refine Eq.trans (rn_go 5 (pc' := 19) (L' := [.ref a0, .int x1, .int x2, .int x_2]) (st' := [.int (3 : Int32), .int x1, .ref a0, .int (x_4 + x2)]) rfl) ?_
    refine Eq.trans (rn_vir (L' := [.ref a0, .int x1, .int x2, .int x_2]) (as := [.int x1, .int (3 : Int32)]) (rest := [.int (x_4 + x2)]) rfl rfl rfl rfl rfl (Nat.le_of_ble_eq_true rfl) (by decide) (by decide)) ?_
    refine eC_c ?_
    refine Eq.trans (cW_I rfl rfl rfl) ?_
    refine cI_c (fun x_6 s_5 => ?_) (xh_nil rfl)
    refine Eq.trans (rn_iclt (L' := [.ref a0, .int x1, .int x2, .int x_2]) rfl rfl) ?_
    refine if_c ?_ ?_
    · refine Eq.trans (rn_go 1 (pc' := 73) (L' := [.ref a0, .int x1, .int x2, .int x_2]) (st' := [.int (0 : Int32)]) rfl) ?_
      exact rn_retI rfl rfl rfl
    · refine Eq.trans (rn_go 3 (pc' := 28) (L' := [.ref a0, .int x1, .int x2, .int x_2]) (st' := [.int (2 : Int32), .int x2, .ref a0]) rfl) ?_
      refine Eq.trans (rn_vir (L' := [.ref a0, .int x1, .int x2, .int x_2]) (as := [.int x2, .int (2 : Int32)]) (rest := []) rfl rfl rfl rfl rfl (Nat.le_of_ble_eq_true rfl) (by decide) (by decide)) ?_
      refine eC_c ?_
      refine Eq.trans (cW_I rfl rfl rfl) ?_
      refine cI_c (fun x_8 s_7 => ?_) (xh_nil rfl)
      refine Eq.trans (rn_go 4 (pc' := 35) (L' := [.ref a0, .int x1, .int x2, .int x_2]) (st' := [.int (0 : Int32), .int x1, .ref a0, .long x_8.toInt64]) rfl) ?_
      refine Eq.trans (rn_vir (L' := [.ref a0, .int x1, .int x2, .int x_2]) (as := [.int x1, .int (0 : Int32)]) (rest := [.long x_8.toInt64]) rfl rfl rfl rfl rfl (Nat.le_of_ble_eq_true rfl) (by decide) (by decide)) ?_
      refine eC_c ?_
      refine Eq.trans (cW_I rfl rfl rfl) ?_
      refine cI_c (fun x_10 s_9 => ?_) (xh_nil rfl)
      refine Eq.trans (rn_go 4 (pc' := 42) (L' := [.ref a0, .int x1, .int x2, .int x_2]) (st' := [.int (1 : Int32), .int x1, .ref a0, .long x_10.toInt64, .long x_8.toInt64]) rfl) ?_
      refine Eq.trans (rn_vir (L' := [.ref a0, .int x1, .int x2, .int x_2]) (as := [.int x1, .int (1 : Int32)]) (rest := [.long x_10.toInt64, .long x_8.toInt64]) rfl rfl rfl rfl rfl (Nat.le_of_ble_eq_true rfl) (by decide) (by decide)) ?_
      refine eC_c ?_
      refine Eq.trans (cW_I rfl rfl rfl) ?_
      refine cI_c (fun x_12 s_11 => ?_) (xh_nil rfl)
      refine Eq.trans (rn_go 1 (pc' := 46) (L' := [.ref a0, .int x1, .int x2, .int x_2]) (st' := [.long x_12.toInt64, .long x_10.toInt64, .long x_8.toInt64]) rfl) ?_
      refine Eq.trans (rn_sta (L' := [.ref a0, .int x1, .int x2, .int x_2]) (as := [.long x_8.toInt64, .long x_10.toInt64, .long x_12.toInt64]) (rest := []) rfl rfl rfl rfl rfl (Nat.le_of_ble_eq_true rfl) (by decide) rfl) ?_
      refine Eq.trans (cW_I rfl rfl rfl) ?_
      refine cI_c (fun x_14 s_13 => ?_) (xh_nil rfl)
      refine Eq.trans (rn_ifeq (L' := [.ref a0, .int x1, .int x2, .int x_2]) rfl rfl) ?_
      refine if_c ?_ ?_
      · refine Eq.trans (rn_go 1 (pc' := 73) (L' := [.ref a0, .int x1, .int x2, .int x_2]) (st' := [.int (0 : Int32)]) rfl) ?_
        exact rn_retI rfl rfl rfl
      · refine Eq.trans (rn_go 1 (pc' := 53) (L' := [.ref a0, .int x1, .int x2, .int x_2]) (st' := [.int x_2]) rfl) ?_
        refine Eq.trans (rn_ifeq (L' := [.ref a0, .int x1, .int x2, .int x_2]) rfl rfl) ?_
        refine if_c ?_ ?_
        · rfl
        · refine Eq.trans (rn_go 3 (pc' := 59) (L' := [.ref a0, .int x1, .int x2, .int x_2]) (st' := [.int (1 : Int32), .int x2, .ref a0]) rfl) ?_
          refine Eq.trans (rn_vir (L' := [.ref a0, .int x1, .int x2, .int x_2]) (as := [.int x2, .int (1 : Int32)]) (rest := []) rfl rfl rfl rfl rfl (Nat.le_of_ble_eq_true rfl) (by decide) (by decide)) ?_
          refine eC_c ?_
          refine Eq.trans (cW_I rfl rfl rfl) ?_
          refine cI_c (fun x_16 s_15 => ?_) (xh_nil rfl)
          refine Eq.trans (rn_go 3 (pc' := 65) (L' := [.ref a0, .int x1, .int x2, .int x_2]) (st' := [.int (x_2 - (1 : Int32)), .int x_16]) rfl) ?_
          refine Eq.trans (rn_icne (L' := [.ref a0, .int x1, .int x2, .int x_2]) rfl rfl) ?_
          refine if_c ?_ ?_
          · rfl
          · refine Eq.trans (rn_go 1 (pc' := 73) (L' := [.ref a0, .int x1, .int x2, .int x_2]) (st' := [.int (0 : Int32)]) rfl) ?_
            exact rn_retI rfl rfl rfl
theorem dc_X13_sees_68 {B : Nat} (w0 : Value) (w1 : Value) (w2 : Value) (w3 : Value) (s : am_S) : rn_ tb_ct tb_mt B mm_X13_sees 68 [w0, w1, w2, w3] [] s = some (.inl (some (.int (1 : Int32))), s) := by
  refine Eq.trans (rn_go 2 (pc' := 73) (L' := [am_un, am_un, am_un, am_un]) (st' := [.int (1 : Int32)]) rfl) ?_
  exact rn_retI rfl rfl rfl
theorem in_X13_waiting {B : Nat} (a0 : Nat) (x1 : Int32) (s : am_S) : cl_ tb_ct tb_mt B K_X13_waiting [.ref a0, .int x1] s = rn_ tb_ct tb_mt B mm_X13_waiting 0 [.ref a0, .int x1, am_un, am_un] [] s := cl_in rfl rfl rfl rfl
theorem dc_X13_waiting_0 {B : Nat} (a0 : Nat) (x1 : Int32) (s : am_S) : rn_ tb_ct tb_mt B mm_X13_waiting 0 [.ref a0, .int x1, am_un, am_un] [] s = rn_ tb_ct tb_mt B mm_X13_waiting 4 [.ref a0, .int x1, .int (0 : Int32), .int (0 : Int32)] [] s := by
  exact rn_go 4 (pc' := 4) (L' := [.ref a0, .int x1, .int (0 : Int32), .int (0 : Int32)]) (st' := []) rfl
theorem dc_X13_waiting_4 {B : Nat} (a0 : Nat) (x1 : Int32) (x2 : Int32) (x3 : Int32) (s : am_S) : rn_ tb_ct tb_mt B mm_X13_waiting 4 [.ref a0, .int x1, .int x2, .int x3] [] s = eA (gA tb_ct s a0 11 0) (none) (fun b_1 => eI (aI s b_1 (6 : Int32)) (fun x_2 => if x_2 ≤ x3 then some (.inl (some (.int x2)), s) else eC (am_cls s a0) 11 (cI (cl_ tb_ct tb_mt B K_X13_sees [.ref a0, .int x1, .int x3] s) (fun x_4 s_3 => if x_4 = 0 then rn_ tb_ct tb_mt B mm_X13_waiting 30 [.ref a0, .int x1, .int x2, .int x3] [.int (0 : Int32), .int x2] s_3 else rn_ tb_ct tb_mt B mm_X13_waiting 30 [.ref a0, .int x1, .int x2, .int x3] [.int (1 : Int32), .int x2] s_3) xo))) := by
  refine Eq.trans (rn_go 2 (pc' := 6) (L' := [.ref a0, .int x1, .int x2, .int x3]) (st' := [.ref a0, .int x3]) rfl) ?_
  refine Eq.trans (rn_gA (L' := [.ref a0, .int x1, .int x2, .int x3]) rfl rfl rfl rfl) ?_
  refine eA_c ?_ (fun b_1 => ?_)
  · refine Eq.trans (rn_go 1 (pc' := 11) (L' := [.ref a0, .int x1, .int x2, .int x3]) (st' := [.int (6 : Int32), .null, .int x3]) rfl) ?_
    exact rn_z rfl rfl
  · refine Eq.trans (rn_go 1 (pc' := 11) (L' := [.ref a0, .int x1, .int x2, .int x3]) (st' := [.int (6 : Int32), .ref b_1, .int x3]) rfl) ?_
    refine Eq.trans (rn_aI (L' := [.ref a0, .int x1, .int x2, .int x3]) rfl rfl) ?_
    refine eI_c (fun x_2 => ?_)
    refine Eq.trans (rn_icge (L' := [.ref a0, .int x1, .int x2, .int x3]) rfl rfl) ?_
    refine if_c ?_ ?_
    · refine Eq.trans (rn_go 1 (pc' := 39) (L' := [.ref a0, .int x1, .int x2, .int x3]) (st' := [.int x2]) rfl) ?_
      exact rn_retI rfl rfl rfl
    · refine Eq.trans (rn_go 4 (pc' := 19) (L' := [.ref a0, .int x1, .int x2, .int x3]) (st' := [.int x3, .int x1, .ref a0, .int x2]) rfl) ?_
      refine Eq.trans (rn_vir (L' := [.ref a0, .int x1, .int x2, .int x3]) (as := [.int x1, .int x3]) (rest := [.int x2]) rfl rfl rfl rfl rfl (Nat.le_of_ble_eq_true rfl) (by decide) (by decide)) ?_
      refine eC_c ?_
      refine Eq.trans (cW_I rfl rfl rfl) ?_
      refine cI_c (fun x_4 s_3 => ?_) (xh_nil rfl)
      refine Eq.trans (rn_ifeq (L' := [.ref a0, .int x1, .int x2, .int x3]) rfl rfl) ?_
      refine if_c ?_ ?_
      · exact rn_go 1 (pc' := 30) (L' := [.ref a0, .int x1, .int x2, .int x3]) (st' := [.int (0 : Int32), .int x2]) rfl
      · exact rn_go 2 (pc' := 30) (L' := [.ref a0, .int x1, .int x2, .int x3]) (st' := [.int (1 : Int32), .int x2]) rfl
theorem dc_X13_waiting_30 {B : Nat} (a0 : Nat) (x1 : Int32) (w2 : Value) (x3 : Int32) (xs0 : Int32) (xs1 : Int32) (s : am_S) : rn_ tb_ct tb_mt B mm_X13_waiting 30 [.ref a0, .int x1, w2, .int x3] [.int xs0, .int xs1] s = rn_ tb_ct tb_mt B mm_X13_waiting 4 [.ref a0, .int x1, .int (xs1 + xs0), .int (x3 + (1 : Int32))] [] s := by
  exact rn_go 4 (pc' := 4) (L' := [.ref a0, .int x1, .int (xs1 + xs0), .int (x3 + (1 : Int32))]) (st' := []) rfl
theorem in_X13_firstOf {B : Nat} (a0 : Nat) (x1 : Int32) (s : am_S) : cl_ tb_ct tb_mt B K_X13_firstOf [.ref a0, .int x1] s = rn_ tb_ct tb_mt B mm_X13_firstOf 0 [.ref a0, .int x1, am_un] [] s := cl_in rfl rfl rfl rfl
theorem dc_X13_firstOf_0 {B : Nat} (a0 : Nat) (x1 : Int32) (s : am_S) : rn_ tb_ct tb_mt B mm_X13_firstOf 0 [.ref a0, .int x1, am_un] [] s = rn_ tb_ct tb_mt B mm_X13_firstOf 2 [.ref a0, .int x1, .int (0 : Int32)] [] s := by
  exact rn_go 2 (pc' := 2) (L' := [.ref a0, .int x1, .int (0 : Int32)]) (st' := []) rfl
theorem dc_X13_firstOf_2 {B : Nat} (a0 : Nat) (x1 : Int32) (x2 : Int32) (s : am_S) : rn_ tb_ct tb_mt B mm_X13_firstOf 2 [.ref a0, .int x1, .int x2] [] s = eA (gA tb_ct s a0 11 0) (none) (fun b_1 => eI (aI s b_1 (6 : Int32)) (fun x_2 => if x_2 ≤ x2 then some (.inl (some (.int (-(1 : Int32)))), s) else eC (am_cls s a0) 11 (cI (cl_ tb_ct tb_mt B K_X13_sees [.ref a0, .int x1, .int x2] s) (fun x_4 s_3 => if x_4 = 0 then rn_ tb_ct tb_mt B mm_X13_firstOf 2 [.ref a0, .int x1, .int (x2 + (1 : Int32))] [] s_3 else some (.inl (some (.int x2)), s_3)) xo))) := by
  refine Eq.trans (rn_go 2 (pc' := 4) (L' := [.ref a0, .int x1, .int x2]) (st' := [.ref a0, .int x2]) rfl) ?_
  refine Eq.trans (rn_gA (L' := [.ref a0, .int x1, .int x2]) rfl rfl rfl rfl) ?_
  refine eA_c ?_ (fun b_1 => ?_)
  · refine Eq.trans (rn_go 1 (pc' := 9) (L' := [.ref a0, .int x1, .int x2]) (st' := [.int (6 : Int32), .null, .int x2]) rfl) ?_
    exact rn_z rfl rfl
  · refine Eq.trans (rn_go 1 (pc' := 9) (L' := [.ref a0, .int x1, .int x2]) (st' := [.int (6 : Int32), .ref b_1, .int x2]) rfl) ?_
    refine Eq.trans (rn_aI (L' := [.ref a0, .int x1, .int x2]) rfl rfl) ?_
    refine eI_c (fun x_2 => ?_)
    refine Eq.trans (rn_icge (L' := [.ref a0, .int x1, .int x2]) rfl rfl) ?_
    refine if_c ?_ ?_
    · refine Eq.trans (rn_go 1 (pc' := 31) (L' := [.ref a0, .int x1, .int x2]) (st' := [.int (-(1 : Int32))]) rfl) ?_
      exact rn_retI rfl rfl rfl
    · refine Eq.trans (rn_go 3 (pc' := 16) (L' := [.ref a0, .int x1, .int x2]) (st' := [.int x2, .int x1, .ref a0]) rfl) ?_
      refine Eq.trans (rn_vir (L' := [.ref a0, .int x1, .int x2]) (as := [.int x1, .int x2]) (rest := []) rfl rfl rfl rfl rfl (Nat.le_of_ble_eq_true rfl) (by decide) (by decide)) ?_
      refine eC_c ?_
      refine Eq.trans (cW_I rfl rfl rfl) ?_
      refine cI_c (fun x_4 s_3 => ?_) (xh_nil rfl)
      refine Eq.trans (rn_ifeq (L' := [.ref a0, .int x1, .int x2]) rfl rfl) ?_
      refine if_c ?_ ?_
      · exact rn_go 2 (pc' := 2) (L' := [.ref a0, .int x1, .int (x2 + (1 : Int32))]) (st' := []) rfl
      · refine Eq.trans (rn_go 1 (pc' := 23) (L' := [.ref a0, .int x1, .int x2]) (st' := [.int x2]) rfl) ?_
        exact rn_retI rfl rfl rfl
theorem in_X13_misses {B : Nat} (a0 : Nat) (x1 : Int32) (x2 : Int32) (s : am_S) : cl_ tb_ct tb_mt B K_X13_misses [.ref a0, .int x1, .int x2] s = rn_ tb_ct tb_mt B mm_X13_misses 0 [.ref a0, .int x1, .int x2, am_un] [] s := cl_in rfl rfl rfl rfl
theorem dc_X13_misses_0 {B : Nat} (a0 : Nat) (x1 : Int32) (x2 : Int32) (s : am_S) : rn_ tb_ct tb_mt B mm_X13_misses 0 [.ref a0, .int x1, .int x2, am_un] [] s = rn_ tb_ct tb_mt B mm_X13_misses 2 [.ref a0, .int x1, .int x2, .int (0 : Int32)] [] s := by
  exact rn_go 2 (pc' := 2) (L' := [.ref a0, .int x1, .int x2, .int (0 : Int32)]) (st' := []) rfl
theorem dc_X13_misses_2 {B : Nat} (a0 : Nat) (x1 : Int32) (x2 : Int32) (x3 : Int32) (s : am_S) : rn_ tb_ct tb_mt B mm_X13_misses 2 [.ref a0, .int x1, .int x2, .int x3] [] s = if x2 ≤ x3 then some (.inl none, s) else eC (am_cls s a0) 11 (cI (cl_ tb_ct tb_mt B K_X13_sees [.ref a0, .int x1, .int x3] s) (fun x_2 s_1 => if x_2 = 0 then rn_ tb_ct tb_mt B mm_X13_misses 30 [.ref a0, .int x1, .int x2, .int x3] [] s_1 else eC (am_cls s_1 a0) 11 (cI (cl_ tb_ct tb_mt B K_X13_watchAt [.ref a0, .int x1, .int (4 : Int32)] s_1) (fun x_4 s_3 => eC (am_cls s_3 a0) 11 (cV (cl_ tb_ct tb_mt B K_X13_sets [.ref a0, .int x1, .int (4 : Int32), .int (x_4 + (1 : Int32))] s_3) (fun s_5 => rn_ tb_ct tb_mt B mm_X13_misses 30 [.ref a0, .int x1, .int x2, .int x3] [] s_5) xo)) xo)) xo) := by
  refine Eq.trans (rn_go 2 (pc' := 4) (L' := [.ref a0, .int x1, .int x2, .int x3]) (st' := [.int x2, .int x3]) rfl) ?_
  refine Eq.trans (rn_icge (L' := [.ref a0, .int x1, .int x2, .int x3]) rfl rfl) ?_
  refine if_c ?_ ?_
  · exact rn_retV rfl rfl
  · refine Eq.trans (rn_go 3 (pc' := 10) (L' := [.ref a0, .int x1, .int x2, .int x3]) (st' := [.int x3, .int x1, .ref a0]) rfl) ?_
    refine Eq.trans (rn_vir (L' := [.ref a0, .int x1, .int x2, .int x3]) (as := [.int x1, .int x3]) (rest := []) rfl rfl rfl rfl rfl (Nat.le_of_ble_eq_true rfl) (by decide) (by decide)) ?_
    refine eC_c ?_
    refine Eq.trans (cW_I rfl rfl rfl) ?_
    refine cI_c (fun x_2 s_1 => ?_) (xh_nil rfl)
    refine Eq.trans (rn_ifeq (L' := [.ref a0, .int x1, .int x2, .int x3]) rfl rfl) ?_
    refine if_c ?_ ?_
    · rfl
    · refine Eq.trans (rn_go 6 (pc' := 22) (L' := [.ref a0, .int x1, .int x2, .int x3]) (st' := [.int (4 : Int32), .int x1, .ref a0, .int (4 : Int32), .int x1, .ref a0]) rfl) ?_
      refine Eq.trans (rn_vir (L' := [.ref a0, .int x1, .int x2, .int x3]) (as := [.int x1, .int (4 : Int32)]) (rest := [.int (4 : Int32), .int x1, .ref a0]) rfl rfl rfl rfl rfl (Nat.le_of_ble_eq_true rfl) (by decide) (by decide)) ?_
      refine eC_c ?_
      refine Eq.trans (cW_I rfl rfl rfl) ?_
      refine cI_c (fun x_4 s_3 => ?_) (xh_nil rfl)
      refine Eq.trans (rn_go 2 (pc' := 27) (L' := [.ref a0, .int x1, .int x2, .int x3]) (st' := [.int (x_4 + (1 : Int32)), .int (4 : Int32), .int x1, .ref a0]) rfl) ?_
      refine Eq.trans (rn_vir (L' := [.ref a0, .int x1, .int x2, .int x3]) (as := [.int x1, .int (4 : Int32), .int (x_4 + (1 : Int32))]) (rest := []) rfl rfl rfl rfl rfl (Nat.le_of_ble_eq_true rfl) (by decide) (by decide)) ?_
      refine eC_c ?_
      refine Eq.trans (cW_V rfl rfl) ?_
      refine cV_c (fun s_5 => ?_) (xh_nil rfl)
      rfl
theorem dc_X13_misses_30 {B : Nat} (a0 : Nat) (x1 : Int32) (x2 : Int32) (x3 : Int32) (s : am_S) : rn_ tb_ct tb_mt B mm_X13_misses 30 [.ref a0, .int x1, .int x2, .int x3] [] s = rn_ tb_ct tb_mt B mm_X13_misses 2 [.ref a0, .int x1, .int x2, .int (x3 + (1 : Int32))] [] s := by
  exact rn_go 2 (pc' := 2) (L' := [.ref a0, .int x1, .int x2, .int (x3 + (1 : Int32))]) (st' := []) rfl
theorem in_X13_starts {B : Nat} (a0 : Nat) (x1 : Int32) (x2 : Int32) (s : am_S) : cl_ tb_ct tb_mt B K_X13_starts [.ref a0, .int x1, .int x2] s = rn_ tb_ct tb_mt B mm_X13_starts 0 [.ref a0, .int x1, .int x2, am_un] [] s := cl_in rfl rfl rfl rfl
theorem dc_X13_starts_0 {B : Nat} (a0 : Nat) (x1 : Int32) (x2 : Int32) (s : am_S) : rn_ tb_ct tb_mt B mm_X13_starts 0 [.ref a0, .int x1, .int x2, am_un] [] s = rn_ tb_ct tb_mt B mm_X13_starts 2 [.ref a0, .int x1, .int x2, .int (0 : Int32)] [] s := by
  exact rn_go 2 (pc' := 2) (L' := [.ref a0, .int x1, .int x2, .int (0 : Int32)]) (st' := []) rfl
theorem dc_X13_starts_2 {B : Nat} (a0 : Nat) (x1 : Int32) (x2 : Int32) (x3 : Int32) (s : am_S) : rn_ tb_ct tb_mt B mm_X13_starts 2 [.ref a0, .int x1, .int x2, .int x3] [] s = eA (gA tb_ct s a0 11 0) (none) (fun b_1 => eI (aI s b_1 (6 : Int32)) (fun x_2 => if x_2 ≤ x3 then rn_ tb_ct tb_mt B mm_X13_starts 33 [.ref a0, .int x1, .int x2, .int x3] [] s else if x2 = 0 then rn_ tb_ct tb_mt B mm_X13_starts 27 [.ref a0, .int x1, .int x2, .int x3] [] s else eC (am_cls s a0) 11 (cI (cl_ tb_ct tb_mt B K_X13_eventAt [.ref a0, .int x3, .int (0 : Int32)] s) (fun x_4 s_3 => if x2 ≤ x_4 then rn_ tb_ct tb_mt B mm_X13_starts 33 [.ref a0, .int x1, .int x2, .int x3] [] s_3 else rn_ tb_ct tb_mt B mm_X13_starts 27 [.ref a0, .int x1, .int x2, .int x3] [] s_3) xo))) := by
  refine Eq.trans (rn_go 2 (pc' := 4) (L' := [.ref a0, .int x1, .int x2, .int x3]) (st' := [.ref a0, .int x3]) rfl) ?_
  refine Eq.trans (rn_gA (L' := [.ref a0, .int x1, .int x2, .int x3]) rfl rfl rfl rfl) ?_
  refine eA_c ?_ (fun b_1 => ?_)
  · refine Eq.trans (rn_go 1 (pc' := 9) (L' := [.ref a0, .int x1, .int x2, .int x3]) (st' := [.int (6 : Int32), .null, .int x3]) rfl) ?_
    exact rn_z rfl rfl
  · refine Eq.trans (rn_go 1 (pc' := 9) (L' := [.ref a0, .int x1, .int x2, .int x3]) (st' := [.int (6 : Int32), .ref b_1, .int x3]) rfl) ?_
    refine Eq.trans (rn_aI (L' := [.ref a0, .int x1, .int x2, .int x3]) rfl rfl) ?_
    refine eI_c (fun x_2 => ?_)
    refine Eq.trans (rn_icge (L' := [.ref a0, .int x1, .int x2, .int x3]) rfl rfl) ?_
    refine if_c ?_ ?_
    · rfl
    · refine Eq.trans (rn_go 1 (pc' := 14) (L' := [.ref a0, .int x1, .int x2, .int x3]) (st' := [.int x2]) rfl) ?_
      refine Eq.trans (rn_ifeq (L' := [.ref a0, .int x1, .int x2, .int x3]) rfl rfl) ?_
      refine if_c ?_ ?_
      · rfl
      · refine Eq.trans (rn_go 3 (pc' := 20) (L' := [.ref a0, .int x1, .int x2, .int x3]) (st' := [.int (0 : Int32), .int x3, .ref a0]) rfl) ?_
        refine Eq.trans (rn_vir (L' := [.ref a0, .int x1, .int x2, .int x3]) (as := [.int x3, .int (0 : Int32)]) (rest := []) rfl rfl rfl rfl rfl (Nat.le_of_ble_eq_true rfl) (by decide) (by decide)) ?_
        refine eC_c ?_
        refine Eq.trans (cW_I rfl rfl rfl) ?_
        refine cI_c (fun x_4 s_3 => ?_) (xh_nil rfl)
        refine Eq.trans (rn_go 1 (pc' := 24) (L' := [.ref a0, .int x1, .int x2, .int x3]) (st' := [.int x2, .int x_4]) rfl) ?_
        refine Eq.trans (rn_icge (L' := [.ref a0, .int x1, .int x2, .int x3]) rfl rfl) ?_
        refine if_c ?_ ?_
        · rfl
        · rfl
theorem dc_X13_starts_27 {B : Nat} (a0 : Nat) (x1 : Int32) (x2 : Int32) (x3 : Int32) (s : am_S) : rn_ tb_ct tb_mt B mm_X13_starts 27 [.ref a0, .int x1, .int x2, .int x3] [] s = rn_ tb_ct tb_mt B mm_X13_starts 2 [.ref a0, .int x1, .int x2, .int (x3 + (1 : Int32))] [] s := by
  exact rn_go 2 (pc' := 2) (L' := [.ref a0, .int x1, .int x2, .int (x3 + (1 : Int32))]) (st' := []) rfl
theorem dc_X13_starts_33 {B : Nat} (a0 : Nat) (x1 : Int32) (w2 : Value) (x3 : Int32) (s : am_S) : rn_ tb_ct tb_mt B mm_X13_starts 33 [.ref a0, .int x1, w2, .int x3] [] s = eA (gA tb_ct s a0 11 0) (none) (fun b_1 => eI (aI s b_1 (7 : Int32)) (fun x_2 => eC (am_cls s a0) 11 (cV (cl_ tb_ct tb_mt B K_X13_sets [.ref a0, .int x1, .int (3 : Int32), .int (x_2 + x3)] s) (fun s_3 => some (.inl none, s_3)) xo))) := by
  refine Eq.trans (rn_go 4 (pc' := 37) (L' := [.ref a0, .int x1, am_un, .int x3]) (st' := [.ref a0, .int (3 : Int32), .int x1, .ref a0]) rfl) ?_
  refine Eq.trans (rn_gA (L' := [.ref a0, .int x1, am_un, .int x3]) rfl rfl rfl rfl) ?_
  refine eA_c ?_ (fun b_1 => ?_)
  · refine Eq.trans (rn_go 1 (pc' := 42) (L' := [.ref a0, .int x1, am_un, .int x3]) (st' := [.int (7 : Int32), .null, .int (3 : Int32), .int x1, .ref a0]) rfl) ?_
    exact rn_z rfl rfl
  · refine Eq.trans (rn_go 1 (pc' := 42) (L' := [.ref a0, .int x1, am_un, .int x3]) (st' := [.int (7 : Int32), .ref b_1, .int (3 : Int32), .int x1, .ref a0]) rfl) ?_
    refine Eq.trans (rn_aI (L' := [.ref a0, .int x1, am_un, .int x3]) rfl rfl) ?_
    refine eI_c (fun x_2 => ?_)
    refine Eq.trans (rn_go 2 (pc' := 45) (L' := [.ref a0, .int x1, am_un, .int x3]) (st' := [.int (x_2 + x3), .int (3 : Int32), .int x1, .ref a0]) rfl) ?_
    refine Eq.trans (rn_vir (L' := [.ref a0, .int x1, am_un, .int x3]) (as := [.int x1, .int (3 : Int32), .int (x_2 + x3)]) (rest := []) rfl rfl rfl rfl rfl (Nat.le_of_ble_eq_true rfl) (by decide) (by decide)) ?_
    refine eC_c ?_
    refine Eq.trans (cW_V rfl rfl) ?_
    refine cV_c (fun s_3 => ?_) (xh_nil rfl)
    exact rn_retV rfl rfl
theorem in_X13_watch {B : Nat} (a0 : Nat) (x1 : Int32) (x2 : Int32) (x3 : Int32) (x4 : Int32) (s : am_S) : cl_ tb_ct tb_mt B K_X13_watch [.ref a0, .int x1, .int x2, .int x3, .int x4] s = rn_ tb_ct tb_mt B mm_X13_watch 0 [.ref a0, .int x1, .int x2, .int x3, .int x4, am_un, am_un] [] s := cl_in rfl rfl rfl rfl
theorem dc_X13_watch_0 {B : Nat} (a0 : Nat) (x1 : Int32) (x2 : Int32) (x3 : Int32) (x4 : Int32) (s : am_S) : rn_ tb_ct tb_mt B mm_X13_watch 0 [.ref a0, .int x1, .int x2, .int x3, .int x4, am_un, am_un] [] s = cI (cl_ tb_ct tb_mt B K_X13_isRange [.int x1, .int x2] s) (fun x_2 s_1 => if x_2 = 0 then rn_ tb_ct tb_mt B mm_X13_watch 30 [.ref a0, .int x1, .int x2, .int x3, .int x4, am_un, am_un] [.ref a0] s_1 else cI (cl_ tb_ct tb_mt B K_X13_in [.long x4.toInt64, .long (0 : Int64), .long (2 : Int64)] s_1) (fun x_4 s_3 => if x_4 = 0 then rn_ tb_ct tb_mt B mm_X13_watch 30 [.ref a0, .int x1, .int x2, .int x3, .int x4, am_un, am_un] [.ref a0] s_3 else if x3 < 0 then rn_ tb_ct tb_mt B mm_X13_watch 30 [.ref a0, .int x1, .int x2, .int x3, .int x4, am_un, am_un] [.ref a0] s_3 else rn_ tb_ct tb_mt B mm_X13_watch 31 [.ref a0, .int x1, .int x2, .int x3, .int x4, am_un, am_un] [.int (1 : Int32), .ref a0] s_3) xo) xo := by
  refine Eq.trans (rn_go 3 (pc' := 3) (L' := [.ref a0, .int x1, .int x2, .int x3, .int x4, am_un, am_un]) (st' := [.int x2, .int x1, .ref a0]) rfl) ?_
  refine Eq.trans (rn_sta (L' := [.ref a0, .int x1, .int x2, .int x3, .int x4, am_un, am_un]) (as := [.int x1, .int x2]) (rest := [.ref a0]) rfl rfl rfl rfl rfl (Nat.le_of_ble_eq_true rfl) (by decide) rfl) ?_
  refine Eq.trans (cW_I rfl rfl rfl) ?_
  refine cI_c (fun x_2 s_1 => ?_) (xh_nil rfl)
  refine Eq.trans (rn_ifeq (L' := [.ref a0, .int x1, .int x2, .int x3, .int x4, am_un, am_un]) rfl rfl) ?_
  refine if_c ?_ ?_
  · rfl
  · refine Eq.trans (rn_go 4 (pc' := 16) (L' := [.ref a0, .int x1, .int x2, .int x3, .int x4, am_un, am_un]) (st' := [.long (2 : Int64), .long (0 : Int64), .long x4.toInt64, .ref a0]) rfl) ?_
    refine Eq.trans (rn_sta (L' := [.ref a0, .int x1, .int x2, .int x3, .int x4, am_un, am_un]) (as := [.long x4.toInt64, .long (0 : Int64), .long (2 : Int64)]) (rest := [.ref a0]) rfl rfl rfl rfl rfl (Nat.le_of_ble_eq_true rfl) (by decide) rfl) ?_
    refine Eq.trans (cW_I rfl rfl rfl) ?_
    refine cI_c (fun x_4 s_3 => ?_) (xh_nil rfl)
    refine Eq.trans (rn_ifeq (L' := [.ref a0, .int x1, .int x2, .int x3, .int x4, am_un, am_un]) rfl rfl) ?_
    refine if_c ?_ ?_
    · rfl
    · refine Eq.trans (rn_go 1 (pc' := 23) (L' := [.ref a0, .int x1, .int x2, .int x3, .int x4, am_un, am_un]) (st' := [.int x3, .ref a0]) rfl) ?_
      refine Eq.trans (rn_iflt (L' := [.ref a0, .int x1, .int x2, .int x3, .int x4, am_un, am_un]) rfl rfl) ?_
      refine if_c ?_ ?_
      · rfl
      · exact rn_go 2 (pc' := 31) (L' := [.ref a0, .int x1, .int x2, .int x3, .int x4, am_un, am_un]) (st' := [.int (1 : Int32), .ref a0]) rfl
theorem dc_X13_watch_30 {B : Nat} (a0 : Nat) (x1 : Int32) (x2 : Int32) (x3 : Int32) (x4 : Int32) (as0 : Nat) (s : am_S) : rn_ tb_ct tb_mt B mm_X13_watch 30 [.ref a0, .int x1, .int x2, .int x3, .int x4, am_un, am_un] [.ref as0] s = rn_ tb_ct tb_mt B mm_X13_watch 31 [.ref a0, .int x1, .int x2, .int x3, .int x4, am_un, am_un] [.int (0 : Int32), .ref as0] s := by
  exact rn_go 1 (pc' := 31) (L' := [.ref a0, .int x1, .int x2, .int x3, .int x4, am_un, am_un]) (st' := [.int (0 : Int32), .ref as0]) rfl
theorem dc_X13_watch_31 {B : Nat} (a0 : Nat) (x1 : Int32) (x2 : Int32) (x3 : Int32) (x4 : Int32) (xs0 : Int32) (as1 : Nat) (s : am_S) : rn_ tb_ct tb_mt B mm_X13_watch 31 [.ref a0, .int x1, .int x2, .int x3, .int x4, am_un, am_un] [.int xs0, .ref as1] s = eC (am_cls s as1) 11 (cI (cl_ tb_ct tb_mt B K_X13_isThrown [.ref as1, .int xs0, .int (1 : Int32)] s) (fun x_2 s_1 => if x_2 = 0 then eA (gA tb_ct s_1 a0 11 0) (none) (fun b_3 => eI (aI s_1 b_3 (5 : Int32)) (fun x_4 => if x_4 = (8 : Int32) then some (.inl (some (.int (-(2 : Int32)))), s_1) else eA (gA tb_ct s_1 a0 11 0) (none) (fun b_5 => eI (aI s_1 b_5 (0 : Int32)) (fun x_6 => if (x3 - (1 : Int32)) ≤ x_6 then eA (gA tb_ct s_1 a0 11 0) (none) (fun b_7 => eI (aI s_1 b_7 (5 : Int32)) (fun x_8 => eA (gA tb_ct s_1 a0 11 0) (none) (fun b_9 => eI (aI s_1 b_9 (5 : Int32)) (fun x_10 => eS (wI B s_1 b_9 (5 : Int32) (x_10 + (1 : Int32))) (fun s_11 => rn_ tb_ct tb_mt B mm_X13_watch 90 [.ref a0, .int x1, .int x2, .int x3, .int x4, .int x_8, .int (0 : Int32)] [] s_11))))) else some (.inl (some (.int (-(2000000002 : Int32)))), s_1))))) else some (.inl (some (.int (0 : Int32))), s_1)) xo) := by
  refine Eq.trans (rn_go 1 (pc' := 32) (L' := [.ref a0, .int x1, .int x2, .int x3, .int x4, am_un, am_un]) (st' := [.int (1 : Int32), .int xs0, .ref as1]) rfl) ?_
  refine Eq.trans (rn_vir (L' := [.ref a0, .int x1, .int x2, .int x3, .int x4, am_un, am_un]) (as := [.int xs0, .int (1 : Int32)]) (rest := []) rfl rfl rfl rfl rfl (Nat.le_of_ble_eq_true rfl) (by decide) (by decide)) ?_
  refine eC_c ?_
  refine Eq.trans (cW_I rfl rfl rfl) ?_
  refine cI_c (fun x_2 s_1 => ?_) (xh_nil rfl)
  refine Eq.trans (rn_ifeq (L' := [.ref a0, .int x1, .int x2, .int x3, .int x4, am_un, am_un]) rfl rfl) ?_
  refine if_c ?_ ?_
  · refine Eq.trans (rn_go 1 (pc' := 41) (L' := [.ref a0, .int x1, .int x2, .int x3, .int x4, am_un, am_un]) (st' := [.ref a0]) rfl) ?_
    refine Eq.trans (rn_gA (L' := [.ref a0, .int x1, .int x2, .int x3, .int x4, am_un, am_un]) rfl rfl rfl rfl) ?_
    refine eA_c ?_ (fun b_3 => ?_)
    · refine Eq.trans (rn_go 1 (pc' := 45) (L' := [.ref a0, .int x1, .int x2, .int x3, .int x4, am_un, am_un]) (st' := [.int (5 : Int32), .null]) rfl) ?_
      exact rn_z rfl rfl
    · refine Eq.trans (rn_go 1 (pc' := 45) (L' := [.ref a0, .int x1, .int x2, .int x3, .int x4, am_un, am_un]) (st' := [.int (5 : Int32), .ref b_3]) rfl) ?_
      refine Eq.trans (rn_aI (L' := [.ref a0, .int x1, .int x2, .int x3, .int x4, am_un, am_un]) rfl rfl) ?_
      refine eI_c (fun x_4 => ?_)
      refine Eq.trans (rn_go 1 (pc' := 48) (L' := [.ref a0, .int x1, .int x2, .int x3, .int x4, am_un, am_un]) (st' := [.int (8 : Int32), .int x_4]) rfl) ?_
      refine Eq.trans (rn_icne (L' := [.ref a0, .int x1, .int x2, .int x3, .int x4, am_un, am_un]) rfl rfl) ?_
      refine if_c ?_ ?_
      · refine Eq.trans (rn_go 1 (pc' := 53) (L' := [.ref a0, .int x1, .int x2, .int x3, .int x4, am_un, am_un]) (st' := [.int (-(2 : Int32))]) rfl) ?_
        exact rn_retI rfl rfl rfl
      · refine Eq.trans (rn_go 4 (pc' := 58) (L' := [.ref a0, .int x1, .int x2, .int x3, .int x4, am_un, am_un]) (st' := [.ref a0, .int (x3 - (1 : Int32))]) rfl) ?_
        refine Eq.trans (rn_gA (L' := [.ref a0, .int x1, .int x2, .int x3, .int x4, am_un, am_un]) rfl rfl rfl rfl) ?_
        refine eA_c ?_ (fun b_5 => ?_)
        · refine Eq.trans (rn_go 1 (pc' := 62) (L' := [.ref a0, .int x1, .int x2, .int x3, .int x4, am_un, am_un]) (st' := [.int (0 : Int32), .null, .int (x3 - (1 : Int32))]) rfl) ?_
          exact rn_z rfl rfl
        · refine Eq.trans (rn_go 1 (pc' := 62) (L' := [.ref a0, .int x1, .int x2, .int x3, .int x4, am_un, am_un]) (st' := [.int (0 : Int32), .ref b_5, .int (x3 - (1 : Int32))]) rfl) ?_
          refine Eq.trans (rn_aI (L' := [.ref a0, .int x1, .int x2, .int x3, .int x4, am_un, am_un]) rfl rfl) ?_
          refine eI_c (fun x_6 => ?_)
          refine Eq.trans (rn_icle (L' := [.ref a0, .int x1, .int x2, .int x3, .int x4, am_un, am_un]) rfl rfl) ?_
          refine if_c ?_ ?_
          · refine Eq.trans (rn_go 1 (pc' := 70) (L' := [.ref a0, .int x1, .int x2, .int x3, .int x4, am_un, am_un]) (st' := [.ref a0]) rfl) ?_
            refine Eq.trans (rn_gA (L' := [.ref a0, .int x1, .int x2, .int x3, .int x4, am_un, am_un]) rfl rfl rfl rfl) ?_
            refine eA_c ?_ (fun b_7 => ?_)
            · refine Eq.trans (rn_go 1 (pc' := 74) (L' := [.ref a0, .int x1, .int x2, .int x3, .int x4, am_un, am_un]) (st' := [.int (5 : Int32), .null]) rfl) ?_
              exact rn_z rfl rfl
            · refine Eq.trans (rn_go 1 (pc' := 74) (L' := [.ref a0, .int x1, .int x2, .int x3, .int x4, am_un, am_un]) (st' := [.int (5 : Int32), .ref b_7]) rfl) ?_
              refine Eq.trans (rn_aI (L' := [.ref a0, .int x1, .int x2, .int x3, .int x4, am_un, am_un]) rfl rfl) ?_
              refine eI_c (fun x_8 => ?_)
              refine Eq.trans (rn_go 2 (pc' := 78) (L' := [.ref a0, .int x1, .int x2, .int x3, .int x4, .int x_8, am_un]) (st' := [.ref a0]) rfl) ?_
              refine Eq.trans (rn_gA (L' := [.ref a0, .int x1, .int x2, .int x3, .int x4, .int x_8, am_un]) rfl rfl rfl rfl) ?_
              refine eA_c ?_ (fun b_9 => ?_)
              · refine Eq.trans (rn_go 2 (pc' := 83) (L' := [.ref a0, .int x1, .int x2, .int x3, .int x4, .int x_8, am_un]) (st' := [.int (5 : Int32), .null, .int (5 : Int32), .null]) rfl) ?_
                exact rn_z rfl rfl
              · refine Eq.trans (rn_go 2 (pc' := 83) (L' := [.ref a0, .int x1, .int x2, .int x3, .int x4, .int x_8, am_un]) (st' := [.int (5 : Int32), .ref b_9, .int (5 : Int32), .ref b_9]) rfl) ?_
                refine Eq.trans (rn_aI (L' := [.ref a0, .int x1, .int x2, .int x3, .int x4, .int x_8, am_un]) rfl rfl) ?_
                refine eI_c (fun x_10 => ?_)
                refine Eq.trans (rn_go 2 (pc' := 86) (L' := [.ref a0, .int x1, .int x2, .int x3, .int x4, .int x_8, am_un]) (st' := [.int (x_10 + (1 : Int32)), .int (5 : Int32), .ref b_9]) rfl) ?_
                refine Eq.trans (rn_wI (L' := [.ref a0, .int x1, .int x2, .int x3, .int x4, .int x_8, am_un]) rfl rfl) ?_
                refine eS_c (fun s_11 => ?_)
                exact rn_go 2 (pc' := 90) (L' := [.ref a0, .int x1, .int x2, .int x3, .int x4, .int x_8, .int (0 : Int32)]) (st' := []) rfl
          · refine Eq.trans (rn_go 1 (pc' := 68) (L' := [.ref a0, .int x1, .int x2, .int x3, .int x4, am_un, am_un]) (st' := [.int (-(2000000002 : Int32))]) rfl) ?_
            exact rn_retI rfl rfl rfl
  · refine Eq.trans (rn_go 1 (pc' := 39) (L' := [.ref a0, .int x1, .int x2, .int x3, .int x4, am_un, am_un]) (st' := [.int (0 : Int32)]) rfl) ?_
    exact rn_retI rfl rfl rfl
theorem dc_X13_watch_90 {B : Nat} (a0 : Nat) (x1 : Int32) (x2 : Int32) (x3 : Int32) (x4 : Int32) (x5 : Int32) (x6 : Int32) (s : am_S) : rn_ tb_ct tb_mt B mm_X13_watch 90 [.ref a0, .int x1, .int x2, .int x3, .int x4, .int x5, .int x6] [] s = if (12 : Int32) ≤ x6 then eC (am_cls s a0) 11 (cV (cl_ tb_ct tb_mt B K_X13_sets [.ref a0, .int x5, .int (0 : Int32), .int x1] s) (fun s_1 => eC (am_cls s_1 a0) 11 (cV (cl_ tb_ct tb_mt B K_X13_sets [.ref a0, .int x5, .int (1 : Int32), .int x2] s_1) (fun s_2 => eC (am_cls s_2 a0) 11 (cV (cl_ tb_ct tb_mt B K_X13_sets [.ref a0, .int x5, .int (2 : Int32), .int x4] s_2) (fun s_3 => eC (am_cls s_3 a0) 11 (cV (cl_ tb_ct tb_mt B K_X13_starts [.ref a0, .int x5, .int x3] s_3) (fun s_4 => some (.inl (some (.int x5)), s_4)) xo)) xo)) xo)) xo) else eC (am_cls s a0) 11 (cV (cl_ tb_ct tb_mt B K_X13_sets [.ref a0, .int x5, .int x6, .int (0 : Int32)] s) (fun s_5 => rn_ tb_ct tb_mt B mm_X13_watch 90 [.ref a0, .int x1, .int x2, .int x3, .int x4, .int x5, .int (x6 + (1 : Int32))] [] s_5) xo) := by
  refine Eq.trans (rn_go 2 (pc' := 94) (L' := [.ref a0, .int x1, .int x2, .int x3, .int x4, .int x5, .int x6]) (st' := [.int (12 : Int32), .int x6]) rfl) ?_
  refine Eq.trans (rn_icge (L' := [.ref a0, .int x1, .int x2, .int x3, .int x4, .int x5, .int x6]) rfl rfl) ?_
  refine if_c ?_ ?_
  · refine Eq.trans (rn_go 4 (pc' := 117) (L' := [.ref a0, .int x1, .int x2, .int x3, .int x4, .int x5, .int x6]) (st' := [.int x1, .int (0 : Int32), .int x5, .ref a0]) rfl) ?_
    refine Eq.trans (rn_vir (L' := [.ref a0, .int x1, .int x2, .int x3, .int x4, .int x5, .int x6]) (as := [.int x5, .int (0 : Int32), .int x1]) (rest := []) rfl rfl rfl rfl rfl (Nat.le_of_ble_eq_true rfl) (by decide) (by decide)) ?_
    refine eC_c ?_
    refine Eq.trans (cW_V rfl rfl) ?_
    refine cV_c (fun s_1 => ?_) (xh_nil rfl)
    refine Eq.trans (rn_go 4 (pc' := 125) (L' := [.ref a0, .int x1, .int x2, .int x3, .int x4, .int x5, .int x6]) (st' := [.int x2, .int (1 : Int32), .int x5, .ref a0]) rfl) ?_
    refine Eq.trans (rn_vir (L' := [.ref a0, .int x1, .int x2, .int x3, .int x4, .int x5, .int x6]) (as := [.int x5, .int (1 : Int32), .int x2]) (rest := []) rfl rfl rfl rfl rfl (Nat.le_of_ble_eq_true rfl) (by decide) (by decide)) ?_
    refine eC_c ?_
    refine Eq.trans (cW_V rfl rfl) ?_
    refine cV_c (fun s_2 => ?_) (xh_nil rfl)
    refine Eq.trans (rn_go 4 (pc' := 134) (L' := [.ref a0, .int x1, .int x2, .int x3, .int x4, .int x5, .int x6]) (st' := [.int x4, .int (2 : Int32), .int x5, .ref a0]) rfl) ?_
    refine Eq.trans (rn_vir (L' := [.ref a0, .int x1, .int x2, .int x3, .int x4, .int x5, .int x6]) (as := [.int x5, .int (2 : Int32), .int x4]) (rest := []) rfl rfl rfl rfl rfl (Nat.le_of_ble_eq_true rfl) (by decide) (by decide)) ?_
    refine eC_c ?_
    refine Eq.trans (cW_V rfl rfl) ?_
    refine cV_c (fun s_3 => ?_) (xh_nil rfl)
    refine Eq.trans (rn_go 3 (pc' := 141) (L' := [.ref a0, .int x1, .int x2, .int x3, .int x4, .int x5, .int x6]) (st' := [.int x3, .int x5, .ref a0]) rfl) ?_
    refine Eq.trans (rn_vir (L' := [.ref a0, .int x1, .int x2, .int x3, .int x4, .int x5, .int x6]) (as := [.int x5, .int x3]) (rest := []) rfl rfl rfl rfl rfl (Nat.le_of_ble_eq_true rfl) (by decide) (by decide)) ?_
    refine eC_c ?_
    refine Eq.trans (cW_V rfl rfl) ?_
    refine cV_c (fun s_4 => ?_) (xh_nil rfl)
    refine Eq.trans (rn_go 1 (pc' := 146) (L' := [.ref a0, .int x1, .int x2, .int x3, .int x4, .int x5, .int x6]) (st' := [.int x5]) rfl) ?_
    exact rn_retI rfl rfl rfl
  · refine Eq.trans (rn_go 4 (pc' := 103) (L' := [.ref a0, .int x1, .int x2, .int x3, .int x4, .int x5, .int x6]) (st' := [.int (0 : Int32), .int x6, .int x5, .ref a0]) rfl) ?_
    refine Eq.trans (rn_vir (L' := [.ref a0, .int x1, .int x2, .int x3, .int x4, .int x5, .int x6]) (as := [.int x5, .int x6, .int (0 : Int32)]) (rest := []) rfl rfl rfl rfl rfl (Nat.le_of_ble_eq_true rfl) (by decide) (by decide)) ?_
    refine eC_c ?_
    refine Eq.trans (cW_V rfl rfl) ?_
    refine cV_c (fun s_5 => ?_) (xh_nil rfl)
    exact rn_go 2 (pc' := 90) (L' := [.ref a0, .int x1, .int x2, .int x3, .int x4, .int x5, .int (x6 + (1 : Int32))]) (st' := []) rfl
theorem in_X13_watchValue {B : Nat} (a0 : Nat) (x1 : Int32) (x2 : Int32) (s : am_S) : cl_ tb_ct tb_mt B K_X13_watchValue [.ref a0, .int x1, .int x2] s = rn_ tb_ct tb_mt B mm_X13_watchValue 0 [.ref a0, .int x1, .int x2] [] s := cl_in rfl rfl rfl rfl
theorem dc_X13_watchValue_0 {B : Nat} (a0 : Nat) (x1 : Int32) (x2 : Int32) (s : am_S) : rn_ tb_ct tb_mt B mm_X13_watchValue 0 [.ref a0, .int x1, .int x2] [] s = eC (am_cls s a0) 11 (cI (cl_ tb_ct tb_mt B K_X13_isWatch [.ref a0, .int x1] s) (fun x_2 s_1 => eC (am_cls s_1 a0) 11 (cI (cl_ tb_ct tb_mt B K_X13_isThrown [.ref a0, .int x_2, .int (1 : Int32)] s_1) (fun x_4 s_3 => if x_4 = 0 then cI (cl_ tb_ct tb_mt B K_X13_in [.long x2.toInt64, .long (0 : Int64), .long (6 : Int64)] s_3) (fun x_6 s_5 => eC (am_cls s_5 a0) 11 (cI (cl_ tb_ct tb_mt B K_X13_isThrown [.ref a0, .int x_6, .int (2 : Int32)] s_5) (fun x_8 s_7 => if x_8 = 0 then sw x2.toInt (3) [eC (am_cls s_7 a0) 11 (cI (cl_ tb_ct tb_mt B K_X13_waiting [.ref a0, .int x1] s_7) (fun x_10 s_9 => some (.inl (some (.int x_10)), s_9)) xo), eC (am_cls s_7 a0) 11 (cI (cl_ tb_ct tb_mt B K_X13_watchAt [.ref a0, .int x1, .int (5 : Int32)] s_7) (fun x_12 s_11 => some (.inl (some (.int x_12)), s_11)) xo), eC (am_cls s_7 a0) 11 (cI (cl_ tb_ct tb_mt B K_X13_watchAt [.ref a0, .int x1, .int (4 : Int32)] s_7) (fun x_14 s_13 => if x_14 ≤ 0 then eC (am_cls s_13 a0) 11 (cI (cl_ tb_ct tb_mt B K_X13_waiting [.ref a0, .int x1] s_13) (fun x_16 s_15 => if x_16 ≤ 0 then some (.inl (some (.int (0 : Int32))), s_15) else some (.inl (some (.int (1 : Int32))), s_15)) xo) else some (.inl (some (.int (2 : Int32))), s_13)) xo), eC (am_cls s_7 a0) 11 (cI (cl_ tb_ct tb_mt B K_X13_watchAt [.ref a0, .int x1, .int (4 : Int32)] s_7) (fun x_18 s_17 => some (.inl (some (.int x_18)), s_17)) xo)] (eC (am_cls s_7 a0) 11 (cI (cl_ tb_ct tb_mt B K_X13_watchAt [.ref a0, .int x1, .int x2] s_7) (fun x_20 s_19 => some (.inl (some (.int x_20)), s_19)) xo)) else some (.inl (some (.int (0 : Int32))), s_7)) xo)) xo else some (.inl (some (.int (0 : Int32))), s_3)) xo)) xo) := by
  refine Eq.trans (rn_go 3 (pc' := 3) (L' := [.ref a0, .int x1, .int x2]) (st' := [.int x1, .ref a0, .ref a0]) rfl) ?_
  refine Eq.trans (rn_vir (L' := [.ref a0, .int x1, .int x2]) (as := [.int x1]) (rest := [.ref a0]) rfl rfl rfl rfl rfl (Nat.le_of_ble_eq_true rfl) (by decide) (by decide)) ?_
  refine eC_c ?_
  refine Eq.trans (cW_I rfl rfl rfl) ?_
  refine cI_c (fun x_2 s_1 => ?_) (xh_nil rfl)
  refine Eq.trans (rn_go 1 (pc' := 7) (L' := [.ref a0, .int x1, .int x2]) (st' := [.int (1 : Int32), .int x_2, .ref a0]) rfl) ?_
  refine Eq.trans (rn_vir (L' := [.ref a0, .int x1, .int x2]) (as := [.int x_2, .int (1 : Int32)]) (rest := []) rfl rfl rfl rfl rfl (Nat.le_of_ble_eq_true rfl) (by decide) (by decide)) ?_
  refine eC_c ?_
  refine Eq.trans (cW_I rfl rfl rfl) ?_
  refine cI_c (fun x_4 s_3 => ?_) (xh_nil rfl)
  refine Eq.trans (rn_ifne (L' := [.ref a0, .int x1, .int x2]) rfl rfl) ?_
  refine if_c ?_ ?_
  · refine Eq.trans (rn_go 5 (pc' := 20) (L' := [.ref a0, .int x1, .int x2]) (st' := [.long (6 : Int64), .long (0 : Int64), .long x2.toInt64, .ref a0]) rfl) ?_
    refine Eq.trans (rn_sta (L' := [.ref a0, .int x1, .int x2]) (as := [.long x2.toInt64, .long (0 : Int64), .long (6 : Int64)]) (rest := [.ref a0]) rfl rfl rfl rfl rfl (Nat.le_of_ble_eq_true rfl) (by decide) rfl) ?_
    refine Eq.trans (cW_I rfl rfl rfl) ?_
    refine cI_c (fun x_6 s_5 => ?_) (xh_nil rfl)
    refine Eq.trans (rn_go 1 (pc' := 24) (L' := [.ref a0, .int x1, .int x2]) (st' := [.int (2 : Int32), .int x_6, .ref a0]) rfl) ?_
    refine Eq.trans (rn_vir (L' := [.ref a0, .int x1, .int x2]) (as := [.int x_6, .int (2 : Int32)]) (rest := []) rfl rfl rfl rfl rfl (Nat.le_of_ble_eq_true rfl) (by decide) (by decide)) ?_
    refine eC_c ?_
    refine Eq.trans (cW_I rfl rfl rfl) ?_
    refine cI_c (fun x_8 s_7 => ?_) (xh_nil rfl)
    refine Eq.trans (rn_ifeq (L' := [.ref a0, .int x1, .int x2]) rfl rfl) ?_
    refine if_c ?_ ?_
    · refine Eq.trans (rn_go 1 (pc' := 33) (L' := [.ref a0, .int x1, .int x2]) (st' := [.int x2]) rfl) ?_
      refine Eq.trans (rn_tsw (L' := [.ref a0, .int x1, .int x2]) (ts := [64, 70, 77, 104]) (td := 111) rfl rfl (by decide) rfl rfl) ?_
      refine sw_c ?_ ?_
      · refine cons_c ?_ ?_
        · refine Eq.trans (rn_go 2 (pc' := 66) (L' := [.ref a0, .int x1, .int x2]) (st' := [.int x1, .ref a0]) rfl) ?_
          refine Eq.trans (rn_vir (L' := [.ref a0, .int x1, .int x2]) (as := [.int x1]) (rest := []) rfl rfl rfl rfl rfl (Nat.le_of_ble_eq_true rfl) (by decide) (by decide)) ?_
          refine eC_c ?_
          refine Eq.trans (cW_I rfl rfl rfl) ?_
          refine cI_c (fun x_10 s_9 => ?_) (xh_nil rfl)
          exact rn_retI rfl rfl rfl
        refine cons_c ?_ ?_
        · refine Eq.trans (rn_go 3 (pc' := 73) (L' := [.ref a0, .int x1, .int x2]) (st' := [.int (5 : Int32), .int x1, .ref a0]) rfl) ?_
          refine Eq.trans (rn_vir (L' := [.ref a0, .int x1, .int x2]) (as := [.int x1, .int (5 : Int32)]) (rest := []) rfl rfl rfl rfl rfl (Nat.le_of_ble_eq_true rfl) (by decide) (by decide)) ?_
          refine eC_c ?_
          refine Eq.trans (cW_I rfl rfl rfl) ?_
          refine cI_c (fun x_12 s_11 => ?_) (xh_nil rfl)
          exact rn_retI rfl rfl rfl
        refine cons_c ?_ ?_
        · refine Eq.trans (rn_go 3 (pc' := 80) (L' := [.ref a0, .int x1, .int x2]) (st' := [.int (4 : Int32), .int x1, .ref a0]) rfl) ?_
          refine Eq.trans (rn_vir (L' := [.ref a0, .int x1, .int x2]) (as := [.int x1, .int (4 : Int32)]) (rest := []) rfl rfl rfl rfl rfl (Nat.le_of_ble_eq_true rfl) (by decide) (by decide)) ?_
          refine eC_c ?_
          refine Eq.trans (cW_I rfl rfl rfl) ?_
          refine cI_c (fun x_14 s_13 => ?_) (xh_nil rfl)
          refine Eq.trans (rn_ifle (L' := [.ref a0, .int x1, .int x2]) rfl rfl) ?_
          refine if_c ?_ ?_
          · refine Eq.trans (rn_go 2 (pc' := 92) (L' := [.ref a0, .int x1, .int x2]) (st' := [.int x1, .ref a0]) rfl) ?_
            refine Eq.trans (rn_vir (L' := [.ref a0, .int x1, .int x2]) (as := [.int x1]) (rest := []) rfl rfl rfl rfl rfl (Nat.le_of_ble_eq_true rfl) (by decide) (by decide)) ?_
            refine eC_c ?_
            refine Eq.trans (cW_I rfl rfl rfl) ?_
            refine cI_c (fun x_16 s_15 => ?_) (xh_nil rfl)
            refine Eq.trans (rn_ifle (L' := [.ref a0, .int x1, .int x2]) rfl rfl) ?_
            refine if_c ?_ ?_
            · refine Eq.trans (rn_go 1 (pc' := 103) (L' := [.ref a0, .int x1, .int x2]) (st' := [.int (0 : Int32)]) rfl) ?_
              exact rn_retI rfl rfl rfl
            · refine Eq.trans (rn_go 2 (pc' := 103) (L' := [.ref a0, .int x1, .int x2]) (st' := [.int (1 : Int32)]) rfl) ?_
              exact rn_retI rfl rfl rfl
          · refine Eq.trans (rn_go 2 (pc' := 103) (L' := [.ref a0, .int x1, .int x2]) (st' := [.int (2 : Int32)]) rfl) ?_
            exact rn_retI rfl rfl rfl
        refine cons_c ?_ ?_
        · refine Eq.trans (rn_go 3 (pc' := 107) (L' := [.ref a0, .int x1, .int x2]) (st' := [.int (4 : Int32), .int x1, .ref a0]) rfl) ?_
          refine Eq.trans (rn_vir (L' := [.ref a0, .int x1, .int x2]) (as := [.int x1, .int (4 : Int32)]) (rest := []) rfl rfl rfl rfl rfl (Nat.le_of_ble_eq_true rfl) (by decide) (by decide)) ?_
          refine eC_c ?_
          refine Eq.trans (cW_I rfl rfl rfl) ?_
          refine cI_c (fun x_18 s_17 => ?_) (xh_nil rfl)
          exact rn_retI rfl rfl rfl
        rfl
      · refine Eq.trans (rn_go 3 (pc' := 114) (L' := [.ref a0, .int x1, .int x2]) (st' := [.int x2, .int x1, .ref a0]) rfl) ?_
        refine Eq.trans (rn_vir (L' := [.ref a0, .int x1, .int x2]) (as := [.int x1, .int x2]) (rest := []) rfl rfl rfl rfl rfl (Nat.le_of_ble_eq_true rfl) (by decide) (by decide)) ?_
        refine eC_c ?_
        refine Eq.trans (cW_I rfl rfl rfl) ?_
        refine cI_c (fun x_20 s_19 => ?_) (xh_nil rfl)
        exact rn_retI rfl rfl rfl
    · refine Eq.trans (rn_go 1 (pc' := 31) (L' := [.ref a0, .int x1, .int x2]) (st' := [.int (0 : Int32)]) rfl) ?_
      exact rn_retI rfl rfl rfl
  · refine Eq.trans (rn_go 1 (pc' := 31) (L' := [.ref a0, .int x1, .int x2]) (st' := [.int (0 : Int32)]) rfl) ?_
    exact rn_retI rfl rfl rfl
theorem in_X13_take {B : Nat} (a0 : Nat) (x1 : Int32) (s : am_S) : cl_ tb_ct tb_mt B K_X13_take [.ref a0, .int x1] s = rn_ tb_ct tb_mt B mm_X13_take 0 [.ref a0, .int x1, am_un, am_un] [] s := cl_in rfl rfl rfl rfl
theorem dc_X13_take_0 {B : Nat} (a0 : Nat) (x1 : Int32) (s : am_S) : rn_ tb_ct tb_mt B mm_X13_take 0 [.ref a0, .int x1, am_un, am_un] [] s = eC (am_cls s a0) 11 (cI (cl_ tb_ct tb_mt B K_X13_isWatch [.ref a0, .int x1] s) (fun x_2 s_1 => eC (am_cls s_1 a0) 11 (cI (cl_ tb_ct tb_mt B K_X13_isThrown [.ref a0, .int x_2, .int (1 : Int32)] s_1) (fun x_4 s_3 => if x_4 = 0 then eC (am_cls s_3 a0) 11 (cI (cl_ tb_ct tb_mt B K_X13_watchAt [.ref a0, .int x1, .int (4 : Int32)] s_3) (fun x_6 s_5 => if x_6 ≤ 0 then eC (am_cls s_5 a0) 11 (cI (cl_ tb_ct tb_mt B K_X13_firstOf [.ref a0, .int x1] s_5) (fun x_8 s_7 => if x_8 = (-(1 : Int32)) then some (.inl (some (.int (-(1 : Int32)))), s_7) else rn_ tb_ct tb_mt B mm_X13_take 42 [.ref a0, .int x1, .int x_8, .int (0 : Int32)] [] s_7) xo) else some (.inl (some (.int (-(5 : Int32)))), s_5)) xo) else some (.inl (some (.int (0 : Int32))), s_3)) xo)) xo) := by
  refine Eq.trans (rn_go 3 (pc' := 3) (L' := [.ref a0, .int x1, am_un, am_un]) (st' := [.int x1, .ref a0, .ref a0]) rfl) ?_
  refine Eq.trans (rn_vir (L' := [.ref a0, .int x1, am_un, am_un]) (as := [.int x1]) (rest := [.ref a0]) rfl rfl rfl rfl rfl (Nat.le_of_ble_eq_true rfl) (by decide) (by decide)) ?_
  refine eC_c ?_
  refine Eq.trans (cW_I rfl rfl rfl) ?_
  refine cI_c (fun x_2 s_1 => ?_) (xh_nil rfl)
  refine Eq.trans (rn_go 1 (pc' := 7) (L' := [.ref a0, .int x1, am_un, am_un]) (st' := [.int (1 : Int32), .int x_2, .ref a0]) rfl) ?_
  refine Eq.trans (rn_vir (L' := [.ref a0, .int x1, am_un, am_un]) (as := [.int x_2, .int (1 : Int32)]) (rest := []) rfl rfl rfl rfl rfl (Nat.le_of_ble_eq_true rfl) (by decide) (by decide)) ?_
  refine eC_c ?_
  refine Eq.trans (cW_I rfl rfl rfl) ?_
  refine cI_c (fun x_4 s_3 => ?_) (xh_nil rfl)
  refine Eq.trans (rn_ifeq (L' := [.ref a0, .int x1, am_un, am_un]) rfl rfl) ?_
  refine if_c ?_ ?_
  · refine Eq.trans (rn_go 3 (pc' := 18) (L' := [.ref a0, .int x1, am_un, am_un]) (st' := [.int (4 : Int32), .int x1, .ref a0]) rfl) ?_
    refine Eq.trans (rn_vir (L' := [.ref a0, .int x1, am_un, am_un]) (as := [.int x1, .int (4 : Int32)]) (rest := []) rfl rfl rfl rfl rfl (Nat.le_of_ble_eq_true rfl) (by decide) (by decide)) ?_
    refine eC_c ?_
    refine Eq.trans (cW_I rfl rfl rfl) ?_
    refine cI_c (fun x_6 s_5 => ?_) (xh_nil rfl)
    refine Eq.trans (rn_ifle (L' := [.ref a0, .int x1, am_un, am_un]) rfl rfl) ?_
    refine if_c ?_ ?_
    · refine Eq.trans (rn_go 2 (pc' := 29) (L' := [.ref a0, .int x1, am_un, am_un]) (st' := [.int x1, .ref a0]) rfl) ?_
      refine Eq.trans (rn_vir (L' := [.ref a0, .int x1, am_un, am_un]) (as := [.int x1]) (rest := []) rfl rfl rfl rfl rfl (Nat.le_of_ble_eq_true rfl) (by decide) (by decide)) ?_
      refine eC_c ?_
      refine Eq.trans (cW_I rfl rfl rfl) ?_
      refine cI_c (fun x_8 s_7 => ?_) (xh_nil rfl)
      refine Eq.trans (rn_go 3 (pc' := 35) (L' := [.ref a0, .int x1, .int x_8, am_un]) (st' := [.int (-(1 : Int32)), .int x_8]) rfl) ?_
      refine Eq.trans (rn_icne (L' := [.ref a0, .int x1, .int x_8, am_un]) rfl rfl) ?_
      refine if_c ?_ ?_
      · refine Eq.trans (rn_go 1 (pc' := 39) (L' := [.ref a0, .int x1, .int x_8, am_un]) (st' := [.int (-(1 : Int32))]) rfl) ?_
        exact rn_retI rfl rfl rfl
      · exact rn_go 2 (pc' := 42) (L' := [.ref a0, .int x1, .int x_8, .int (0 : Int32)]) (st' := []) rfl
    · refine Eq.trans (rn_go 1 (pc' := 26) (L' := [.ref a0, .int x1, am_un, am_un]) (st' := [.int (-(5 : Int32))]) rfl) ?_
      exact rn_retI rfl rfl rfl
  · refine Eq.trans (rn_go 1 (pc' := 14) (L' := [.ref a0, .int x1, am_un, am_un]) (st' := [.int (0 : Int32)]) rfl) ?_
    exact rn_retI rfl rfl rfl
theorem dc_X13_take_42 {B : Nat} (a0 : Nat) (x1 : Int32) (x2 : Int32) (x3 : Int32) (s : am_S) : rn_ tb_ct tb_mt B mm_X13_take 42 [.ref a0, .int x1, .int x2, .int x3] [] s = if (6 : Int32) ≤ x3 then eA (gA tb_ct s a0 11 0) (none) (fun b_1 => eI (aI s b_1 (7 : Int32)) (fun x_2 => eC (am_cls s a0) 11 (cV (cl_ tb_ct tb_mt B K_X13_sets [.ref a0, .int x1, .int (3 : Int32), .int ((x_2 + x2) + (1 : Int32))] s) (fun s_3 => eC (am_cls s_3 a0) 11 (cI (cl_ tb_ct tb_mt B K_X13_watchAt [.ref a0, .int x1, .int (5 : Int32)] s_3) (fun x_5 s_4 => eC (am_cls s_4 a0) 11 (cV (cl_ tb_ct tb_mt B K_X13_sets [.ref a0, .int x1, .int (5 : Int32), .int (x_5 + (1 : Int32))] s_4) (fun s_6 => eC (am_cls s_6 a0) 11 (cI (cl_ tb_ct tb_mt B K_X13_eventAt [.ref a0, .int x2, .int (0 : Int32)] s_6) (fun x_8 s_7 => some (.inl (some (.int x_8)), s_7)) xo)) xo)) xo)) xo))) else eC (am_cls s a0) 11 (cI (cl_ tb_ct tb_mt B K_X13_eventAt [.ref a0, .int x2, .int x3] s) (fun x_10 s_9 => eC (am_cls s_9 a0) 11 (cV (cl_ tb_ct tb_mt B K_X13_sets [.ref a0, .int x1, .int ((6 : Int32) + x3), .int x_10] s_9) (fun s_11 => rn_ tb_ct tb_mt B mm_X13_take 42 [.ref a0, .int x1, .int x2, .int (x3 + (1 : Int32))] [] s_11) xo)) xo) := by
  refine Eq.trans (rn_go 2 (pc' := 45) (L' := [.ref a0, .int x1, .int x2, .int x3]) (st' := [.int (6 : Int32), .int x3]) rfl) ?_
  refine Eq.trans (rn_icge (L' := [.ref a0, .int x1, .int x2, .int x3]) rfl rfl) ?_
  refine if_c ?_ ?_
  · refine Eq.trans (rn_go 4 (pc' := 73) (L' := [.ref a0, .int x1, .int x2, .int x3]) (st' := [.ref a0, .int (3 : Int32), .int x1, .ref a0]) rfl) ?_
    refine Eq.trans (rn_gA (L' := [.ref a0, .int x1, .int x2, .int x3]) rfl rfl rfl rfl) ?_
    refine eA_c ?_ (fun b_1 => ?_)
    · refine Eq.trans (rn_go 1 (pc' := 78) (L' := [.ref a0, .int x1, .int x2, .int x3]) (st' := [.int (7 : Int32), .null, .int (3 : Int32), .int x1, .ref a0]) rfl) ?_
      exact rn_z rfl rfl
    · refine Eq.trans (rn_go 1 (pc' := 78) (L' := [.ref a0, .int x1, .int x2, .int x3]) (st' := [.int (7 : Int32), .ref b_1, .int (3 : Int32), .int x1, .ref a0]) rfl) ?_
      refine Eq.trans (rn_aI (L' := [.ref a0, .int x1, .int x2, .int x3]) rfl rfl) ?_
      refine eI_c (fun x_2 => ?_)
      refine Eq.trans (rn_go 4 (pc' := 83) (L' := [.ref a0, .int x1, .int x2, .int x3]) (st' := [.int ((x_2 + x2) + (1 : Int32)), .int (3 : Int32), .int x1, .ref a0]) rfl) ?_
      refine Eq.trans (rn_vir (L' := [.ref a0, .int x1, .int x2, .int x3]) (as := [.int x1, .int (3 : Int32), .int ((x_2 + x2) + (1 : Int32))]) (rest := []) rfl rfl rfl rfl rfl (Nat.le_of_ble_eq_true rfl) (by decide) (by decide)) ?_
      refine eC_c ?_
      refine Eq.trans (cW_V rfl rfl) ?_
      refine cV_c (fun s_3 => ?_) (xh_nil rfl)
      refine Eq.trans (rn_go 6 (pc' := 92) (L' := [.ref a0, .int x1, .int x2, .int x3]) (st' := [.int (5 : Int32), .int x1, .ref a0, .int (5 : Int32), .int x1, .ref a0]) rfl) ?_
      refine Eq.trans (rn_vir (L' := [.ref a0, .int x1, .int x2, .int x3]) (as := [.int x1, .int (5 : Int32)]) (rest := [.int (5 : Int32), .int x1, .ref a0]) rfl rfl rfl rfl rfl (Nat.le_of_ble_eq_true rfl) (by decide) (by decide)) ?_
      refine eC_c ?_
      refine Eq.trans (cW_I rfl rfl rfl) ?_
      refine cI_c (fun x_5 s_4 => ?_) (xh_nil rfl)
      refine Eq.trans (rn_go 2 (pc' := 97) (L' := [.ref a0, .int x1, .int x2, .int x3]) (st' := [.int (x_5 + (1 : Int32)), .int (5 : Int32), .int x1, .ref a0]) rfl) ?_
      refine Eq.trans (rn_vir (L' := [.ref a0, .int x1, .int x2, .int x3]) (as := [.int x1, .int (5 : Int32), .int (x_5 + (1 : Int32))]) (rest := []) rfl rfl rfl rfl rfl (Nat.le_of_ble_eq_true rfl) (by decide) (by decide)) ?_
      refine eC_c ?_
      refine Eq.trans (cW_V rfl rfl) ?_
      refine cV_c (fun s_6 => ?_) (xh_nil rfl)
      refine Eq.trans (rn_go 3 (pc' := 103) (L' := [.ref a0, .int x1, .int x2, .int x3]) (st' := [.int (0 : Int32), .int x2, .ref a0]) rfl) ?_
      refine Eq.trans (rn_vir (L' := [.ref a0, .int x1, .int x2, .int x3]) (as := [.int x2, .int (0 : Int32)]) (rest := []) rfl rfl rfl rfl rfl (Nat.le_of_ble_eq_true rfl) (by decide) (by decide)) ?_
      refine eC_c ?_
      refine Eq.trans (cW_I rfl rfl rfl) ?_
      refine cI_c (fun x_8 s_7 => ?_) (xh_nil rfl)
      exact rn_retI rfl rfl rfl
  · refine Eq.trans (rn_go 8 (pc' := 57) (L' := [.ref a0, .int x1, .int x2, .int x3]) (st' := [.int x3, .int x2, .ref a0, .int ((6 : Int32) + x3), .int x1, .ref a0]) rfl) ?_
    refine Eq.trans (rn_vir (L' := [.ref a0, .int x1, .int x2, .int x3]) (as := [.int x2, .int x3]) (rest := [.int ((6 : Int32) + x3), .int x1, .ref a0]) rfl rfl rfl rfl rfl (Nat.le_of_ble_eq_true rfl) (by decide) (by decide)) ?_
    refine eC_c ?_
    refine Eq.trans (cW_I rfl rfl rfl) ?_
    refine cI_c (fun x_10 s_9 => ?_) (xh_nil rfl)
    refine Eq.trans (rn_vir (L' := [.ref a0, .int x1, .int x2, .int x3]) (as := [.int x1, .int ((6 : Int32) + x3), .int x_10]) (rest := []) rfl rfl rfl rfl rfl (Nat.le_of_ble_eq_true rfl) (by decide) (by decide)) ?_
    refine eC_c ?_
    refine Eq.trans (cW_V rfl rfl) ?_
    refine cV_c (fun s_11 => ?_) (xh_nil rfl)
    exact rn_go 2 (pc' := 42) (L' := [.ref a0, .int x1, .int x2, .int (x3 + (1 : Int32))]) (st' := []) rfl
theorem in_X13_taken {B : Nat} (a0 : Nat) (x1 : Int32) (x2 : Int32) (s : am_S) : cl_ tb_ct tb_mt B K_X13_taken [.ref a0, .int x1, .int x2] s = rn_ tb_ct tb_mt B mm_X13_taken 0 [.ref a0, .int x1, .int x2] [] s := cl_in rfl rfl rfl rfl
theorem dc_X13_taken_0 {B : Nat} (a0 : Nat) (x1 : Int32) (x2 : Int32) (s : am_S) : rn_ tb_ct tb_mt B mm_X13_taken 0 [.ref a0, .int x1, .int x2] [] s = eC (am_cls s a0) 11 (cI (cl_ tb_ct tb_mt B K_X13_isWatch [.ref a0, .int x1] s) (fun x_2 s_1 => eC (am_cls s_1 a0) 11 (cI (cl_ tb_ct tb_mt B K_X13_isThrown [.ref a0, .int x_2, .int (1 : Int32)] s_1) (fun x_4 s_3 => if x_4 = 0 then cI (cl_ tb_ct tb_mt B K_X13_in [.long x2.toInt64, .long (0 : Int64), .long (5 : Int64)] s_3) (fun x_6 s_5 => eC (am_cls s_5 a0) 11 (cI (cl_ tb_ct tb_mt B K_X13_isThrown [.ref a0, .int x_6, .int (2 : Int32)] s_5) (fun x_8 s_7 => if x_8 = 0 then eC (am_cls s_7 a0) 11 (cI (cl_ tb_ct tb_mt B K_X13_watchAt [.ref a0, .int x1, .int (5 : Int32)] s_7) (fun x_10 s_9 => if x_10 = 0 then some (.inl (some (.int (-(2000000000 : Int32)))), s_9) else eC (am_cls s_9 a0) 11 (cI (cl_ tb_ct tb_mt B K_X13_watchAt [.ref a0, .int x1, .int ((6 : Int32) + x2)] s_9) (fun x_12 s_11 => some (.inl (some (.int x_12)), s_11)) xo)) xo) else some (.inl (some (.int (0 : Int32))), s_7)) xo)) xo else some (.inl (some (.int (0 : Int32))), s_3)) xo)) xo) := by
  refine Eq.trans (rn_go 3 (pc' := 3) (L' := [.ref a0, .int x1, .int x2]) (st' := [.int x1, .ref a0, .ref a0]) rfl) ?_
  refine Eq.trans (rn_vir (L' := [.ref a0, .int x1, .int x2]) (as := [.int x1]) (rest := [.ref a0]) rfl rfl rfl rfl rfl (Nat.le_of_ble_eq_true rfl) (by decide) (by decide)) ?_
  refine eC_c ?_
  refine Eq.trans (cW_I rfl rfl rfl) ?_
  refine cI_c (fun x_2 s_1 => ?_) (xh_nil rfl)
  refine Eq.trans (rn_go 1 (pc' := 7) (L' := [.ref a0, .int x1, .int x2]) (st' := [.int (1 : Int32), .int x_2, .ref a0]) rfl) ?_
  refine Eq.trans (rn_vir (L' := [.ref a0, .int x1, .int x2]) (as := [.int x_2, .int (1 : Int32)]) (rest := []) rfl rfl rfl rfl rfl (Nat.le_of_ble_eq_true rfl) (by decide) (by decide)) ?_
  refine eC_c ?_
  refine Eq.trans (cW_I rfl rfl rfl) ?_
  refine cI_c (fun x_4 s_3 => ?_) (xh_nil rfl)
  refine Eq.trans (rn_ifne (L' := [.ref a0, .int x1, .int x2]) rfl rfl) ?_
  refine if_c ?_ ?_
  · refine Eq.trans (rn_go 5 (pc' := 20) (L' := [.ref a0, .int x1, .int x2]) (st' := [.long (5 : Int64), .long (0 : Int64), .long x2.toInt64, .ref a0]) rfl) ?_
    refine Eq.trans (rn_sta (L' := [.ref a0, .int x1, .int x2]) (as := [.long x2.toInt64, .long (0 : Int64), .long (5 : Int64)]) (rest := [.ref a0]) rfl rfl rfl rfl rfl (Nat.le_of_ble_eq_true rfl) (by decide) rfl) ?_
    refine Eq.trans (cW_I rfl rfl rfl) ?_
    refine cI_c (fun x_6 s_5 => ?_) (xh_nil rfl)
    refine Eq.trans (rn_go 1 (pc' := 24) (L' := [.ref a0, .int x1, .int x2]) (st' := [.int (2 : Int32), .int x_6, .ref a0]) rfl) ?_
    refine Eq.trans (rn_vir (L' := [.ref a0, .int x1, .int x2]) (as := [.int x_6, .int (2 : Int32)]) (rest := []) rfl rfl rfl rfl rfl (Nat.le_of_ble_eq_true rfl) (by decide) (by decide)) ?_
    refine eC_c ?_
    refine Eq.trans (cW_I rfl rfl rfl) ?_
    refine cI_c (fun x_8 s_7 => ?_) (xh_nil rfl)
    refine Eq.trans (rn_ifeq (L' := [.ref a0, .int x1, .int x2]) rfl rfl) ?_
    refine if_c ?_ ?_
    · refine Eq.trans (rn_go 3 (pc' := 35) (L' := [.ref a0, .int x1, .int x2]) (st' := [.int (5 : Int32), .int x1, .ref a0]) rfl) ?_
      refine Eq.trans (rn_vir (L' := [.ref a0, .int x1, .int x2]) (as := [.int x1, .int (5 : Int32)]) (rest := []) rfl rfl rfl rfl rfl (Nat.le_of_ble_eq_true rfl) (by decide) (by decide)) ?_
      refine eC_c ?_
      refine Eq.trans (cW_I rfl rfl rfl) ?_
      refine cI_c (fun x_10 s_9 => ?_) (xh_nil rfl)
      refine Eq.trans (rn_ifne (L' := [.ref a0, .int x1, .int x2]) rfl rfl) ?_
      refine if_c ?_ ?_
      · refine Eq.trans (rn_go 2 (pc' := 55) (L' := [.ref a0, .int x1, .int x2]) (st' := [.int (-(2000000000 : Int32))]) rfl) ?_
        exact rn_retI rfl rfl rfl
      · refine Eq.trans (rn_go 5 (pc' := 52) (L' := [.ref a0, .int x1, .int x2]) (st' := [.int ((6 : Int32) + x2), .int x1, .ref a0]) rfl) ?_
        refine Eq.trans (rn_vir (L' := [.ref a0, .int x1, .int x2]) (as := [.int x1, .int ((6 : Int32) + x2)]) (rest := []) rfl rfl rfl rfl rfl (Nat.le_of_ble_eq_true rfl) (by decide) (by decide)) ?_
        refine eC_c ?_
        refine Eq.trans (cW_I rfl rfl rfl) ?_
        refine cI_c (fun x_12 s_11 => ?_) (xh_nil rfl)
        exact rn_retI rfl rfl rfl
    · refine Eq.trans (rn_go 1 (pc' := 31) (L' := [.ref a0, .int x1, .int x2]) (st' := [.int (0 : Int32)]) rfl) ?_
      exact rn_retI rfl rfl rfl
  · refine Eq.trans (rn_go 1 (pc' := 31) (L' := [.ref a0, .int x1, .int x2]) (st' := [.int (0 : Int32)]) rfl) ?_
    exact rn_retI rfl rfl rfl
theorem in_X13_admit {B : Nat} (a0 : Nat) (x1 : Int32) (s : am_S) : cl_ tb_ct tb_mt B K_X13_admit [.ref a0, .int x1] s = rn_ tb_ct tb_mt B mm_X13_admit 0 [.ref a0, .int x1, am_un] [] s := cl_in rfl rfl rfl rfl
theorem dc_X13_admit_0 {B : Nat} (a0 : Nat) (x1 : Int32) (s : am_S) : rn_ tb_ct tb_mt B mm_X13_admit 0 [.ref a0, .int x1, am_un] [] s = eC (am_cls s a0) 11 (cI (cl_ tb_ct tb_mt B K_X13_isWatch [.ref a0, .int x1] s) (fun x_2 s_1 => eC (am_cls s_1 a0) 11 (cI (cl_ tb_ct tb_mt B K_X13_isThrown [.ref a0, .int x_2, .int (1 : Int32)] s_1) (fun x_4 s_3 => if x_4 = 0 then eC (am_cls s_3 a0) 11 (cI (cl_ tb_ct tb_mt B K_X13_watchAt [.ref a0, .int x1, .int (4 : Int32)] s_3) (fun x_6 s_5 => eC (am_cls s_5 a0) 11 (cV (cl_ tb_ct tb_mt B K_X13_sets [.ref a0, .int x1, .int (4 : Int32), .int (0 : Int32)] s_5) (fun s_7 => some (.inl (some (.int x_6)), s_7)) xo)) xo) else some (.inl (some (.int (0 : Int32))), s_3)) xo)) xo) := by
  refine Eq.trans (rn_go 3 (pc' := 3) (L' := [.ref a0, .int x1, am_un]) (st' := [.int x1, .ref a0, .ref a0]) rfl) ?_
  refine Eq.trans (rn_vir (L' := [.ref a0, .int x1, am_un]) (as := [.int x1]) (rest := [.ref a0]) rfl rfl rfl rfl rfl (Nat.le_of_ble_eq_true rfl) (by decide) (by decide)) ?_
  refine eC_c ?_
  refine Eq.trans (cW_I rfl rfl rfl) ?_
  refine cI_c (fun x_2 s_1 => ?_) (xh_nil rfl)
  refine Eq.trans (rn_go 1 (pc' := 7) (L' := [.ref a0, .int x1, am_un]) (st' := [.int (1 : Int32), .int x_2, .ref a0]) rfl) ?_
  refine Eq.trans (rn_vir (L' := [.ref a0, .int x1, am_un]) (as := [.int x_2, .int (1 : Int32)]) (rest := []) rfl rfl rfl rfl rfl (Nat.le_of_ble_eq_true rfl) (by decide) (by decide)) ?_
  refine eC_c ?_
  refine Eq.trans (cW_I rfl rfl rfl) ?_
  refine cI_c (fun x_4 s_3 => ?_) (xh_nil rfl)
  refine Eq.trans (rn_ifeq (L' := [.ref a0, .int x1, am_un]) rfl rfl) ?_
  refine if_c ?_ ?_
  · refine Eq.trans (rn_go 3 (pc' := 18) (L' := [.ref a0, .int x1, am_un]) (st' := [.int (4 : Int32), .int x1, .ref a0]) rfl) ?_
    refine Eq.trans (rn_vir (L' := [.ref a0, .int x1, am_un]) (as := [.int x1, .int (4 : Int32)]) (rest := []) rfl rfl rfl rfl rfl (Nat.le_of_ble_eq_true rfl) (by decide) (by decide)) ?_
    refine eC_c ?_
    refine Eq.trans (cW_I rfl rfl rfl) ?_
    refine cI_c (fun x_6 s_5 => ?_) (xh_nil rfl)
    refine Eq.trans (rn_go 5 (pc' := 26) (L' := [.ref a0, .int x1, .int x_6]) (st' := [.int (0 : Int32), .int (4 : Int32), .int x1, .ref a0]) rfl) ?_
    refine Eq.trans (rn_vir (L' := [.ref a0, .int x1, .int x_6]) (as := [.int x1, .int (4 : Int32), .int (0 : Int32)]) (rest := []) rfl rfl rfl rfl rfl (Nat.le_of_ble_eq_true rfl) (by decide) (by decide)) ?_
    refine eC_c ?_
    refine Eq.trans (cW_V rfl rfl) ?_
    refine cV_c (fun s_7 => ?_) (xh_nil rfl)
    refine Eq.trans (rn_go 1 (pc' := 30) (L' := [.ref a0, .int x1, .int x_6]) (st' := [.int x_6]) rfl) ?_
    exact rn_retI rfl rfl rfl
  · refine Eq.trans (rn_go 1 (pc' := 14) (L' := [.ref a0, .int x1, am_un]) (st' := [.int (0 : Int32)]) rfl) ?_
    exact rn_retI rfl rfl rfl
theorem in_X13_rewatch {B : Nat} (a0 : Nat) (x1 : Int32) (x2 : Int32) (s : am_S) : cl_ tb_ct tb_mt B K_X13_rewatch [.ref a0, .int x1, .int x2] s = rn_ tb_ct tb_mt B mm_X13_rewatch 0 [.ref a0, .int x1, .int x2] [] s := cl_in rfl rfl rfl rfl
theorem dc_X13_rewatch_0 {B : Nat} (a0 : Nat) (x1 : Int32) (x2 : Int32) (s : am_S) : rn_ tb_ct tb_mt B mm_X13_rewatch 0 [.ref a0, .int x1, .int x2] [] s = eC (am_cls s a0) 11 (cI (cl_ tb_ct tb_mt B K_X13_isWatch [.ref a0, .int x1] s) (fun x_2 s_1 => eC (am_cls s_1 a0) 11 (cI (cl_ tb_ct tb_mt B K_X13_isThrown [.ref a0, .int x_2, .int (1 : Int32)] s_1) (fun x_4 s_3 => if x_4 = 0 then if x2 < 0 then rn_ tb_ct tb_mt B mm_X13_rewatch 23 [.ref a0, .int x1, .int x2] [.int (0 : Int32), .ref a0] s_3 else rn_ tb_ct tb_mt B mm_X13_rewatch 23 [.ref a0, .int x1, .int x2] [.int (1 : Int32), .ref a0] s_3 else some (.inl (some (.int (0 : Int32))), s_3)) xo)) xo) := by
  refine Eq.trans (rn_go 3 (pc' := 3) (L' := [.ref a0, .int x1, .int x2]) (st' := [.int x1, .ref a0, .ref a0]) rfl) ?_
  refine Eq.trans (rn_vir (L' := [.ref a0, .int x1, .int x2]) (as := [.int x1]) (rest := [.ref a0]) rfl rfl rfl rfl rfl (Nat.le_of_ble_eq_true rfl) (by decide) (by decide)) ?_
  refine eC_c ?_
  refine Eq.trans (cW_I rfl rfl rfl) ?_
  refine cI_c (fun x_2 s_1 => ?_) (xh_nil rfl)
  refine Eq.trans (rn_go 1 (pc' := 7) (L' := [.ref a0, .int x1, .int x2]) (st' := [.int (1 : Int32), .int x_2, .ref a0]) rfl) ?_
  refine Eq.trans (rn_vir (L' := [.ref a0, .int x1, .int x2]) (as := [.int x_2, .int (1 : Int32)]) (rest := []) rfl rfl rfl rfl rfl (Nat.le_of_ble_eq_true rfl) (by decide) (by decide)) ?_
  refine eC_c ?_
  refine Eq.trans (cW_I rfl rfl rfl) ?_
  refine cI_c (fun x_4 s_3 => ?_) (xh_nil rfl)
  refine Eq.trans (rn_ifne (L' := [.ref a0, .int x1, .int x2]) rfl rfl) ?_
  refine if_c ?_ ?_
  · refine Eq.trans (rn_go 2 (pc' := 15) (L' := [.ref a0, .int x1, .int x2]) (st' := [.int x2, .ref a0]) rfl) ?_
    refine Eq.trans (rn_iflt (L' := [.ref a0, .int x1, .int x2]) rfl rfl) ?_
    refine if_c ?_ ?_
    · exact rn_go 1 (pc' := 23) (L' := [.ref a0, .int x1, .int x2]) (st' := [.int (0 : Int32), .ref a0]) rfl
    · exact rn_go 2 (pc' := 23) (L' := [.ref a0, .int x1, .int x2]) (st' := [.int (1 : Int32), .ref a0]) rfl
  · refine Eq.trans (rn_go 1 (pc' := 31) (L' := [.ref a0, .int x1, .int x2]) (st' := [.int (0 : Int32)]) rfl) ?_
    exact rn_retI rfl rfl rfl
theorem dc_X13_rewatch_23 {B : Nat} (a0 : Nat) (x1 : Int32) (x2 : Int32) (xs0 : Int32) (as1 : Nat) (s : am_S) : rn_ tb_ct tb_mt B mm_X13_rewatch 23 [.ref a0, .int x1, .int x2] [.int xs0, .ref as1] s = eC (am_cls s as1) 11 (cI (cl_ tb_ct tb_mt B K_X13_isThrown [.ref as1, .int xs0, .int (2 : Int32)] s) (fun x_2 s_1 => if x_2 = 0 then eA (gA tb_ct s_1 a0 11 0) (none) (fun b_3 => eI (aI s_1 b_3 (0 : Int32)) (fun x_4 => if (x2 - (1 : Int32)) ≤ x_4 then eC (am_cls s_1 a0) 11 (cV (cl_ tb_ct tb_mt B K_X13_sets [.ref a0, .int x1, .int (4 : Int32), .int (0 : Int32)] s_1) (fun s_5 => eC (am_cls s_5 a0) 11 (cV (cl_ tb_ct tb_mt B K_X13_starts [.ref a0, .int x1, .int x2] s_5) (fun s_6 => eC (am_cls s_6 a0) 11 (cI (cl_ tb_ct tb_mt B K_X13_waiting [.ref a0, .int x1] s_6) (fun x_8 s_7 => some (.inl (some (.int x_8)), s_7)) xo)) xo)) xo) else some (.inl (some (.int (-(2000000002 : Int32)))), s_1))) else some (.inl (some (.int (0 : Int32))), s_1)) xo) := by
  refine Eq.trans (rn_go 1 (pc' := 24) (L' := [.ref a0, .int x1, .int x2]) (st' := [.int (2 : Int32), .int xs0, .ref as1]) rfl) ?_
  refine Eq.trans (rn_vir (L' := [.ref a0, .int x1, .int x2]) (as := [.int xs0, .int (2 : Int32)]) (rest := []) rfl rfl rfl rfl rfl (Nat.le_of_ble_eq_true rfl) (by decide) (by decide)) ?_
  refine eC_c ?_
  refine Eq.trans (cW_I rfl rfl rfl) ?_
  refine cI_c (fun x_2 s_1 => ?_) (xh_nil rfl)
  refine Eq.trans (rn_ifeq (L' := [.ref a0, .int x1, .int x2]) rfl rfl) ?_
  refine if_c ?_ ?_
  · refine Eq.trans (rn_go 4 (pc' := 36) (L' := [.ref a0, .int x1, .int x2]) (st' := [.ref a0, .int (x2 - (1 : Int32))]) rfl) ?_
    refine Eq.trans (rn_gA (L' := [.ref a0, .int x1, .int x2]) rfl rfl rfl rfl) ?_
    refine eA_c ?_ (fun b_3 => ?_)
    · refine Eq.trans (rn_go 1 (pc' := 40) (L' := [.ref a0, .int x1, .int x2]) (st' := [.int (0 : Int32), .null, .int (x2 - (1 : Int32))]) rfl) ?_
      exact rn_z rfl rfl
    · refine Eq.trans (rn_go 1 (pc' := 40) (L' := [.ref a0, .int x1, .int x2]) (st' := [.int (0 : Int32), .ref b_3, .int (x2 - (1 : Int32))]) rfl) ?_
      refine Eq.trans (rn_aI (L' := [.ref a0, .int x1, .int x2]) rfl rfl) ?_
      refine eI_c (fun x_4 => ?_)
      refine Eq.trans (rn_icle (L' := [.ref a0, .int x1, .int x2]) rfl rfl) ?_
      refine if_c ?_ ?_
      · refine Eq.trans (rn_go 4 (pc' := 51) (L' := [.ref a0, .int x1, .int x2]) (st' := [.int (0 : Int32), .int (4 : Int32), .int x1, .ref a0]) rfl) ?_
        refine Eq.trans (rn_vir (L' := [.ref a0, .int x1, .int x2]) (as := [.int x1, .int (4 : Int32), .int (0 : Int32)]) (rest := []) rfl rfl rfl rfl rfl (Nat.le_of_ble_eq_true rfl) (by decide) (by decide)) ?_
        refine eC_c ?_
        refine Eq.trans (cW_V rfl rfl) ?_
        refine cV_c (fun s_5 => ?_) (xh_nil rfl)
        refine Eq.trans (rn_go 3 (pc' := 57) (L' := [.ref a0, .int x1, .int x2]) (st' := [.int x2, .int x1, .ref a0]) rfl) ?_
        refine Eq.trans (rn_vir (L' := [.ref a0, .int x1, .int x2]) (as := [.int x1, .int x2]) (rest := []) rfl rfl rfl rfl rfl (Nat.le_of_ble_eq_true rfl) (by decide) (by decide)) ?_
        refine eC_c ?_
        refine Eq.trans (cW_V rfl rfl) ?_
        refine cV_c (fun s_6 => ?_) (xh_nil rfl)
        refine Eq.trans (rn_go 2 (pc' := 62) (L' := [.ref a0, .int x1, .int x2]) (st' := [.int x1, .ref a0]) rfl) ?_
        refine Eq.trans (rn_vir (L' := [.ref a0, .int x1, .int x2]) (as := [.int x1]) (rest := []) rfl rfl rfl rfl rfl (Nat.le_of_ble_eq_true rfl) (by decide) (by decide)) ?_
        refine eC_c ?_
        refine Eq.trans (cW_I rfl rfl rfl) ?_
        refine cI_c (fun x_8 s_7 => ?_) (xh_nil rfl)
        exact rn_retI rfl rfl rfl
      · refine Eq.trans (rn_go 1 (pc' := 46) (L' := [.ref a0, .int x1, .int x2]) (st' := [.int (-(2000000002 : Int32))]) rfl) ?_
        exact rn_retI rfl rfl rfl
  · refine Eq.trans (rn_go 1 (pc' := 31) (L' := [.ref a0, .int x1, .int x2]) (st' := [.int (0 : Int32)]) rfl) ?_
    exact rn_retI rfl rfl rfl
theorem in_X13_unwatch {B : Nat} (a0 : Nat) (x1 : Int32) (s : am_S) : cl_ tb_ct tb_mt B K_X13_unwatch [.ref a0, .int x1] s = rn_ tb_ct tb_mt B mm_X13_unwatch 0 [.ref a0, .int x1] [] s := cl_in rfl rfl rfl rfl
theorem dc_X13_unwatch_0 {B : Nat} (a0 : Nat) (x1 : Int32) (s : am_S) : rn_ tb_ct tb_mt B mm_X13_unwatch 0 [.ref a0, .int x1] [] s = eC (am_cls s a0) 11 (cI (cl_ tb_ct tb_mt B K_X13_isWatch [.ref a0, .int x1] s) (fun x_2 s_1 => eC (am_cls s_1 a0) 11 (cI (cl_ tb_ct tb_mt B K_X13_isThrown [.ref a0, .int x_2, .int (1 : Int32)] s_1) (fun x_4 s_3 => if x_4 = 0 then eA (gA tb_ct s_3 a0 11 0) (none) (fun b_5 => eI (aI s_3 b_5 (5 : Int32)) (fun x_6 => eC (am_cls s_3 a0) 11 (cV (cl_ tb_ct tb_mt B K_X13_moves [.ref a0, .int (1173 : Int32), .int (12 : Int32), .int x1, .int x_6, .int (-(1 : Int32))] s_3) (fun s_7 => eA (gA tb_ct s_7 a0 11 0) (none) (fun b_8 => eI (aI s_7 b_8 (5 : Int32)) (fun x_9 => eS (wI B s_7 b_8 (5 : Int32) (x_9 - (1 : Int32))) (fun s_10 => eA (gA tb_ct s_10 a0 11 0) (none) (fun b_11 => eI (aI s_10 b_11 (5 : Int32)) (fun x_12 => some (.inl (some (.int x_12)), s_10))))))) xo))) else some (.inl (some (.int (0 : Int32))), s_3)) xo)) xo) := by
  refine Eq.trans (rn_go 3 (pc' := 3) (L' := [.ref a0, .int x1]) (st' := [.int x1, .ref a0, .ref a0]) rfl) ?_
  refine Eq.trans (rn_vir (L' := [.ref a0, .int x1]) (as := [.int x1]) (rest := [.ref a0]) rfl rfl rfl rfl rfl (Nat.le_of_ble_eq_true rfl) (by decide) (by decide)) ?_
  refine eC_c ?_
  refine Eq.trans (cW_I rfl rfl rfl) ?_
  refine cI_c (fun x_2 s_1 => ?_) (xh_nil rfl)
  refine Eq.trans (rn_go 1 (pc' := 7) (L' := [.ref a0, .int x1]) (st' := [.int (1 : Int32), .int x_2, .ref a0]) rfl) ?_
  refine Eq.trans (rn_vir (L' := [.ref a0, .int x1]) (as := [.int x_2, .int (1 : Int32)]) (rest := []) rfl rfl rfl rfl rfl (Nat.le_of_ble_eq_true rfl) (by decide) (by decide)) ?_
  refine eC_c ?_
  refine Eq.trans (cW_I rfl rfl rfl) ?_
  refine cI_c (fun x_4 s_3 => ?_) (xh_nil rfl)
  refine Eq.trans (rn_ifeq (L' := [.ref a0, .int x1]) rfl rfl) ?_
  refine if_c ?_ ?_
  · refine Eq.trans (rn_go 5 (pc' := 23) (L' := [.ref a0, .int x1]) (st' := [.ref a0, .int x1, .int (12 : Int32), .int (1173 : Int32), .ref a0]) rfl) ?_
    refine Eq.trans (rn_gA (L' := [.ref a0, .int x1]) rfl rfl rfl rfl) ?_
    refine eA_c ?_ (fun b_5 => ?_)
    · refine Eq.trans (rn_go 1 (pc' := 27) (L' := [.ref a0, .int x1]) (st' := [.int (5 : Int32), .null, .int x1, .int (12 : Int32), .int (1173 : Int32), .ref a0]) rfl) ?_
      exact rn_z rfl rfl
    · refine Eq.trans (rn_go 1 (pc' := 27) (L' := [.ref a0, .int x1]) (st' := [.int (5 : Int32), .ref b_5, .int x1, .int (12 : Int32), .int (1173 : Int32), .ref a0]) rfl) ?_
      refine Eq.trans (rn_aI (L' := [.ref a0, .int x1]) rfl rfl) ?_
      refine eI_c (fun x_6 => ?_)
      refine Eq.trans (rn_go 1 (pc' := 29) (L' := [.ref a0, .int x1]) (st' := [.int (-(1 : Int32)), .int x_6, .int x1, .int (12 : Int32), .int (1173 : Int32), .ref a0]) rfl) ?_
      refine Eq.trans (rn_vir (L' := [.ref a0, .int x1]) (as := [.int (1173 : Int32), .int (12 : Int32), .int x1, .int x_6, .int (-(1 : Int32))]) (rest := []) rfl rfl rfl rfl rfl (Nat.le_of_ble_eq_true rfl) (by decide) (by decide)) ?_
      refine eC_c ?_
      refine Eq.trans (cW_V rfl rfl) ?_
      refine cV_c (fun s_7 => ?_) (xh_nil rfl)
      refine Eq.trans (rn_go 1 (pc' := 33) (L' := [.ref a0, .int x1]) (st' := [.ref a0]) rfl) ?_
      refine Eq.trans (rn_gA (L' := [.ref a0, .int x1]) rfl rfl rfl rfl) ?_
      refine eA_c ?_ (fun b_8 => ?_)
      · refine Eq.trans (rn_go 2 (pc' := 38) (L' := [.ref a0, .int x1]) (st' := [.int (5 : Int32), .null, .int (5 : Int32), .null]) rfl) ?_
        exact rn_z rfl rfl
      · refine Eq.trans (rn_go 2 (pc' := 38) (L' := [.ref a0, .int x1]) (st' := [.int (5 : Int32), .ref b_8, .int (5 : Int32), .ref b_8]) rfl) ?_
        refine Eq.trans (rn_aI (L' := [.ref a0, .int x1]) rfl rfl) ?_
        refine eI_c (fun x_9 => ?_)
        refine Eq.trans (rn_go 2 (pc' := 41) (L' := [.ref a0, .int x1]) (st' := [.int (x_9 - (1 : Int32)), .int (5 : Int32), .ref b_8]) rfl) ?_
        refine Eq.trans (rn_wI (L' := [.ref a0, .int x1]) rfl rfl) ?_
        refine eS_c (fun s_10 => ?_)
        refine Eq.trans (rn_go 1 (pc' := 43) (L' := [.ref a0, .int x1]) (st' := [.ref a0]) rfl) ?_
        refine Eq.trans (rn_gA (L' := [.ref a0, .int x1]) rfl rfl rfl rfl) ?_
        refine eA_c ?_ (fun b_11 => ?_)
        · refine Eq.trans (rn_go 1 (pc' := 47) (L' := [.ref a0, .int x1]) (st' := [.int (5 : Int32), .null]) rfl) ?_
          exact rn_z rfl rfl
        · refine Eq.trans (rn_go 1 (pc' := 47) (L' := [.ref a0, .int x1]) (st' := [.int (5 : Int32), .ref b_11]) rfl) ?_
          refine Eq.trans (rn_aI (L' := [.ref a0, .int x1]) rfl rfl) ?_
          refine eI_c (fun x_12 => ?_)
          exact rn_retI rfl rfl rfl
  · refine Eq.trans (rn_go 1 (pc' := 14) (L' := [.ref a0, .int x1]) (st' := [.int (0 : Int32)]) rfl) ?_
    exact rn_retI rfl rfl rfl
theorem in_X13_safe {B : Nat} (a0 : Nat) (s : am_S) : cl_ tb_ct tb_mt B K_X13_safe [.ref a0] s = rn_ tb_ct tb_mt B mm_X13_safe 0 [.ref a0, am_un, am_un, am_un] [] s := cl_in rfl rfl rfl rfl
theorem dc_X13_safe_0 {B : Nat} (a0 : Nat) (s : am_S) : rn_ tb_ct tb_mt B mm_X13_safe 0 [.ref a0, am_un, am_un, am_un] [] s = eS (am_put tb_ct mm_X13_safe B s (.int (0 : Int32)) a0 11 4) (fun s_1 => eA (gA tb_ct s_1 a0 11 0) (none) (fun b_2 => eI (aI s_1 b_2 (0 : Int32)) (fun x_3 => rn_ tb_ct tb_mt B mm_X13_safe 14 [.ref a0, .int x_3, .int (0 : Int32), am_un] [] s_1))) := by
  refine Eq.trans (rn_go 2 (pc' := 2) (L' := [.ref a0, am_un, am_un, am_un]) (st' := [.int (0 : Int32), .ref a0]) rfl) ?_
  refine Eq.trans (rn_pF (L' := [.ref a0, am_un, am_un, am_un]) rfl rfl) ?_
  refine eS_c (fun s_1 => ?_)
  refine Eq.trans (rn_go 1 (pc' := 6) (L' := [.ref a0, am_un, am_un, am_un]) (st' := [.ref a0]) rfl) ?_
  refine Eq.trans (rn_gA (L' := [.ref a0, am_un, am_un, am_un]) rfl rfl rfl rfl) ?_
  refine eA_c ?_ (fun b_2 => ?_)
  · refine Eq.trans (rn_go 1 (pc' := 10) (L' := [.ref a0, am_un, am_un, am_un]) (st' := [.int (0 : Int32), .null]) rfl) ?_
    exact rn_z rfl rfl
  · refine Eq.trans (rn_go 1 (pc' := 10) (L' := [.ref a0, am_un, am_un, am_un]) (st' := [.int (0 : Int32), .ref b_2]) rfl) ?_
    refine Eq.trans (rn_aI (L' := [.ref a0, am_un, am_un, am_un]) rfl rfl) ?_
    refine eI_c (fun x_3 => ?_)
    exact rn_go 3 (pc' := 14) (L' := [.ref a0, .int x_3, .int (0 : Int32), am_un]) (st' := []) rfl
theorem dc_X13_safe_14 {B : Nat} (a0 : Nat) (x1 : Int32) (x2 : Int32) (s : am_S) : rn_ tb_ct tb_mt B mm_X13_safe 14 [.ref a0, .int x1, .int x2, am_un] [] s = eA (gA tb_ct s a0 11 0) (none) (fun b_1 => eI (aI s b_1 (5 : Int32)) (fun x_2 => if x_2 ≤ x2 then some (.inl (some (.int x1)), s) else eC (am_cls s a0) 11 (cI (cl_ tb_ct tb_mt B K_X13_firstOf [.ref a0, .int x2] s) (fun x_4 s_3 => if x_4 = (-(1 : Int32)) then rn_ tb_ct tb_mt B mm_X13_safe 51 [.ref a0, .int x1, .int x2, .int x_4] [.int x1] s_3 else eC (am_cls s_3 a0) 11 (cI (cl_ tb_ct tb_mt B K_X13_eventAt [.ref a0, .int x_4, .int (0 : Int32)] s_3) (fun x_6 s_5 => rn_ tb_ct tb_mt B mm_X13_safe 51 [.ref a0, .int x1, .int x2, .int x_4] [.int (if (x_6 - (1 : Int32)) < x1 then (x_6 - (1 : Int32)) else x1)] s_5) xo)) xo))) := by
  refine Eq.trans (rn_go 2 (pc' := 16) (L' := [.ref a0, .int x1, .int x2, am_un]) (st' := [.ref a0, .int x2]) rfl) ?_
  refine Eq.trans (rn_gA (L' := [.ref a0, .int x1, .int x2, am_un]) rfl rfl rfl rfl) ?_
  refine eA_c ?_ (fun b_1 => ?_)
  · refine Eq.trans (rn_go 1 (pc' := 20) (L' := [.ref a0, .int x1, .int x2, am_un]) (st' := [.int (5 : Int32), .null, .int x2]) rfl) ?_
    exact rn_z rfl rfl
  · refine Eq.trans (rn_go 1 (pc' := 20) (L' := [.ref a0, .int x1, .int x2, am_un]) (st' := [.int (5 : Int32), .ref b_1, .int x2]) rfl) ?_
    refine Eq.trans (rn_aI (L' := [.ref a0, .int x1, .int x2, am_un]) rfl rfl) ?_
    refine eI_c (fun x_2 => ?_)
    refine Eq.trans (rn_icge (L' := [.ref a0, .int x1, .int x2, am_un]) rfl rfl) ?_
    refine if_c ?_ ?_
    · refine Eq.trans (rn_go 1 (pc' := 59) (L' := [.ref a0, .int x1, .int x2, am_un]) (st' := [.int x1]) rfl) ?_
      exact rn_retI rfl rfl rfl
    · refine Eq.trans (rn_go 2 (pc' := 26) (L' := [.ref a0, .int x1, .int x2, am_un]) (st' := [.int x2, .ref a0]) rfl) ?_
      refine Eq.trans (rn_vir (L' := [.ref a0, .int x1, .int x2, am_un]) (as := [.int x2]) (rest := []) rfl rfl rfl rfl rfl (Nat.le_of_ble_eq_true rfl) (by decide) (by decide)) ?_
      refine eC_c ?_
      refine Eq.trans (cW_I rfl rfl rfl) ?_
      refine cI_c (fun x_4 s_3 => ?_) (xh_nil rfl)
      refine Eq.trans (rn_go 3 (pc' := 32) (L' := [.ref a0, .int x1, .int x2, .int x_4]) (st' := [.int (-(1 : Int32)), .int x_4]) rfl) ?_
      refine Eq.trans (rn_icne (L' := [.ref a0, .int x1, .int x2, .int x_4]) rfl rfl) ?_
      refine if_c ?_ ?_
      · exact rn_go 2 (pc' := 51) (L' := [.ref a0, .int x1, .int x2, .int x_4]) (st' := [.int x1]) rfl
      · refine Eq.trans (rn_go 4 (pc' := 43) (L' := [.ref a0, .int x1, .int x2, .int x_4]) (st' := [.int (0 : Int32), .int x_4, .ref a0, .int x1]) rfl) ?_
        refine Eq.trans (rn_vir (L' := [.ref a0, .int x1, .int x2, .int x_4]) (as := [.int x_4, .int (0 : Int32)]) (rest := [.int x1]) rfl rfl rfl rfl rfl (Nat.le_of_ble_eq_true rfl) (by decide) (by decide)) ?_
        refine eC_c ?_
        refine Eq.trans (cW_I rfl rfl rfl) ?_
        refine cI_c (fun x_6 s_5 => ?_) (xh_nil rfl)
        refine Eq.trans (rn_go 2 (pc' := 48) (L' := [.ref a0, .int x1, .int x2, .int x_4]) (st' := [.int (x_6 - (1 : Int32)), .int x1]) rfl) ?_
        refine Eq.trans (rn_min (L' := [.ref a0, .int x1, .int x2, .int x_4]) rfl rfl (Nat.le_of_ble_eq_true rfl)) ?_
        rfl
theorem dc_X13_safe_51 {B : Nat} (a0 : Nat) (w1 : Value) (x2 : Int32) (w3 : Value) (xs0 : Int32) (s : am_S) : rn_ tb_ct tb_mt B mm_X13_safe 51 [.ref a0, w1, .int x2, w3] [.int xs0] s = rn_ tb_ct tb_mt B mm_X13_safe 14 [.ref a0, .int xs0, .int (x2 + (1 : Int32)), am_un] [] s := by
  exact rn_go 3 (pc' := 14) (L' := [.ref a0, .int xs0, .int (x2 + (1 : Int32)), am_un]) (st' := []) rfl
theorem in_X13_missing {B : Nat} (a0 : Nat) (x1 : Int32) (s : am_S) : cl_ tb_ct tb_mt B K_X13_missing [.ref a0, .int x1] s = rn_ tb_ct tb_mt B mm_X13_missing 0 [.ref a0, .int x1, am_un, am_un, am_un] [] s := cl_in rfl rfl rfl rfl
theorem dc_X13_missing_0 {B : Nat} (a0 : Nat) (x1 : Int32) (s : am_S) : rn_ tb_ct tb_mt B mm_X13_missing 0 [.ref a0, .int x1, am_un, am_un, am_un] [] s = if x1 < 0 then rn_ tb_ct tb_mt B mm_X13_missing 10 [.ref a0, .int x1, am_un, am_un, am_un] [.int (0 : Int32), .ref a0] s else rn_ tb_ct tb_mt B mm_X13_missing 10 [.ref a0, .int x1, am_un, am_un, am_un] [.int (1 : Int32), .ref a0] s := by
  refine Eq.trans (rn_go 2 (pc' := 2) (L' := [.ref a0, .int x1, am_un, am_un, am_un]) (st' := [.int x1, .ref a0]) rfl) ?_
  refine Eq.trans (rn_iflt (L' := [.ref a0, .int x1, am_un, am_un, am_un]) rfl rfl) ?_
  refine if_c ?_ ?_
  · exact rn_go 1 (pc' := 10) (L' := [.ref a0, .int x1, am_un, am_un, am_un]) (st' := [.int (0 : Int32), .ref a0]) rfl
  · exact rn_go 2 (pc' := 10) (L' := [.ref a0, .int x1, am_un, am_un, am_un]) (st' := [.int (1 : Int32), .ref a0]) rfl
theorem dc_X13_missing_10 {B : Nat} (a0 : Nat) (x1 : Int32) (xs0 : Int32) (as1 : Nat) (s : am_S) : rn_ tb_ct tb_mt B mm_X13_missing 10 [.ref a0, .int x1, am_un, am_un, am_un] [.int xs0, .ref as1] s = eC (am_cls s as1) 11 (cI (cl_ tb_ct tb_mt B K_X13_isThrown [.ref as1, .int xs0, .int (1 : Int32)] s) (fun x_2 s_1 => if x_2 = 0 then rn_ tb_ct tb_mt B mm_X13_missing 23 [.ref a0, .int x1, .int (0 : Int32), .int (0 : Int32), am_un] [] s_1 else some (.inl (some (.int (0 : Int32))), s_1)) xo) := by
  refine Eq.trans (rn_go 1 (pc' := 11) (L' := [.ref a0, .int x1, am_un, am_un, am_un]) (st' := [.int (1 : Int32), .int xs0, .ref as1]) rfl) ?_
  refine Eq.trans (rn_vir (L' := [.ref a0, .int x1, am_un, am_un, am_un]) (as := [.int xs0, .int (1 : Int32)]) (rest := []) rfl rfl rfl rfl rfl (Nat.le_of_ble_eq_true rfl) (by decide) (by decide)) ?_
  refine eC_c ?_
  refine Eq.trans (cW_I rfl rfl rfl) ?_
  refine cI_c (fun x_2 s_1 => ?_) (xh_nil rfl)
  refine Eq.trans (rn_ifeq (L' := [.ref a0, .int x1, am_un, am_un, am_un]) rfl rfl) ?_
  refine if_c ?_ ?_
  · exact rn_go 4 (pc' := 23) (L' := [.ref a0, .int x1, .int (0 : Int32), .int (0 : Int32), am_un]) (st' := []) rfl
  · refine Eq.trans (rn_go 1 (pc' := 18) (L' := [.ref a0, .int x1, am_un, am_un, am_un]) (st' := [.int (0 : Int32)]) rfl) ?_
    exact rn_retI rfl rfl rfl
theorem dc_X13_missing_23 {B : Nat} (a0 : Nat) (x1 : Int32) (x2 : Int32) (x3 : Int32) (s : am_S) : rn_ tb_ct tb_mt B mm_X13_missing 23 [.ref a0, .int x1, .int x2, .int x3, am_un] [] s = eA (gA tb_ct s a0 11 0) (none) (fun b_1 => eI (aI s b_1 (5 : Int32)) (fun x_2 => if x_2 ≤ x3 then some (.inl (some (.int x2)), s) else eC (am_cls s a0) 11 (cI (cl_ tb_ct tb_mt B K_X13_firstOf [.ref a0, .int x3] s) (fun x_4 s_3 => if x_4 = (-(1 : Int32)) then rn_ tb_ct tb_mt B mm_X13_missing 62 [.ref a0, .int x1, .int x2, .int x3, .int x_4] [.int x2] s_3 else eC (am_cls s_3 a0) 11 (cI (cl_ tb_ct tb_mt B K_X13_eventAt [.ref a0, .int x_4, .int (0 : Int32)] s_3) (fun x_6 s_5 => if x1 < x_6 then rn_ tb_ct tb_mt B mm_X13_missing 62 [.ref a0, .int x1, .int x2, .int x3, .int x_4] [.int x2] s_5 else rn_ tb_ct tb_mt B mm_X13_missing 63 [.ref a0, .int x1, .int x2, .int x3, .int x_4] [.int (1 : Int32), .int x2] s_5) xo)) xo))) := by
  refine Eq.trans (rn_go 2 (pc' := 25) (L' := [.ref a0, .int x1, .int x2, .int x3, am_un]) (st' := [.ref a0, .int x3]) rfl) ?_
  refine Eq.trans (rn_gA (L' := [.ref a0, .int x1, .int x2, .int x3, am_un]) rfl rfl rfl rfl) ?_
  refine eA_c ?_ (fun b_1 => ?_)
  · refine Eq.trans (rn_go 1 (pc' := 29) (L' := [.ref a0, .int x1, .int x2, .int x3, am_un]) (st' := [.int (5 : Int32), .null, .int x3]) rfl) ?_
    exact rn_z rfl rfl
  · refine Eq.trans (rn_go 1 (pc' := 29) (L' := [.ref a0, .int x1, .int x2, .int x3, am_un]) (st' := [.int (5 : Int32), .ref b_1, .int x3]) rfl) ?_
    refine Eq.trans (rn_aI (L' := [.ref a0, .int x1, .int x2, .int x3, am_un]) rfl rfl) ?_
    refine eI_c (fun x_2 => ?_)
    refine Eq.trans (rn_icge (L' := [.ref a0, .int x1, .int x2, .int x3, am_un]) rfl rfl) ?_
    refine if_c ?_ ?_
    · refine Eq.trans (rn_go 1 (pc' := 72) (L' := [.ref a0, .int x1, .int x2, .int x3, am_un]) (st' := [.int x2]) rfl) ?_
      exact rn_retI rfl rfl rfl
    · refine Eq.trans (rn_go 2 (pc' := 35) (L' := [.ref a0, .int x1, .int x2, .int x3, am_un]) (st' := [.int x3, .ref a0]) rfl) ?_
      refine Eq.trans (rn_vir (L' := [.ref a0, .int x1, .int x2, .int x3, am_un]) (as := [.int x3]) (rest := []) rfl rfl rfl rfl rfl (Nat.le_of_ble_eq_true rfl) (by decide) (by decide)) ?_
      refine eC_c ?_
      refine Eq.trans (cW_I rfl rfl rfl) ?_
      refine cI_c (fun x_4 s_3 => ?_) (xh_nil rfl)
      refine Eq.trans (rn_go 4 (pc' := 44) (L' := [.ref a0, .int x1, .int x2, .int x3, .int x_4]) (st' := [.int (-(1 : Int32)), .int x_4, .int x2]) rfl) ?_
      refine Eq.trans (rn_iceq (L' := [.ref a0, .int x1, .int x2, .int x3, .int x_4]) rfl rfl) ?_
      refine if_c ?_ ?_
      · rfl
      · refine Eq.trans (rn_go 3 (pc' := 51) (L' := [.ref a0, .int x1, .int x2, .int x3, .int x_4]) (st' := [.int (0 : Int32), .int x_4, .ref a0, .int x2]) rfl) ?_
        refine Eq.trans (rn_vir (L' := [.ref a0, .int x1, .int x2, .int x3, .int x_4]) (as := [.int x_4, .int (0 : Int32)]) (rest := [.int x2]) rfl rfl rfl rfl rfl (Nat.le_of_ble_eq_true rfl) (by decide) (by decide)) ?_
        refine eC_c ?_
        refine Eq.trans (cW_I rfl rfl rfl) ?_
        refine cI_c (fun x_6 s_5 => ?_) (xh_nil rfl)
        refine Eq.trans (rn_go 1 (pc' := 55) (L' := [.ref a0, .int x1, .int x2, .int x3, .int x_4]) (st' := [.int x1, .int x_6, .int x2]) rfl) ?_
        refine Eq.trans (rn_icgt (L' := [.ref a0, .int x1, .int x2, .int x3, .int x_4]) rfl rfl) ?_
        refine if_c ?_ ?_
        · rfl
        · exact rn_go 2 (pc' := 63) (L' := [.ref a0, .int x1, .int x2, .int x3, .int x_4]) (st' := [.int (1 : Int32), .int x2]) rfl
theorem dc_X13_missing_62 {B : Nat} (a0 : Nat) (x1 : Int32) (w2 : Value) (x3 : Int32) (w4 : Value) (xs0 : Int32) (s : am_S) : rn_ tb_ct tb_mt B mm_X13_missing 62 [.ref a0, .int x1, w2, .int x3, w4] [.int xs0] s = rn_ tb_ct tb_mt B mm_X13_missing 63 [.ref a0, .int x1, am_un, .int x3, am_un] [.int (0 : Int32), .int xs0] s := by
  exact rn_go 1 (pc' := 63) (L' := [.ref a0, .int x1, am_un, .int x3, am_un]) (st' := [.int (0 : Int32), .int xs0]) rfl
theorem dc_X13_missing_63 {B : Nat} (a0 : Nat) (x1 : Int32) (w2 : Value) (x3 : Int32) (w4 : Value) (xs0 : Int32) (xs1 : Int32) (s : am_S) : rn_ tb_ct tb_mt B mm_X13_missing 63 [.ref a0, .int x1, w2, .int x3, w4] [.int xs0, .int xs1] s = rn_ tb_ct tb_mt B mm_X13_missing 23 [.ref a0, .int x1, .int (xs1 + xs0), .int (x3 + (1 : Int32)), am_un] [] s := by
  exact rn_go 4 (pc' := 23) (L' := [.ref a0, .int x1, .int (xs1 + xs0), .int (x3 + (1 : Int32)), am_un]) (st' := []) rfl
theorem in_X13_slowest {B : Nat} (a0 : Nat) (s : am_S) : cl_ tb_ct tb_mt B K_X13_slowest [.ref a0] s = rn_ tb_ct tb_mt B mm_X13_slowest 0 [.ref a0, am_un, am_un, am_un, am_un] [] s := cl_in rfl rfl rfl rfl
theorem dc_X13_slowest_0 {B : Nat} (a0 : Nat) (s : am_S) : rn_ tb_ct tb_mt B mm_X13_slowest 0 [.ref a0, am_un, am_un, am_un, am_un] [] s = eS (am_put tb_ct mm_X13_slowest B s (.int (0 : Int32)) a0 11 4) (fun s_1 => rn_ tb_ct tb_mt B mm_X13_slowest 11 [.ref a0, .int (-(1 : Int32)), .int (0 : Int32), .int (0 : Int32), am_un] [] s_1) := by
  refine Eq.trans (rn_go 2 (pc' := 2) (L' := [.ref a0, am_un, am_un, am_un, am_un]) (st' := [.int (0 : Int32), .ref a0]) rfl) ?_
  refine Eq.trans (rn_pF (L' := [.ref a0, am_un, am_un, am_un, am_un]) rfl rfl) ?_
  refine eS_c (fun s_1 => ?_)
  exact rn_go 6 (pc' := 11) (L' := [.ref a0, .int (-(1 : Int32)), .int (0 : Int32), .int (0 : Int32), am_un]) (st' := []) rfl
theorem dc_X13_slowest_11 {B : Nat} (a0 : Nat) (x1 : Int32) (x2 : Int32) (x3 : Int32) (w4 : Value) (s : am_S) : rn_ tb_ct tb_mt B mm_X13_slowest 11 [.ref a0, .int x1, .int x2, .int x3, w4] [] s = eA (gA tb_ct s a0 11 0) (none) (fun b_1 => eI (aI s b_1 (5 : Int32)) (fun x_2 => if x_2 ≤ x3 then some (.inl (some (.int x1)), s) else eC (am_cls s a0) 11 (cI (cl_ tb_ct tb_mt B K_X13_waiting [.ref a0, .int x3] s) (fun x_4 s_3 => if x_4 ≤ x2 then rn_ tb_ct tb_mt B mm_X13_slowest 39 [.ref a0, .int x1, .int x2, .int x3, .int x_4] [.int x1] s_3 else rn_ tb_ct tb_mt B mm_X13_slowest 39 [.ref a0, .int x1, .int x2, .int x3, .int x_4] [.int x3] s_3) xo))) := by
  refine Eq.trans (rn_go 2 (pc' := 13) (L' := [.ref a0, .int x1, .int x2, .int x3, am_un]) (st' := [.ref a0, .int x3]) rfl) ?_
  refine Eq.trans (rn_gA (L' := [.ref a0, .int x1, .int x2, .int x3, am_un]) rfl rfl rfl rfl) ?_
  refine eA_c ?_ (fun b_1 => ?_)
  · refine Eq.trans (rn_go 1 (pc' := 17) (L' := [.ref a0, .int x1, .int x2, .int x3, am_un]) (st' := [.int (5 : Int32), .null, .int x3]) rfl) ?_
    exact rn_z rfl rfl
  · refine Eq.trans (rn_go 1 (pc' := 17) (L' := [.ref a0, .int x1, .int x2, .int x3, am_un]) (st' := [.int (5 : Int32), .ref b_1, .int x3]) rfl) ?_
    refine Eq.trans (rn_aI (L' := [.ref a0, .int x1, .int x2, .int x3, am_un]) rfl rfl) ?_
    refine eI_c (fun x_2 => ?_)
    refine Eq.trans (rn_icge (L' := [.ref a0, .int x1, .int x2, .int x3, am_un]) rfl rfl) ?_
    refine if_c ?_ ?_
    · refine Eq.trans (rn_go 1 (pc' := 54) (L' := [.ref a0, .int x1, .int x2, .int x3, am_un]) (st' := [.int x1]) rfl) ?_
      exact rn_retI rfl rfl rfl
    · refine Eq.trans (rn_go 2 (pc' := 23) (L' := [.ref a0, .int x1, .int x2, .int x3, am_un]) (st' := [.int x3, .ref a0]) rfl) ?_
      refine Eq.trans (rn_vir (L' := [.ref a0, .int x1, .int x2, .int x3, am_un]) (as := [.int x3]) (rest := []) rfl rfl rfl rfl rfl (Nat.le_of_ble_eq_true rfl) (by decide) (by decide)) ?_
      refine eC_c ?_
      refine Eq.trans (cW_I rfl rfl rfl) ?_
      refine cI_c (fun x_4 s_3 => ?_) (xh_nil rfl)
      refine Eq.trans (rn_go 3 (pc' := 31) (L' := [.ref a0, .int x1, .int x2, .int x3, .int x_4]) (st' := [.int x2, .int x_4]) rfl) ?_
      refine Eq.trans (rn_icle (L' := [.ref a0, .int x1, .int x2, .int x3, .int x_4]) rfl rfl) ?_
      refine if_c ?_ ?_
      · exact rn_go 1 (pc' := 39) (L' := [.ref a0, .int x1, .int x2, .int x3, .int x_4]) (st' := [.int x1]) rfl
      · exact rn_go 2 (pc' := 39) (L' := [.ref a0, .int x1, .int x2, .int x3, .int x_4]) (st' := [.int x3]) rfl
theorem dc_X13_slowest_39 {B : Nat} (a0 : Nat) (w1 : Value) (x2 : Int32) (x3 : Int32) (x4 : Int32) (xs0 : Int32) (s : am_S) : rn_ tb_ct tb_mt B mm_X13_slowest 39 [.ref a0, w1, .int x2, .int x3, .int x4] [.int xs0] s = rn_ tb_ct tb_mt B mm_X13_slowest 11 [.ref a0, .int xs0, .int (if x2 < x4 then x4 else x2), .int (x3 + (1 : Int32)), .int x4] [] s := by
  refine Eq.trans (rn_go 3 (pc' := 43) (L' := [.ref a0, .int xs0, .int x2, .int x3, .int x4]) (st' := [.int x4, .int x2]) rfl) ?_
  refine Eq.trans (rn_max (L' := [.ref a0, .int xs0, .int x2, .int x3, .int x4]) rfl rfl (Nat.le_of_ble_eq_true rfl)) ?_
  exact rn_go 3 (pc' := 11) (L' := [.ref a0, .int xs0, .int (if x2 < x4 then x4 else x2), .int (x3 + (1 : Int32)), .int x4]) (st' := []) rfl
theorem in_X13_behind {B : Nat} (a0 : Nat) (x1 : Int32) (s : am_S) : cl_ tb_ct tb_mt B K_X13_behind [.ref a0, .int x1] s = rn_ tb_ct tb_mt B mm_X13_behind 0 [.ref a0, .int x1, am_un] [] s := cl_in rfl rfl rfl rfl
theorem dc_X13_behind_0 {B : Nat} (a0 : Nat) (x1 : Int32) (s : am_S) : rn_ tb_ct tb_mt B mm_X13_behind 0 [.ref a0, .int x1, am_un] [] s = eC (am_cls s a0) 11 (cI (cl_ tb_ct tb_mt B K_X13_isWatch [.ref a0, .int x1] s) (fun x_2 s_1 => eC (am_cls s_1 a0) 11 (cI (cl_ tb_ct tb_mt B K_X13_isThrown [.ref a0, .int x_2, .int (1 : Int32)] s_1) (fun x_4 s_3 => if x_4 = 0 then eC (am_cls s_3 a0) 11 (cI (cl_ tb_ct tb_mt B K_X13_firstOf [.ref a0, .int x1] s_3) (fun x_6 s_5 => if x_6 = (-(1 : Int32)) then some (.inl (some (.int (0 : Int32))), s_5) else eA (gA tb_ct s_5 a0 11 0) (none) (fun b_7 => eI (aI s_5 b_7 (0 : Int32)) (fun x_8 => eC (am_cls s_5 a0) 11 (cI (cl_ tb_ct tb_mt B K_X13_eventAt [.ref a0, .int x_6, .int (0 : Int32)] s_5) (fun x_10 s_9 => some (.inl (some (.int ((x_8 - x_10) + (1 : Int32)))), s_9)) xo)))) xo) else some (.inl (some (.int (0 : Int32))), s_3)) xo)) xo) := by
  refine Eq.trans (rn_go 3 (pc' := 3) (L' := [.ref a0, .int x1, am_un]) (st' := [.int x1, .ref a0, .ref a0]) rfl) ?_
  refine Eq.trans (rn_vir (L' := [.ref a0, .int x1, am_un]) (as := [.int x1]) (rest := [.ref a0]) rfl rfl rfl rfl rfl (Nat.le_of_ble_eq_true rfl) (by decide) (by decide)) ?_
  refine eC_c ?_
  refine Eq.trans (cW_I rfl rfl rfl) ?_
  refine cI_c (fun x_2 s_1 => ?_) (xh_nil rfl)
  refine Eq.trans (rn_go 1 (pc' := 7) (L' := [.ref a0, .int x1, am_un]) (st' := [.int (1 : Int32), .int x_2, .ref a0]) rfl) ?_
  refine Eq.trans (rn_vir (L' := [.ref a0, .int x1, am_un]) (as := [.int x_2, .int (1 : Int32)]) (rest := []) rfl rfl rfl rfl rfl (Nat.le_of_ble_eq_true rfl) (by decide) (by decide)) ?_
  refine eC_c ?_
  refine Eq.trans (cW_I rfl rfl rfl) ?_
  refine cI_c (fun x_4 s_3 => ?_) (xh_nil rfl)
  refine Eq.trans (rn_ifeq (L' := [.ref a0, .int x1, am_un]) rfl rfl) ?_
  refine if_c ?_ ?_
  · refine Eq.trans (rn_go 2 (pc' := 17) (L' := [.ref a0, .int x1, am_un]) (st' := [.int x1, .ref a0]) rfl) ?_
    refine Eq.trans (rn_vir (L' := [.ref a0, .int x1, am_un]) (as := [.int x1]) (rest := []) rfl rfl rfl rfl rfl (Nat.le_of_ble_eq_true rfl) (by decide) (by decide)) ?_
    refine eC_c ?_
    refine Eq.trans (cW_I rfl rfl rfl) ?_
    refine cI_c (fun x_6 s_5 => ?_) (xh_nil rfl)
    refine Eq.trans (rn_go 3 (pc' := 23) (L' := [.ref a0, .int x1, .int x_6]) (st' := [.int (-(1 : Int32)), .int x_6]) rfl) ?_
    refine Eq.trans (rn_icne (L' := [.ref a0, .int x1, .int x_6]) rfl rfl) ?_
    refine if_c ?_ ?_
    · refine Eq.trans (rn_go 2 (pc' := 45) (L' := [.ref a0, .int x1, .int x_6]) (st' := [.int (0 : Int32)]) rfl) ?_
      exact rn_retI rfl rfl rfl
    · refine Eq.trans (rn_go 1 (pc' := 31) (L' := [.ref a0, .int x1, .int x_6]) (st' := [.ref a0]) rfl) ?_
      refine Eq.trans (rn_gA (L' := [.ref a0, .int x1, .int x_6]) rfl rfl rfl rfl) ?_
      refine eA_c ?_ (fun b_7 => ?_)
      · refine Eq.trans (rn_go 1 (pc' := 35) (L' := [.ref a0, .int x1, .int x_6]) (st' := [.int (0 : Int32), .null]) rfl) ?_
        exact rn_z rfl rfl
      · refine Eq.trans (rn_go 1 (pc' := 35) (L' := [.ref a0, .int x1, .int x_6]) (st' := [.int (0 : Int32), .ref b_7]) rfl) ?_
        refine Eq.trans (rn_aI (L' := [.ref a0, .int x1, .int x_6]) rfl rfl) ?_
        refine eI_c (fun x_8 => ?_)
        refine Eq.trans (rn_go 3 (pc' := 39) (L' := [.ref a0, .int x1, .int x_6]) (st' := [.int (0 : Int32), .int x_6, .ref a0, .int x_8]) rfl) ?_
        refine Eq.trans (rn_vir (L' := [.ref a0, .int x1, .int x_6]) (as := [.int x_6, .int (0 : Int32)]) (rest := [.int x_8]) rfl rfl rfl rfl rfl (Nat.le_of_ble_eq_true rfl) (by decide) (by decide)) ?_
        refine eC_c ?_
        refine Eq.trans (cW_I rfl rfl rfl) ?_
        refine cI_c (fun x_10 s_9 => ?_) (xh_nil rfl)
        refine Eq.trans (rn_go 3 (pc' := 45) (L' := [.ref a0, .int x1, .int x_6]) (st' := [.int ((x_8 - x_10) + (1 : Int32))]) rfl) ?_
        exact rn_retI rfl rfl rfl
  · refine Eq.trans (rn_go 1 (pc' := 14) (L' := [.ref a0, .int x1, am_un]) (st' := [.int (0 : Int32)]) rfl) ?_
    exact rn_retI rfl rfl rfl
theorem in_X13_meanLag {B : Nat} (a0 : Nat) (s : am_S) : cl_ tb_ct tb_mt B K_X13_meanLag [.ref a0] s = rn_ tb_ct tb_mt B mm_X13_meanLag 0 [.ref a0, am_un, am_un] [] s := cl_in rfl rfl rfl rfl
theorem dc_X13_meanLag_0 {B : Nat} (a0 : Nat) (s : am_S) : rn_ tb_ct tb_mt B mm_X13_meanLag 0 [.ref a0, am_un, am_un] [] s = eS (am_put tb_ct mm_X13_meanLag B s (.int (0 : Int32)) a0 11 4) (fun s_1 => rn_ tb_ct tb_mt B mm_X13_meanLag 9 [.ref a0, .int (0 : Int32), .int (0 : Int32)] [] s_1) := by
  refine Eq.trans (rn_go 2 (pc' := 2) (L' := [.ref a0, am_un, am_un]) (st' := [.int (0 : Int32), .ref a0]) rfl) ?_
  refine Eq.trans (rn_pF (L' := [.ref a0, am_un, am_un]) rfl rfl) ?_
  refine eS_c (fun s_1 => ?_)
  exact rn_go 4 (pc' := 9) (L' := [.ref a0, .int (0 : Int32), .int (0 : Int32)]) (st' := []) rfl
theorem dc_X13_meanLag_9 {B : Nat} (a0 : Nat) (x1 : Int32) (x2 : Int32) (s : am_S) : rn_ tb_ct tb_mt B mm_X13_meanLag 9 [.ref a0, .int x1, .int x2] [] s = eA (gA tb_ct s a0 11 0) (none) (fun b_1 => eI (aI s b_1 (5 : Int32)) (fun x_2 => if x_2 ≤ x2 then eA (gA tb_ct s a0 11 0) (none) (fun b_3 => eI (aI s b_3 (5 : Int32)) (fun x_4 => if x_4 = 0 then rn_ tb_ct tb_mt B mm_X13_meanLag 56 [.ref a0, .int x1, .int x2] [.float FP.fconst0] s else eA (gA tb_ct s a0 11 0) (none) (fun b_5 => eI (aI s b_5 (5 : Int32)) (fun x_6 => if (FP.fdiv (FP.i2f x1) (FP.i2f x_6)) &&& 0x7fffffff ≤ 0x7f800000 then rn_ tb_ct tb_mt B mm_X13_meanLag 56 [.ref a0, .int x1, .int x2] [.float (FP.fdiv (FP.i2f x1) (FP.i2f x_6))] s else none)))) else eC (am_cls s a0) 11 (cI (cl_ tb_ct tb_mt B K_X13_waiting [.ref a0, .int x2] s) (fun x_8 s_7 => rn_ tb_ct tb_mt B mm_X13_meanLag 9 [.ref a0, .int (x1 + x_8), .int (x2 + (1 : Int32))] [] s_7) xo))) := by
  refine Eq.trans (rn_go 2 (pc' := 11) (L' := [.ref a0, .int x1, .int x2]) (st' := [.ref a0, .int x2]) rfl) ?_
  refine Eq.trans (rn_gA (L' := [.ref a0, .int x1, .int x2]) rfl rfl rfl rfl) ?_
  refine eA_c ?_ (fun b_1 => ?_)
  · refine Eq.trans (rn_go 1 (pc' := 15) (L' := [.ref a0, .int x1, .int x2]) (st' := [.int (5 : Int32), .null, .int x2]) rfl) ?_
    exact rn_z rfl rfl
  · refine Eq.trans (rn_go 1 (pc' := 15) (L' := [.ref a0, .int x1, .int x2]) (st' := [.int (5 : Int32), .ref b_1, .int x2]) rfl) ?_
    refine Eq.trans (rn_aI (L' := [.ref a0, .int x1, .int x2]) rfl rfl) ?_
    refine eI_c (fun x_2 => ?_)
    refine Eq.trans (rn_icge (L' := [.ref a0, .int x1, .int x2]) rfl rfl) ?_
    refine if_c ?_ ?_
    · refine Eq.trans (rn_go 1 (pc' := 34) (L' := [.ref a0, .int x1, .int x2]) (st' := [.ref a0]) rfl) ?_
      refine Eq.trans (rn_gA (L' := [.ref a0, .int x1, .int x2]) rfl rfl rfl rfl) ?_
      refine eA_c ?_ (fun b_3 => ?_)
      · refine Eq.trans (rn_go 1 (pc' := 38) (L' := [.ref a0, .int x1, .int x2]) (st' := [.int (5 : Int32), .null]) rfl) ?_
        exact rn_z rfl rfl
      · refine Eq.trans (rn_go 1 (pc' := 38) (L' := [.ref a0, .int x1, .int x2]) (st' := [.int (5 : Int32), .ref b_3]) rfl) ?_
        refine Eq.trans (rn_aI (L' := [.ref a0, .int x1, .int x2]) rfl rfl) ?_
        refine eI_c (fun x_4 => ?_)
        refine Eq.trans (rn_ifne (L' := [.ref a0, .int x1, .int x2]) rfl rfl) ?_
        refine if_c ?_ ?_
        · exact rn_go 2 (pc' := 56) (L' := [.ref a0, .int x1, .int x2]) (st' := [.float FP.fconst0]) rfl
        · refine Eq.trans (rn_go 3 (pc' := 49) (L' := [.ref a0, .int x1, .int x2]) (st' := [.ref a0, .float (FP.i2f x1)]) rfl) ?_
          refine Eq.trans (rn_gA (L' := [.ref a0, .int x1, .int x2]) rfl rfl rfl rfl) ?_
          refine eA_c ?_ (fun b_5 => ?_)
          · refine Eq.trans (rn_go 1 (pc' := 53) (L' := [.ref a0, .int x1, .int x2]) (st' := [.int (5 : Int32), .null, .float (FP.i2f x1)]) rfl) ?_
            exact rn_z rfl rfl
          · refine Eq.trans (rn_go 1 (pc' := 53) (L' := [.ref a0, .int x1, .int x2]) (st' := [.int (5 : Int32), .ref b_5, .float (FP.i2f x1)]) rfl) ?_
            refine Eq.trans (rn_aI (L' := [.ref a0, .int x1, .int x2]) rfl rfl) ?_
            refine eI_c (fun x_6 => ?_)
            refine Eq.trans (rn_go 1 (pc' := 55) (L' := [.ref a0, .int x1, .int x2]) (st' := [.float (FP.i2f x_6), .float (FP.i2f x1)]) rfl) ?_
            refine Eq.trans (rn_fdiv (L' := [.ref a0, .int x1, .int x2]) rfl rfl) ?_
            refine if_c ?_ rfl
            rfl
    · refine Eq.trans (rn_go 3 (pc' := 22) (L' := [.ref a0, .int x1, .int x2]) (st' := [.int x2, .ref a0, .int x1]) rfl) ?_
      refine Eq.trans (rn_vir (L' := [.ref a0, .int x1, .int x2]) (as := [.int x2]) (rest := [.int x1]) rfl rfl rfl rfl rfl (Nat.le_of_ble_eq_true rfl) (by decide) (by decide)) ?_
      refine eC_c ?_
      refine Eq.trans (cW_I rfl rfl rfl) ?_
      refine cI_c (fun x_8 s_7 => ?_) (xh_nil rfl)
      exact rn_go 4 (pc' := 9) (L' := [.ref a0, .int (x1 + x_8), .int (x2 + (1 : Int32))]) (st' := []) rfl
theorem dc_X13_meanLag_56 {B : Nat} (w0 : Value) (w1 : Value) (w2 : Value) (fs0 : UInt32) (s : am_S) : rn_ tb_ct tb_mt B mm_X13_meanLag 56 [w0, w1, w2] [.float fs0] s = some (.inl (some (.float fs0)), s) := by
  exact rn_retF rfl rfl
theorem in_X13_grant {B : Nat} (a0 : Nat) (x1 : Int32) (s : am_S) : cl_ tb_ct tb_mt B K_X13_grant [.ref a0, .int x1] s = rn_ tb_ct tb_mt B mm_X13_grant 0 [.ref a0, .int x1, am_un] [] s := cl_in rfl rfl rfl rfl
theorem dc_X13_grant_0 {B : Nat} (a0 : Nat) (x1 : Int32) (s : am_S) : rn_ tb_ct tb_mt B mm_X13_grant 0 [.ref a0, .int x1, am_un] [] s = cI (cl_ tb_ct tb_mt B K_X13_in [.long x1.toInt64, .long (1 : Int64), .long (1000 : Int64)] s) (fun x_2 s_1 => eC (am_cls s_1 a0) 11 (cI (cl_ tb_ct tb_mt B K_X13_isThrown [.ref a0, .int x_2, .int (1 : Int32)] s_1) (fun x_4 s_3 => if x_4 = 0 then eA (gA tb_ct s_3 a0 11 0) (none) (fun b_5 => eI (aI s_3 b_5 (4 : Int32)) (fun x_6 => if x_6 = (8 : Int32) then some (.inl (some (.int (-(2 : Int32)))), s_3) else eA (gA tb_ct s_3 a0 11 0) (none) (fun b_7 => eI (aI s_3 b_7 (8 : Int32)) (fun x_8 => eS (wI B s_3 b_7 (8 : Int32) (x_8 + (1 : Int32))) (fun s_9 => eA (gA tb_ct s_9 a0 11 0) (none) (fun b_10 => eI (aI s_9 b_10 (4 : Int32)) (fun x_11 => eA (gA tb_ct s_9 a0 11 0) (eA (gA tb_ct s_9 a0 11 0) (none) (fun b_13 => eI (aI s_9 b_13 (8 : Int32)) (fun x_14 => none))) (fun b_12 => eA (gA tb_ct s_9 a0 11 0) (none) (fun b_15 => eI (aI s_9 b_15 (8 : Int32)) (fun x_16 => eS (wI B s_9 b_12 ((1149 : Int32) + ((3 : Int32) * x_11)) x_16) (fun s_17 => eA (gA tb_ct s_17 a0 11 0) (none) (fun b_18 => eS (wI B s_17 b_18 (((1149 : Int32) + ((3 : Int32) * x_11)) + (1 : Int32)) x1) (fun s_19 => eA (gA tb_ct s_19 a0 11 0) (none) (fun b_20 => eS (wI B s_19 b_20 (((1149 : Int32) + ((3 : Int32) * x_11)) + (2 : Int32)) x1) (fun s_21 => eA (gA tb_ct s_21 a0 11 0) (none) (fun b_22 => eI (aI s_21 b_22 (4 : Int32)) (fun x_23 => eS (wI B s_21 b_22 (4 : Int32) (x_23 + (1 : Int32))) (fun s_24 => eA (gA tb_ct s_24 a0 11 0) (none) (fun b_25 => eI (aI s_24 b_25 (8 : Int32)) (fun x_26 => some (.inl (some (.int x_26)), s_24))))))))))))))))))))) else some (.inl (some (.int (0 : Int32))), s_3)) xo)) xo := by
  refine Eq.trans (rn_go 5 (pc' := 7) (L' := [.ref a0, .int x1, am_un]) (st' := [.long (1000 : Int64), .long (1 : Int64), .long x1.toInt64, .ref a0]) rfl) ?_
  refine Eq.trans (rn_sta (L' := [.ref a0, .int x1, am_un]) (as := [.long x1.toInt64, .long (1 : Int64), .long (1000 : Int64)]) (rest := [.ref a0]) rfl rfl rfl rfl rfl (Nat.le_of_ble_eq_true rfl) (by decide) rfl) ?_
  refine Eq.trans (cW_I rfl rfl rfl) ?_
  refine cI_c (fun x_2 s_1 => ?_) (xh_nil rfl)
  refine Eq.trans (rn_go 1 (pc' := 11) (L' := [.ref a0, .int x1, am_un]) (st' := [.int (1 : Int32), .int x_2, .ref a0]) rfl) ?_
  refine Eq.trans (rn_vir (L' := [.ref a0, .int x1, am_un]) (as := [.int x_2, .int (1 : Int32)]) (rest := []) rfl rfl rfl rfl rfl (Nat.le_of_ble_eq_true rfl) (by decide) (by decide)) ?_
  refine eC_c ?_
  refine Eq.trans (cW_I rfl rfl rfl) ?_
  refine cI_c (fun x_4 s_3 => ?_) (xh_nil rfl)
  refine Eq.trans (rn_ifeq (L' := [.ref a0, .int x1, am_un]) rfl rfl) ?_
  refine if_c ?_ ?_
  · refine Eq.trans (rn_go 1 (pc' := 20) (L' := [.ref a0, .int x1, am_un]) (st' := [.ref a0]) rfl) ?_
    refine Eq.trans (rn_gA (L' := [.ref a0, .int x1, am_un]) rfl rfl rfl rfl) ?_
    refine eA_c ?_ (fun b_5 => ?_)
    · refine Eq.trans (rn_go 1 (pc' := 24) (L' := [.ref a0, .int x1, am_un]) (st' := [.int (4 : Int32), .null]) rfl) ?_
      exact rn_z rfl rfl
    · refine Eq.trans (rn_go 1 (pc' := 24) (L' := [.ref a0, .int x1, am_un]) (st' := [.int (4 : Int32), .ref b_5]) rfl) ?_
      refine Eq.trans (rn_aI (L' := [.ref a0, .int x1, am_un]) rfl rfl) ?_
      refine eI_c (fun x_6 => ?_)
      refine Eq.trans (rn_go 1 (pc' := 27) (L' := [.ref a0, .int x1, am_un]) (st' := [.int (8 : Int32), .int x_6]) rfl) ?_
      refine Eq.trans (rn_icne (L' := [.ref a0, .int x1, am_un]) rfl rfl) ?_
      refine if_c ?_ ?_
      · refine Eq.trans (rn_go 1 (pc' := 32) (L' := [.ref a0, .int x1, am_un]) (st' := [.int (-(2 : Int32))]) rfl) ?_
        exact rn_retI rfl rfl rfl
      · refine Eq.trans (rn_go 1 (pc' := 34) (L' := [.ref a0, .int x1, am_un]) (st' := [.ref a0]) rfl) ?_
        refine Eq.trans (rn_gA (L' := [.ref a0, .int x1, am_un]) rfl rfl rfl rfl) ?_
        refine eA_c ?_ (fun b_7 => ?_)
        · refine Eq.trans (rn_go 2 (pc' := 40) (L' := [.ref a0, .int x1, am_un]) (st' := [.int (8 : Int32), .null, .int (8 : Int32), .null]) rfl) ?_
          exact rn_z rfl rfl
        · refine Eq.trans (rn_go 2 (pc' := 40) (L' := [.ref a0, .int x1, am_un]) (st' := [.int (8 : Int32), .ref b_7, .int (8 : Int32), .ref b_7]) rfl) ?_
          refine Eq.trans (rn_aI (L' := [.ref a0, .int x1, am_un]) rfl rfl) ?_
          refine eI_c (fun x_8 => ?_)
          refine Eq.trans (rn_go 2 (pc' := 43) (L' := [.ref a0, .int x1, am_un]) (st' := [.int (x_8 + (1 : Int32)), .int (8 : Int32), .ref b_7]) rfl) ?_
          refine Eq.trans (rn_wI (L' := [.ref a0, .int x1, am_un]) rfl rfl) ?_
          refine eS_c (fun s_9 => ?_)
          refine Eq.trans (rn_go 3 (pc' := 49) (L' := [.ref a0, .int x1, am_un]) (st' := [.ref a0, .int (3 : Int32), .int (1149 : Int32)]) rfl) ?_
          refine Eq.trans (rn_gA (L' := [.ref a0, .int x1, am_un]) rfl rfl rfl rfl) ?_
          refine eA_c ?_ (fun b_10 => ?_)
          · refine Eq.trans (rn_go 1 (pc' := 53) (L' := [.ref a0, .int x1, am_un]) (st' := [.int (4 : Int32), .null, .int (3 : Int32), .int (1149 : Int32)]) rfl) ?_
            exact rn_z rfl rfl
          · refine Eq.trans (rn_go 1 (pc' := 53) (L' := [.ref a0, .int x1, am_un]) (st' := [.int (4 : Int32), .ref b_10, .int (3 : Int32), .int (1149 : Int32)]) rfl) ?_
            refine Eq.trans (rn_aI (L' := [.ref a0, .int x1, am_un]) rfl rfl) ?_
            refine eI_c (fun x_11 => ?_)
            refine Eq.trans (rn_go 4 (pc' := 58) (L' := [.ref a0, .int x1, .int ((1149 : Int32) + ((3 : Int32) * x_11))]) (st' := [.ref a0]) rfl) ?_
            refine Eq.trans (rn_gA (L' := [.ref a0, .int x1, .int ((1149 : Int32) + ((3 : Int32) * x_11))]) rfl rfl rfl rfl) ?_
            refine eA_c ?_ (fun b_12 => ?_)
            · refine Eq.trans (rn_go 2 (pc' := 63) (L' := [.ref a0, .int x1, .int ((1149 : Int32) + ((3 : Int32) * x_11))]) (st' := [.ref a0, .int ((1149 : Int32) + ((3 : Int32) * x_11)), .null]) rfl) ?_
              refine Eq.trans (rn_gA (L' := [.ref a0, .int x1, .int ((1149 : Int32) + ((3 : Int32) * x_11))]) rfl rfl rfl rfl) ?_
              refine eA_c ?_ (fun b_13 => ?_)
              · refine Eq.trans (rn_go 1 (pc' := 68) (L' := [.ref a0, .int x1, .int ((1149 : Int32) + ((3 : Int32) * x_11))]) (st' := [.int (8 : Int32), .null, .int ((1149 : Int32) + ((3 : Int32) * x_11)), .null]) rfl) ?_
                exact rn_z rfl rfl
              · refine Eq.trans (rn_go 1 (pc' := 68) (L' := [.ref a0, .int x1, .int ((1149 : Int32) + ((3 : Int32) * x_11))]) (st' := [.int (8 : Int32), .ref b_13, .int ((1149 : Int32) + ((3 : Int32) * x_11)), .null]) rfl) ?_
                refine Eq.trans (rn_aI (L' := [.ref a0, .int x1, .int ((1149 : Int32) + ((3 : Int32) * x_11))]) rfl rfl) ?_
                refine eI_c (fun x_14 => ?_)
                exact rn_z rfl rfl
            · refine Eq.trans (rn_go 2 (pc' := 63) (L' := [.ref a0, .int x1, .int ((1149 : Int32) + ((3 : Int32) * x_11))]) (st' := [.ref a0, .int ((1149 : Int32) + ((3 : Int32) * x_11)), .ref b_12]) rfl) ?_
              refine Eq.trans (rn_gA (L' := [.ref a0, .int x1, .int ((1149 : Int32) + ((3 : Int32) * x_11))]) rfl rfl rfl rfl) ?_
              refine eA_c ?_ (fun b_15 => ?_)
              · refine Eq.trans (rn_go 1 (pc' := 68) (L' := [.ref a0, .int x1, .int ((1149 : Int32) + ((3 : Int32) * x_11))]) (st' := [.int (8 : Int32), .null, .int ((1149 : Int32) + ((3 : Int32) * x_11)), .ref b_12]) rfl) ?_
                exact rn_z rfl rfl
              · refine Eq.trans (rn_go 1 (pc' := 68) (L' := [.ref a0, .int x1, .int ((1149 : Int32) + ((3 : Int32) * x_11))]) (st' := [.int (8 : Int32), .ref b_15, .int ((1149 : Int32) + ((3 : Int32) * x_11)), .ref b_12]) rfl) ?_
                refine Eq.trans (rn_aI (L' := [.ref a0, .int x1, .int ((1149 : Int32) + ((3 : Int32) * x_11))]) rfl rfl) ?_
                refine eI_c (fun x_16 => ?_)
                refine Eq.trans (rn_wI (L' := [.ref a0, .int x1, .int ((1149 : Int32) + ((3 : Int32) * x_11))]) rfl rfl) ?_
                refine eS_c (fun s_17 => ?_)
                refine Eq.trans (rn_go 1 (pc' := 71) (L' := [.ref a0, .int x1, .int ((1149 : Int32) + ((3 : Int32) * x_11))]) (st' := [.ref a0]) rfl) ?_
                refine Eq.trans (rn_gA (L' := [.ref a0, .int x1, .int ((1149 : Int32) + ((3 : Int32) * x_11))]) rfl rfl rfl rfl) ?_
                refine eA_c ?_ (fun b_18 => ?_)
                · refine Eq.trans (rn_go 4 (pc' := 78) (L' := [.ref a0, .int x1, .int ((1149 : Int32) + ((3 : Int32) * x_11))]) (st' := [.int x1, .int (((1149 : Int32) + ((3 : Int32) * x_11)) + (1 : Int32)), .null]) rfl) ?_
                  exact rn_z rfl rfl
                · refine Eq.trans (rn_go 4 (pc' := 78) (L' := [.ref a0, .int x1, .int ((1149 : Int32) + ((3 : Int32) * x_11))]) (st' := [.int x1, .int (((1149 : Int32) + ((3 : Int32) * x_11)) + (1 : Int32)), .ref b_18]) rfl) ?_
                  refine Eq.trans (rn_wI (L' := [.ref a0, .int x1, .int ((1149 : Int32) + ((3 : Int32) * x_11))]) rfl rfl) ?_
                  refine eS_c (fun s_19 => ?_)
                  refine Eq.trans (rn_go 1 (pc' := 80) (L' := [.ref a0, .int x1, .int ((1149 : Int32) + ((3 : Int32) * x_11))]) (st' := [.ref a0]) rfl) ?_
                  refine Eq.trans (rn_gA (L' := [.ref a0, .int x1, .int ((1149 : Int32) + ((3 : Int32) * x_11))]) rfl rfl rfl rfl) ?_
                  refine eA_c ?_ (fun b_20 => ?_)
                  · refine Eq.trans (rn_go 4 (pc' := 87) (L' := [.ref a0, .int x1, .int ((1149 : Int32) + ((3 : Int32) * x_11))]) (st' := [.int x1, .int (((1149 : Int32) + ((3 : Int32) * x_11)) + (2 : Int32)), .null]) rfl) ?_
                    exact rn_z rfl rfl
                  · refine Eq.trans (rn_go 4 (pc' := 87) (L' := [.ref a0, .int x1, .int ((1149 : Int32) + ((3 : Int32) * x_11))]) (st' := [.int x1, .int (((1149 : Int32) + ((3 : Int32) * x_11)) + (2 : Int32)), .ref b_20]) rfl) ?_
                    refine Eq.trans (rn_wI (L' := [.ref a0, .int x1, .int ((1149 : Int32) + ((3 : Int32) * x_11))]) rfl rfl) ?_
                    refine eS_c (fun s_21 => ?_)
                    refine Eq.trans (rn_go 1 (pc' := 89) (L' := [.ref a0, .int x1, .int ((1149 : Int32) + ((3 : Int32) * x_11))]) (st' := [.ref a0]) rfl) ?_
                    refine Eq.trans (rn_gA (L' := [.ref a0, .int x1, .int ((1149 : Int32) + ((3 : Int32) * x_11))]) rfl rfl rfl rfl) ?_
                    refine eA_c ?_ (fun b_22 => ?_)
                    · refine Eq.trans (rn_go 2 (pc' := 94) (L' := [.ref a0, .int x1, .int ((1149 : Int32) + ((3 : Int32) * x_11))]) (st' := [.int (4 : Int32), .null, .int (4 : Int32), .null]) rfl) ?_
                      exact rn_z rfl rfl
                    · refine Eq.trans (rn_go 2 (pc' := 94) (L' := [.ref a0, .int x1, .int ((1149 : Int32) + ((3 : Int32) * x_11))]) (st' := [.int (4 : Int32), .ref b_22, .int (4 : Int32), .ref b_22]) rfl) ?_
                      refine Eq.trans (rn_aI (L' := [.ref a0, .int x1, .int ((1149 : Int32) + ((3 : Int32) * x_11))]) rfl rfl) ?_
                      refine eI_c (fun x_23 => ?_)
                      refine Eq.trans (rn_go 2 (pc' := 97) (L' := [.ref a0, .int x1, .int ((1149 : Int32) + ((3 : Int32) * x_11))]) (st' := [.int (x_23 + (1 : Int32)), .int (4 : Int32), .ref b_22]) rfl) ?_
                      refine Eq.trans (rn_wI (L' := [.ref a0, .int x1, .int ((1149 : Int32) + ((3 : Int32) * x_11))]) rfl rfl) ?_
                      refine eS_c (fun s_24 => ?_)
                      refine Eq.trans (rn_go 1 (pc' := 99) (L' := [.ref a0, .int x1, .int ((1149 : Int32) + ((3 : Int32) * x_11))]) (st' := [.ref a0]) rfl) ?_
                      refine Eq.trans (rn_gA (L' := [.ref a0, .int x1, .int ((1149 : Int32) + ((3 : Int32) * x_11))]) rfl rfl rfl rfl) ?_
                      refine eA_c ?_ (fun b_25 => ?_)
                      · refine Eq.trans (rn_go 1 (pc' := 104) (L' := [.ref a0, .int x1, .int ((1149 : Int32) + ((3 : Int32) * x_11))]) (st' := [.int (8 : Int32), .null]) rfl) ?_
                        exact rn_z rfl rfl
                      · refine Eq.trans (rn_go 1 (pc' := 104) (L' := [.ref a0, .int x1, .int ((1149 : Int32) + ((3 : Int32) * x_11))]) (st' := [.int (8 : Int32), .ref b_25]) rfl) ?_
                        refine Eq.trans (rn_aI (L' := [.ref a0, .int x1, .int ((1149 : Int32) + ((3 : Int32) * x_11))]) rfl rfl) ?_
                        refine eI_c (fun x_26 => ?_)
                        exact rn_retI rfl rfl rfl
  · refine Eq.trans (rn_go 1 (pc' := 18) (L' := [.ref a0, .int x1, am_un]) (st' := [.int (0 : Int32)]) rfl) ?_
    exact rn_retI rfl rfl rfl
theorem in_X13_keysOf {B : Nat} (a0 : Nat) (x1 : Int32) (s : am_S) : cl_ tb_ct tb_mt B K_X13_keysOf [.ref a0, .int x1] s = rn_ tb_ct tb_mt B mm_X13_keysOf 0 [.ref a0, .int x1, am_un, am_un] [] s := cl_in rfl rfl rfl rfl
theorem dc_X13_keysOf_0 {B : Nat} (a0 : Nat) (x1 : Int32) (s : am_S) : rn_ tb_ct tb_mt B mm_X13_keysOf 0 [.ref a0, .int x1, am_un, am_un] [] s = rn_ tb_ct tb_mt B mm_X13_keysOf 4 [.ref a0, .int x1, .int (0 : Int32), .int (0 : Int32)] [] s := by
  exact rn_go 4 (pc' := 4) (L' := [.ref a0, .int x1, .int (0 : Int32), .int (0 : Int32)]) (st' := []) rfl
theorem dc_X13_keysOf_4 {B : Nat} (a0 : Nat) (x1 : Int32) (x2 : Int32) (x3 : Int32) (s : am_S) : rn_ tb_ct tb_mt B mm_X13_keysOf 4 [.ref a0, .int x1, .int x2, .int x3] [] s = eA (gA tb_ct s a0 11 0) (none) (fun b_1 => eI (aI s b_1 (3 : Int32)) (fun x_2 => if x_2 ≤ x3 then some (.inl (some (.int x2)), s) else eC (am_cls s a0) 11 (cI (cl_ tb_ct tb_mt B K_X13_keyAt [.ref a0, .int x3, .int (5 : Int32)] s) (fun x_4 s_3 => if x_4 = x1 then rn_ tb_ct tb_mt B mm_X13_keysOf 30 [.ref a0, .int x1, .int x2, .int x3] [.int (1 : Int32), .int x2] s_3 else rn_ tb_ct tb_mt B mm_X13_keysOf 30 [.ref a0, .int x1, .int x2, .int x3] [.int (0 : Int32), .int x2] s_3) xo))) := by
  refine Eq.trans (rn_go 2 (pc' := 6) (L' := [.ref a0, .int x1, .int x2, .int x3]) (st' := [.ref a0, .int x3]) rfl) ?_
  refine Eq.trans (rn_gA (L' := [.ref a0, .int x1, .int x2, .int x3]) rfl rfl rfl rfl) ?_
  refine eA_c ?_ (fun b_1 => ?_)
  · refine Eq.trans (rn_go 1 (pc' := 10) (L' := [.ref a0, .int x1, .int x2, .int x3]) (st' := [.int (3 : Int32), .null, .int x3]) rfl) ?_
    exact rn_z rfl rfl
  · refine Eq.trans (rn_go 1 (pc' := 10) (L' := [.ref a0, .int x1, .int x2, .int x3]) (st' := [.int (3 : Int32), .ref b_1, .int x3]) rfl) ?_
    refine Eq.trans (rn_aI (L' := [.ref a0, .int x1, .int x2, .int x3]) rfl rfl) ?_
    refine eI_c (fun x_2 => ?_)
    refine Eq.trans (rn_icge (L' := [.ref a0, .int x1, .int x2, .int x3]) rfl rfl) ?_
    refine if_c ?_ ?_
    · refine Eq.trans (rn_go 1 (pc' := 39) (L' := [.ref a0, .int x1, .int x2, .int x3]) (st' := [.int x2]) rfl) ?_
      exact rn_retI rfl rfl rfl
    · refine Eq.trans (rn_go 4 (pc' := 18) (L' := [.ref a0, .int x1, .int x2, .int x3]) (st' := [.int (5 : Int32), .int x3, .ref a0, .int x2]) rfl) ?_
      refine Eq.trans (rn_vir (L' := [.ref a0, .int x1, .int x2, .int x3]) (as := [.int x3, .int (5 : Int32)]) (rest := [.int x2]) rfl rfl rfl rfl rfl (Nat.le_of_ble_eq_true rfl) (by decide) (by decide)) ?_
      refine eC_c ?_
      refine Eq.trans (cW_I rfl rfl rfl) ?_
      refine cI_c (fun x_4 s_3 => ?_) (xh_nil rfl)
      refine Eq.trans (rn_go 1 (pc' := 22) (L' := [.ref a0, .int x1, .int x2, .int x3]) (st' := [.int x1, .int x_4, .int x2]) rfl) ?_
      refine Eq.trans (rn_icne (L' := [.ref a0, .int x1, .int x2, .int x3]) rfl rfl) ?_
      refine if_c ?_ ?_
      · exact rn_go 2 (pc' := 30) (L' := [.ref a0, .int x1, .int x2, .int x3]) (st' := [.int (1 : Int32), .int x2]) rfl
      · exact rn_go 1 (pc' := 30) (L' := [.ref a0, .int x1, .int x2, .int x3]) (st' := [.int (0 : Int32), .int x2]) rfl
theorem dc_X13_keysOf_30 {B : Nat} (a0 : Nat) (x1 : Int32) (w2 : Value) (x3 : Int32) (xs0 : Int32) (xs1 : Int32) (s : am_S) : rn_ tb_ct tb_mt B mm_X13_keysOf 30 [.ref a0, .int x1, w2, .int x3] [.int xs0, .int xs1] s = rn_ tb_ct tb_mt B mm_X13_keysOf 4 [.ref a0, .int x1, .int (xs1 + xs0), .int (x3 + (1 : Int32))] [] s := by
  exact rn_go 4 (pc' := 4) (L' := [.ref a0, .int x1, .int (xs1 + xs0), .int (x3 + (1 : Int32))]) (st' := []) rfl
theorem in_X13_lease {B : Nat} (a0 : Nat) (x1 : Int32) (x2 : Int32) (s : am_S) : cl_ tb_ct tb_mt B K_X13_lease [.ref a0, .int x1, .int x2] s = rn_ tb_ct tb_mt B mm_X13_lease 0 [.ref a0, .int x1, .int x2, am_un] [] s := cl_in rfl rfl rfl rfl
theorem dc_X13_lease_0 {B : Nat} (a0 : Nat) (x1 : Int32) (x2 : Int32) (s : am_S) : rn_ tb_ct tb_mt B mm_X13_lease 0 [.ref a0, .int x1, .int x2, am_un] [] s = cI (cl_ tb_ct tb_mt B K_X13_in [.long x2.toInt64, .long (0 : Int64), .long (2 : Int64)] s) (fun x_2 s_1 => eC (am_cls s_1 a0) 11 (cI (cl_ tb_ct tb_mt B K_X13_isThrown [.ref a0, .int x_2, .int (1 : Int32)] s_1) (fun x_4 s_3 => if x_4 = 0 then eC (am_cls s_3 a0) 11 (cI (cl_ tb_ct tb_mt B K_X13_leaseOf [.ref a0, .int x1] s_3) (fun x_6 s_5 => if x_6 = (-(1 : Int32)) then some (.inl (some (.int (-(3 : Int32)))), s_5) else if x2 = (2 : Int32) then eC (am_cls s_5 a0) 11 (cI (cl_ tb_ct tb_mt B K_X13_keysOf [.ref a0, .int x1] s_5) (fun x_8 s_7 => some (.inl (some (.int x_8)), s_7)) xo) else eA (gA tb_ct s_5 a0 11 0) (none) (fun b_9 => eI (aI s_5 b_9 ((((1149 : Int32) + ((3 : Int32) * x_6)) + (1 : Int32)) + x2)) (fun x_10 => some (.inl (some (.int x_10)), s_5)))) xo) else some (.inl (some (.int (0 : Int32))), s_3)) xo)) xo := by
  refine Eq.trans (rn_go 5 (pc' := 7) (L' := [.ref a0, .int x1, .int x2, am_un]) (st' := [.long (2 : Int64), .long (0 : Int64), .long x2.toInt64, .ref a0]) rfl) ?_
  refine Eq.trans (rn_sta (L' := [.ref a0, .int x1, .int x2, am_un]) (as := [.long x2.toInt64, .long (0 : Int64), .long (2 : Int64)]) (rest := [.ref a0]) rfl rfl rfl rfl rfl (Nat.le_of_ble_eq_true rfl) (by decide) rfl) ?_
  refine Eq.trans (cW_I rfl rfl rfl) ?_
  refine cI_c (fun x_2 s_1 => ?_) (xh_nil rfl)
  refine Eq.trans (rn_go 1 (pc' := 11) (L' := [.ref a0, .int x1, .int x2, am_un]) (st' := [.int (1 : Int32), .int x_2, .ref a0]) rfl) ?_
  refine Eq.trans (rn_vir (L' := [.ref a0, .int x1, .int x2, am_un]) (as := [.int x_2, .int (1 : Int32)]) (rest := []) rfl rfl rfl rfl rfl (Nat.le_of_ble_eq_true rfl) (by decide) (by decide)) ?_
  refine eC_c ?_
  refine Eq.trans (cW_I rfl rfl rfl) ?_
  refine cI_c (fun x_4 s_3 => ?_) (xh_nil rfl)
  refine Eq.trans (rn_ifeq (L' := [.ref a0, .int x1, .int x2, am_un]) rfl rfl) ?_
  refine if_c ?_ ?_
  · refine Eq.trans (rn_go 2 (pc' := 21) (L' := [.ref a0, .int x1, .int x2, am_un]) (st' := [.int x1, .ref a0]) rfl) ?_
    refine Eq.trans (rn_vir (L' := [.ref a0, .int x1, .int x2, am_un]) (as := [.int x1]) (rest := []) rfl rfl rfl rfl rfl (Nat.le_of_ble_eq_true rfl) (by decide) (by decide)) ?_
    refine eC_c ?_
    refine Eq.trans (cW_I rfl rfl rfl) ?_
    refine cI_c (fun x_6 s_5 => ?_) (xh_nil rfl)
    refine Eq.trans (rn_go 3 (pc' := 27) (L' := [.ref a0, .int x1, .int x2, .int x_6]) (st' := [.int (-(1 : Int32)), .int x_6]) rfl) ?_
    refine Eq.trans (rn_icne (L' := [.ref a0, .int x1, .int x2, .int x_6]) rfl rfl) ?_
    refine if_c ?_ ?_
    · refine Eq.trans (rn_go 1 (pc' := 32) (L' := [.ref a0, .int x1, .int x2, .int x_6]) (st' := [.int (-(3 : Int32))]) rfl) ?_
      exact rn_retI rfl rfl rfl
    · refine Eq.trans (rn_go 2 (pc' := 35) (L' := [.ref a0, .int x1, .int x2, .int x_6]) (st' := [.int (2 : Int32), .int x2]) rfl) ?_
      refine Eq.trans (rn_icne (L' := [.ref a0, .int x1, .int x2, .int x_6]) rfl rfl) ?_
      refine if_c ?_ ?_
      · refine Eq.trans (rn_go 2 (pc' := 40) (L' := [.ref a0, .int x1, .int x2, .int x_6]) (st' := [.int x1, .ref a0]) rfl) ?_
        refine Eq.trans (rn_vir (L' := [.ref a0, .int x1, .int x2, .int x_6]) (as := [.int x1]) (rest := []) rfl rfl rfl rfl rfl (Nat.le_of_ble_eq_true rfl) (by decide) (by decide)) ?_
        refine eC_c ?_
        refine Eq.trans (cW_I rfl rfl rfl) ?_
        refine cI_c (fun x_8 s_7 => ?_) (xh_nil rfl)
        refine Eq.trans (rn_go 1 (pc' := 62) (L' := [.ref a0, .int x1, .int x2, .int x_6]) (st' := [.int x_8]) rfl) ?_
        exact rn_retI rfl rfl rfl
      · refine Eq.trans (rn_go 1 (pc' := 47) (L' := [.ref a0, .int x1, .int x2, .int x_6]) (st' := [.ref a0]) rfl) ?_
        refine Eq.trans (rn_gA (L' := [.ref a0, .int x1, .int x2, .int x_6]) rfl rfl rfl rfl) ?_
        refine eA_c ?_ (fun b_9 => ?_)
        · refine Eq.trans (rn_go 9 (pc' := 61) (L' := [.ref a0, .int x1, .int x2, .int x_6]) (st' := [.int ((((1149 : Int32) + ((3 : Int32) * x_6)) + (1 : Int32)) + x2), .null]) rfl) ?_
          exact rn_z rfl rfl
        · refine Eq.trans (rn_go 9 (pc' := 61) (L' := [.ref a0, .int x1, .int x2, .int x_6]) (st' := [.int ((((1149 : Int32) + ((3 : Int32) * x_6)) + (1 : Int32)) + x2), .ref b_9]) rfl) ?_
          refine Eq.trans (rn_aI (L' := [.ref a0, .int x1, .int x2, .int x_6]) rfl rfl) ?_
          refine eI_c (fun x_10 => ?_)
          exact rn_retI rfl rfl rfl
  · refine Eq.trans (rn_go 1 (pc' := 18) (L' := [.ref a0, .int x1, .int x2, am_un]) (st' := [.int (0 : Int32)]) rfl) ?_
    exact rn_retI rfl rfl rfl
theorem in_X13_keepAlive {B : Nat} (a0 : Nat) (x1 : Int32) (s : am_S) : cl_ tb_ct tb_mt B K_X13_keepAlive [.ref a0, .int x1] s = rn_ tb_ct tb_mt B mm_X13_keepAlive 0 [.ref a0, .int x1, am_un, am_un] [] s := cl_in rfl rfl rfl rfl
theorem dc_X13_keepAlive_0 {B : Nat} (a0 : Nat) (x1 : Int32) (s : am_S) : rn_ tb_ct tb_mt B mm_X13_keepAlive 0 [.ref a0, .int x1, am_un, am_un] [] s = eS (am_put tb_ct mm_X13_keepAlive B s (.int (0 : Int32)) a0 11 4) (fun s_1 => eC (am_cls s_1 a0) 11 (cI (cl_ tb_ct tb_mt B K_X13_leaseOf [.ref a0, .int x1] s_1) (fun x_3 s_2 => if x_3 = (-(1 : Int32)) then some (.inl (some (.int (-(3 : Int32)))), s_2) else eA (gA tb_ct s_2 a0 11 0) (eA (gA tb_ct s_2 a0 11 0) (none) (fun b_5 => eI (aI s_2 b_5 (((1149 : Int32) + ((3 : Int32) * x_3)) + (1 : Int32))) (fun x_6 => none))) (fun b_4 => eA (gA tb_ct s_2 a0 11 0) (none) (fun b_7 => eI (aI s_2 b_7 (((1149 : Int32) + ((3 : Int32) * x_3)) + (1 : Int32))) (fun x_8 => eS (wI B s_2 b_4 (((1149 : Int32) + ((3 : Int32) * x_3)) + (2 : Int32)) x_8) (fun s_9 => eA (gA tb_ct s_9 a0 11 0) (none) (fun b_10 => eI (aI s_9 b_10 (((1149 : Int32) + ((3 : Int32) * x_3)) + (1 : Int32))) (fun x_11 => some (.inl (some (.int x_11)), s_9)))))))) xo)) := by
  refine Eq.trans (rn_go 2 (pc' := 2) (L' := [.ref a0, .int x1, am_un, am_un]) (st' := [.int (0 : Int32), .ref a0]) rfl) ?_
  refine Eq.trans (rn_pF (L' := [.ref a0, .int x1, am_un, am_un]) rfl rfl) ?_
  refine eS_c (fun s_1 => ?_)
  refine Eq.trans (rn_go 2 (pc' := 7) (L' := [.ref a0, .int x1, am_un, am_un]) (st' := [.int x1, .ref a0]) rfl) ?_
  refine Eq.trans (rn_vir (L' := [.ref a0, .int x1, am_un, am_un]) (as := [.int x1]) (rest := []) rfl rfl rfl rfl rfl (Nat.le_of_ble_eq_true rfl) (by decide) (by decide)) ?_
  refine eC_c ?_
  refine Eq.trans (cW_I rfl rfl rfl) ?_
  refine cI_c (fun x_3 s_2 => ?_) (xh_nil rfl)
  refine Eq.trans (rn_go 3 (pc' := 13) (L' := [.ref a0, .int x1, .int x_3, am_un]) (st' := [.int (-(1 : Int32)), .int x_3]) rfl) ?_
  refine Eq.trans (rn_icne (L' := [.ref a0, .int x1, .int x_3, am_un]) rfl rfl) ?_
  refine if_c ?_ ?_
  · refine Eq.trans (rn_go 1 (pc' := 18) (L' := [.ref a0, .int x1, .int x_3, am_un]) (st' := [.int (-(3 : Int32))]) rfl) ?_
    exact rn_retI rfl rfl rfl
  · refine Eq.trans (rn_go 7 (pc' := 28) (L' := [.ref a0, .int x1, .int x_3, .int ((1149 : Int32) + ((3 : Int32) * x_3))]) (st' := [.ref a0]) rfl) ?_
    refine Eq.trans (rn_gA (L' := [.ref a0, .int x1, .int x_3, .int ((1149 : Int32) + ((3 : Int32) * x_3))]) rfl rfl rfl rfl) ?_
    refine eA_c ?_ (fun b_4 => ?_)
    · refine Eq.trans (rn_go 4 (pc' := 35) (L' := [.ref a0, .int x1, .int x_3, .int ((1149 : Int32) + ((3 : Int32) * x_3))]) (st' := [.ref a0, .int (((1149 : Int32) + ((3 : Int32) * x_3)) + (2 : Int32)), .null]) rfl) ?_
      refine Eq.trans (rn_gA (L' := [.ref a0, .int x1, .int x_3, .int ((1149 : Int32) + ((3 : Int32) * x_3))]) rfl rfl rfl rfl) ?_
      refine eA_c ?_ (fun b_5 => ?_)
      · refine Eq.trans (rn_go 3 (pc' := 41) (L' := [.ref a0, .int x1, .int x_3, .int ((1149 : Int32) + ((3 : Int32) * x_3))]) (st' := [.int (((1149 : Int32) + ((3 : Int32) * x_3)) + (1 : Int32)), .null, .int (((1149 : Int32) + ((3 : Int32) * x_3)) + (2 : Int32)), .null]) rfl) ?_
        exact rn_z rfl rfl
      · refine Eq.trans (rn_go 3 (pc' := 41) (L' := [.ref a0, .int x1, .int x_3, .int ((1149 : Int32) + ((3 : Int32) * x_3))]) (st' := [.int (((1149 : Int32) + ((3 : Int32) * x_3)) + (1 : Int32)), .ref b_5, .int (((1149 : Int32) + ((3 : Int32) * x_3)) + (2 : Int32)), .null]) rfl) ?_
        refine Eq.trans (rn_aI (L' := [.ref a0, .int x1, .int x_3, .int ((1149 : Int32) + ((3 : Int32) * x_3))]) rfl rfl) ?_
        refine eI_c (fun x_6 => ?_)
        exact rn_z rfl rfl
    · refine Eq.trans (rn_go 4 (pc' := 35) (L' := [.ref a0, .int x1, .int x_3, .int ((1149 : Int32) + ((3 : Int32) * x_3))]) (st' := [.ref a0, .int (((1149 : Int32) + ((3 : Int32) * x_3)) + (2 : Int32)), .ref b_4]) rfl) ?_
      refine Eq.trans (rn_gA (L' := [.ref a0, .int x1, .int x_3, .int ((1149 : Int32) + ((3 : Int32) * x_3))]) rfl rfl rfl rfl) ?_
      refine eA_c ?_ (fun b_7 => ?_)
      · refine Eq.trans (rn_go 3 (pc' := 41) (L' := [.ref a0, .int x1, .int x_3, .int ((1149 : Int32) + ((3 : Int32) * x_3))]) (st' := [.int (((1149 : Int32) + ((3 : Int32) * x_3)) + (1 : Int32)), .null, .int (((1149 : Int32) + ((3 : Int32) * x_3)) + (2 : Int32)), .ref b_4]) rfl) ?_
        exact rn_z rfl rfl
      · refine Eq.trans (rn_go 3 (pc' := 41) (L' := [.ref a0, .int x1, .int x_3, .int ((1149 : Int32) + ((3 : Int32) * x_3))]) (st' := [.int (((1149 : Int32) + ((3 : Int32) * x_3)) + (1 : Int32)), .ref b_7, .int (((1149 : Int32) + ((3 : Int32) * x_3)) + (2 : Int32)), .ref b_4]) rfl) ?_
        refine Eq.trans (rn_aI (L' := [.ref a0, .int x1, .int x_3, .int ((1149 : Int32) + ((3 : Int32) * x_3))]) rfl rfl) ?_
        refine eI_c (fun x_8 => ?_)
        refine Eq.trans (rn_wI (L' := [.ref a0, .int x1, .int x_3, .int ((1149 : Int32) + ((3 : Int32) * x_3))]) rfl rfl) ?_
        refine eS_c (fun s_9 => ?_)
        refine Eq.trans (rn_go 1 (pc' := 44) (L' := [.ref a0, .int x1, .int x_3, .int ((1149 : Int32) + ((3 : Int32) * x_3))]) (st' := [.ref a0]) rfl) ?_
        refine Eq.trans (rn_gA (L' := [.ref a0, .int x1, .int x_3, .int ((1149 : Int32) + ((3 : Int32) * x_3))]) rfl rfl rfl rfl) ?_
        refine eA_c ?_ (fun b_10 => ?_)
        · refine Eq.trans (rn_go 3 (pc' := 50) (L' := [.ref a0, .int x1, .int x_3, .int ((1149 : Int32) + ((3 : Int32) * x_3))]) (st' := [.int (((1149 : Int32) + ((3 : Int32) * x_3)) + (1 : Int32)), .null]) rfl) ?_
          exact rn_z rfl rfl
        · refine Eq.trans (rn_go 3 (pc' := 50) (L' := [.ref a0, .int x1, .int x_3, .int ((1149 : Int32) + ((3 : Int32) * x_3))]) (st' := [.int (((1149 : Int32) + ((3 : Int32) * x_3)) + (1 : Int32)), .ref b_10]) rfl) ?_
          refine Eq.trans (rn_aI (L' := [.ref a0, .int x1, .int x_3, .int ((1149 : Int32) + ((3 : Int32) * x_3))]) rfl rfl) ?_
          refine eI_c (fun x_11 => ?_)
          exact rn_retI rfl rfl rfl
theorem in_X13_ends {B : Nat} (a0 : Nat) (x1 : Int32) (s : am_S) : cl_ tb_ct tb_mt B K_X13_ends [.ref a0, .int x1] s = rn_ tb_ct tb_mt B mm_X13_ends 0 [.ref a0, .int x1, am_un, am_un, am_un] [] s := cl_in rfl rfl rfl rfl
theorem dc_X13_ends_0 {B : Nat} (a0 : Nat) (x1 : Int32) (s : am_S) : rn_ tb_ct tb_mt B mm_X13_ends 0 [.ref a0, .int x1, am_un, am_un, am_un] [] s = eA (gA tb_ct s a0 11 0) (none) (fun b_1 => eI (aI s b_1 ((1149 : Int32) + ((3 : Int32) * x1))) (fun x_2 => eA (gA tb_ct s a0 11 0) (none) (fun b_3 => eI (aI s b_3 (4 : Int32)) (fun x_4 => eC (am_cls s a0) 11 (cV (cl_ tb_ct tb_mt B K_X13_moves [.ref a0, .int (1149 : Int32), .int (3 : Int32), .int x1, .int x_4, .int (-(1 : Int32))] s) (fun s_5 => eA (gA tb_ct s_5 a0 11 0) (none) (fun b_6 => eI (aI s_5 b_6 (4 : Int32)) (fun x_7 => eS (wI B s_5 b_6 (4 : Int32) (x_7 - (1 : Int32))) (fun s_8 => rn_ tb_ct tb_mt B mm_X13_ends 44 [.ref a0, .int x1, .int x_2, .int (0 : Int32), .int (0 : Int32)] [] s_8)))) xo))))) := by
  refine Eq.trans (rn_go 1 (pc' := 1) (L' := [.ref a0, .int x1, am_un, am_un, am_un]) (st' := [.ref a0]) rfl) ?_
  refine Eq.trans (rn_gA (L' := [.ref a0, .int x1, am_un, am_un, am_un]) rfl rfl rfl rfl) ?_
  refine eA_c ?_ (fun b_1 => ?_)
  · refine Eq.trans (rn_go 5 (pc' := 11) (L' := [.ref a0, .int x1, am_un, am_un, am_un]) (st' := [.int ((1149 : Int32) + ((3 : Int32) * x1)), .null]) rfl) ?_
    exact rn_z rfl rfl
  · refine Eq.trans (rn_go 5 (pc' := 11) (L' := [.ref a0, .int x1, am_un, am_un, am_un]) (st' := [.int ((1149 : Int32) + ((3 : Int32) * x1)), .ref b_1]) rfl) ?_
    refine Eq.trans (rn_aI (L' := [.ref a0, .int x1, am_un, am_un, am_un]) rfl rfl) ?_
    refine eI_c (fun x_2 => ?_)
    refine Eq.trans (rn_go 6 (pc' := 20) (L' := [.ref a0, .int x1, .int x_2, am_un, am_un]) (st' := [.ref a0, .int x1, .int (3 : Int32), .int (1149 : Int32), .ref a0]) rfl) ?_
    refine Eq.trans (rn_gA (L' := [.ref a0, .int x1, .int x_2, am_un, am_un]) rfl rfl rfl rfl) ?_
    refine eA_c ?_ (fun b_3 => ?_)
    · refine Eq.trans (rn_go 1 (pc' := 24) (L' := [.ref a0, .int x1, .int x_2, am_un, am_un]) (st' := [.int (4 : Int32), .null, .int x1, .int (3 : Int32), .int (1149 : Int32), .ref a0]) rfl) ?_
      exact rn_z rfl rfl
    · refine Eq.trans (rn_go 1 (pc' := 24) (L' := [.ref a0, .int x1, .int x_2, am_un, am_un]) (st' := [.int (4 : Int32), .ref b_3, .int x1, .int (3 : Int32), .int (1149 : Int32), .ref a0]) rfl) ?_
      refine Eq.trans (rn_aI (L' := [.ref a0, .int x1, .int x_2, am_un, am_un]) rfl rfl) ?_
      refine eI_c (fun x_4 => ?_)
      refine Eq.trans (rn_go 1 (pc' := 26) (L' := [.ref a0, .int x1, .int x_2, am_un, am_un]) (st' := [.int (-(1 : Int32)), .int x_4, .int x1, .int (3 : Int32), .int (1149 : Int32), .ref a0]) rfl) ?_
      refine Eq.trans (rn_vir (L' := [.ref a0, .int x1, .int x_2, am_un, am_un]) (as := [.int (1149 : Int32), .int (3 : Int32), .int x1, .int x_4, .int (-(1 : Int32))]) (rest := []) rfl rfl rfl rfl rfl (Nat.le_of_ble_eq_true rfl) (by decide) (by decide)) ?_
      refine eC_c ?_
      refine Eq.trans (cW_V rfl rfl) ?_
      refine cV_c (fun s_5 => ?_) (xh_nil rfl)
      refine Eq.trans (rn_go 1 (pc' := 30) (L' := [.ref a0, .int x1, .int x_2, am_un, am_un]) (st' := [.ref a0]) rfl) ?_
      refine Eq.trans (rn_gA (L' := [.ref a0, .int x1, .int x_2, am_un, am_un]) rfl rfl rfl rfl) ?_
      refine eA_c ?_ (fun b_6 => ?_)
      · refine Eq.trans (rn_go 2 (pc' := 35) (L' := [.ref a0, .int x1, .int x_2, am_un, am_un]) (st' := [.int (4 : Int32), .null, .int (4 : Int32), .null]) rfl) ?_
        exact rn_z rfl rfl
      · refine Eq.trans (rn_go 2 (pc' := 35) (L' := [.ref a0, .int x1, .int x_2, am_un, am_un]) (st' := [.int (4 : Int32), .ref b_6, .int (4 : Int32), .ref b_6]) rfl) ?_
        refine Eq.trans (rn_aI (L' := [.ref a0, .int x1, .int x_2, am_un, am_un]) rfl rfl) ?_
        refine eI_c (fun x_7 => ?_)
        refine Eq.trans (rn_go 2 (pc' := 38) (L' := [.ref a0, .int x1, .int x_2, am_un, am_un]) (st' := [.int (x_7 - (1 : Int32)), .int (4 : Int32), .ref b_6]) rfl) ?_
        refine Eq.trans (rn_wI (L' := [.ref a0, .int x1, .int x_2, am_un, am_un]) rfl rfl) ?_
        refine eS_c (fun s_8 => ?_)
        exact rn_go 4 (pc' := 44) (L' := [.ref a0, .int x1, .int x_2, .int (0 : Int32), .int (0 : Int32)]) (st' := []) rfl
theorem dc_X13_ends_44 {B : Nat} (a0 : Nat) (w1 : Value) (x2 : Int32) (x3 : Int32) (x4 : Int32) (s : am_S) : rn_ tb_ct tb_mt B mm_X13_ends 44 [.ref a0, w1, .int x2, .int x3, .int x4] [] s = eA (gA tb_ct s a0 11 0) (none) (fun b_1 => eI (aI s b_1 (3 : Int32)) (fun x_2 => if x_2 ≤ x4 then eC (am_cls s a0) 11 (cI (cl_ tb_ct tb_mt B K_X13_deletesAll [.ref a0, .int x3] s) (fun x_4 s_3 => some (.inl (some (.int x_4)), s_3)) xo) else eC (am_cls s a0) 11 (cI (cl_ tb_ct tb_mt B K_X13_keyAt [.ref a0, .int x4, .int (5 : Int32)] s) (fun x_6 s_5 => if x_6 = x2 then eA (gA tb_ct s_5 a0 11 19) (eC (am_cls s_5 a0) 11 (cI (cl_ tb_ct tb_mt B K_X13_keyAt [.ref a0, .int x4, .int (0 : Int32)] s_5) (fun x_9 s_8 => none) xo)) (fun b_7 => eC (am_cls s_5 a0) 11 (cI (cl_ tb_ct tb_mt B K_X13_keyAt [.ref a0, .int x4, .int (0 : Int32)] s_5) (fun x_11 s_10 => eS (wI B s_10 b_7 x3 x_11) (fun s_12 => rn_ tb_ct tb_mt B mm_X13_ends 82 [.ref a0, am_un, .int x2, .int (x3 + (1 : Int32)), .int x4] [] s_12)) xo)) else rn_ tb_ct tb_mt B mm_X13_ends 82 [.ref a0, am_un, .int x2, .int x3, .int x4] [] s_5) xo))) := by
  refine Eq.trans (rn_go 2 (pc' := 47) (L' := [.ref a0, am_un, .int x2, .int x3, .int x4]) (st' := [.ref a0, .int x4]) rfl) ?_
  refine Eq.trans (rn_gA (L' := [.ref a0, am_un, .int x2, .int x3, .int x4]) rfl rfl rfl rfl) ?_
  refine eA_c ?_ (fun b_1 => ?_)
  · refine Eq.trans (rn_go 1 (pc' := 51) (L' := [.ref a0, am_un, .int x2, .int x3, .int x4]) (st' := [.int (3 : Int32), .null, .int x4]) rfl) ?_
    exact rn_z rfl rfl
  · refine Eq.trans (rn_go 1 (pc' := 51) (L' := [.ref a0, am_un, .int x2, .int x3, .int x4]) (st' := [.int (3 : Int32), .ref b_1, .int x4]) rfl) ?_
    refine Eq.trans (rn_aI (L' := [.ref a0, am_un, .int x2, .int x3, .int x4]) rfl rfl) ?_
    refine eI_c (fun x_2 => ?_)
    refine Eq.trans (rn_icge (L' := [.ref a0, am_un, .int x2, .int x3, .int x4]) rfl rfl) ?_
    refine if_c ?_ ?_
    · refine Eq.trans (rn_go 2 (pc' := 90) (L' := [.ref a0, am_un, .int x2, .int x3, .int x4]) (st' := [.int x3, .ref a0]) rfl) ?_
      refine Eq.trans (rn_vir (L' := [.ref a0, am_un, .int x2, .int x3, .int x4]) (as := [.int x3]) (rest := []) rfl rfl rfl rfl rfl (Nat.le_of_ble_eq_true rfl) (by decide) (by decide)) ?_
      refine eC_c ?_
      refine Eq.trans (cW_I rfl rfl rfl) ?_
      refine cI_c (fun x_4 s_3 => ?_) (xh_nil rfl)
      exact rn_retI rfl rfl rfl
    · refine Eq.trans (rn_go 3 (pc' := 59) (L' := [.ref a0, am_un, .int x2, .int x3, .int x4]) (st' := [.int (5 : Int32), .int x4, .ref a0]) rfl) ?_
      refine Eq.trans (rn_vir (L' := [.ref a0, am_un, .int x2, .int x3, .int x4]) (as := [.int x4, .int (5 : Int32)]) (rest := []) rfl rfl rfl rfl rfl (Nat.le_of_ble_eq_true rfl) (by decide) (by decide)) ?_
      refine eC_c ?_
      refine Eq.trans (cW_I rfl rfl rfl) ?_
      refine cI_c (fun x_6 s_5 => ?_) (xh_nil rfl)
      refine Eq.trans (rn_go 1 (pc' := 63) (L' := [.ref a0, am_un, .int x2, .int x3, .int x4]) (st' := [.int x2, .int x_6]) rfl) ?_
      refine Eq.trans (rn_icne (L' := [.ref a0, am_un, .int x2, .int x3, .int x4]) rfl rfl) ?_
      refine if_c ?_ ?_
      · refine Eq.trans (rn_go 1 (pc' := 67) (L' := [.ref a0, am_un, .int x2, .int x3, .int x4]) (st' := [.ref a0]) rfl) ?_
        refine Eq.trans (rn_gA (L' := [.ref a0, am_un, .int x2, .int x3, .int x4]) rfl rfl rfl rfl) ?_
        refine eA_c ?_ (fun b_7 => ?_)
        · refine Eq.trans (rn_go 4 (pc' := 75) (L' := [.ref a0, am_un, .int x2, .int x3, .int x4]) (st' := [.int (0 : Int32), .int x4, .ref a0, .int x3, .null]) rfl) ?_
          refine Eq.trans (rn_vir (L' := [.ref a0, am_un, .int x2, .int x3, .int x4]) (as := [.int x4, .int (0 : Int32)]) (rest := [.int x3, .null]) rfl rfl rfl rfl rfl (Nat.le_of_ble_eq_true rfl) (by decide) (by decide)) ?_
          refine eC_c ?_
          refine Eq.trans (cW_I rfl rfl rfl) ?_
          refine cI_c (fun x_9 s_8 => ?_) (xh_nil rfl)
          exact rn_z rfl rfl
        · refine Eq.trans (rn_go 4 (pc' := 75) (L' := [.ref a0, am_un, .int x2, .int x3, .int x4]) (st' := [.int (0 : Int32), .int x4, .ref a0, .int x3, .ref b_7]) rfl) ?_
          refine Eq.trans (rn_vir (L' := [.ref a0, am_un, .int x2, .int x3, .int x4]) (as := [.int x4, .int (0 : Int32)]) (rest := [.int x3, .ref b_7]) rfl rfl rfl rfl rfl (Nat.le_of_ble_eq_true rfl) (by decide) (by decide)) ?_
          refine eC_c ?_
          refine Eq.trans (cW_I rfl rfl rfl) ?_
          refine cI_c (fun x_11 s_10 => ?_) (xh_nil rfl)
          refine Eq.trans (rn_wI (L' := [.ref a0, am_un, .int x2, .int x3, .int x4]) rfl rfl) ?_
          refine eS_c (fun s_12 => ?_)
          exact rn_go 1 (pc' := 82) (L' := [.ref a0, am_un, .int x2, .int (x3 + (1 : Int32)), .int x4]) (st' := []) rfl
      · rfl
theorem dc_X13_ends_82 {B : Nat} (a0 : Nat) (x2 : Int32) (x3 : Int32) (x4 : Int32) (s : am_S) : rn_ tb_ct tb_mt B mm_X13_ends 82 [.ref a0, am_un, .int x2, .int x3, .int x4] [] s = rn_ tb_ct tb_mt B mm_X13_ends 44 [.ref a0, am_un, .int x2, .int x3, .int (x4 + (1 : Int32))] [] s := by
  exact rn_go 2 (pc' := 44) (L' := [.ref a0, am_un, .int x2, .int x3, .int (x4 + (1 : Int32))]) (st' := []) rfl
theorem in_X13_revoke {B : Nat} (a0 : Nat) (x1 : Int32) (s : am_S) : cl_ tb_ct tb_mt B K_X13_revoke [.ref a0, .int x1] s = rn_ tb_ct tb_mt B mm_X13_revoke 0 [.ref a0, .int x1, am_un] [] s := cl_in rfl rfl rfl rfl
theorem dc_X13_revoke_0 {B : Nat} (a0 : Nat) (x1 : Int32) (s : am_S) : rn_ tb_ct tb_mt B mm_X13_revoke 0 [.ref a0, .int x1, am_un] [] s = eS (am_put tb_ct mm_X13_revoke B s (.int (0 : Int32)) a0 11 4) (fun s_1 => eC (am_cls s_1 a0) 11 (cI (cl_ tb_ct tb_mt B K_X13_leaseOf [.ref a0, .int x1] s_1) (fun x_3 s_2 => if x_3 = (-(1 : Int32)) then some (.inl (some (.int (-(3 : Int32)))), s_2) else eC (am_cls s_2 a0) 11 (cI (cl_ tb_ct tb_mt B K_X13_ends [.ref a0, .int x_3] s_2) (fun x_5 s_4 => some (.inl (some (.int x_5)), s_4)) xo)) xo)) := by
  refine Eq.trans (rn_go 2 (pc' := 2) (L' := [.ref a0, .int x1, am_un]) (st' := [.int (0 : Int32), .ref a0]) rfl) ?_
  refine Eq.trans (rn_pF (L' := [.ref a0, .int x1, am_un]) rfl rfl) ?_
  refine eS_c (fun s_1 => ?_)
  refine Eq.trans (rn_go 2 (pc' := 7) (L' := [.ref a0, .int x1, am_un]) (st' := [.int x1, .ref a0]) rfl) ?_
  refine Eq.trans (rn_vir (L' := [.ref a0, .int x1, am_un]) (as := [.int x1]) (rest := []) rfl rfl rfl rfl rfl (Nat.le_of_ble_eq_true rfl) (by decide) (by decide)) ?_
  refine eC_c ?_
  refine Eq.trans (cW_I rfl rfl rfl) ?_
  refine cI_c (fun x_3 s_2 => ?_) (xh_nil rfl)
  refine Eq.trans (rn_go 3 (pc' := 13) (L' := [.ref a0, .int x1, .int x_3]) (st' := [.int (-(1 : Int32)), .int x_3]) rfl) ?_
  refine Eq.trans (rn_icne (L' := [.ref a0, .int x1, .int x_3]) rfl rfl) ?_
  refine if_c ?_ ?_
  · refine Eq.trans (rn_go 2 (pc' := 26) (L' := [.ref a0, .int x1, .int x_3]) (st' := [.int (-(3 : Int32))]) rfl) ?_
    exact rn_retI rfl rfl rfl
  · refine Eq.trans (rn_go 2 (pc' := 23) (L' := [.ref a0, .int x1, .int x_3]) (st' := [.int x_3, .ref a0]) rfl) ?_
    refine Eq.trans (rn_vir (L' := [.ref a0, .int x1, .int x_3]) (as := [.int x_3]) (rest := []) rfl rfl rfl rfl rfl (Nat.le_of_ble_eq_true rfl) (by decide) (by decide)) ?_
    refine eC_c ?_
    refine Eq.trans (cW_I rfl rfl rfl) ?_
    refine cI_c (fun x_5 s_4 => ?_) (xh_nil rfl)
    exact rn_retI rfl rfl rfl
theorem in_X13_tick {B : Nat} (a0 : Nat) (x1 : Int32) (s : am_S) : cl_ tb_ct tb_mt B K_X13_tick [.ref a0, .int x1] s = rn_ tb_ct tb_mt B mm_X13_tick 0 [.ref a0, .int x1, am_un, am_un, am_un] [] s := cl_in rfl rfl rfl rfl
theorem dc_X13_tick_0 {B : Nat} (a0 : Nat) (x1 : Int32) (s : am_S) : rn_ tb_ct tb_mt B mm_X13_tick 0 [.ref a0, .int x1, am_un, am_un, am_un] [] s = cI (cl_ tb_ct tb_mt B K_X13_in [.long x1.toInt64, .long (1 : Int64), .long (1000 : Int64)] s) (fun x_2 s_1 => eC (am_cls s_1 a0) 11 (cI (cl_ tb_ct tb_mt B K_X13_isThrown [.ref a0, .int x_2, .int (1 : Int32)] s_1) (fun x_4 s_3 => if x_4 = 0 then rn_ tb_ct tb_mt B mm_X13_tick 21 [.ref a0, .int x1, .int (0 : Int32), am_un, am_un] [] s_3 else some (.inl (some (.int (0 : Int32))), s_3)) xo)) xo := by
  refine Eq.trans (rn_go 5 (pc' := 7) (L' := [.ref a0, .int x1, am_un, am_un, am_un]) (st' := [.long (1000 : Int64), .long (1 : Int64), .long x1.toInt64, .ref a0]) rfl) ?_
  refine Eq.trans (rn_sta (L' := [.ref a0, .int x1, am_un, am_un, am_un]) (as := [.long x1.toInt64, .long (1 : Int64), .long (1000 : Int64)]) (rest := [.ref a0]) rfl rfl rfl rfl rfl (Nat.le_of_ble_eq_true rfl) (by decide) rfl) ?_
  refine Eq.trans (cW_I rfl rfl rfl) ?_
  refine cI_c (fun x_2 s_1 => ?_) (xh_nil rfl)
  refine Eq.trans (rn_go 1 (pc' := 11) (L' := [.ref a0, .int x1, am_un, am_un, am_un]) (st' := [.int (1 : Int32), .int x_2, .ref a0]) rfl) ?_
  refine Eq.trans (rn_vir (L' := [.ref a0, .int x1, am_un, am_un, am_un]) (as := [.int x_2, .int (1 : Int32)]) (rest := []) rfl rfl rfl rfl rfl (Nat.le_of_ble_eq_true rfl) (by decide) (by decide)) ?_
  refine eC_c ?_
  refine Eq.trans (cW_I rfl rfl rfl) ?_
  refine cI_c (fun x_4 s_3 => ?_) (xh_nil rfl)
  refine Eq.trans (rn_ifeq (L' := [.ref a0, .int x1, am_un, am_un, am_un]) rfl rfl) ?_
  refine if_c ?_ ?_
  · exact rn_go 2 (pc' := 21) (L' := [.ref a0, .int x1, .int (0 : Int32), am_un, am_un]) (st' := []) rfl
  · refine Eq.trans (rn_go 1 (pc' := 18) (L' := [.ref a0, .int x1, am_un, am_un, am_un]) (st' := [.int (0 : Int32)]) rfl) ?_
    exact rn_retI rfl rfl rfl
theorem dc_X13_tick_21 {B : Nat} (a0 : Nat) (x1 : Int32) (x2 : Int32) (w3 : Value) (s : am_S) : rn_ tb_ct tb_mt B mm_X13_tick 21 [.ref a0, .int x1, .int x2, w3, am_un] [] s = if x1 ≤ x2 then eA (gA tb_ct s a0 11 0) (none) (fun b_1 => eI (aI s b_1 (2 : Int32)) (fun x_2 => some (.inl (some (.int x_2)), s))) else eA (gA tb_ct s a0 11 0) (none) (fun b_3 => eI (aI s b_3 (2 : Int32)) (fun x_4 => eS (wI B s b_3 (2 : Int32) (x_4 + (1 : Int32))) (fun s_5 => rn_ tb_ct tb_mt B mm_X13_tick 38 [.ref a0, .int x1, .int x2, .int (0 : Int32), am_un] [] s_5))) := by
  refine Eq.trans (rn_go 2 (pc' := 23) (L' := [.ref a0, .int x1, .int x2, am_un, am_un]) (st' := [.int x1, .int x2]) rfl) ?_
  refine Eq.trans (rn_icge (L' := [.ref a0, .int x1, .int x2, am_un, am_un]) rfl rfl) ?_
  refine if_c ?_ ?_
  · refine Eq.trans (rn_go 1 (pc' := 124) (L' := [.ref a0, .int x1, .int x2, am_un, am_un]) (st' := [.ref a0]) rfl) ?_
    refine Eq.trans (rn_gA (L' := [.ref a0, .int x1, .int x2, am_un, am_un]) rfl rfl rfl rfl) ?_
    refine eA_c ?_ (fun b_1 => ?_)
    · refine Eq.trans (rn_go 1 (pc' := 128) (L' := [.ref a0, .int x1, .int x2, am_un, am_un]) (st' := [.int (2 : Int32), .null]) rfl) ?_
      exact rn_z rfl rfl
    · refine Eq.trans (rn_go 1 (pc' := 128) (L' := [.ref a0, .int x1, .int x2, am_un, am_un]) (st' := [.int (2 : Int32), .ref b_1]) rfl) ?_
      refine Eq.trans (rn_aI (L' := [.ref a0, .int x1, .int x2, am_un, am_un]) rfl rfl) ?_
      refine eI_c (fun x_2 => ?_)
      exact rn_retI rfl rfl rfl
  · refine Eq.trans (rn_go 1 (pc' := 27) (L' := [.ref a0, .int x1, .int x2, am_un, am_un]) (st' := [.ref a0]) rfl) ?_
    refine Eq.trans (rn_gA (L' := [.ref a0, .int x1, .int x2, am_un, am_un]) rfl rfl rfl rfl) ?_
    refine eA_c ?_ (fun b_3 => ?_)
    · refine Eq.trans (rn_go 2 (pc' := 32) (L' := [.ref a0, .int x1, .int x2, am_un, am_un]) (st' := [.int (2 : Int32), .null, .int (2 : Int32), .null]) rfl) ?_
      exact rn_z rfl rfl
    · refine Eq.trans (rn_go 2 (pc' := 32) (L' := [.ref a0, .int x1, .int x2, am_un, am_un]) (st' := [.int (2 : Int32), .ref b_3, .int (2 : Int32), .ref b_3]) rfl) ?_
      refine Eq.trans (rn_aI (L' := [.ref a0, .int x1, .int x2, am_un, am_un]) rfl rfl) ?_
      refine eI_c (fun x_4 => ?_)
      refine Eq.trans (rn_go 2 (pc' := 35) (L' := [.ref a0, .int x1, .int x2, am_un, am_un]) (st' := [.int (x_4 + (1 : Int32)), .int (2 : Int32), .ref b_3]) rfl) ?_
      refine Eq.trans (rn_wI (L' := [.ref a0, .int x1, .int x2, am_un, am_un]) rfl rfl) ?_
      refine eS_c (fun s_5 => ?_)
      exact rn_go 2 (pc' := 38) (L' := [.ref a0, .int x1, .int x2, .int (0 : Int32), am_un]) (st' := []) rfl
theorem dc_X13_tick_38 {B : Nat} (a0 : Nat) (x1 : Int32) (x2 : Int32) (x3 : Int32) (s : am_S) : rn_ tb_ct tb_mt B mm_X13_tick 38 [.ref a0, .int x1, .int x2, .int x3, am_un] [] s = eA (gA tb_ct s a0 11 0) (none) (fun b_1 => eI (aI s b_1 (4 : Int32)) (fun x_2 => if x_2 ≤ x3 then rn_ tb_ct tb_mt B mm_X13_tick 74 [.ref a0, .int x1, .int x2, .int (0 : Int32), am_un] [] s else eA (gA tb_ct s a0 11 0) (none) (fun b_3 => eI (aI s b_3 (((1149 : Int32) + ((3 : Int32) * x3)) + (2 : Int32))) (fun x_4 => eS (wI B s b_3 (((1149 : Int32) + ((3 : Int32) * x3)) + (2 : Int32)) (x_4 - (1 : Int32))) (fun s_5 => rn_ tb_ct tb_mt B mm_X13_tick 38 [.ref a0, .int x1, .int x2, .int (x3 + (1 : Int32)), am_un] [] s_5))))) := by
  refine Eq.trans (rn_go 2 (pc' := 40) (L' := [.ref a0, .int x1, .int x2, .int x3, am_un]) (st' := [.ref a0, .int x3]) rfl) ?_
  refine Eq.trans (rn_gA (L' := [.ref a0, .int x1, .int x2, .int x3, am_un]) rfl rfl rfl rfl) ?_
  refine eA_c ?_ (fun b_1 => ?_)
  · refine Eq.trans (rn_go 1 (pc' := 44) (L' := [.ref a0, .int x1, .int x2, .int x3, am_un]) (st' := [.int (4 : Int32), .null, .int x3]) rfl) ?_
    exact rn_z rfl rfl
  · refine Eq.trans (rn_go 1 (pc' := 44) (L' := [.ref a0, .int x1, .int x2, .int x3, am_un]) (st' := [.int (4 : Int32), .ref b_1, .int x3]) rfl) ?_
    refine Eq.trans (rn_aI (L' := [.ref a0, .int x1, .int x2, .int x3, am_un]) rfl rfl) ?_
    refine eI_c (fun x_2 => ?_)
    refine Eq.trans (rn_icge (L' := [.ref a0, .int x1, .int x2, .int x3, am_un]) rfl rfl) ?_
    refine if_c ?_ ?_
    · exact rn_go 2 (pc' := 74) (L' := [.ref a0, .int x1, .int x2, .int (0 : Int32), am_un]) (st' := []) rfl
    · refine Eq.trans (rn_go 1 (pc' := 49) (L' := [.ref a0, .int x1, .int x2, .int x3, am_un]) (st' := [.ref a0]) rfl) ?_
      refine Eq.trans (rn_gA (L' := [.ref a0, .int x1, .int x2, .int x3, am_un]) rfl rfl rfl rfl) ?_
      refine eA_c ?_ (fun b_3 => ?_)
      · refine Eq.trans (rn_go 8 (pc' := 62) (L' := [.ref a0, .int x1, .int x2, .int x3, am_un]) (st' := [.int (((1149 : Int32) + ((3 : Int32) * x3)) + (2 : Int32)), .null, .int (((1149 : Int32) + ((3 : Int32) * x3)) + (2 : Int32)), .null]) rfl) ?_
        exact rn_z rfl rfl
      · refine Eq.trans (rn_go 8 (pc' := 62) (L' := [.ref a0, .int x1, .int x2, .int x3, am_un]) (st' := [.int (((1149 : Int32) + ((3 : Int32) * x3)) + (2 : Int32)), .ref b_3, .int (((1149 : Int32) + ((3 : Int32) * x3)) + (2 : Int32)), .ref b_3]) rfl) ?_
        refine Eq.trans (rn_aI (L' := [.ref a0, .int x1, .int x2, .int x3, am_un]) rfl rfl) ?_
        refine eI_c (fun x_4 => ?_)
        refine Eq.trans (rn_go 2 (pc' := 65) (L' := [.ref a0, .int x1, .int x2, .int x3, am_un]) (st' := [.int (x_4 - (1 : Int32)), .int (((1149 : Int32) + ((3 : Int32) * x3)) + (2 : Int32)), .ref b_3]) rfl) ?_
        refine Eq.trans (rn_wI (L' := [.ref a0, .int x1, .int x2, .int x3, am_un]) rfl rfl) ?_
        refine eS_c (fun s_5 => ?_)
        exact rn_go 2 (pc' := 38) (L' := [.ref a0, .int x1, .int x2, .int (x3 + (1 : Int32)), am_un]) (st' := []) rfl
theorem dc_X13_tick_74 {B : Nat} (a0 : Nat) (x1 : Int32) (x2 : Int32) (x3 : Int32) (w4 : Value) (s : am_S) : rn_ tb_ct tb_mt B mm_X13_tick 74 [.ref a0, .int x1, .int x2, .int x3, w4] [] s = eA (gA tb_ct s a0 11 0) (none) (fun b_1 => eI (aI s b_1 (4 : Int32)) (fun x_2 => if x_2 ≤ x3 then rn_ tb_ct tb_mt B mm_X13_tick 21 [.ref a0, .int x1, .int (x2 + (1 : Int32)), .int x3, am_un] [] s else eA (gA tb_ct s a0 11 0) (none) (fun b_3 => eI (aI s b_3 (((1149 : Int32) + ((3 : Int32) * x3)) + (2 : Int32))) (fun x_4 => if x_4 = 0 then eC (am_cls s a0) 11 (cI (cl_ tb_ct tb_mt B K_X13_ends [.ref a0, .int x3] s) (fun x_6 s_5 => rn_ tb_ct tb_mt B mm_X13_tick 74 [.ref a0, .int x1, .int x2, .int x3, .int x_6] [] s_5) xo) else rn_ tb_ct tb_mt B mm_X13_tick 74 [.ref a0, .int x1, .int x2, .int (x3 + (1 : Int32)), am_un] [] s)))) := by
  refine Eq.trans (rn_go 2 (pc' := 76) (L' := [.ref a0, .int x1, .int x2, .int x3, am_un]) (st' := [.ref a0, .int x3]) rfl) ?_
  refine Eq.trans (rn_gA (L' := [.ref a0, .int x1, .int x2, .int x3, am_un]) rfl rfl rfl rfl) ?_
  refine eA_c ?_ (fun b_1 => ?_)
  · refine Eq.trans (rn_go 1 (pc' := 80) (L' := [.ref a0, .int x1, .int x2, .int x3, am_un]) (st' := [.int (4 : Int32), .null, .int x3]) rfl) ?_
    exact rn_z rfl rfl
  · refine Eq.trans (rn_go 1 (pc' := 80) (L' := [.ref a0, .int x1, .int x2, .int x3, am_un]) (st' := [.int (4 : Int32), .ref b_1, .int x3]) rfl) ?_
    refine Eq.trans (rn_aI (L' := [.ref a0, .int x1, .int x2, .int x3, am_un]) rfl rfl) ?_
    refine eI_c (fun x_2 => ?_)
    refine Eq.trans (rn_icge (L' := [.ref a0, .int x1, .int x2, .int x3, am_un]) rfl rfl) ?_
    refine if_c ?_ ?_
    · exact rn_go 2 (pc' := 21) (L' := [.ref a0, .int x1, .int (x2 + (1 : Int32)), .int x3, am_un]) (st' := []) rfl
    · refine Eq.trans (rn_go 1 (pc' := 85) (L' := [.ref a0, .int x1, .int x2, .int x3, am_un]) (st' := [.ref a0]) rfl) ?_
      refine Eq.trans (rn_gA (L' := [.ref a0, .int x1, .int x2, .int x3, am_un]) rfl rfl rfl rfl) ?_
      refine eA_c ?_ (fun b_3 => ?_)
      · refine Eq.trans (rn_go 7 (pc' := 97) (L' := [.ref a0, .int x1, .int x2, .int x3, am_un]) (st' := [.int (((1149 : Int32) + ((3 : Int32) * x3)) + (2 : Int32)), .null]) rfl) ?_
        exact rn_z rfl rfl
      · refine Eq.trans (rn_go 7 (pc' := 97) (L' := [.ref a0, .int x1, .int x2, .int x3, am_un]) (st' := [.int (((1149 : Int32) + ((3 : Int32) * x3)) + (2 : Int32)), .ref b_3]) rfl) ?_
        refine Eq.trans (rn_aI (L' := [.ref a0, .int x1, .int x2, .int x3, am_un]) rfl rfl) ?_
        refine eI_c (fun x_4 => ?_)
        refine Eq.trans (rn_ifne (L' := [.ref a0, .int x1, .int x2, .int x3, am_un]) rfl rfl) ?_
        refine if_c ?_ ?_
        · refine Eq.trans (rn_go 2 (pc' := 103) (L' := [.ref a0, .int x1, .int x2, .int x3, am_un]) (st' := [.int x3, .ref a0]) rfl) ?_
          refine Eq.trans (rn_vir (L' := [.ref a0, .int x1, .int x2, .int x3, am_un]) (as := [.int x3]) (rest := []) rfl rfl rfl rfl rfl (Nat.le_of_ble_eq_true rfl) (by decide) (by decide)) ?_
          refine eC_c ?_
          refine Eq.trans (cW_I rfl rfl rfl) ?_
          refine cI_c (fun x_6 s_5 => ?_) (xh_nil rfl)
          exact rn_go 2 (pc' := 74) (L' := [.ref a0, .int x1, .int x2, .int x3, .int x_6]) (st' := []) rfl
        · exact rn_go 2 (pc' := 74) (L' := [.ref a0, .int x1, .int x2, .int (x3 + (1 : Int32)), am_un]) (st' := []) rfl
theorem in_X13_expiry {B : Nat} (a0 : Nat) (x1 : Int32) (s : am_S) : cl_ tb_ct tb_mt B K_X13_expiry [.ref a0, .int x1] s = rn_ tb_ct tb_mt B mm_X13_expiry 0 [.ref a0, .int x1, am_un, am_un] [] s := cl_in rfl rfl rfl rfl
theorem dc_X13_expiry_0 {B : Nat} (a0 : Nat) (x1 : Int32) (s : am_S) : rn_ tb_ct tb_mt B mm_X13_expiry 0 [.ref a0, .int x1, am_un, am_un] [] s = cI (cl_ tb_ct tb_mt B K_X13_in [.long x1.toInt64, .long (0 : Int64), .long (1 : Int64)] s) (fun x_2 s_1 => eC (am_cls s_1 a0) 11 (cI (cl_ tb_ct tb_mt B K_X13_isThrown [.ref a0, .int x_2, .int (1 : Int32)] s_1) (fun x_4 s_3 => if x_4 = 0 then rn_ tb_ct tb_mt B mm_X13_expiry 21 [.ref a0, .int x1, .int (-(1 : Int32)), .int (0 : Int32)] [] s_3 else some (.inl (some (.int (0 : Int32))), s_3)) xo)) xo := by
  refine Eq.trans (rn_go 5 (pc' := 5) (L' := [.ref a0, .int x1, am_un, am_un]) (st' := [.long (1 : Int64), .long (0 : Int64), .long x1.toInt64, .ref a0]) rfl) ?_
  refine Eq.trans (rn_sta (L' := [.ref a0, .int x1, am_un, am_un]) (as := [.long x1.toInt64, .long (0 : Int64), .long (1 : Int64)]) (rest := [.ref a0]) rfl rfl rfl rfl rfl (Nat.le_of_ble_eq_true rfl) (by decide) rfl) ?_
  refine Eq.trans (cW_I rfl rfl rfl) ?_
  refine cI_c (fun x_2 s_1 => ?_) (xh_nil rfl)
  refine Eq.trans (rn_go 1 (pc' := 9) (L' := [.ref a0, .int x1, am_un, am_un]) (st' := [.int (1 : Int32), .int x_2, .ref a0]) rfl) ?_
  refine Eq.trans (rn_vir (L' := [.ref a0, .int x1, am_un, am_un]) (as := [.int x_2, .int (1 : Int32)]) (rest := []) rfl rfl rfl rfl rfl (Nat.le_of_ble_eq_true rfl) (by decide) (by decide)) ?_
  refine eC_c ?_
  refine Eq.trans (cW_I rfl rfl rfl) ?_
  refine cI_c (fun x_4 s_3 => ?_) (xh_nil rfl)
  refine Eq.trans (rn_ifeq (L' := [.ref a0, .int x1, am_un, am_un]) rfl rfl) ?_
  refine if_c ?_ ?_
  · exact rn_go 4 (pc' := 21) (L' := [.ref a0, .int x1, .int (-(1 : Int32)), .int (0 : Int32)]) (st' := []) rfl
  · refine Eq.trans (rn_go 1 (pc' := 16) (L' := [.ref a0, .int x1, am_un, am_un]) (st' := [.int (0 : Int32)]) rfl) ?_
    exact rn_retI rfl rfl rfl
theorem dc_X13_expiry_21 {B : Nat} (a0 : Nat) (x1 : Int32) (x2 : Int32) (x3 : Int32) (s : am_S) : rn_ tb_ct tb_mt B mm_X13_expiry 21 [.ref a0, .int x1, .int x2, .int x3] [] s = eA (gA tb_ct s a0 11 0) (none) (fun b_1 => eI (aI s b_1 (4 : Int32)) (fun x_2 => if x_2 ≤ x3 then if x2 = (-(1 : Int32)) then some (.inl (some (.int (-(1 : Int32)))), s) else eA (gA tb_ct s a0 11 0) (if x1 = 0 then rn_ tb_ct tb_mt B mm_X13_expiry 104 [.ref a0, .int x1, .int x2, .int x3] [.int (0 : Int32), .int ((1149 : Int32) + ((3 : Int32) * x2)), va_rf none] s else rn_ tb_ct tb_mt B mm_X13_expiry 104 [.ref a0, .int x1, .int x2, .int x3] [.int (2 : Int32), .int ((1149 : Int32) + ((3 : Int32) * x2)), va_rf none] s) (fun b_3 => if x1 = 0 then rn_ tb_ct tb_mt B mm_X13_expiry 104 [.ref a0, .int x1, .int x2, .int x3] [.int (0 : Int32), .int ((1149 : Int32) + ((3 : Int32) * x2)), va_rf (some b_3)] s else rn_ tb_ct tb_mt B mm_X13_expiry 104 [.ref a0, .int x1, .int x2, .int x3] [.int (2 : Int32), .int ((1149 : Int32) + ((3 : Int32) * x2)), va_rf (some b_3)] s) else if x2 = (-(1 : Int32)) then rn_ tb_ct tb_mt B mm_X13_expiry 67 [.ref a0, .int x1, .int x2, .int x3] [] s else eA (gA tb_ct s a0 11 0) (none) (fun b_4 => eI (aI s b_4 (((1149 : Int32) + ((3 : Int32) * x3)) + (2 : Int32))) (fun x_5 => eA (gA tb_ct s a0 11 0) (none) (fun b_6 => eI (aI s b_6 (((1149 : Int32) + ((3 : Int32) * x2)) + (2 : Int32))) (fun x_7 => if x_7 ≤ x_5 then rn_ tb_ct tb_mt B mm_X13_expiry 69 [.ref a0, .int x1, .int x2, .int x3] [] s else rn_ tb_ct tb_mt B mm_X13_expiry 67 [.ref a0, .int x1, .int x2, .int x3] [] s)))))) := by
  refine Eq.trans (rn_go 2 (pc' := 23) (L' := [.ref a0, .int x1, .int x2, .int x3]) (st' := [.ref a0, .int x3]) rfl) ?_
  refine Eq.trans (rn_gA (L' := [.ref a0, .int x1, .int x2, .int x3]) rfl rfl rfl rfl) ?_
  refine eA_c ?_ (fun b_1 => ?_)
  · refine Eq.trans (rn_go 1 (pc' := 27) (L' := [.ref a0, .int x1, .int x2, .int x3]) (st' := [.int (4 : Int32), .null, .int x3]) rfl) ?_
    exact rn_z rfl rfl
  · refine Eq.trans (rn_go 1 (pc' := 27) (L' := [.ref a0, .int x1, .int x2, .int x3]) (st' := [.int (4 : Int32), .ref b_1, .int x3]) rfl) ?_
    refine Eq.trans (rn_aI (L' := [.ref a0, .int x1, .int x2, .int x3]) rfl rfl) ?_
    refine eI_c (fun x_2 => ?_)
    refine Eq.trans (rn_icge (L' := [.ref a0, .int x1, .int x2, .int x3]) rfl rfl) ?_
    refine if_c ?_ ?_
    · refine Eq.trans (rn_go 2 (pc' := 77) (L' := [.ref a0, .int x1, .int x2, .int x3]) (st' := [.int (-(1 : Int32)), .int x2]) rfl) ?_
      refine Eq.trans (rn_icne (L' := [.ref a0, .int x1, .int x2, .int x3]) rfl rfl) ?_
      refine if_c ?_ ?_
      · refine Eq.trans (rn_go 2 (pc' := 106) (L' := [.ref a0, .int x1, .int x2, .int x3]) (st' := [.int (-(1 : Int32))]) rfl) ?_
        exact rn_retI rfl rfl rfl
      · refine Eq.trans (rn_go 1 (pc' := 85) (L' := [.ref a0, .int x1, .int x2, .int x3]) (st' := [.ref a0]) rfl) ?_
        refine Eq.trans (rn_gA (L' := [.ref a0, .int x1, .int x2, .int x3]) rfl rfl rfl rfl) ?_
        refine eA_c ?_ (fun b_3 => ?_)
        · refine Eq.trans (rn_go 6 (pc' := 96) (L' := [.ref a0, .int x1, .int x2, .int x3]) (st' := [.int x1, .int ((1149 : Int32) + ((3 : Int32) * x2)), .null]) rfl) ?_
          refine Eq.trans (rn_ifne (L' := [.ref a0, .int x1, .int x2, .int x3]) rfl rfl) ?_
          refine if_c ?_ ?_
          · exact rn_go 2 (pc' := 104) (L' := [.ref a0, .int x1, .int x2, .int x3]) (st' := [.int (0 : Int32), .int ((1149 : Int32) + ((3 : Int32) * x2)), va_rf none]) rfl
          · exact rn_go 1 (pc' := 104) (L' := [.ref a0, .int x1, .int x2, .int x3]) (st' := [.int (2 : Int32), .int ((1149 : Int32) + ((3 : Int32) * x2)), va_rf none]) rfl
        · refine Eq.trans (rn_go 6 (pc' := 96) (L' := [.ref a0, .int x1, .int x2, .int x3]) (st' := [.int x1, .int ((1149 : Int32) + ((3 : Int32) * x2)), .ref b_3]) rfl) ?_
          refine Eq.trans (rn_ifne (L' := [.ref a0, .int x1, .int x2, .int x3]) rfl rfl) ?_
          refine if_c ?_ ?_
          · exact rn_go 2 (pc' := 104) (L' := [.ref a0, .int x1, .int x2, .int x3]) (st' := [.int (0 : Int32), .int ((1149 : Int32) + ((3 : Int32) * x2)), va_rf (some b_3)]) rfl
          · exact rn_go 1 (pc' := 104) (L' := [.ref a0, .int x1, .int x2, .int x3]) (st' := [.int (2 : Int32), .int ((1149 : Int32) + ((3 : Int32) * x2)), va_rf (some b_3)]) rfl
    · refine Eq.trans (rn_go 2 (pc' := 33) (L' := [.ref a0, .int x1, .int x2, .int x3]) (st' := [.int (-(1 : Int32)), .int x2]) rfl) ?_
      refine Eq.trans (rn_iceq (L' := [.ref a0, .int x1, .int x2, .int x3]) rfl rfl) ?_
      refine if_c ?_ ?_
      · rfl
      · refine Eq.trans (rn_go 1 (pc' := 37) (L' := [.ref a0, .int x1, .int x2, .int x3]) (st' := [.ref a0]) rfl) ?_
        refine Eq.trans (rn_gA (L' := [.ref a0, .int x1, .int x2, .int x3]) rfl rfl rfl rfl) ?_
        refine eA_c ?_ (fun b_4 => ?_)
        · refine Eq.trans (rn_go 7 (pc' := 49) (L' := [.ref a0, .int x1, .int x2, .int x3]) (st' := [.int (((1149 : Int32) + ((3 : Int32) * x3)) + (2 : Int32)), .null]) rfl) ?_
          exact rn_z rfl rfl
        · refine Eq.trans (rn_go 7 (pc' := 49) (L' := [.ref a0, .int x1, .int x2, .int x3]) (st' := [.int (((1149 : Int32) + ((3 : Int32) * x3)) + (2 : Int32)), .ref b_4]) rfl) ?_
          refine Eq.trans (rn_aI (L' := [.ref a0, .int x1, .int x2, .int x3]) rfl rfl) ?_
          refine eI_c (fun x_5 => ?_)
          refine Eq.trans (rn_go 1 (pc' := 51) (L' := [.ref a0, .int x1, .int x2, .int x3]) (st' := [.ref a0, .int x_5]) rfl) ?_
          refine Eq.trans (rn_gA (L' := [.ref a0, .int x1, .int x2, .int x3]) rfl rfl rfl rfl) ?_
          refine eA_c ?_ (fun b_6 => ?_)
          · refine Eq.trans (rn_go 7 (pc' := 63) (L' := [.ref a0, .int x1, .int x2, .int x3]) (st' := [.int (((1149 : Int32) + ((3 : Int32) * x2)) + (2 : Int32)), .null, .int x_5]) rfl) ?_
            exact rn_z rfl rfl
          · refine Eq.trans (rn_go 7 (pc' := 63) (L' := [.ref a0, .int x1, .int x2, .int x3]) (st' := [.int (((1149 : Int32) + ((3 : Int32) * x2)) + (2 : Int32)), .ref b_6, .int x_5]) rfl) ?_
            refine Eq.trans (rn_aI (L' := [.ref a0, .int x1, .int x2, .int x3]) rfl rfl) ?_
            refine eI_c (fun x_7 => ?_)
            refine Eq.trans (rn_icge (L' := [.ref a0, .int x1, .int x2, .int x3]) rfl rfl) ?_
            refine if_c ?_ ?_
            · rfl
            · rfl
theorem dc_X13_expiry_67 {B : Nat} (a0 : Nat) (x1 : Int32) (w2 : Value) (x3 : Int32) (s : am_S) : rn_ tb_ct tb_mt B mm_X13_expiry 67 [.ref a0, .int x1, w2, .int x3] [] s = rn_ tb_ct tb_mt B mm_X13_expiry 69 [.ref a0, .int x1, .int x3, .int x3] [] s := by
  exact rn_go 2 (pc' := 69) (L' := [.ref a0, .int x1, .int x3, .int x3]) (st' := []) rfl
theorem dc_X13_expiry_69 {B : Nat} (a0 : Nat) (x1 : Int32) (x2 : Int32) (x3 : Int32) (s : am_S) : rn_ tb_ct tb_mt B mm_X13_expiry 69 [.ref a0, .int x1, .int x2, .int x3] [] s = rn_ tb_ct tb_mt B mm_X13_expiry 21 [.ref a0, .int x1, .int x2, .int (x3 + (1 : Int32))] [] s := by
  exact rn_go 2 (pc' := 21) (L' := [.ref a0, .int x1, .int x2, .int (x3 + (1 : Int32))]) (st' := []) rfl
theorem dc_X13_expiry_104 {B : Nat} (w0 : Value) (w1 : Value) (w2 : Value) (w3 : Value) (xs0 : Int32) (xs1 : Int32) (rs2 : Option Nat) (s : am_S) : rn_ tb_ct tb_mt B mm_X13_expiry 104 [w0, w1, w2, w3] [.int xs0, .int xs1, va_rf rs2] s = eA (some rs2) (none) (fun b_1 => eI (aI s b_1 (xs1 + xs0)) (fun x_2 => some (.inl (some (.int x_2)), s))) := by
  rcases rs2 with _ | b_1
  · rw [eA_n]
    refine Eq.trans (rn_go 1 (pc' := 105) (L' := [am_un, am_un, am_un, am_un]) (st' := [.int (xs1 + xs0), .null]) rfl) ?_
    exact rn_z rfl rfl
  · rw [eA_s]
    refine Eq.trans (rn_go 1 (pc' := 105) (L' := [am_un, am_un, am_un, am_un]) (st' := [.int (xs1 + xs0), .ref b_1]) rfl) ?_
    refine Eq.trans (rn_aI (L' := [am_un, am_un, am_un, am_un]) rfl rfl) ?_
    refine eI_c (fun x_2 => ?_)
    exact rn_retI rfl rfl rfl
theorem in_X13_keysIn {B : Nat} (a0 : Nat) (x1 : Int32) (s : am_S) : cl_ tb_ct tb_mt B K_X13_keysIn [.ref a0, .int x1] s = rn_ tb_ct tb_mt B mm_X13_keysIn 0 [.ref a0, .int x1, am_un, am_un, am_un] [] s := cl_in rfl rfl rfl rfl
theorem dc_X13_keysIn_0 {B : Nat} (a0 : Nat) (x1 : Int32) (s : am_S) : rn_ tb_ct tb_mt B mm_X13_keysIn 0 [.ref a0, .int x1, am_un, am_un, am_un] [] s = cI (cl_ tb_ct tb_mt B K_X13_in [.long x1.toInt64, .long (1 : Int64), .long (1000 : Int64)] s) (fun x_2 s_1 => eC (am_cls s_1 a0) 11 (cI (cl_ tb_ct tb_mt B K_X13_isThrown [.ref a0, .int x_2, .int (1 : Int32)] s_1) (fun x_4 s_3 => if x_4 = 0 then rn_ tb_ct tb_mt B mm_X13_keysIn 23 [.ref a0, .int x1, .int (0 : Int32), .int (0 : Int32), am_un] [] s_3 else some (.inl (some (.int (0 : Int32))), s_3)) xo)) xo := by
  refine Eq.trans (rn_go 5 (pc' := 7) (L' := [.ref a0, .int x1, am_un, am_un, am_un]) (st' := [.long (1000 : Int64), .long (1 : Int64), .long x1.toInt64, .ref a0]) rfl) ?_
  refine Eq.trans (rn_sta (L' := [.ref a0, .int x1, am_un, am_un, am_un]) (as := [.long x1.toInt64, .long (1 : Int64), .long (1000 : Int64)]) (rest := [.ref a0]) rfl rfl rfl rfl rfl (Nat.le_of_ble_eq_true rfl) (by decide) rfl) ?_
  refine Eq.trans (cW_I rfl rfl rfl) ?_
  refine cI_c (fun x_2 s_1 => ?_) (xh_nil rfl)
  refine Eq.trans (rn_go 1 (pc' := 11) (L' := [.ref a0, .int x1, am_un, am_un, am_un]) (st' := [.int (1 : Int32), .int x_2, .ref a0]) rfl) ?_
  refine Eq.trans (rn_vir (L' := [.ref a0, .int x1, am_un, am_un, am_un]) (as := [.int x_2, .int (1 : Int32)]) (rest := []) rfl rfl rfl rfl rfl (Nat.le_of_ble_eq_true rfl) (by decide) (by decide)) ?_
  refine eC_c ?_
  refine Eq.trans (cW_I rfl rfl rfl) ?_
  refine cI_c (fun x_4 s_3 => ?_) (xh_nil rfl)
  refine Eq.trans (rn_ifeq (L' := [.ref a0, .int x1, am_un, am_un, am_un]) rfl rfl) ?_
  refine if_c ?_ ?_
  · exact rn_go 4 (pc' := 23) (L' := [.ref a0, .int x1, .int (0 : Int32), .int (0 : Int32), am_un]) (st' := []) rfl
  · refine Eq.trans (rn_go 1 (pc' := 18) (L' := [.ref a0, .int x1, am_un, am_un, am_un]) (st' := [.int (0 : Int32)]) rfl) ?_
    exact rn_retI rfl rfl rfl
theorem dc_X13_keysIn_23 {B : Nat} (a0 : Nat) (x1 : Int32) (x2 : Int32) (x3 : Int32) (s : am_S) : rn_ tb_ct tb_mt B mm_X13_keysIn 23 [.ref a0, .int x1, .int x2, .int x3, am_un] [] s = eA (gA tb_ct s a0 11 0) (none) (fun b_1 => eI (aI s b_1 (3 : Int32)) (fun x_2 => if x_2 ≤ x3 then some (.inl (some (.int x2)), s) else eC (am_cls s a0) 11 (cI (cl_ tb_ct tb_mt B K_X13_keyAt [.ref a0, .int x3, .int (5 : Int32)] s) (fun x_4 s_3 => if x_4 = 0 then rn_ tb_ct tb_mt B mm_X13_keysIn 56 [.ref a0, .int x1, .int x2, .int x3, am_un] [.int (-(1 : Int32))] s_3 else eC (am_cls s_3 a0) 11 (cI (cl_ tb_ct tb_mt B K_X13_keyAt [.ref a0, .int x3, .int (5 : Int32)] s_3) (fun x_6 s_5 => eC (am_cls s_5 a0) 11 (cI (cl_ tb_ct tb_mt B K_X13_leaseOf [.ref a0, .int x_6] s_5) (fun x_8 s_7 => rn_ tb_ct tb_mt B mm_X13_keysIn 56 [.ref a0, .int x1, .int x2, .int x3, am_un] [.int x_8] s_7) xo)) xo)) xo))) := by
  refine Eq.trans (rn_go 2 (pc' := 25) (L' := [.ref a0, .int x1, .int x2, .int x3, am_un]) (st' := [.ref a0, .int x3]) rfl) ?_
  refine Eq.trans (rn_gA (L' := [.ref a0, .int x1, .int x2, .int x3, am_un]) rfl rfl rfl rfl) ?_
  refine eA_c ?_ (fun b_1 => ?_)
  · refine Eq.trans (rn_go 1 (pc' := 29) (L' := [.ref a0, .int x1, .int x2, .int x3, am_un]) (st' := [.int (3 : Int32), .null, .int x3]) rfl) ?_
    exact rn_z rfl rfl
  · refine Eq.trans (rn_go 1 (pc' := 29) (L' := [.ref a0, .int x1, .int x2, .int x3, am_un]) (st' := [.int (3 : Int32), .ref b_1, .int x3]) rfl) ?_
    refine Eq.trans (rn_aI (L' := [.ref a0, .int x1, .int x2, .int x3, am_un]) rfl rfl) ?_
    refine eI_c (fun x_2 => ?_)
    refine Eq.trans (rn_icge (L' := [.ref a0, .int x1, .int x2, .int x3, am_un]) rfl rfl) ?_
    refine if_c ?_ ?_
    · refine Eq.trans (rn_go 1 (pc' := 98) (L' := [.ref a0, .int x1, .int x2, .int x3, am_un]) (st' := [.int x2]) rfl) ?_
      exact rn_retI rfl rfl rfl
    · refine Eq.trans (rn_go 3 (pc' := 36) (L' := [.ref a0, .int x1, .int x2, .int x3, am_un]) (st' := [.int (5 : Int32), .int x3, .ref a0]) rfl) ?_
      refine Eq.trans (rn_vir (L' := [.ref a0, .int x1, .int x2, .int x3, am_un]) (as := [.int x3, .int (5 : Int32)]) (rest := []) rfl rfl rfl rfl rfl (Nat.le_of_ble_eq_true rfl) (by decide) (by decide)) ?_
      refine eC_c ?_
      refine Eq.trans (cW_I rfl rfl rfl) ?_
      refine cI_c (fun x_4 s_3 => ?_) (xh_nil rfl)
      refine Eq.trans (rn_ifne (L' := [.ref a0, .int x1, .int x2, .int x3, am_un]) rfl rfl) ?_
      refine if_c ?_ ?_
      · exact rn_go 2 (pc' := 56) (L' := [.ref a0, .int x1, .int x2, .int x3, am_un]) (st' := [.int (-(1 : Int32))]) rfl
      · refine Eq.trans (rn_go 4 (pc' := 50) (L' := [.ref a0, .int x1, .int x2, .int x3, am_un]) (st' := [.int (5 : Int32), .int x3, .ref a0, .ref a0]) rfl) ?_
        refine Eq.trans (rn_vir (L' := [.ref a0, .int x1, .int x2, .int x3, am_un]) (as := [.int x3, .int (5 : Int32)]) (rest := [.ref a0]) rfl rfl rfl rfl rfl (Nat.le_of_ble_eq_true rfl) (by decide) (by decide)) ?_
        refine eC_c ?_
        refine Eq.trans (cW_I rfl rfl rfl) ?_
        refine cI_c (fun x_6 s_5 => ?_) (xh_nil rfl)
        refine Eq.trans (rn_vir (L' := [.ref a0, .int x1, .int x2, .int x3, am_un]) (as := [.int x_6]) (rest := []) rfl rfl rfl rfl rfl (Nat.le_of_ble_eq_true rfl) (by decide) (by decide)) ?_
        refine eC_c ?_
        refine Eq.trans (cW_I rfl rfl rfl) ?_
        refine cI_c (fun x_8 s_7 => ?_) (xh_nil rfl)
        rfl
theorem dc_X13_keysIn_56 {B : Nat} (a0 : Nat) (x1 : Int32) (x2 : Int32) (x3 : Int32) (xs0 : Int32) (s : am_S) : rn_ tb_ct tb_mt B mm_X13_keysIn 56 [.ref a0, .int x1, .int x2, .int x3, am_un] [.int xs0] s = if xs0 = (-(1 : Int32)) then rn_ tb_ct tb_mt B mm_X13_keysIn 84 [.ref a0, .int x1, .int x2, .int x3, .int xs0] [.int x2] s else eA (gA tb_ct s a0 11 0) (none) (fun b_1 => eI (aI s b_1 (((1149 : Int32) + ((3 : Int32) * xs0)) + (2 : Int32))) (fun x_2 => if x_2 ≤ x1 then rn_ tb_ct tb_mt B mm_X13_keysIn 89 [.ref a0, .int x1, .int x2, .int x3, .int xs0] [.int (0 : Int32), .int x2] s else rn_ tb_ct tb_mt B mm_X13_keysIn 84 [.ref a0, .int x1, .int x2, .int x3, .int xs0] [.int x2] s)) := by
  refine Eq.trans (rn_go 4 (pc' := 62) (L' := [.ref a0, .int x1, .int x2, .int x3, .int xs0]) (st' := [.int (-(1 : Int32)), .int xs0, .int x2]) rfl) ?_
  refine Eq.trans (rn_iceq (L' := [.ref a0, .int x1, .int x2, .int x3, .int xs0]) rfl rfl) ?_
  refine if_c ?_ ?_
  · rfl
  · refine Eq.trans (rn_go 1 (pc' := 66) (L' := [.ref a0, .int x1, .int x2, .int x3, .int xs0]) (st' := [.ref a0, .int x2]) rfl) ?_
    refine Eq.trans (rn_gA (L' := [.ref a0, .int x1, .int x2, .int x3, .int xs0]) rfl rfl rfl rfl) ?_
    refine eA_c ?_ (fun b_1 => ?_)
    · refine Eq.trans (rn_go 7 (pc' := 79) (L' := [.ref a0, .int x1, .int x2, .int x3, .int xs0]) (st' := [.int (((1149 : Int32) + ((3 : Int32) * xs0)) + (2 : Int32)), .null, .int x2]) rfl) ?_
      exact rn_z rfl rfl
    · refine Eq.trans (rn_go 7 (pc' := 79) (L' := [.ref a0, .int x1, .int x2, .int x3, .int xs0]) (st' := [.int (((1149 : Int32) + ((3 : Int32) * xs0)) + (2 : Int32)), .ref b_1, .int x2]) rfl) ?_
      refine Eq.trans (rn_aI (L' := [.ref a0, .int x1, .int x2, .int x3, .int xs0]) rfl rfl) ?_
      refine eI_c (fun x_2 => ?_)
      refine Eq.trans (rn_go 1 (pc' := 81) (L' := [.ref a0, .int x1, .int x2, .int x3, .int xs0]) (st' := [.int x1, .int x_2, .int x2]) rfl) ?_
      refine Eq.trans (rn_icle (L' := [.ref a0, .int x1, .int x2, .int x3, .int xs0]) rfl rfl) ?_
      refine if_c ?_ ?_
      · exact rn_go 1 (pc' := 89) (L' := [.ref a0, .int x1, .int x2, .int x3, .int xs0]) (st' := [.int (0 : Int32), .int x2]) rfl
      · rfl
theorem dc_X13_keysIn_84 {B : Nat} (a0 : Nat) (x1 : Int32) (w2 : Value) (x3 : Int32) (w4 : Value) (xs0 : Int32) (s : am_S) : rn_ tb_ct tb_mt B mm_X13_keysIn 84 [.ref a0, .int x1, w2, .int x3, w4] [.int xs0] s = rn_ tb_ct tb_mt B mm_X13_keysIn 89 [.ref a0, .int x1, am_un, .int x3, am_un] [.int (1 : Int32), .int xs0] s := by
  exact rn_go 2 (pc' := 89) (L' := [.ref a0, .int x1, am_un, .int x3, am_un]) (st' := [.int (1 : Int32), .int xs0]) rfl
theorem dc_X13_keysIn_89 {B : Nat} (a0 : Nat) (x1 : Int32) (w2 : Value) (x3 : Int32) (w4 : Value) (xs0 : Int32) (xs1 : Int32) (s : am_S) : rn_ tb_ct tb_mt B mm_X13_keysIn 89 [.ref a0, .int x1, w2, .int x3, w4] [.int xs0, .int xs1] s = rn_ tb_ct tb_mt B mm_X13_keysIn 23 [.ref a0, .int x1, .int (xs1 + xs0), .int (x3 + (1 : Int32)), am_un] [] s := by
  exact rn_go 4 (pc' := 23) (L' := [.ref a0, .int x1, .int (xs1 + xs0), .int (x3 + (1 : Int32)), am_un]) (st' := []) rfl
theorem in_X13_when {B : Nat} (a0 : Nat) (x1 : Int32) (x2 : Int32) (x3 : Int32) (x4 : Int32) (s : am_S) : cl_ tb_ct tb_mt B K_X13_when [.ref a0, .int x1, .int x2, .int x3, .int x4] s = rn_ tb_ct tb_mt B mm_X13_when 0 [.ref a0, .int x1, .int x2, .int x3, .int x4, am_un] [] s := cl_in rfl rfl rfl rfl
theorem dc_X13_when_0 {B : Nat} (a0 : Nat) (x1 : Int32) (x2 : Int32) (x3 : Int32) (x4 : Int32) (s : am_S) : rn_ tb_ct tb_mt B mm_X13_when 0 [.ref a0, .int x1, .int x2, .int x3, .int x4, am_un] [] s = cI (cl_ tb_ct tb_mt B K_X13_isKey [.int x1] s) (fun x_2 s_1 => if x_2 = 0 then rn_ tb_ct tb_mt B mm_X13_when 36 [.ref a0, .int x1, .int x2, .int x3, .int x4, am_un] [.ref a0] s_1 else cI (cl_ tb_ct tb_mt B K_X13_in [.long x2.toInt64, .long (0 : Int64), .long (3 : Int64)] s_1) (fun x_4 s_3 => if x_4 = 0 then rn_ tb_ct tb_mt B mm_X13_when 36 [.ref a0, .int x1, .int x2, .int x3, .int x4, am_un] [.ref a0] s_3 else cI (cl_ tb_ct tb_mt B K_X13_in [.long x3.toInt64, .long (0 : Int64), .long (3 : Int64)] s_3) (fun x_6 s_5 => if x_6 = 0 then rn_ tb_ct tb_mt B mm_X13_when 36 [.ref a0, .int x1, .int x2, .int x3, .int x4, am_un] [.ref a0] s_5 else rn_ tb_ct tb_mt B mm_X13_when 37 [.ref a0, .int x1, .int x2, .int x3, .int x4, am_un] [.int (1 : Int32), .ref a0] s_5) xo) xo) xo := by
  refine Eq.trans (rn_go 2 (pc' := 2) (L' := [.ref a0, .int x1, .int x2, .int x3, .int x4, am_un]) (st' := [.int x1, .ref a0]) rfl) ?_
  refine Eq.trans (rn_sta (L' := [.ref a0, .int x1, .int x2, .int x3, .int x4, am_un]) (as := [.int x1]) (rest := [.ref a0]) rfl rfl rfl rfl rfl (Nat.le_of_ble_eq_true rfl) (by decide) rfl) ?_
  refine Eq.trans (cW_I rfl rfl rfl) ?_
  refine cI_c (fun x_2 s_1 => ?_) (xh_nil rfl)
  refine Eq.trans (rn_ifeq (L' := [.ref a0, .int x1, .int x2, .int x3, .int x4, am_un]) rfl rfl) ?_
  refine if_c ?_ ?_
  · rfl
  · refine Eq.trans (rn_go 4 (pc' := 14) (L' := [.ref a0, .int x1, .int x2, .int x3, .int x4, am_un]) (st' := [.long (3 : Int64), .long (0 : Int64), .long x2.toInt64, .ref a0]) rfl) ?_
    refine Eq.trans (rn_sta (L' := [.ref a0, .int x1, .int x2, .int x3, .int x4, am_un]) (as := [.long x2.toInt64, .long (0 : Int64), .long (3 : Int64)]) (rest := [.ref a0]) rfl rfl rfl rfl rfl (Nat.le_of_ble_eq_true rfl) (by decide) rfl) ?_
    refine Eq.trans (cW_I rfl rfl rfl) ?_
    refine cI_c (fun x_4 s_3 => ?_) (xh_nil rfl)
    refine Eq.trans (rn_ifeq (L' := [.ref a0, .int x1, .int x2, .int x3, .int x4, am_un]) rfl rfl) ?_
    refine if_c ?_ ?_
    · rfl
    · refine Eq.trans (rn_go 4 (pc' := 26) (L' := [.ref a0, .int x1, .int x2, .int x3, .int x4, am_un]) (st' := [.long (3 : Int64), .long (0 : Int64), .long x3.toInt64, .ref a0]) rfl) ?_
      refine Eq.trans (rn_sta (L' := [.ref a0, .int x1, .int x2, .int x3, .int x4, am_un]) (as := [.long x3.toInt64, .long (0 : Int64), .long (3 : Int64)]) (rest := [.ref a0]) rfl rfl rfl rfl rfl (Nat.le_of_ble_eq_true rfl) (by decide) rfl) ?_
      refine Eq.trans (cW_I rfl rfl rfl) ?_
      refine cI_c (fun x_6 s_5 => ?_) (xh_nil rfl)
      refine Eq.trans (rn_ifeq (L' := [.ref a0, .int x1, .int x2, .int x3, .int x4, am_un]) rfl rfl) ?_
      refine if_c ?_ ?_
      · rfl
      · exact rn_go 2 (pc' := 37) (L' := [.ref a0, .int x1, .int x2, .int x3, .int x4, am_un]) (st' := [.int (1 : Int32), .ref a0]) rfl
theorem dc_X13_when_36 {B : Nat} (a0 : Nat) (x1 : Int32) (x2 : Int32) (x3 : Int32) (x4 : Int32) (as0 : Nat) (s : am_S) : rn_ tb_ct tb_mt B mm_X13_when 36 [.ref a0, .int x1, .int x2, .int x3, .int x4, am_un] [.ref as0] s = rn_ tb_ct tb_mt B mm_X13_when 37 [.ref a0, .int x1, .int x2, .int x3, .int x4, am_un] [.int (0 : Int32), .ref as0] s := by
  exact rn_go 1 (pc' := 37) (L' := [.ref a0, .int x1, .int x2, .int x3, .int x4, am_un]) (st' := [.int (0 : Int32), .ref as0]) rfl
theorem dc_X13_when_37 {B : Nat} (a0 : Nat) (x1 : Int32) (x2 : Int32) (x3 : Int32) (x4 : Int32) (xs0 : Int32) (as1 : Nat) (s : am_S) : rn_ tb_ct tb_mt B mm_X13_when 37 [.ref a0, .int x1, .int x2, .int x3, .int x4, am_un] [.int xs0, .ref as1] s = eC (am_cls s as1) 11 (cI (cl_ tb_ct tb_mt B K_X13_isThrown [.ref as1, .int xs0, .int (1 : Int32)] s) (fun x_2 s_1 => if x_2 = 0 then eA (gA tb_ct s_1 a0 11 0) (none) (fun b_3 => eI (aI s_1 b_3 (9 : Int32)) (fun x_4 => if x_4 = (6 : Int32) then some (.inl (some (.int (-(2 : Int32)))), s_1) else eA (gA tb_ct s_1 a0 11 0) (none) (fun b_5 => eI (aI s_1 b_5 (9 : Int32)) (fun x_6 => eA (gA tb_ct s_1 a0 11 0) (none) (fun b_7 => eS (wI B s_1 b_7 ((1269 : Int32) + ((4 : Int32) * x_6)) x1) (fun s_8 => eA (gA tb_ct s_8 a0 11 0) (none) (fun b_9 => eS (wI B s_8 b_9 (((1269 : Int32) + ((4 : Int32) * x_6)) + (1 : Int32)) x2) (fun s_10 => eA (gA tb_ct s_10 a0 11 0) (none) (fun b_11 => eS (wI B s_10 b_11 (((1269 : Int32) + ((4 : Int32) * x_6)) + (2 : Int32)) x3) (fun s_12 => eA (gA tb_ct s_12 a0 11 0) (none) (fun b_13 => eS (wI B s_12 b_13 (((1269 : Int32) + ((4 : Int32) * x_6)) + (3 : Int32)) x4) (fun s_14 => eA (gA tb_ct s_14 a0 11 0) (none) (fun b_15 => eI (aI s_14 b_15 (9 : Int32)) (fun x_16 => eS (wI B s_14 b_15 (9 : Int32) (x_16 + (1 : Int32))) (fun s_17 => eA (gA tb_ct s_17 a0 11 0) (none) (fun b_18 => eI (aI s_17 b_18 (9 : Int32)) (fun x_19 => some (.inl (some (.int x_19)), s_17)))))))))))))))))) else some (.inl (some (.int (0 : Int32))), s_1)) xo) := by
  refine Eq.trans (rn_go 1 (pc' := 38) (L' := [.ref a0, .int x1, .int x2, .int x3, .int x4, am_un]) (st' := [.int (1 : Int32), .int xs0, .ref as1]) rfl) ?_
  refine Eq.trans (rn_vir (L' := [.ref a0, .int x1, .int x2, .int x3, .int x4, am_un]) (as := [.int xs0, .int (1 : Int32)]) (rest := []) rfl rfl rfl rfl rfl (Nat.le_of_ble_eq_true rfl) (by decide) (by decide)) ?_
  refine eC_c ?_
  refine Eq.trans (cW_I rfl rfl rfl) ?_
  refine cI_c (fun x_2 s_1 => ?_) (xh_nil rfl)
  refine Eq.trans (rn_ifeq (L' := [.ref a0, .int x1, .int x2, .int x3, .int x4, am_un]) rfl rfl) ?_
  refine if_c ?_ ?_
  · refine Eq.trans (rn_go 1 (pc' := 47) (L' := [.ref a0, .int x1, .int x2, .int x3, .int x4, am_un]) (st' := [.ref a0]) rfl) ?_
    refine Eq.trans (rn_gA (L' := [.ref a0, .int x1, .int x2, .int x3, .int x4, am_un]) rfl rfl rfl rfl) ?_
    refine eA_c ?_ (fun b_3 => ?_)
    · refine Eq.trans (rn_go 1 (pc' := 52) (L' := [.ref a0, .int x1, .int x2, .int x3, .int x4, am_un]) (st' := [.int (9 : Int32), .null]) rfl) ?_
      exact rn_z rfl rfl
    · refine Eq.trans (rn_go 1 (pc' := 52) (L' := [.ref a0, .int x1, .int x2, .int x3, .int x4, am_un]) (st' := [.int (9 : Int32), .ref b_3]) rfl) ?_
      refine Eq.trans (rn_aI (L' := [.ref a0, .int x1, .int x2, .int x3, .int x4, am_un]) rfl rfl) ?_
      refine eI_c (fun x_4 => ?_)
      refine Eq.trans (rn_go 1 (pc' := 55) (L' := [.ref a0, .int x1, .int x2, .int x3, .int x4, am_un]) (st' := [.int (6 : Int32), .int x_4]) rfl) ?_
      refine Eq.trans (rn_icne (L' := [.ref a0, .int x1, .int x2, .int x3, .int x4, am_un]) rfl rfl) ?_
      refine if_c ?_ ?_
      · refine Eq.trans (rn_go 1 (pc' := 60) (L' := [.ref a0, .int x1, .int x2, .int x3, .int x4, am_un]) (st' := [.int (-(2 : Int32))]) rfl) ?_
        exact rn_retI rfl rfl rfl
      · refine Eq.trans (rn_go 3 (pc' := 66) (L' := [.ref a0, .int x1, .int x2, .int x3, .int x4, am_un]) (st' := [.ref a0, .int (4 : Int32), .int (1269 : Int32)]) rfl) ?_
        refine Eq.trans (rn_gA (L' := [.ref a0, .int x1, .int x2, .int x3, .int x4, am_un]) rfl rfl rfl rfl) ?_
        refine eA_c ?_ (fun b_5 => ?_)
        · refine Eq.trans (rn_go 1 (pc' := 71) (L' := [.ref a0, .int x1, .int x2, .int x3, .int x4, am_un]) (st' := [.int (9 : Int32), .null, .int (4 : Int32), .int (1269 : Int32)]) rfl) ?_
          exact rn_z rfl rfl
        · refine Eq.trans (rn_go 1 (pc' := 71) (L' := [.ref a0, .int x1, .int x2, .int x3, .int x4, am_un]) (st' := [.int (9 : Int32), .ref b_5, .int (4 : Int32), .int (1269 : Int32)]) rfl) ?_
          refine Eq.trans (rn_aI (L' := [.ref a0, .int x1, .int x2, .int x3, .int x4, am_un]) rfl rfl) ?_
          refine eI_c (fun x_6 => ?_)
          refine Eq.trans (rn_go 4 (pc' := 77) (L' := [.ref a0, .int x1, .int x2, .int x3, .int x4, .int ((1269 : Int32) + ((4 : Int32) * x_6))]) (st' := [.ref a0]) rfl) ?_
          refine Eq.trans (rn_gA (L' := [.ref a0, .int x1, .int x2, .int x3, .int x4, .int ((1269 : Int32) + ((4 : Int32) * x_6))]) rfl rfl rfl rfl) ?_
          refine eA_c ?_ (fun b_7 => ?_)
          · refine Eq.trans (rn_go 2 (pc' := 83) (L' := [.ref a0, .int x1, .int x2, .int x3, .int x4, .int ((1269 : Int32) + ((4 : Int32) * x_6))]) (st' := [.int x1, .int ((1269 : Int32) + ((4 : Int32) * x_6)), .null]) rfl) ?_
            exact rn_z rfl rfl
          · refine Eq.trans (rn_go 2 (pc' := 83) (L' := [.ref a0, .int x1, .int x2, .int x3, .int x4, .int ((1269 : Int32) + ((4 : Int32) * x_6))]) (st' := [.int x1, .int ((1269 : Int32) + ((4 : Int32) * x_6)), .ref b_7]) rfl) ?_
            refine Eq.trans (rn_wI (L' := [.ref a0, .int x1, .int x2, .int x3, .int x4, .int ((1269 : Int32) + ((4 : Int32) * x_6))]) rfl rfl) ?_
            refine eS_c (fun s_8 => ?_)
            refine Eq.trans (rn_go 1 (pc' := 85) (L' := [.ref a0, .int x1, .int x2, .int x3, .int x4, .int ((1269 : Int32) + ((4 : Int32) * x_6))]) (st' := [.ref a0]) rfl) ?_
            refine Eq.trans (rn_gA (L' := [.ref a0, .int x1, .int x2, .int x3, .int x4, .int ((1269 : Int32) + ((4 : Int32) * x_6))]) rfl rfl rfl rfl) ?_
            refine eA_c ?_ (fun b_9 => ?_)
            · refine Eq.trans (rn_go 4 (pc' := 93) (L' := [.ref a0, .int x1, .int x2, .int x3, .int x4, .int ((1269 : Int32) + ((4 : Int32) * x_6))]) (st' := [.int x2, .int (((1269 : Int32) + ((4 : Int32) * x_6)) + (1 : Int32)), .null]) rfl) ?_
              exact rn_z rfl rfl
            · refine Eq.trans (rn_go 4 (pc' := 93) (L' := [.ref a0, .int x1, .int x2, .int x3, .int x4, .int ((1269 : Int32) + ((4 : Int32) * x_6))]) (st' := [.int x2, .int (((1269 : Int32) + ((4 : Int32) * x_6)) + (1 : Int32)), .ref b_9]) rfl) ?_
              refine Eq.trans (rn_wI (L' := [.ref a0, .int x1, .int x2, .int x3, .int x4, .int ((1269 : Int32) + ((4 : Int32) * x_6))]) rfl rfl) ?_
              refine eS_c (fun s_10 => ?_)
              refine Eq.trans (rn_go 1 (pc' := 95) (L' := [.ref a0, .int x1, .int x2, .int x3, .int x4, .int ((1269 : Int32) + ((4 : Int32) * x_6))]) (st' := [.ref a0]) rfl) ?_
              refine Eq.trans (rn_gA (L' := [.ref a0, .int x1, .int x2, .int x3, .int x4, .int ((1269 : Int32) + ((4 : Int32) * x_6))]) rfl rfl rfl rfl) ?_
              refine eA_c ?_ (fun b_11 => ?_)
              · refine Eq.trans (rn_go 4 (pc' := 103) (L' := [.ref a0, .int x1, .int x2, .int x3, .int x4, .int ((1269 : Int32) + ((4 : Int32) * x_6))]) (st' := [.int x3, .int (((1269 : Int32) + ((4 : Int32) * x_6)) + (2 : Int32)), .null]) rfl) ?_
                exact rn_z rfl rfl
              · refine Eq.trans (rn_go 4 (pc' := 103) (L' := [.ref a0, .int x1, .int x2, .int x3, .int x4, .int ((1269 : Int32) + ((4 : Int32) * x_6))]) (st' := [.int x3, .int (((1269 : Int32) + ((4 : Int32) * x_6)) + (2 : Int32)), .ref b_11]) rfl) ?_
                refine Eq.trans (rn_wI (L' := [.ref a0, .int x1, .int x2, .int x3, .int x4, .int ((1269 : Int32) + ((4 : Int32) * x_6))]) rfl rfl) ?_
                refine eS_c (fun s_12 => ?_)
                refine Eq.trans (rn_go 1 (pc' := 105) (L' := [.ref a0, .int x1, .int x2, .int x3, .int x4, .int ((1269 : Int32) + ((4 : Int32) * x_6))]) (st' := [.ref a0]) rfl) ?_
                refine Eq.trans (rn_gA (L' := [.ref a0, .int x1, .int x2, .int x3, .int x4, .int ((1269 : Int32) + ((4 : Int32) * x_6))]) rfl rfl rfl rfl) ?_
                refine eA_c ?_ (fun b_13 => ?_)
                · refine Eq.trans (rn_go 4 (pc' := 114) (L' := [.ref a0, .int x1, .int x2, .int x3, .int x4, .int ((1269 : Int32) + ((4 : Int32) * x_6))]) (st' := [.int x4, .int (((1269 : Int32) + ((4 : Int32) * x_6)) + (3 : Int32)), .null]) rfl) ?_
                  exact rn_z rfl rfl
                · refine Eq.trans (rn_go 4 (pc' := 114) (L' := [.ref a0, .int x1, .int x2, .int x3, .int x4, .int ((1269 : Int32) + ((4 : Int32) * x_6))]) (st' := [.int x4, .int (((1269 : Int32) + ((4 : Int32) * x_6)) + (3 : Int32)), .ref b_13]) rfl) ?_
                  refine Eq.trans (rn_wI (L' := [.ref a0, .int x1, .int x2, .int x3, .int x4, .int ((1269 : Int32) + ((4 : Int32) * x_6))]) rfl rfl) ?_
                  refine eS_c (fun s_14 => ?_)
                  refine Eq.trans (rn_go 1 (pc' := 116) (L' := [.ref a0, .int x1, .int x2, .int x3, .int x4, .int ((1269 : Int32) + ((4 : Int32) * x_6))]) (st' := [.ref a0]) rfl) ?_
                  refine Eq.trans (rn_gA (L' := [.ref a0, .int x1, .int x2, .int x3, .int x4, .int ((1269 : Int32) + ((4 : Int32) * x_6))]) rfl rfl rfl rfl) ?_
                  refine eA_c ?_ (fun b_15 => ?_)
                  · refine Eq.trans (rn_go 2 (pc' := 122) (L' := [.ref a0, .int x1, .int x2, .int x3, .int x4, .int ((1269 : Int32) + ((4 : Int32) * x_6))]) (st' := [.int (9 : Int32), .null, .int (9 : Int32), .null]) rfl) ?_
                    exact rn_z rfl rfl
                  · refine Eq.trans (rn_go 2 (pc' := 122) (L' := [.ref a0, .int x1, .int x2, .int x3, .int x4, .int ((1269 : Int32) + ((4 : Int32) * x_6))]) (st' := [.int (9 : Int32), .ref b_15, .int (9 : Int32), .ref b_15]) rfl) ?_
                    refine Eq.trans (rn_aI (L' := [.ref a0, .int x1, .int x2, .int x3, .int x4, .int ((1269 : Int32) + ((4 : Int32) * x_6))]) rfl rfl) ?_
                    refine eI_c (fun x_16 => ?_)
                    refine Eq.trans (rn_go 2 (pc' := 125) (L' := [.ref a0, .int x1, .int x2, .int x3, .int x4, .int ((1269 : Int32) + ((4 : Int32) * x_6))]) (st' := [.int (x_16 + (1 : Int32)), .int (9 : Int32), .ref b_15]) rfl) ?_
                    refine Eq.trans (rn_wI (L' := [.ref a0, .int x1, .int x2, .int x3, .int x4, .int ((1269 : Int32) + ((4 : Int32) * x_6))]) rfl rfl) ?_
                    refine eS_c (fun s_17 => ?_)
                    refine Eq.trans (rn_go 1 (pc' := 127) (L' := [.ref a0, .int x1, .int x2, .int x3, .int x4, .int ((1269 : Int32) + ((4 : Int32) * x_6))]) (st' := [.ref a0]) rfl) ?_
                    refine Eq.trans (rn_gA (L' := [.ref a0, .int x1, .int x2, .int x3, .int x4, .int ((1269 : Int32) + ((4 : Int32) * x_6))]) rfl rfl rfl rfl) ?_
                    refine eA_c ?_ (fun b_18 => ?_)
                    · refine Eq.trans (rn_go 1 (pc' := 132) (L' := [.ref a0, .int x1, .int x2, .int x3, .int x4, .int ((1269 : Int32) + ((4 : Int32) * x_6))]) (st' := [.int (9 : Int32), .null]) rfl) ?_
                      exact rn_z rfl rfl
                    · refine Eq.trans (rn_go 1 (pc' := 132) (L' := [.ref a0, .int x1, .int x2, .int x3, .int x4, .int ((1269 : Int32) + ((4 : Int32) * x_6))]) (st' := [.int (9 : Int32), .ref b_18]) rfl) ?_
                      refine Eq.trans (rn_aI (L' := [.ref a0, .int x1, .int x2, .int x3, .int x4, .int ((1269 : Int32) + ((4 : Int32) * x_6))]) rfl rfl) ?_
                      refine eI_c (fun x_19 => ?_)
                      exact rn_retI rfl rfl rfl
  · refine Eq.trans (rn_go 1 (pc' := 45) (L' := [.ref a0, .int x1, .int x2, .int x3, .int x4, am_un]) (st' := [.int (0 : Int32)]) rfl) ?_
    exact rn_retI rfl rfl rfl
theorem in_X13_stepAt {B : Nat} (a0 : Nat) (x1 : Int32) (x2 : Int32) (x3 : Int32) (s : am_S) : cl_ tb_ct tb_mt B K_X13_stepAt [.ref a0, .int x1, .int x2, .int x3] s = rn_ tb_ct tb_mt B mm_X13_stepAt 0 [.ref a0, .int x1, .int x2, .int x3] [] s := cl_in rfl rfl rfl rfl
theorem dc_X13_stepAt_0 {B : Nat} (a0 : Nat) (x1 : Int32) (x2 : Int32) (x3 : Int32) (s : am_S) : rn_ tb_ct tb_mt B mm_X13_stepAt 0 [.ref a0, .int x1, .int x2, .int x3] [] s = eA (gA tb_ct s a0 11 0) (none) (fun b_1 => eI (aI s b_1 (((1293 : Int32) + ((3 : Int32) * (((6 : Int32) * x1) + x2))) + x3)) (fun x_2 => some (.inl (some (.int x_2)), s))) := by
  refine Eq.trans (rn_go 1 (pc' := 1) (L' := [.ref a0, .int x1, .int x2, .int x3]) (st' := [.ref a0]) rfl) ?_
  refine Eq.trans (rn_gA (L' := [.ref a0, .int x1, .int x2, .int x3]) rfl rfl rfl rfl) ?_
  refine eA_c ?_ (fun b_1 => ?_)
  · refine Eq.trans (rn_go 11 (pc' := 18) (L' := [.ref a0, .int x1, .int x2, .int x3]) (st' := [.int (((1293 : Int32) + ((3 : Int32) * (((6 : Int32) * x1) + x2))) + x3), .null]) rfl) ?_
    exact rn_z rfl rfl
  · refine Eq.trans (rn_go 11 (pc' := 18) (L' := [.ref a0, .int x1, .int x2, .int x3]) (st' := [.int (((1293 : Int32) + ((3 : Int32) * (((6 : Int32) * x1) + x2))) + x3), .ref b_1]) rfl) ?_
    refine Eq.trans (rn_aI (L' := [.ref a0, .int x1, .int x2, .int x3]) rfl rfl) ?_
    refine eI_c (fun x_2 => ?_)
    exact rn_retI rfl rfl rfl
theorem in_X13_adds {B : Nat} (a0 : Nat) (x1 : Int32) (x2 : Int32) (x3 : Int32) (x4 : Int32) (s : am_S) : cl_ tb_ct tb_mt B K_X13_adds [.ref a0, .int x1, .int x2, .int x3, .int x4] s = rn_ tb_ct tb_mt B mm_X13_adds 0 [.ref a0, .int x1, .int x2, .int x3, .int x4, am_un, am_un] [] s := cl_in rfl rfl rfl rfl
theorem dc_X13_adds_0 {B : Nat} (a0 : Nat) (x1 : Int32) (x2 : Int32) (x3 : Int32) (x4 : Int32) (s : am_S) : rn_ tb_ct tb_mt B mm_X13_adds 0 [.ref a0, .int x1, .int x2, .int x3, .int x4, am_un, am_un] [] s = cI (cl_ tb_ct tb_mt B K_X13_in [.long x2.toInt64, .long (0 : Int64), .long (1 : Int64)] s) (fun x_2 s_1 => if x_2 = 0 then rn_ tb_ct tb_mt B mm_X13_adds 35 [.ref a0, .int x1, .int x2, .int x3, .int x4, am_un, am_un] [.ref a0] s_1 else cI (cl_ tb_ct tb_mt B K_X13_isKey [.int x3] s_1) (fun x_4 s_3 => if x_4 = 0 then rn_ tb_ct tb_mt B mm_X13_adds 35 [.ref a0, .int x1, .int x2, .int x3, .int x4, am_un, am_un] [.ref a0] s_3 else if x2 = (1 : Int32) then rn_ tb_ct tb_mt B mm_X13_adds 31 [.ref a0, .int x1, .int x2, .int x3, .int x4, am_un, am_un] [.ref a0] s_3 else cI (cl_ tb_ct tb_mt B K_X13_isValue [.int x4] s_3) (fun x_6 s_5 => if x_6 = 0 then rn_ tb_ct tb_mt B mm_X13_adds 35 [.ref a0, .int x1, .int x2, .int x3, .int x4, am_un, am_un] [.ref a0] s_5 else rn_ tb_ct tb_mt B mm_X13_adds 31 [.ref a0, .int x1, .int x2, .int x3, .int x4, am_un, am_un] [.ref a0] s_5) xo) xo) xo := by
  refine Eq.trans (rn_go 5 (pc' := 5) (L' := [.ref a0, .int x1, .int x2, .int x3, .int x4, am_un, am_un]) (st' := [.long (1 : Int64), .long (0 : Int64), .long x2.toInt64, .ref a0]) rfl) ?_
  refine Eq.trans (rn_sta (L' := [.ref a0, .int x1, .int x2, .int x3, .int x4, am_un, am_un]) (as := [.long x2.toInt64, .long (0 : Int64), .long (1 : Int64)]) (rest := [.ref a0]) rfl rfl rfl rfl rfl (Nat.le_of_ble_eq_true rfl) (by decide) rfl) ?_
  refine Eq.trans (cW_I rfl rfl rfl) ?_
  refine cI_c (fun x_2 s_1 => ?_) (xh_nil rfl)
  refine Eq.trans (rn_ifeq (L' := [.ref a0, .int x1, .int x2, .int x3, .int x4, am_un, am_un]) rfl rfl) ?_
  refine if_c ?_ ?_
  · rfl
  · refine Eq.trans (rn_go 1 (pc' := 12) (L' := [.ref a0, .int x1, .int x2, .int x3, .int x4, am_un, am_un]) (st' := [.int x3, .ref a0]) rfl) ?_
    refine Eq.trans (rn_sta (L' := [.ref a0, .int x1, .int x2, .int x3, .int x4, am_un, am_un]) (as := [.int x3]) (rest := [.ref a0]) rfl rfl rfl rfl rfl (Nat.le_of_ble_eq_true rfl) (by decide) rfl) ?_
    refine Eq.trans (cW_I rfl rfl rfl) ?_
    refine cI_c (fun x_4 s_3 => ?_) (xh_nil rfl)
    refine Eq.trans (rn_ifeq (L' := [.ref a0, .int x1, .int x2, .int x3, .int x4, am_un, am_un]) rfl rfl) ?_
    refine if_c ?_ ?_
    · rfl
    · refine Eq.trans (rn_go 2 (pc' := 20) (L' := [.ref a0, .int x1, .int x2, .int x3, .int x4, am_un, am_un]) (st' := [.int (1 : Int32), .int x2, .ref a0]) rfl) ?_
      refine Eq.trans (rn_iceq (L' := [.ref a0, .int x1, .int x2, .int x3, .int x4, am_un, am_un]) rfl rfl) ?_
      refine if_c ?_ ?_
      · rfl
      · refine Eq.trans (rn_go 1 (pc' := 25) (L' := [.ref a0, .int x1, .int x2, .int x3, .int x4, am_un, am_un]) (st' := [.int x4, .ref a0]) rfl) ?_
        refine Eq.trans (rn_sta (L' := [.ref a0, .int x1, .int x2, .int x3, .int x4, am_un, am_un]) (as := [.int x4]) (rest := [.ref a0]) rfl rfl rfl rfl rfl (Nat.le_of_ble_eq_true rfl) (by decide) rfl) ?_
        refine Eq.trans (cW_I rfl rfl rfl) ?_
        refine cI_c (fun x_6 s_5 => ?_) (xh_nil rfl)
        refine Eq.trans (rn_ifeq (L' := [.ref a0, .int x1, .int x2, .int x3, .int x4, am_un, am_un]) rfl rfl) ?_
        refine if_c ?_ ?_
        · rfl
        · rfl
theorem dc_X13_adds_31 {B : Nat} (a0 : Nat) (x1 : Int32) (x2 : Int32) (x3 : Int32) (x4 : Int32) (as0 : Nat) (s : am_S) : rn_ tb_ct tb_mt B mm_X13_adds 31 [.ref a0, .int x1, .int x2, .int x3, .int x4, am_un, am_un] [.ref as0] s = rn_ tb_ct tb_mt B mm_X13_adds 36 [.ref a0, .int x1, .int x2, .int x3, .int x4, am_un, am_un] [.int (1 : Int32), .ref as0] s := by
  exact rn_go 2 (pc' := 36) (L' := [.ref a0, .int x1, .int x2, .int x3, .int x4, am_un, am_un]) (st' := [.int (1 : Int32), .ref as0]) rfl
theorem dc_X13_adds_35 {B : Nat} (a0 : Nat) (x1 : Int32) (x2 : Int32) (x3 : Int32) (x4 : Int32) (as0 : Nat) (s : am_S) : rn_ tb_ct tb_mt B mm_X13_adds 35 [.ref a0, .int x1, .int x2, .int x3, .int x4, am_un, am_un] [.ref as0] s = rn_ tb_ct tb_mt B mm_X13_adds 36 [.ref a0, .int x1, .int x2, .int x3, .int x4, am_un, am_un] [.int (0 : Int32), .ref as0] s := by
  exact rn_go 1 (pc' := 36) (L' := [.ref a0, .int x1, .int x2, .int x3, .int x4, am_un, am_un]) (st' := [.int (0 : Int32), .ref as0]) rfl
theorem dc_X13_adds_36 {B : Nat} (a0 : Nat) (x1 : Int32) (x2 : Int32) (x3 : Int32) (x4 : Int32) (xs0 : Int32) (as1 : Nat) (s : am_S) : rn_ tb_ct tb_mt B mm_X13_adds 36 [.ref a0, .int x1, .int x2, .int x3, .int x4, am_un, am_un] [.int xs0, .ref as1] s = eC (am_cls s as1) 11 (cI (cl_ tb_ct tb_mt B K_X13_isThrown [.ref as1, .int xs0, .int (1 : Int32)] s) (fun x_2 s_1 => if x_2 = 0 then eA (gA tb_ct s_1 a0 11 0) (none) (fun b_3 => eI (aI s_1 b_3 ((10 : Int32) + x1)) (fun x_4 => if x_4 = (6 : Int32) then some (.inl (some (.int (-(2 : Int32)))), s_1) else rn_ tb_ct tb_mt B mm_X13_adds 69 [.ref a0, .int x1, .int x2, .int x3, .int x4, .int x_4, .int (0 : Int32)] [] s_1)) else some (.inl (some (.int (0 : Int32))), s_1)) xo) := by
  refine Eq.trans (rn_go 1 (pc' := 37) (L' := [.ref a0, .int x1, .int x2, .int x3, .int x4, am_un, am_un]) (st' := [.int (1 : Int32), .int xs0, .ref as1]) rfl) ?_
  refine Eq.trans (rn_vir (L' := [.ref a0, .int x1, .int x2, .int x3, .int x4, am_un, am_un]) (as := [.int xs0, .int (1 : Int32)]) (rest := []) rfl rfl rfl rfl rfl (Nat.le_of_ble_eq_true rfl) (by decide) (by decide)) ?_
  refine eC_c ?_
  refine Eq.trans (cW_I rfl rfl rfl) ?_
  refine cI_c (fun x_2 s_1 => ?_) (xh_nil rfl)
  refine Eq.trans (rn_ifeq (L' := [.ref a0, .int x1, .int x2, .int x3, .int x4, am_un, am_un]) rfl rfl) ?_
  refine if_c ?_ ?_
  · refine Eq.trans (rn_go 1 (pc' := 46) (L' := [.ref a0, .int x1, .int x2, .int x3, .int x4, am_un, am_un]) (st' := [.ref a0]) rfl) ?_
    refine Eq.trans (rn_gA (L' := [.ref a0, .int x1, .int x2, .int x3, .int x4, am_un, am_un]) rfl rfl rfl rfl) ?_
    refine eA_c ?_ (fun b_3 => ?_)
    · refine Eq.trans (rn_go 3 (pc' := 53) (L' := [.ref a0, .int x1, .int x2, .int x3, .int x4, am_un, am_un]) (st' := [.int ((10 : Int32) + x1), .null]) rfl) ?_
      exact rn_z rfl rfl
    · refine Eq.trans (rn_go 3 (pc' := 53) (L' := [.ref a0, .int x1, .int x2, .int x3, .int x4, am_un, am_un]) (st' := [.int ((10 : Int32) + x1), .ref b_3]) rfl) ?_
      refine Eq.trans (rn_aI (L' := [.ref a0, .int x1, .int x2, .int x3, .int x4, am_un, am_un]) rfl rfl) ?_
      refine eI_c (fun x_4 => ?_)
      refine Eq.trans (rn_go 3 (pc' := 60) (L' := [.ref a0, .int x1, .int x2, .int x3, .int x4, .int x_4, am_un]) (st' := [.int (6 : Int32), .int x_4]) rfl) ?_
      refine Eq.trans (rn_icne (L' := [.ref a0, .int x1, .int x2, .int x3, .int x4, .int x_4, am_un]) rfl rfl) ?_
      refine if_c ?_ ?_
      · refine Eq.trans (rn_go 1 (pc' := 65) (L' := [.ref a0, .int x1, .int x2, .int x3, .int x4, .int x_4, am_un]) (st' := [.int (-(2 : Int32))]) rfl) ?_
        exact rn_retI rfl rfl rfl
      · exact rn_go 2 (pc' := 69) (L' := [.ref a0, .int x1, .int x2, .int x3, .int x4, .int x_4, .int (0 : Int32)]) (st' := []) rfl
  · refine Eq.trans (rn_go 1 (pc' := 44) (L' := [.ref a0, .int x1, .int x2, .int x3, .int x4, am_un, am_un]) (st' := [.int (0 : Int32)]) rfl) ?_
    exact rn_retI rfl rfl rfl
theorem dc_X13_adds_69 {B : Nat} (a0 : Nat) (x1 : Int32) (x2 : Int32) (x3 : Int32) (x4 : Int32) (x5 : Int32) (x6 : Int32) (s : am_S) : rn_ tb_ct tb_mt B mm_X13_adds 69 [.ref a0, .int x1, .int x2, .int x3, .int x4, .int x5, .int x6] [] s = if x5 ≤ x6 then eA (gA tb_ct s a0 11 0) (none) (fun b_1 => eS (wI B s b_1 ((1293 : Int32) + ((3 : Int32) * (((6 : Int32) * x1) + x5))) x2) (fun s_2 => eA (gA tb_ct s_2 a0 11 0) (none) (fun b_3 => eS (wI B s_2 b_3 (((1293 : Int32) + ((3 : Int32) * (((6 : Int32) * x1) + x5))) + (1 : Int32)) x3) (fun s_4 => eA (gA tb_ct s_4 a0 11 0) (none) (fun b_5 => eS (wI B s_4 b_5 (((1293 : Int32) + ((3 : Int32) * (((6 : Int32) * x1) + x5))) + (2 : Int32)) x4) (fun s_6 => eA (gA tb_ct s_6 a0 11 0) (none) (fun b_7 => eI (aI s_6 b_7 ((10 : Int32) + x1)) (fun x_8 => eS (wI B s_6 b_7 ((10 : Int32) + x1) (x_8 + (1 : Int32))) (fun s_9 => some (.inl (some (.int (x5 + (1 : Int32)))), s_9)))))))))) else eC (am_cls s a0) 11 (cI (cl_ tb_ct tb_mt B K_X13_stepAt [.ref a0, .int x1, .int x6, .int (1 : Int32)] s) (fun x_11 s_10 => if x_11 = x3 then some (.inl (some (.int (-(4 : Int32)))), s_10) else rn_ tb_ct tb_mt B mm_X13_adds 69 [.ref a0, .int x1, .int x2, .int x3, .int x4, .int x5, .int (x6 + (1 : Int32))] [] s_10) xo) := by
  refine Eq.trans (rn_go 2 (pc' := 73) (L' := [.ref a0, .int x1, .int x2, .int x3, .int x4, .int x5, .int x6]) (st' := [.int x5, .int x6]) rfl) ?_
  refine Eq.trans (rn_icge (L' := [.ref a0, .int x1, .int x2, .int x3, .int x4, .int x5, .int x6]) rfl rfl) ?_
  refine if_c ?_ ?_
  · refine Eq.trans (rn_go 11 (pc' := 113) (L' := [.ref a0, .int x1, .int x2, .int x3, .int x4, .int x5, .int ((1293 : Int32) + ((3 : Int32) * (((6 : Int32) * x1) + x5)))]) (st' := [.ref a0]) rfl) ?_
    refine Eq.trans (rn_gA (L' := [.ref a0, .int x1, .int x2, .int x3, .int x4, .int x5, .int ((1293 : Int32) + ((3 : Int32) * (((6 : Int32) * x1) + x5)))]) rfl rfl rfl rfl) ?_
    refine eA_c ?_ (fun b_1 => ?_)
    · refine Eq.trans (rn_go 2 (pc' := 119) (L' := [.ref a0, .int x1, .int x2, .int x3, .int x4, .int x5, .int ((1293 : Int32) + ((3 : Int32) * (((6 : Int32) * x1) + x5)))]) (st' := [.int x2, .int ((1293 : Int32) + ((3 : Int32) * (((6 : Int32) * x1) + x5))), .null]) rfl) ?_
      exact rn_z rfl rfl
    · refine Eq.trans (rn_go 2 (pc' := 119) (L' := [.ref a0, .int x1, .int x2, .int x3, .int x4, .int x5, .int ((1293 : Int32) + ((3 : Int32) * (((6 : Int32) * x1) + x5)))]) (st' := [.int x2, .int ((1293 : Int32) + ((3 : Int32) * (((6 : Int32) * x1) + x5))), .ref b_1]) rfl) ?_
      refine Eq.trans (rn_wI (L' := [.ref a0, .int x1, .int x2, .int x3, .int x4, .int x5, .int ((1293 : Int32) + ((3 : Int32) * (((6 : Int32) * x1) + x5)))]) rfl rfl) ?_
      refine eS_c (fun s_2 => ?_)
      refine Eq.trans (rn_go 1 (pc' := 121) (L' := [.ref a0, .int x1, .int x2, .int x3, .int x4, .int x5, .int ((1293 : Int32) + ((3 : Int32) * (((6 : Int32) * x1) + x5)))]) (st' := [.ref a0]) rfl) ?_
      refine Eq.trans (rn_gA (L' := [.ref a0, .int x1, .int x2, .int x3, .int x4, .int x5, .int ((1293 : Int32) + ((3 : Int32) * (((6 : Int32) * x1) + x5)))]) rfl rfl rfl rfl) ?_
      refine eA_c ?_ (fun b_3 => ?_)
      · refine Eq.trans (rn_go 4 (pc' := 129) (L' := [.ref a0, .int x1, .int x2, .int x3, .int x4, .int x5, .int ((1293 : Int32) + ((3 : Int32) * (((6 : Int32) * x1) + x5)))]) (st' := [.int x3, .int (((1293 : Int32) + ((3 : Int32) * (((6 : Int32) * x1) + x5))) + (1 : Int32)), .null]) rfl) ?_
        exact rn_z rfl rfl
      · refine Eq.trans (rn_go 4 (pc' := 129) (L' := [.ref a0, .int x1, .int x2, .int x3, .int x4, .int x5, .int ((1293 : Int32) + ((3 : Int32) * (((6 : Int32) * x1) + x5)))]) (st' := [.int x3, .int (((1293 : Int32) + ((3 : Int32) * (((6 : Int32) * x1) + x5))) + (1 : Int32)), .ref b_3]) rfl) ?_
        refine Eq.trans (rn_wI (L' := [.ref a0, .int x1, .int x2, .int x3, .int x4, .int x5, .int ((1293 : Int32) + ((3 : Int32) * (((6 : Int32) * x1) + x5)))]) rfl rfl) ?_
        refine eS_c (fun s_4 => ?_)
        refine Eq.trans (rn_go 1 (pc' := 131) (L' := [.ref a0, .int x1, .int x2, .int x3, .int x4, .int x5, .int ((1293 : Int32) + ((3 : Int32) * (((6 : Int32) * x1) + x5)))]) (st' := [.ref a0]) rfl) ?_
        refine Eq.trans (rn_gA (L' := [.ref a0, .int x1, .int x2, .int x3, .int x4, .int x5, .int ((1293 : Int32) + ((3 : Int32) * (((6 : Int32) * x1) + x5)))]) rfl rfl rfl rfl) ?_
        refine eA_c ?_ (fun b_5 => ?_)
        · refine Eq.trans (rn_go 4 (pc' := 140) (L' := [.ref a0, .int x1, .int x2, .int x3, .int x4, .int x5, .int ((1293 : Int32) + ((3 : Int32) * (((6 : Int32) * x1) + x5)))]) (st' := [.int x4, .int (((1293 : Int32) + ((3 : Int32) * (((6 : Int32) * x1) + x5))) + (2 : Int32)), .null]) rfl) ?_
          exact rn_z rfl rfl
        · refine Eq.trans (rn_go 4 (pc' := 140) (L' := [.ref a0, .int x1, .int x2, .int x3, .int x4, .int x5, .int ((1293 : Int32) + ((3 : Int32) * (((6 : Int32) * x1) + x5)))]) (st' := [.int x4, .int (((1293 : Int32) + ((3 : Int32) * (((6 : Int32) * x1) + x5))) + (2 : Int32)), .ref b_5]) rfl) ?_
          refine Eq.trans (rn_wI (L' := [.ref a0, .int x1, .int x2, .int x3, .int x4, .int x5, .int ((1293 : Int32) + ((3 : Int32) * (((6 : Int32) * x1) + x5)))]) rfl rfl) ?_
          refine eS_c (fun s_6 => ?_)
          refine Eq.trans (rn_go 1 (pc' := 142) (L' := [.ref a0, .int x1, .int x2, .int x3, .int x4, .int x5, .int ((1293 : Int32) + ((3 : Int32) * (((6 : Int32) * x1) + x5)))]) (st' := [.ref a0]) rfl) ?_
          refine Eq.trans (rn_gA (L' := [.ref a0, .int x1, .int x2, .int x3, .int x4, .int x5, .int ((1293 : Int32) + ((3 : Int32) * (((6 : Int32) * x1) + x5)))]) rfl rfl rfl rfl) ?_
          refine eA_c ?_ (fun b_7 => ?_)
          · refine Eq.trans (rn_go 4 (pc' := 150) (L' := [.ref a0, .int x1, .int x2, .int x3, .int x4, .int x5, .int ((1293 : Int32) + ((3 : Int32) * (((6 : Int32) * x1) + x5)))]) (st' := [.int ((10 : Int32) + x1), .null, .int ((10 : Int32) + x1), .null]) rfl) ?_
            exact rn_z rfl rfl
          · refine Eq.trans (rn_go 4 (pc' := 150) (L' := [.ref a0, .int x1, .int x2, .int x3, .int x4, .int x5, .int ((1293 : Int32) + ((3 : Int32) * (((6 : Int32) * x1) + x5)))]) (st' := [.int ((10 : Int32) + x1), .ref b_7, .int ((10 : Int32) + x1), .ref b_7]) rfl) ?_
            refine Eq.trans (rn_aI (L' := [.ref a0, .int x1, .int x2, .int x3, .int x4, .int x5, .int ((1293 : Int32) + ((3 : Int32) * (((6 : Int32) * x1) + x5)))]) rfl rfl) ?_
            refine eI_c (fun x_8 => ?_)
            refine Eq.trans (rn_go 2 (pc' := 153) (L' := [.ref a0, .int x1, .int x2, .int x3, .int x4, .int x5, .int ((1293 : Int32) + ((3 : Int32) * (((6 : Int32) * x1) + x5)))]) (st' := [.int (x_8 + (1 : Int32)), .int ((10 : Int32) + x1), .ref b_7]) rfl) ?_
            refine Eq.trans (rn_wI (L' := [.ref a0, .int x1, .int x2, .int x3, .int x4, .int x5, .int ((1293 : Int32) + ((3 : Int32) * (((6 : Int32) * x1) + x5)))]) rfl rfl) ?_
            refine eS_c (fun s_9 => ?_)
            refine Eq.trans (rn_go 3 (pc' := 158) (L' := [.ref a0, .int x1, .int x2, .int x3, .int x4, .int x5, .int ((1293 : Int32) + ((3 : Int32) * (((6 : Int32) * x1) + x5)))]) (st' := [.int (x5 + (1 : Int32))]) rfl) ?_
            exact rn_retI rfl rfl rfl
  · refine Eq.trans (rn_go 4 (pc' := 81) (L' := [.ref a0, .int x1, .int x2, .int x3, .int x4, .int x5, .int x6]) (st' := [.int (1 : Int32), .int x6, .int x1, .ref a0]) rfl) ?_
    refine Eq.trans (rn_vir (L' := [.ref a0, .int x1, .int x2, .int x3, .int x4, .int x5, .int x6]) (as := [.int x1, .int x6, .int (1 : Int32)]) (rest := []) rfl rfl rfl rfl rfl (Nat.le_of_ble_eq_true rfl) (by decide) (by decide)) ?_
    refine eC_c ?_
    refine Eq.trans (cW_I rfl rfl rfl) ?_
    refine cI_c (fun x_11 s_10 => ?_) (xh_nil rfl)
    refine Eq.trans (rn_go 1 (pc' := 85) (L' := [.ref a0, .int x1, .int x2, .int x3, .int x4, .int x5, .int x6]) (st' := [.int x3, .int x_11]) rfl) ?_
    refine Eq.trans (rn_icne (L' := [.ref a0, .int x1, .int x2, .int x3, .int x4, .int x5, .int x6]) rfl rfl) ?_
    refine if_c ?_ ?_
    · refine Eq.trans (rn_go 1 (pc' := 90) (L' := [.ref a0, .int x1, .int x2, .int x3, .int x4, .int x5, .int x6]) (st' := [.int (-(4 : Int32))]) rfl) ?_
      exact rn_retI rfl rfl rfl
    · exact rn_go 2 (pc' := 69) (L' := [.ref a0, .int x1, .int x2, .int x3, .int x4, .int x5, .int (x6 + (1 : Int32))]) (st' := []) rfl
theorem in_X13_then {B : Nat} (a0 : Nat) (x1 : Int32) (x2 : Int32) (x3 : Int32) (s : am_S) : cl_ tb_ct tb_mt B K_X13_then [.ref a0, .int x1, .int x2, .int x3] s = rn_ tb_ct tb_mt B mm_X13_then 0 [.ref a0, .int x1, .int x2, .int x3] [] s := cl_in rfl rfl rfl rfl
theorem dc_X13_then_0 {B : Nat} (a0 : Nat) (x1 : Int32) (x2 : Int32) (x3 : Int32) (s : am_S) : rn_ tb_ct tb_mt B mm_X13_then 0 [.ref a0, .int x1, .int x2, .int x3] [] s = eC (am_cls s a0) 11 (cI (cl_ tb_ct tb_mt B K_X13_adds [.ref a0, .int (0 : Int32), .int x1, .int x2, .int x3] s) (fun x_2 s_1 => some (.inl (some (.int x_2)), s_1)) xo) := by
  refine Eq.trans (rn_go 5 (pc' := 5) (L' := [.ref a0, .int x1, .int x2, .int x3]) (st' := [.int x3, .int x2, .int x1, .int (0 : Int32), .ref a0]) rfl) ?_
  refine Eq.trans (rn_vir (L' := [.ref a0, .int x1, .int x2, .int x3]) (as := [.int (0 : Int32), .int x1, .int x2, .int x3]) (rest := []) rfl rfl rfl rfl rfl (Nat.le_of_ble_eq_true rfl) (by decide) (by decide)) ?_
  refine eC_c ?_
  refine Eq.trans (cW_I rfl rfl rfl) ?_
  refine cI_c (fun x_2 s_1 => ?_) (xh_nil rfl)
  exact rn_retI rfl rfl rfl
theorem in_X13_otherwise {B : Nat} (a0 : Nat) (x1 : Int32) (x2 : Int32) (x3 : Int32) (s : am_S) : cl_ tb_ct tb_mt B K_X13_otherwise [.ref a0, .int x1, .int x2, .int x3] s = rn_ tb_ct tb_mt B mm_X13_otherwise 0 [.ref a0, .int x1, .int x2, .int x3] [] s := cl_in rfl rfl rfl rfl
theorem dc_X13_otherwise_0 {B : Nat} (a0 : Nat) (x1 : Int32) (x2 : Int32) (x3 : Int32) (s : am_S) : rn_ tb_ct tb_mt B mm_X13_otherwise 0 [.ref a0, .int x1, .int x2, .int x3] [] s = eC (am_cls s a0) 11 (cI (cl_ tb_ct tb_mt B K_X13_adds [.ref a0, .int (1 : Int32), .int x1, .int x2, .int x3] s) (fun x_2 s_1 => some (.inl (some (.int x_2)), s_1)) xo) := by
  refine Eq.trans (rn_go 5 (pc' := 5) (L' := [.ref a0, .int x1, .int x2, .int x3]) (st' := [.int x3, .int x2, .int x1, .int (1 : Int32), .ref a0]) rfl) ?_
  refine Eq.trans (rn_vir (L' := [.ref a0, .int x1, .int x2, .int x3]) (as := [.int (1 : Int32), .int x1, .int x2, .int x3]) (rest := []) rfl rfl rfl rfl rfl (Nat.le_of_ble_eq_true rfl) (by decide) (by decide)) ?_
  refine eC_c ?_
  refine Eq.trans (cW_I rfl rfl rfl) ?_
  refine cI_c (fun x_2 s_1 => ?_) (xh_nil rfl)
  exact rn_retI rfl rfl rfl
theorem in_X13_holdsAt {B : Nat} (a0 : Nat) (x1 : Int32) (s : am_S) : cl_ tb_ct tb_mt B K_X13_holdsAt [.ref a0, .int x1] s = rn_ tb_ct tb_mt B mm_X13_holdsAt 0 [.ref a0, .int x1, am_un, am_un, am_un] [] s := cl_in rfl rfl rfl rfl
theorem dc_X13_holdsAt_0 {B : Nat} (a0 : Nat) (x1 : Int32) (s : am_S) : rn_ tb_ct tb_mt B mm_X13_holdsAt 0 [.ref a0, .int x1, am_un, am_un, am_un] [] s = eA (gA tb_ct s a0 11 0) (none) (fun b_1 => eI (aI s b_1 ((1269 : Int32) + ((4 : Int32) * x1))) (fun x_2 => eC (am_cls s a0) 11 (cI (cl_ tb_ct tb_mt B K_X13_isThere [.ref a0, .int x_2] s) (fun x_4 s_3 => if x_4 = 0 then eA (gA tb_ct s_3 a0 11 0) (none) (fun b_5 => eI (aI s_3 b_5 (((1269 : Int32) + ((4 : Int32) * x1)) + (1 : Int32))) (fun x_6 => if x_6 = 0 then some (.inl (some (.int (0 : Int32))), s_3) else rn_ tb_ct tb_mt B mm_X13_holdsAt 36 [.ref a0, .int x1, .int ((1269 : Int32) + ((4 : Int32) * x1)), .int x_4, am_un] [] s_3)) else rn_ tb_ct tb_mt B mm_X13_holdsAt 36 [.ref a0, .int x1, .int ((1269 : Int32) + ((4 : Int32) * x1)), .int x_4, am_un] [] s_3) xo))) := by
  refine Eq.trans (rn_go 8 (pc' := 10) (L' := [.ref a0, .int x1, .int ((1269 : Int32) + ((4 : Int32) * x1)), am_un, am_un]) (st' := [.ref a0, .ref a0]) rfl) ?_
  refine Eq.trans (rn_gA (L' := [.ref a0, .int x1, .int ((1269 : Int32) + ((4 : Int32) * x1)), am_un, am_un]) rfl rfl rfl rfl) ?_
  refine eA_c ?_ (fun b_1 => ?_)
  · refine Eq.trans (rn_go 1 (pc' := 14) (L' := [.ref a0, .int x1, .int ((1269 : Int32) + ((4 : Int32) * x1)), am_un, am_un]) (st' := [.int ((1269 : Int32) + ((4 : Int32) * x1)), .null, .ref a0]) rfl) ?_
    exact rn_z rfl rfl
  · refine Eq.trans (rn_go 1 (pc' := 14) (L' := [.ref a0, .int x1, .int ((1269 : Int32) + ((4 : Int32) * x1)), am_un, am_un]) (st' := [.int ((1269 : Int32) + ((4 : Int32) * x1)), .ref b_1, .ref a0]) rfl) ?_
    refine Eq.trans (rn_aI (L' := [.ref a0, .int x1, .int ((1269 : Int32) + ((4 : Int32) * x1)), am_un, am_un]) rfl rfl) ?_
    refine eI_c (fun x_2 => ?_)
    refine Eq.trans (rn_vir (L' := [.ref a0, .int x1, .int ((1269 : Int32) + ((4 : Int32) * x1)), am_un, am_un]) (as := [.int x_2]) (rest := []) rfl rfl rfl rfl rfl (Nat.le_of_ble_eq_true rfl) (by decide) (by decide)) ?_
    refine eC_c ?_
    refine Eq.trans (cW_I rfl rfl rfl) ?_
    refine cI_c (fun x_4 s_3 => ?_) (xh_nil rfl)
    refine Eq.trans (rn_go 2 (pc' := 20) (L' := [.ref a0, .int x1, .int ((1269 : Int32) + ((4 : Int32) * x1)), .int x_4, am_un]) (st' := [.int x_4]) rfl) ?_
    refine Eq.trans (rn_ifne (L' := [.ref a0, .int x1, .int ((1269 : Int32) + ((4 : Int32) * x1)), .int x_4, am_un]) rfl rfl) ?_
    refine if_c ?_ ?_
    · refine Eq.trans (rn_go 1 (pc' := 24) (L' := [.ref a0, .int x1, .int ((1269 : Int32) + ((4 : Int32) * x1)), .int x_4, am_un]) (st' := [.ref a0]) rfl) ?_
      refine Eq.trans (rn_gA (L' := [.ref a0, .int x1, .int ((1269 : Int32) + ((4 : Int32) * x1)), .int x_4, am_un]) rfl rfl rfl rfl) ?_
      refine eA_c ?_ (fun b_5 => ?_)
      · refine Eq.trans (rn_go 3 (pc' := 30) (L' := [.ref a0, .int x1, .int ((1269 : Int32) + ((4 : Int32) * x1)), .int x_4, am_un]) (st' := [.int (((1269 : Int32) + ((4 : Int32) * x1)) + (1 : Int32)), .null]) rfl) ?_
        exact rn_z rfl rfl
      · refine Eq.trans (rn_go 3 (pc' := 30) (L' := [.ref a0, .int x1, .int ((1269 : Int32) + ((4 : Int32) * x1)), .int x_4, am_un]) (st' := [.int (((1269 : Int32) + ((4 : Int32) * x1)) + (1 : Int32)), .ref b_5]) rfl) ?_
        refine Eq.trans (rn_aI (L' := [.ref a0, .int x1, .int ((1269 : Int32) + ((4 : Int32) * x1)), .int x_4, am_un]) rfl rfl) ?_
        refine eI_c (fun x_6 => ?_)
        refine Eq.trans (rn_ifne (L' := [.ref a0, .int x1, .int ((1269 : Int32) + ((4 : Int32) * x1)), .int x_4, am_un]) rfl rfl) ?_
        refine if_c ?_ ?_
        · refine Eq.trans (rn_go 1 (pc' := 35) (L' := [.ref a0, .int x1, .int ((1269 : Int32) + ((4 : Int32) * x1)), .int x_4, am_un]) (st' := [.int (0 : Int32)]) rfl) ?_
          exact rn_retI rfl rfl rfl
        · rfl
    · rfl
theorem dc_X13_holdsAt_36 {B : Nat} (a0 : Nat) (w1 : Value) (x2 : Int32) (x3 : Int32) (s : am_S) : rn_ tb_ct tb_mt B mm_X13_holdsAt 36 [.ref a0, w1, .int x2, .int x3, am_un] [] s = if x3 = 0 then rn_ tb_ct tb_mt B mm_X13_holdsAt 68 [.ref a0, am_un, .int x2, .int x3, am_un] [.int (0 : Int32)] s else eA (gA tb_ct s a0 11 0) (none) (fun b_1 => eI (aI s b_1 x2) (fun x_2 => eC (am_cls s a0) 11 (cI (cl_ tb_ct tb_mt B K_X13_placeOf [.ref a0, .int x_2] s) (fun x_4 s_3 => eA (gA tb_ct s_3 a0 11 0) (none) (fun b_5 => eI (aI s_3 b_5 (x2 + (1 : Int32))) (fun x_6 => eC (am_cls s_3 a0) 11 (cI (cl_ tb_ct tb_mt B K_X13_keyAt [.ref a0, .int x_4, .int ((1 : Int32) + x_6)] s_3) (fun x_8 s_7 => rn_ tb_ct tb_mt B mm_X13_holdsAt 68 [.ref a0, am_un, .int x2, .int x3, am_un] [.int x_8] s_7) xo)))) xo))) := by
  refine Eq.trans (rn_go 1 (pc' := 37) (L' := [.ref a0, am_un, .int x2, .int x3, am_un]) (st' := [.int x3]) rfl) ?_
  refine Eq.trans (rn_ifeq (L' := [.ref a0, am_un, .int x2, .int x3, am_un]) rfl rfl) ?_
  refine if_c ?_ ?_
  · exact rn_go 1 (pc' := 68) (L' := [.ref a0, am_un, .int x2, .int x3, am_un]) (st' := [.int (0 : Int32)]) rfl
  · refine Eq.trans (rn_go 3 (pc' := 43) (L' := [.ref a0, am_un, .int x2, .int x3, am_un]) (st' := [.ref a0, .ref a0, .ref a0]) rfl) ?_
    refine Eq.trans (rn_gA (L' := [.ref a0, am_un, .int x2, .int x3, am_un]) rfl rfl rfl rfl) ?_
    refine eA_c ?_ (fun b_1 => ?_)
    · refine Eq.trans (rn_go 1 (pc' := 47) (L' := [.ref a0, am_un, .int x2, .int x3, am_un]) (st' := [.int x2, .null, .ref a0, .ref a0]) rfl) ?_
      exact rn_z rfl rfl
    · refine Eq.trans (rn_go 1 (pc' := 47) (L' := [.ref a0, am_un, .int x2, .int x3, am_un]) (st' := [.int x2, .ref b_1, .ref a0, .ref a0]) rfl) ?_
      refine Eq.trans (rn_aI (L' := [.ref a0, am_un, .int x2, .int x3, am_un]) rfl rfl) ?_
      refine eI_c (fun x_2 => ?_)
      refine Eq.trans (rn_vir (L' := [.ref a0, am_un, .int x2, .int x3, am_un]) (as := [.int x_2]) (rest := [.ref a0]) rfl rfl rfl rfl rfl (Nat.le_of_ble_eq_true rfl) (by decide) (by decide)) ?_
      refine eC_c ?_
      refine Eq.trans (cW_I rfl rfl rfl) ?_
      refine cI_c (fun x_4 s_3 => ?_) (xh_nil rfl)
      refine Eq.trans (rn_go 2 (pc' := 53) (L' := [.ref a0, am_un, .int x2, .int x3, am_un]) (st' := [.ref a0, .int (1 : Int32), .int x_4, .ref a0]) rfl) ?_
      refine Eq.trans (rn_gA (L' := [.ref a0, am_un, .int x2, .int x3, am_un]) rfl rfl rfl rfl) ?_
      refine eA_c ?_ (fun b_5 => ?_)
      · refine Eq.trans (rn_go 3 (pc' := 59) (L' := [.ref a0, am_un, .int x2, .int x3, am_un]) (st' := [.int (x2 + (1 : Int32)), .null, .int (1 : Int32), .int x_4, .ref a0]) rfl) ?_
        exact rn_z rfl rfl
      · refine Eq.trans (rn_go 3 (pc' := 59) (L' := [.ref a0, am_un, .int x2, .int x3, am_un]) (st' := [.int (x2 + (1 : Int32)), .ref b_5, .int (1 : Int32), .int x_4, .ref a0]) rfl) ?_
        refine Eq.trans (rn_aI (L' := [.ref a0, am_un, .int x2, .int x3, am_un]) rfl rfl) ?_
        refine eI_c (fun x_6 => ?_)
        refine Eq.trans (rn_go 1 (pc' := 61) (L' := [.ref a0, am_un, .int x2, .int x3, am_un]) (st' := [.int ((1 : Int32) + x_6), .int x_4, .ref a0]) rfl) ?_
        refine Eq.trans (rn_vir (L' := [.ref a0, am_un, .int x2, .int x3, am_un]) (as := [.int x_4, .int ((1 : Int32) + x_6)]) (rest := []) rfl rfl rfl rfl rfl (Nat.le_of_ble_eq_true rfl) (by decide) (by decide)) ?_
        refine eC_c ?_
        refine Eq.trans (cW_I rfl rfl rfl) ?_
        refine cI_c (fun x_8 s_7 => ?_) (xh_nil rfl)
        exact rn_go 1 (pc' := 68) (L' := [.ref a0, am_un, .int x2, .int x3, am_un]) (st' := [.int x_8]) rfl
theorem dc_X13_holdsAt_68 {B : Nat} (a0 : Nat) (x2 : Int32) (w3 : Value) (xs0 : Int32) (s : am_S) : rn_ tb_ct tb_mt B mm_X13_holdsAt 68 [.ref a0, am_un, .int x2, w3, am_un] [.int xs0] s = eA (gA tb_ct s a0 11 0) (none) (fun b_1 => eI (aI s b_1 (x2 + (2 : Int32))) (fun x_2 => sw x_2.toInt (0) [eA (gA tb_ct s a0 11 0) (none) (fun b_3 => eI (aI s b_3 (x2 + (3 : Int32))) (fun x_4 => if xs0 = x_4 then some (.inl (some (.int (1 : Int32))), s) else some (.inl (some (.int (0 : Int32))), s))), eA (gA tb_ct s a0 11 0) (none) (fun b_5 => eI (aI s b_5 (x2 + (3 : Int32))) (fun x_6 => if xs0 = x_6 then some (.inl (some (.int (0 : Int32))), s) else some (.inl (some (.int (1 : Int32))), s))), eA (gA tb_ct s a0 11 0) (none) (fun b_7 => eI (aI s b_7 (x2 + (3 : Int32))) (fun x_8 => if x_8 ≤ xs0 then some (.inl (some (.int (0 : Int32))), s) else some (.inl (some (.int (1 : Int32))), s)))] (eA (gA tb_ct s a0 11 0) (none) (fun b_9 => eI (aI s b_9 (x2 + (3 : Int32))) (fun x_10 => if xs0 ≤ x_10 then some (.inl (some (.int (0 : Int32))), s) else some (.inl (some (.int (1 : Int32))), s)))))) := by
  refine Eq.trans (rn_go 2 (pc' := 71) (L' := [.ref a0, am_un, .int x2, am_un, .int xs0]) (st' := [.ref a0]) rfl) ?_
  refine Eq.trans (rn_gA (L' := [.ref a0, am_un, .int x2, am_un, .int xs0]) rfl rfl rfl rfl) ?_
  refine eA_c ?_ (fun b_1 => ?_)
  · refine Eq.trans (rn_go 3 (pc' := 77) (L' := [.ref a0, am_un, .int x2, am_un, .int xs0]) (st' := [.int (x2 + (2 : Int32)), .null]) rfl) ?_
    exact rn_z rfl rfl
  · refine Eq.trans (rn_go 3 (pc' := 77) (L' := [.ref a0, am_un, .int x2, am_un, .int xs0]) (st' := [.int (x2 + (2 : Int32)), .ref b_1]) rfl) ?_
    refine Eq.trans (rn_aI (L' := [.ref a0, am_un, .int x2, am_un, .int xs0]) rfl rfl) ?_
    refine eI_c (fun x_2 => ?_)
    refine Eq.trans (rn_tsw (L' := [.ref a0, am_un, .int x2, am_un, .int xs0]) (ts := [104, 123, 142]) (td := 161) rfl rfl (by decide) rfl rfl) ?_
    refine sw_c ?_ ?_
    · refine cons_c ?_ ?_
      · refine Eq.trans (rn_go 2 (pc' := 107) (L' := [.ref a0, am_un, .int x2, am_un, .int xs0]) (st' := [.ref a0, .int xs0]) rfl) ?_
        refine Eq.trans (rn_gA (L' := [.ref a0, am_un, .int x2, am_un, .int xs0]) rfl rfl rfl rfl) ?_
        refine eA_c ?_ (fun b_3 => ?_)
        · refine Eq.trans (rn_go 3 (pc' := 113) (L' := [.ref a0, am_un, .int x2, am_un, .int xs0]) (st' := [.int (x2 + (3 : Int32)), .null, .int xs0]) rfl) ?_
          exact rn_z rfl rfl
        · refine Eq.trans (rn_go 3 (pc' := 113) (L' := [.ref a0, am_un, .int x2, am_un, .int xs0]) (st' := [.int (x2 + (3 : Int32)), .ref b_3, .int xs0]) rfl) ?_
          refine Eq.trans (rn_aI (L' := [.ref a0, am_un, .int x2, am_un, .int xs0]) rfl rfl) ?_
          refine eI_c (fun x_4 => ?_)
          refine Eq.trans (rn_icne (L' := [.ref a0, am_un, .int x2, am_un, .int xs0]) rfl rfl) ?_
          refine if_c ?_ ?_
          · refine Eq.trans (rn_go 2 (pc' := 122) (L' := [.ref a0, am_un, .int x2, am_un, .int xs0]) (st' := [.int (1 : Int32)]) rfl) ?_
            exact rn_retI rfl rfl rfl
          · refine Eq.trans (rn_go 1 (pc' := 122) (L' := [.ref a0, am_un, .int x2, am_un, .int xs0]) (st' := [.int (0 : Int32)]) rfl) ?_
            exact rn_retI rfl rfl rfl
      refine cons_c ?_ ?_
      · refine Eq.trans (rn_go 2 (pc' := 126) (L' := [.ref a0, am_un, .int x2, am_un, .int xs0]) (st' := [.ref a0, .int xs0]) rfl) ?_
        refine Eq.trans (rn_gA (L' := [.ref a0, am_un, .int x2, am_un, .int xs0]) rfl rfl rfl rfl) ?_
        refine eA_c ?_ (fun b_5 => ?_)
        · refine Eq.trans (rn_go 3 (pc' := 132) (L' := [.ref a0, am_un, .int x2, am_un, .int xs0]) (st' := [.int (x2 + (3 : Int32)), .null, .int xs0]) rfl) ?_
          exact rn_z rfl rfl
        · refine Eq.trans (rn_go 3 (pc' := 132) (L' := [.ref a0, am_un, .int x2, am_un, .int xs0]) (st' := [.int (x2 + (3 : Int32)), .ref b_5, .int xs0]) rfl) ?_
          refine Eq.trans (rn_aI (L' := [.ref a0, am_un, .int x2, am_un, .int xs0]) rfl rfl) ?_
          refine eI_c (fun x_6 => ?_)
          refine Eq.trans (rn_iceq (L' := [.ref a0, am_un, .int x2, am_un, .int xs0]) rfl rfl) ?_
          refine if_c ?_ ?_
          · refine Eq.trans (rn_go 1 (pc' := 141) (L' := [.ref a0, am_un, .int x2, am_un, .int xs0]) (st' := [.int (0 : Int32)]) rfl) ?_
            exact rn_retI rfl rfl rfl
          · refine Eq.trans (rn_go 2 (pc' := 141) (L' := [.ref a0, am_un, .int x2, am_un, .int xs0]) (st' := [.int (1 : Int32)]) rfl) ?_
            exact rn_retI rfl rfl rfl
      refine cons_c ?_ ?_
      · refine Eq.trans (rn_go 2 (pc' := 145) (L' := [.ref a0, am_un, .int x2, am_un, .int xs0]) (st' := [.ref a0, .int xs0]) rfl) ?_
        refine Eq.trans (rn_gA (L' := [.ref a0, am_un, .int x2, am_un, .int xs0]) rfl rfl rfl rfl) ?_
        refine eA_c ?_ (fun b_7 => ?_)
        · refine Eq.trans (rn_go 3 (pc' := 151) (L' := [.ref a0, am_un, .int x2, am_un, .int xs0]) (st' := [.int (x2 + (3 : Int32)), .null, .int xs0]) rfl) ?_
          exact rn_z rfl rfl
        · refine Eq.trans (rn_go 3 (pc' := 151) (L' := [.ref a0, am_un, .int x2, am_un, .int xs0]) (st' := [.int (x2 + (3 : Int32)), .ref b_7, .int xs0]) rfl) ?_
          refine Eq.trans (rn_aI (L' := [.ref a0, am_un, .int x2, am_un, .int xs0]) rfl rfl) ?_
          refine eI_c (fun x_8 => ?_)
          refine Eq.trans (rn_icge (L' := [.ref a0, am_un, .int x2, am_un, .int xs0]) rfl rfl) ?_
          refine if_c ?_ ?_
          · refine Eq.trans (rn_go 1 (pc' := 160) (L' := [.ref a0, am_un, .int x2, am_un, .int xs0]) (st' := [.int (0 : Int32)]) rfl) ?_
            exact rn_retI rfl rfl rfl
          · refine Eq.trans (rn_go 2 (pc' := 160) (L' := [.ref a0, am_un, .int x2, am_un, .int xs0]) (st' := [.int (1 : Int32)]) rfl) ?_
            exact rn_retI rfl rfl rfl
      rfl
    · refine Eq.trans (rn_go 2 (pc' := 164) (L' := [.ref a0, am_un, .int x2, am_un, .int xs0]) (st' := [.ref a0, .int xs0]) rfl) ?_
      refine Eq.trans (rn_gA (L' := [.ref a0, am_un, .int x2, am_un, .int xs0]) rfl rfl rfl rfl) ?_
      refine eA_c ?_ (fun b_9 => ?_)
      · refine Eq.trans (rn_go 3 (pc' := 170) (L' := [.ref a0, am_un, .int x2, am_un, .int xs0]) (st' := [.int (x2 + (3 : Int32)), .null, .int xs0]) rfl) ?_
        exact rn_z rfl rfl
      · refine Eq.trans (rn_go 3 (pc' := 170) (L' := [.ref a0, am_un, .int x2, am_un, .int xs0]) (st' := [.int (x2 + (3 : Int32)), .ref b_9, .int xs0]) rfl) ?_
        refine Eq.trans (rn_aI (L' := [.ref a0, am_un, .int x2, am_un, .int xs0]) rfl rfl) ?_
        refine eI_c (fun x_10 => ?_)
        refine Eq.trans (rn_icle (L' := [.ref a0, am_un, .int x2, am_un, .int xs0]) rfl rfl) ?_
        refine if_c ?_ ?_
        · refine Eq.trans (rn_go 1 (pc' := 179) (L' := [.ref a0, am_un, .int x2, am_un, .int xs0]) (st' := [.int (0 : Int32)]) rfl) ?_
          exact rn_retI rfl rfl rfl
        · refine Eq.trans (rn_go 2 (pc' := 179) (L' := [.ref a0, am_un, .int x2, am_un, .int xs0]) (st' := [.int (1 : Int32)]) rfl) ?_
          exact rn_retI rfl rfl rfl
theorem in_X13_firstFailing {B : Nat} (a0 : Nat) (s : am_S) : cl_ tb_ct tb_mt B K_X13_firstFailing [.ref a0] s = rn_ tb_ct tb_mt B mm_X13_firstFailing 0 [.ref a0, am_un] [] s := cl_in rfl rfl rfl rfl
theorem dc_X13_firstFailing_0 {B : Nat} (a0 : Nat) (s : am_S) : rn_ tb_ct tb_mt B mm_X13_firstFailing 0 [.ref a0, am_un] [] s = rn_ tb_ct tb_mt B mm_X13_firstFailing 2 [.ref a0, .int (0 : Int32)] [] s := by
  exact rn_go 2 (pc' := 2) (L' := [.ref a0, .int (0 : Int32)]) (st' := []) rfl
theorem dc_X13_firstFailing_2 {B : Nat} (a0 : Nat) (x1 : Int32) (s : am_S) : rn_ tb_ct tb_mt B mm_X13_firstFailing 2 [.ref a0, .int x1] [] s = eA (gA tb_ct s a0 11 0) (none) (fun b_1 => eI (aI s b_1 (9 : Int32)) (fun x_2 => if x_2 ≤ x1 then some (.inl (some (.int (-(1 : Int32)))), s) else eC (am_cls s a0) 11 (cI (cl_ tb_ct tb_mt B K_X13_holdsAt [.ref a0, .int x1] s) (fun x_4 s_3 => if x_4 = 0 then some (.inl (some (.int x1)), s_3) else rn_ tb_ct tb_mt B mm_X13_firstFailing 2 [.ref a0, .int (x1 + (1 : Int32))] [] s_3) xo))) := by
  refine Eq.trans (rn_go 2 (pc' := 4) (L' := [.ref a0, .int x1]) (st' := [.ref a0, .int x1]) rfl) ?_
  refine Eq.trans (rn_gA (L' := [.ref a0, .int x1]) rfl rfl rfl rfl) ?_
  refine eA_c ?_ (fun b_1 => ?_)
  · refine Eq.trans (rn_go 1 (pc' := 9) (L' := [.ref a0, .int x1]) (st' := [.int (9 : Int32), .null, .int x1]) rfl) ?_
    exact rn_z rfl rfl
  · refine Eq.trans (rn_go 1 (pc' := 9) (L' := [.ref a0, .int x1]) (st' := [.int (9 : Int32), .ref b_1, .int x1]) rfl) ?_
    refine Eq.trans (rn_aI (L' := [.ref a0, .int x1]) rfl rfl) ?_
    refine eI_c (fun x_2 => ?_)
    refine Eq.trans (rn_icge (L' := [.ref a0, .int x1]) rfl rfl) ?_
    refine if_c ?_ ?_
    · refine Eq.trans (rn_go 1 (pc' := 30) (L' := [.ref a0, .int x1]) (st' := [.int (-(1 : Int32))]) rfl) ?_
      exact rn_retI rfl rfl rfl
    · refine Eq.trans (rn_go 2 (pc' := 15) (L' := [.ref a0, .int x1]) (st' := [.int x1, .ref a0]) rfl) ?_
      refine Eq.trans (rn_vir (L' := [.ref a0, .int x1]) (as := [.int x1]) (rest := []) rfl rfl rfl rfl rfl (Nat.le_of_ble_eq_true rfl) (by decide) (by decide)) ?_
      refine eC_c ?_
      refine Eq.trans (cW_I rfl rfl rfl) ?_
      refine cI_c (fun x_4 s_3 => ?_) (xh_nil rfl)
      refine Eq.trans (rn_ifne (L' := [.ref a0, .int x1]) rfl rfl) ?_
      refine if_c ?_ ?_
      · refine Eq.trans (rn_go 1 (pc' := 22) (L' := [.ref a0, .int x1]) (st' := [.int x1]) rfl) ?_
        exact rn_retI rfl rfl rfl
      · exact rn_go 2 (pc' := 2) (L' := [.ref a0, .int (x1 + (1 : Int32))]) (st' := []) rfl
theorem in_X13_holds {B : Nat} (a0 : Nat) (s : am_S) : cl_ tb_ct tb_mt B K_X13_holds [.ref a0] s = rn_ tb_ct tb_mt B mm_X13_holds 0 [.ref a0] [] s := cl_in rfl rfl rfl rfl
theorem dc_X13_holds_0 {B : Nat} (a0 : Nat) (s : am_S) : rn_ tb_ct tb_mt B mm_X13_holds 0 [.ref a0] [] s = eS (am_put tb_ct mm_X13_holds B s (.int (0 : Int32)) a0 11 4) (fun s_1 => eC (am_cls s_1 a0) 11 (cI (cl_ tb_ct tb_mt B K_X13_firstFailing [.ref a0] s_1) (fun x_3 s_2 => some (.inl (some (.int x_3)), s_2)) xo)) := by
  refine Eq.trans (rn_go 2 (pc' := 2) (L' := [.ref a0]) (st' := [.int (0 : Int32), .ref a0]) rfl) ?_
  refine Eq.trans (rn_pF (L' := [.ref a0]) rfl rfl) ?_
  refine eS_c (fun s_1 => ?_)
  refine Eq.trans (rn_go 1 (pc' := 6) (L' := [.ref a0]) (st' := [.ref a0]) rfl) ?_
  refine Eq.trans (rn_vir (L' := [.ref a0]) (as := []) (rest := []) rfl rfl rfl rfl rfl (Nat.le_of_ble_eq_true rfl) (by decide) (by decide)) ?_
  refine eC_c ?_
  refine Eq.trans (cW_I rfl rfl rfl) ?_
  refine cI_c (fun x_3 s_2 => ?_) (xh_nil rfl)
  exact rn_retI rfl rfl rfl
theorem in_X13_branch {B : Nat} (a0 : Nat) (s : am_S) : cl_ tb_ct tb_mt B K_X13_branch [.ref a0] s = rn_ tb_ct tb_mt B mm_X13_branch 0 [.ref a0] [] s := cl_in rfl rfl rfl rfl
theorem dc_X13_branch_0 {B : Nat} (a0 : Nat) (s : am_S) : rn_ tb_ct tb_mt B mm_X13_branch 0 [.ref a0] [] s = eC (am_cls s a0) 11 (cI (cl_ tb_ct tb_mt B K_X13_firstFailing [.ref a0] s) (fun x_2 s_1 => if x_2 = (-(1 : Int32)) then some (.inl (some (.int (0 : Int32))), s_1) else some (.inl (some (.int (1 : Int32))), s_1)) xo) := by
  refine Eq.trans (rn_go 1 (pc' := 1) (L' := [.ref a0]) (st' := [.ref a0]) rfl) ?_
  refine Eq.trans (rn_vir (L' := [.ref a0]) (as := []) (rest := []) rfl rfl rfl rfl rfl (Nat.le_of_ble_eq_true rfl) (by decide) (by decide)) ?_
  refine eC_c ?_
  refine Eq.trans (cW_I rfl rfl rfl) ?_
  refine cI_c (fun x_2 s_1 => ?_) (xh_nil rfl)
  refine Eq.trans (rn_go 1 (pc' := 5) (L' := [.ref a0]) (st' := [.int (-(1 : Int32)), .int x_2]) rfl) ?_
  refine Eq.trans (rn_icne (L' := [.ref a0]) rfl rfl) ?_
  refine if_c ?_ ?_
  · refine Eq.trans (rn_go 2 (pc' := 13) (L' := [.ref a0]) (st' := [.int (0 : Int32)]) rfl) ?_
    exact rn_retI rfl rfl rfl
  · refine Eq.trans (rn_go 1 (pc' := 13) (L' := [.ref a0]) (st' := [.int (1 : Int32)]) rfl) ?_
    exact rn_retI rfl rfl rfl
theorem in_X13_does {B : Nat} (a0 : Nat) (x1 : Int32) (x2 : Int32) (s : am_S) : cl_ tb_ct tb_mt B K_X13_does [.ref a0, .int x1, .int x2] s = rn_ tb_ct tb_mt B mm_X13_does 0 [.ref a0, .int x1, .int x2] [] s := cl_in rfl rfl rfl rfl
theorem dc_X13_does_0 {B : Nat} (a0 : Nat) (x1 : Int32) (x2 : Int32) (s : am_S) : rn_ tb_ct tb_mt B mm_X13_does 0 [.ref a0, .int x1, .int x2] [] s = eC (am_cls s a0) 11 (cI (cl_ tb_ct tb_mt B K_X13_stepAt [.ref a0, .int x1, .int x2, .int (0 : Int32)] s) (fun x_2 s_1 => if x_2 = 0 then rn_ tb_ct tb_mt B mm_X13_does 24 [.ref a0, .int x1, .int x2] [] s_1 else eC (am_cls s_1 a0) 11 (cI (cl_ tb_ct tb_mt B K_X13_stepAt [.ref a0, .int x1, .int x2, .int (1 : Int32)] s_1) (fun x_4 s_3 => eC (am_cls s_3 a0) 11 (cI (cl_ tb_ct tb_mt B K_X13_isThere [.ref a0, .int x_4] s_3) (fun x_6 s_5 => if x_6 = 0 then some (.inl (some (.int (0 : Int32))), s_5) else rn_ tb_ct tb_mt B mm_X13_does 24 [.ref a0, .int x1, .int x2] [] s_5) xo)) xo)) xo) := by
  refine Eq.trans (rn_go 4 (pc' := 4) (L' := [.ref a0, .int x1, .int x2]) (st' := [.int (0 : Int32), .int x2, .int x1, .ref a0]) rfl) ?_
  refine Eq.trans (rn_vir (L' := [.ref a0, .int x1, .int x2]) (as := [.int x1, .int x2, .int (0 : Int32)]) (rest := []) rfl rfl rfl rfl rfl (Nat.le_of_ble_eq_true rfl) (by decide) (by decide)) ?_
  refine eC_c ?_
  refine Eq.trans (cW_I rfl rfl rfl) ?_
  refine cI_c (fun x_2 s_1 => ?_) (xh_nil rfl)
  refine Eq.trans (rn_ifeq (L' := [.ref a0, .int x1, .int x2]) rfl rfl) ?_
  refine if_c ?_ ?_
  · rfl
  · refine Eq.trans (rn_go 5 (pc' := 15) (L' := [.ref a0, .int x1, .int x2]) (st' := [.int (1 : Int32), .int x2, .int x1, .ref a0, .ref a0]) rfl) ?_
    refine Eq.trans (rn_vir (L' := [.ref a0, .int x1, .int x2]) (as := [.int x1, .int x2, .int (1 : Int32)]) (rest := [.ref a0]) rfl rfl rfl rfl rfl (Nat.le_of_ble_eq_true rfl) (by decide) (by decide)) ?_
    refine eC_c ?_
    refine Eq.trans (cW_I rfl rfl rfl) ?_
    refine cI_c (fun x_4 s_3 => ?_) (xh_nil rfl)
    refine Eq.trans (rn_vir (L' := [.ref a0, .int x1, .int x2]) (as := [.int x_4]) (rest := []) rfl rfl rfl rfl rfl (Nat.le_of_ble_eq_true rfl) (by decide) (by decide)) ?_
    refine eC_c ?_
    refine Eq.trans (cW_I rfl rfl rfl) ?_
    refine cI_c (fun x_6 s_5 => ?_) (xh_nil rfl)
    refine Eq.trans (rn_ifeq (L' := [.ref a0, .int x1, .int x2]) rfl rfl) ?_
    refine if_c ?_ ?_
    · refine Eq.trans (rn_go 1 (pc' := 29) (L' := [.ref a0, .int x1, .int x2]) (st' := [.int (0 : Int32)]) rfl) ?_
      exact rn_retI rfl rfl rfl
    · rfl
theorem dc_X13_does_24 {B : Nat} (w0 : Value) (w1 : Value) (w2 : Value) (s : am_S) : rn_ tb_ct tb_mt B mm_X13_does 24 [w0, w1, w2] [] s = some (.inl (some (.int (1 : Int32))), s) := by
  refine Eq.trans (rn_go 2 (pc' := 29) (L' := [am_un, am_un, am_un]) (st' := [.int (1 : Int32)]) rfl) ?_
  exact rn_retI rfl rfl rfl
theorem in_X13_eventsOf {B : Nat} (a0 : Nat) (x1 : Int32) (s : am_S) : cl_ tb_ct tb_mt B K_X13_eventsOf [.ref a0, .int x1] s = rn_ tb_ct tb_mt B mm_X13_eventsOf 0 [.ref a0, .int x1, am_un, am_un] [] s := cl_in rfl rfl rfl rfl
theorem dc_X13_eventsOf_0 {B : Nat} (a0 : Nat) (x1 : Int32) (s : am_S) : rn_ tb_ct tb_mt B mm_X13_eventsOf 0 [.ref a0, .int x1, am_un, am_un] [] s = rn_ tb_ct tb_mt B mm_X13_eventsOf 4 [.ref a0, .int x1, .int (0 : Int32), .int (0 : Int32)] [] s := by
  exact rn_go 4 (pc' := 4) (L' := [.ref a0, .int x1, .int (0 : Int32), .int (0 : Int32)]) (st' := []) rfl
theorem dc_X13_eventsOf_4 {B : Nat} (a0 : Nat) (x1 : Int32) (x2 : Int32) (x3 : Int32) (s : am_S) : rn_ tb_ct tb_mt B mm_X13_eventsOf 4 [.ref a0, .int x1, .int x2, .int x3] [] s = eA (gA tb_ct s a0 11 0) (none) (fun b_1 => eI (aI s b_1 ((10 : Int32) + x1)) (fun x_2 => if x_2 ≤ x3 then some (.inl (some (.int x2)), s) else eC (am_cls s a0) 11 (cI (cl_ tb_ct tb_mt B K_X13_does [.ref a0, .int x1, .int x3] s) (fun x_4 s_3 => if x_4 = 0 then rn_ tb_ct tb_mt B mm_X13_eventsOf 32 [.ref a0, .int x1, .int x2, .int x3] [.int (0 : Int32), .int x2] s_3 else rn_ tb_ct tb_mt B mm_X13_eventsOf 32 [.ref a0, .int x1, .int x2, .int x3] [.int (1 : Int32), .int x2] s_3) xo))) := by
  refine Eq.trans (rn_go 2 (pc' := 6) (L' := [.ref a0, .int x1, .int x2, .int x3]) (st' := [.ref a0, .int x3]) rfl) ?_
  refine Eq.trans (rn_gA (L' := [.ref a0, .int x1, .int x2, .int x3]) rfl rfl rfl rfl) ?_
  refine eA_c ?_ (fun b_1 => ?_)
  · refine Eq.trans (rn_go 3 (pc' := 13) (L' := [.ref a0, .int x1, .int x2, .int x3]) (st' := [.int ((10 : Int32) + x1), .null, .int x3]) rfl) ?_
    exact rn_z rfl rfl
  · refine Eq.trans (rn_go 3 (pc' := 13) (L' := [.ref a0, .int x1, .int x2, .int x3]) (st' := [.int ((10 : Int32) + x1), .ref b_1, .int x3]) rfl) ?_
    refine Eq.trans (rn_aI (L' := [.ref a0, .int x1, .int x2, .int x3]) rfl rfl) ?_
    refine eI_c (fun x_2 => ?_)
    refine Eq.trans (rn_icge (L' := [.ref a0, .int x1, .int x2, .int x3]) rfl rfl) ?_
    refine if_c ?_ ?_
    · refine Eq.trans (rn_go 1 (pc' := 41) (L' := [.ref a0, .int x1, .int x2, .int x3]) (st' := [.int x2]) rfl) ?_
      exact rn_retI rfl rfl rfl
    · refine Eq.trans (rn_go 4 (pc' := 21) (L' := [.ref a0, .int x1, .int x2, .int x3]) (st' := [.int x3, .int x1, .ref a0, .int x2]) rfl) ?_
      refine Eq.trans (rn_vir (L' := [.ref a0, .int x1, .int x2, .int x3]) (as := [.int x1, .int x3]) (rest := [.int x2]) rfl rfl rfl rfl rfl (Nat.le_of_ble_eq_true rfl) (by decide) (by decide)) ?_
      refine eC_c ?_
      refine Eq.trans (cW_I rfl rfl rfl) ?_
      refine cI_c (fun x_4 s_3 => ?_) (xh_nil rfl)
      refine Eq.trans (rn_ifeq (L' := [.ref a0, .int x1, .int x2, .int x3]) rfl rfl) ?_
      refine if_c ?_ ?_
      · exact rn_go 1 (pc' := 32) (L' := [.ref a0, .int x1, .int x2, .int x3]) (st' := [.int (0 : Int32), .int x2]) rfl
      · exact rn_go 2 (pc' := 32) (L' := [.ref a0, .int x1, .int x2, .int x3]) (st' := [.int (1 : Int32), .int x2]) rfl
theorem dc_X13_eventsOf_32 {B : Nat} (a0 : Nat) (x1 : Int32) (w2 : Value) (x3 : Int32) (xs0 : Int32) (xs1 : Int32) (s : am_S) : rn_ tb_ct tb_mt B mm_X13_eventsOf 32 [.ref a0, .int x1, w2, .int x3] [.int xs0, .int xs1] s = rn_ tb_ct tb_mt B mm_X13_eventsOf 4 [.ref a0, .int x1, .int (xs1 + xs0), .int (x3 + (1 : Int32))] [] s := by
  exact rn_go 4 (pc' := 4) (L' := [.ref a0, .int x1, .int (xs1 + xs0), .int (x3 + (1 : Int32))]) (st' := []) rfl
theorem in_X13_wouldWrite {B : Nat} (a0 : Nat) (s : am_S) : cl_ tb_ct tb_mt B K_X13_wouldWrite [.ref a0] s = rn_ tb_ct tb_mt B mm_X13_wouldWrite 0 [.ref a0] [] s := cl_in rfl rfl rfl rfl
theorem dc_X13_wouldWrite_0 {B : Nat} (a0 : Nat) (s : am_S) : rn_ tb_ct tb_mt B mm_X13_wouldWrite 0 [.ref a0] [] s = eS (am_put tb_ct mm_X13_wouldWrite B s (.int (0 : Int32)) a0 11 4) (fun s_1 => eC (am_cls s_1 a0) 11 (cI (cl_ tb_ct tb_mt B K_X13_branch [.ref a0] s_1) (fun x_3 s_2 => eC (am_cls s_2 a0) 11 (cI (cl_ tb_ct tb_mt B K_X13_eventsOf [.ref a0, .int x_3] s_2) (fun x_5 s_4 => some (.inl (some (.int x_5)), s_4)) xo)) xo)) := by
  refine Eq.trans (rn_go 2 (pc' := 2) (L' := [.ref a0]) (st' := [.int (0 : Int32), .ref a0]) rfl) ?_
  refine Eq.trans (rn_pF (L' := [.ref a0]) rfl rfl) ?_
  refine eS_c (fun s_1 => ?_)
  refine Eq.trans (rn_go 2 (pc' := 7) (L' := [.ref a0]) (st' := [.ref a0, .ref a0]) rfl) ?_
  refine Eq.trans (rn_vir (L' := [.ref a0]) (as := []) (rest := [.ref a0]) rfl rfl rfl rfl rfl (Nat.le_of_ble_eq_true rfl) (by decide) (by decide)) ?_
  refine eC_c ?_
  refine Eq.trans (cW_I rfl rfl rfl) ?_
  refine cI_c (fun x_3 s_2 => ?_) (xh_nil rfl)
  refine Eq.trans (rn_vir (L' := [.ref a0]) (as := [.int x_3]) (rest := []) rfl rfl rfl rfl rfl (Nat.le_of_ble_eq_true rfl) (by decide) (by decide)) ?_
  refine eC_c ?_
  refine Eq.trans (cW_I rfl rfl rfl) ?_
  refine cI_c (fun x_5 s_4 => ?_) (xh_nil rfl)
  exact rn_retI rfl rfl rfl
theorem in_X13_keysBehind {B : Nat} (a0 : Nat) (x1 : Int32) (s : am_S) : cl_ tb_ct tb_mt B K_X13_keysBehind [.ref a0, .int x1] s = rn_ tb_ct tb_mt B mm_X13_keysBehind 0 [.ref a0, .int x1, am_un, am_un, am_un] [] s := cl_in rfl rfl rfl rfl
theorem dc_X13_keysBehind_0 {B : Nat} (a0 : Nat) (x1 : Int32) (s : am_S) : rn_ tb_ct tb_mt B mm_X13_keysBehind 0 [.ref a0, .int x1, am_un, am_un, am_un] [] s = eA (gA tb_ct s a0 11 0) (none) (fun b_1 => eI (aI s b_1 (3 : Int32)) (fun x_2 => rn_ tb_ct tb_mt B mm_X13_keysBehind 9 [.ref a0, .int x1, .int x_2, .int (0 : Int32), am_un] [] s)) := by
  refine Eq.trans (rn_go 1 (pc' := 1) (L' := [.ref a0, .int x1, am_un, am_un, am_un]) (st' := [.ref a0]) rfl) ?_
  refine Eq.trans (rn_gA (L' := [.ref a0, .int x1, am_un, am_un, am_un]) rfl rfl rfl rfl) ?_
  refine eA_c ?_ (fun b_1 => ?_)
  · refine Eq.trans (rn_go 1 (pc' := 5) (L' := [.ref a0, .int x1, am_un, am_un, am_un]) (st' := [.int (3 : Int32), .null]) rfl) ?_
    exact rn_z rfl rfl
  · refine Eq.trans (rn_go 1 (pc' := 5) (L' := [.ref a0, .int x1, am_un, am_un, am_un]) (st' := [.int (3 : Int32), .ref b_1]) rfl) ?_
    refine Eq.trans (rn_aI (L' := [.ref a0, .int x1, am_un, am_un, am_un]) rfl rfl) ?_
    refine eI_c (fun x_2 => ?_)
    exact rn_go 3 (pc' := 9) (L' := [.ref a0, .int x1, .int x_2, .int (0 : Int32), am_un]) (st' := []) rfl
theorem dc_X13_keysBehind_9 {B : Nat} (a0 : Nat) (x1 : Int32) (x2 : Int32) (x3 : Int32) (s : am_S) : rn_ tb_ct tb_mt B mm_X13_keysBehind 9 [.ref a0, .int x1, .int x2, .int x3, am_un] [] s = eA (gA tb_ct s a0 11 0) (none) (fun b_1 => eI (aI s b_1 ((10 : Int32) + x1)) (fun x_2 => if x_2 ≤ x3 then some (.inl (some (.int x2)), s) else eC (am_cls s a0) 11 (cI (cl_ tb_ct tb_mt B K_X13_stepAt [.ref a0, .int x1, .int x3, .int (1 : Int32)] s) (fun x_4 s_3 => eC (am_cls s_3 a0) 11 (cI (cl_ tb_ct tb_mt B K_X13_isThere [.ref a0, .int x_4] s_3) (fun x_6 s_5 => eC (am_cls s_5 a0) 11 (cI (cl_ tb_ct tb_mt B K_X13_stepAt [.ref a0, .int x1, .int x3, .int (0 : Int32)] s_5) (fun x_8 s_7 => if x_8 = 0 then if x_6 = 0 then rn_ tb_ct tb_mt B mm_X13_keysBehind 69 [.ref a0, .int x1, .int x2, .int x3, .int x_6] [.int (1 : Int32), .int x2] s_7 else rn_ tb_ct tb_mt B mm_X13_keysBehind 69 [.ref a0, .int x1, .int x2, .int x3, .int x_6] [.int (0 : Int32), .int x2] s_7 else if x_6 = 0 then rn_ tb_ct tb_mt B mm_X13_keysBehind 69 [.ref a0, .int x1, .int x2, .int x3, .int x_6] [.int (0 : Int32), .int x2] s_7 else rn_ tb_ct tb_mt B mm_X13_keysBehind 69 [.ref a0, .int x1, .int x2, .int x3, .int x_6] [.int (-(1 : Int32)), .int x2] s_7) xo)) xo)) xo))) := by
  refine Eq.trans (rn_go 2 (pc' := 11) (L' := [.ref a0, .int x1, .int x2, .int x3, am_un]) (st' := [.ref a0, .int x3]) rfl) ?_
  refine Eq.trans (rn_gA (L' := [.ref a0, .int x1, .int x2, .int x3, am_un]) rfl rfl rfl rfl) ?_
  refine eA_c ?_ (fun b_1 => ?_)
  · refine Eq.trans (rn_go 3 (pc' := 18) (L' := [.ref a0, .int x1, .int x2, .int x3, am_un]) (st' := [.int ((10 : Int32) + x1), .null, .int x3]) rfl) ?_
    exact rn_z rfl rfl
  · refine Eq.trans (rn_go 3 (pc' := 18) (L' := [.ref a0, .int x1, .int x2, .int x3, am_un]) (st' := [.int ((10 : Int32) + x1), .ref b_1, .int x3]) rfl) ?_
    refine Eq.trans (rn_aI (L' := [.ref a0, .int x1, .int x2, .int x3, am_un]) rfl rfl) ?_
    refine eI_c (fun x_2 => ?_)
    refine Eq.trans (rn_icge (L' := [.ref a0, .int x1, .int x2, .int x3, am_un]) rfl rfl) ?_
    refine if_c ?_ ?_
    · refine Eq.trans (rn_go 1 (pc' := 78) (L' := [.ref a0, .int x1, .int x2, .int x3, am_un]) (st' := [.int x2]) rfl) ?_
      exact rn_retI rfl rfl rfl
    · refine Eq.trans (rn_go 5 (pc' := 27) (L' := [.ref a0, .int x1, .int x2, .int x3, am_un]) (st' := [.int (1 : Int32), .int x3, .int x1, .ref a0, .ref a0]) rfl) ?_
      refine Eq.trans (rn_vir (L' := [.ref a0, .int x1, .int x2, .int x3, am_un]) (as := [.int x1, .int x3, .int (1 : Int32)]) (rest := [.ref a0]) rfl rfl rfl rfl rfl (Nat.le_of_ble_eq_true rfl) (by decide) (by decide)) ?_
      refine eC_c ?_
      refine Eq.trans (cW_I rfl rfl rfl) ?_
      refine cI_c (fun x_4 s_3 => ?_) (xh_nil rfl)
      refine Eq.trans (rn_vir (L' := [.ref a0, .int x1, .int x2, .int x3, am_un]) (as := [.int x_4]) (rest := []) rfl rfl rfl rfl rfl (Nat.le_of_ble_eq_true rfl) (by decide) (by decide)) ?_
      refine eC_c ?_
      refine Eq.trans (cW_I rfl rfl rfl) ?_
      refine cI_c (fun x_6 s_5 => ?_) (xh_nil rfl)
      refine Eq.trans (rn_go 6 (pc' := 40) (L' := [.ref a0, .int x1, .int x2, .int x3, .int x_6]) (st' := [.int (0 : Int32), .int x3, .int x1, .ref a0, .int x2]) rfl) ?_
      refine Eq.trans (rn_vir (L' := [.ref a0, .int x1, .int x2, .int x3, .int x_6]) (as := [.int x1, .int x3, .int (0 : Int32)]) (rest := [.int x2]) rfl rfl rfl rfl rfl (Nat.le_of_ble_eq_true rfl) (by decide) (by decide)) ?_
      refine eC_c ?_
      refine Eq.trans (cW_I rfl rfl rfl) ?_
      refine cI_c (fun x_8 s_7 => ?_) (xh_nil rfl)
      refine Eq.trans (rn_ifne (L' := [.ref a0, .int x1, .int x2, .int x3, .int x_6]) rfl rfl) ?_
      refine if_c ?_ ?_
      · refine Eq.trans (rn_go 1 (pc' := 48) (L' := [.ref a0, .int x1, .int x2, .int x3, .int x_6]) (st' := [.int x_6, .int x2]) rfl) ?_
        refine Eq.trans (rn_ifeq (L' := [.ref a0, .int x1, .int x2, .int x3, .int x_6]) rfl rfl) ?_
        refine if_c ?_ ?_
        · exact rn_go 2 (pc' := 69) (L' := [.ref a0, .int x1, .int x2, .int x3, .int x_6]) (st' := [.int (1 : Int32), .int x2]) rfl
        · exact rn_go 2 (pc' := 69) (L' := [.ref a0, .int x1, .int x2, .int x3, .int x_6]) (st' := [.int (0 : Int32), .int x2]) rfl
      · refine Eq.trans (rn_go 1 (pc' := 61) (L' := [.ref a0, .int x1, .int x2, .int x3, .int x_6]) (st' := [.int x_6, .int x2]) rfl) ?_
        refine Eq.trans (rn_ifeq (L' := [.ref a0, .int x1, .int x2, .int x3, .int x_6]) rfl rfl) ?_
        refine if_c ?_ ?_
        · exact rn_go 1 (pc' := 69) (L' := [.ref a0, .int x1, .int x2, .int x3, .int x_6]) (st' := [.int (0 : Int32), .int x2]) rfl
        · exact rn_go 2 (pc' := 69) (L' := [.ref a0, .int x1, .int x2, .int x3, .int x_6]) (st' := [.int (-(1 : Int32)), .int x2]) rfl
theorem dc_X13_keysBehind_69 {B : Nat} (a0 : Nat) (x1 : Int32) (w2 : Value) (x3 : Int32) (w4 : Value) (xs0 : Int32) (xs1 : Int32) (s : am_S) : rn_ tb_ct tb_mt B mm_X13_keysBehind 69 [.ref a0, .int x1, w2, .int x3, w4] [.int xs0, .int xs1] s = rn_ tb_ct tb_mt B mm_X13_keysBehind 9 [.ref a0, .int x1, .int (xs1 + xs0), .int (x3 + (1 : Int32)), am_un] [] s := by
  exact rn_go 4 (pc' := 9) (L' := [.ref a0, .int x1, .int (xs1 + xs0), .int (x3 + (1 : Int32)), am_un]) (st' := []) rfl
theorem in_X13_emptiesTransaction {B : Nat} (a0 : Nat) (s : am_S) : cl_ tb_ct tb_mt B K_X13_emptiesTransaction [.ref a0] s = rn_ tb_ct tb_mt B mm_X13_emptiesTransaction 0 [.ref a0] [] s := cl_in rfl rfl rfl rfl
theorem dc_X13_emptiesTransaction_0 {B : Nat} (a0 : Nat) (s : am_S) : rn_ tb_ct tb_mt B mm_X13_emptiesTransaction 0 [.ref a0] [] s = eA (gA tb_ct s a0 11 0) (none) (fun b_1 => eS (wI B s b_1 (9 : Int32) (0 : Int32)) (fun s_2 => eA (gA tb_ct s_2 a0 11 0) (none) (fun b_3 => eS (wI B s_2 b_3 (10 : Int32) (0 : Int32)) (fun s_4 => eA (gA tb_ct s_4 a0 11 0) (none) (fun b_5 => eS (wI B s_4 b_5 (11 : Int32) (0 : Int32)) (fun s_6 => some (.inl none, s_6))))))) := by
  refine Eq.trans (rn_go 1 (pc' := 1) (L' := [.ref a0]) (st' := [.ref a0]) rfl) ?_
  refine Eq.trans (rn_gA (L' := [.ref a0]) rfl rfl rfl rfl) ?_
  refine eA_c ?_ (fun b_1 => ?_)
  · refine Eq.trans (rn_go 2 (pc' := 7) (L' := [.ref a0]) (st' := [.int (0 : Int32), .int (9 : Int32), .null]) rfl) ?_
    exact rn_z rfl rfl
  · refine Eq.trans (rn_go 2 (pc' := 7) (L' := [.ref a0]) (st' := [.int (0 : Int32), .int (9 : Int32), .ref b_1]) rfl) ?_
    refine Eq.trans (rn_wI (L' := [.ref a0]) rfl rfl) ?_
    refine eS_c (fun s_2 => ?_)
    refine Eq.trans (rn_go 1 (pc' := 9) (L' := [.ref a0]) (st' := [.ref a0]) rfl) ?_
    refine Eq.trans (rn_gA (L' := [.ref a0]) rfl rfl rfl rfl) ?_
    refine eA_c ?_ (fun b_3 => ?_)
    · refine Eq.trans (rn_go 2 (pc' := 15) (L' := [.ref a0]) (st' := [.int (0 : Int32), .int (10 : Int32), .null]) rfl) ?_
      exact rn_z rfl rfl
    · refine Eq.trans (rn_go 2 (pc' := 15) (L' := [.ref a0]) (st' := [.int (0 : Int32), .int (10 : Int32), .ref b_3]) rfl) ?_
      refine Eq.trans (rn_wI (L' := [.ref a0]) rfl rfl) ?_
      refine eS_c (fun s_4 => ?_)
      refine Eq.trans (rn_go 1 (pc' := 17) (L' := [.ref a0]) (st' := [.ref a0]) rfl) ?_
      refine Eq.trans (rn_gA (L' := [.ref a0]) rfl rfl rfl rfl) ?_
      refine eA_c ?_ (fun b_5 => ?_)
      · refine Eq.trans (rn_go 2 (pc' := 23) (L' := [.ref a0]) (st' := [.int (0 : Int32), .int (11 : Int32), .null]) rfl) ?_
        exact rn_z rfl rfl
      · refine Eq.trans (rn_go 2 (pc' := 23) (L' := [.ref a0]) (st' := [.int (0 : Int32), .int (11 : Int32), .ref b_5]) rfl) ?_
        refine Eq.trans (rn_wI (L' := [.ref a0]) rfl rfl) ?_
        refine eS_c (fun s_6 => ?_)
        exact rn_retV rfl rfl
theorem in_X13_commit {B : Nat} (a0 : Nat) (s : am_S) : cl_ tb_ct tb_mt B K_X13_commit [.ref a0] s = rn_ tb_ct tb_mt B mm_X13_commit 0 [.ref a0, am_un, am_un] [] s := cl_in rfl rfl rfl rfl
theorem dc_X13_commit_0 {B : Nat} (a0 : Nat) (s : am_S) : rn_ tb_ct tb_mt B mm_X13_commit 0 [.ref a0, am_un, am_un] [] s = eS (am_put tb_ct mm_X13_commit B s (.int (0 : Int32)) a0 11 4) (fun s_1 => eC (am_cls s_1 a0) 11 (cI (cl_ tb_ct tb_mt B K_X13_branch [.ref a0] s_1) (fun x_3 s_2 => eC (am_cls s_2 a0) 11 (cI (cl_ tb_ct tb_mt B K_X13_keysBehind [.ref a0, .int x_3] s_2) (fun x_5 s_4 => if x_5 ≤ (16 : Int32) then eC (am_cls s_4 a0) 11 (cI (cl_ tb_ct tb_mt B K_X13_eventsOf [.ref a0, .int x_3] s_4) (fun x_7 s_6 => if x_7 ≤ 0 then rn_ tb_ct tb_mt B mm_X13_commit 41 [.ref a0, .int x_3, am_un] [] s_6 else eA (gA tb_ct s_6 a0 11 0) (none) (fun b_8 => eI (aI s_6 b_8 (0 : Int32)) (fun x_9 => eS (wI B s_6 b_8 (0 : Int32) (x_9 + (1 : Int32))) (fun s_10 => rn_ tb_ct tb_mt B mm_X13_commit 41 [.ref a0, .int x_3, am_un] [] s_10)))) xo) else some (.inl (some (.int (-(2 : Int32)))), s_4)) xo)) xo)) := by
  refine Eq.trans (rn_go 2 (pc' := 2) (L' := [.ref a0, am_un, am_un]) (st' := [.int (0 : Int32), .ref a0]) rfl) ?_
  refine Eq.trans (rn_pF (L' := [.ref a0, am_un, am_un]) rfl rfl) ?_
  refine eS_c (fun s_1 => ?_)
  refine Eq.trans (rn_go 1 (pc' := 6) (L' := [.ref a0, am_un, am_un]) (st' := [.ref a0]) rfl) ?_
  refine Eq.trans (rn_vir (L' := [.ref a0, am_un, am_un]) (as := []) (rest := []) rfl rfl rfl rfl rfl (Nat.le_of_ble_eq_true rfl) (by decide) (by decide)) ?_
  refine eC_c ?_
  refine Eq.trans (cW_I rfl rfl rfl) ?_
  refine cI_c (fun x_3 s_2 => ?_) (xh_nil rfl)
  refine Eq.trans (rn_go 3 (pc' := 12) (L' := [.ref a0, .int x_3, am_un]) (st' := [.int x_3, .ref a0]) rfl) ?_
  refine Eq.trans (rn_vir (L' := [.ref a0, .int x_3, am_un]) (as := [.int x_3]) (rest := []) rfl rfl rfl rfl rfl (Nat.le_of_ble_eq_true rfl) (by decide) (by decide)) ?_
  refine eC_c ?_
  refine Eq.trans (cW_I rfl rfl rfl) ?_
  refine cI_c (fun x_5 s_4 => ?_) (xh_nil rfl)
  refine Eq.trans (rn_go 1 (pc' := 17) (L' := [.ref a0, .int x_3, am_un]) (st' := [.int (16 : Int32), .int x_5]) rfl) ?_
  refine Eq.trans (rn_icle (L' := [.ref a0, .int x_3, am_un]) rfl rfl) ?_
  refine if_c ?_ ?_
  · refine Eq.trans (rn_go 2 (pc' := 25) (L' := [.ref a0, .int x_3, am_un]) (st' := [.int x_3, .ref a0]) rfl) ?_
    refine Eq.trans (rn_vir (L' := [.ref a0, .int x_3, am_un]) (as := [.int x_3]) (rest := []) rfl rfl rfl rfl rfl (Nat.le_of_ble_eq_true rfl) (by decide) (by decide)) ?_
    refine eC_c ?_
    refine Eq.trans (cW_I rfl rfl rfl) ?_
    refine cI_c (fun x_7 s_6 => ?_) (xh_nil rfl)
    refine Eq.trans (rn_ifle (L' := [.ref a0, .int x_3, am_un]) rfl rfl) ?_
    refine if_c ?_ ?_
    · rfl
    · refine Eq.trans (rn_go 1 (pc' := 32) (L' := [.ref a0, .int x_3, am_un]) (st' := [.ref a0]) rfl) ?_
      refine Eq.trans (rn_gA (L' := [.ref a0, .int x_3, am_un]) rfl rfl rfl rfl) ?_
      refine eA_c ?_ (fun b_8 => ?_)
      · refine Eq.trans (rn_go 2 (pc' := 37) (L' := [.ref a0, .int x_3, am_un]) (st' := [.int (0 : Int32), .null, .int (0 : Int32), .null]) rfl) ?_
        exact rn_z rfl rfl
      · refine Eq.trans (rn_go 2 (pc' := 37) (L' := [.ref a0, .int x_3, am_un]) (st' := [.int (0 : Int32), .ref b_8, .int (0 : Int32), .ref b_8]) rfl) ?_
        refine Eq.trans (rn_aI (L' := [.ref a0, .int x_3, am_un]) rfl rfl) ?_
        refine eI_c (fun x_9 => ?_)
        refine Eq.trans (rn_go 2 (pc' := 40) (L' := [.ref a0, .int x_3, am_un]) (st' := [.int (x_9 + (1 : Int32)), .int (0 : Int32), .ref b_8]) rfl) ?_
        refine Eq.trans (rn_wI (L' := [.ref a0, .int x_3, am_un]) rfl rfl) ?_
        refine eS_c (fun s_10 => ?_)
        rfl
  · refine Eq.trans (rn_go 1 (pc' := 22) (L' := [.ref a0, .int x_3, am_un]) (st' := [.int (-(2 : Int32))]) rfl) ?_
    exact rn_retI rfl rfl rfl
theorem dc_X13_commit_41 {B : Nat} (a0 : Nat) (x1 : Int32) (s : am_S) : rn_ tb_ct tb_mt B mm_X13_commit 41 [.ref a0, .int x1, am_un] [] s = rn_ tb_ct tb_mt B mm_X13_commit 43 [.ref a0, .int x1, .int (0 : Int32)] [] s := by
  exact rn_go 2 (pc' := 43) (L' := [.ref a0, .int x1, .int (0 : Int32)]) (st' := []) rfl
theorem dc_X13_commit_43 {B : Nat} (a0 : Nat) (x1 : Int32) (x2 : Int32) (s : am_S) : rn_ tb_ct tb_mt B mm_X13_commit 43 [.ref a0, .int x1, .int x2] [] s = eA (gA tb_ct s a0 11 0) (none) (fun b_1 => eI (aI s b_1 ((10 : Int32) + x1)) (fun x_2 => if x_2 ≤ x2 then eC (am_cls s a0) 11 (cV (cl_ tb_ct tb_mt B K_X13_emptiesTransaction [.ref a0] s) (fun s_3 => eC (am_cls s_3 a0) 11 (cV (cl_ tb_ct tb_mt B K_X13_settles [.ref a0] s_3) (fun s_4 => some (.inl (some (.int ((1 : Int32) - x1))), s_4)) xo)) xo) else eC (am_cls s a0) 11 (cI (cl_ tb_ct tb_mt B K_X13_stepAt [.ref a0, .int x1, .int x2, .int (0 : Int32)] s) (fun x_6 s_5 => if x_6 = 0 then eC (am_cls s_5 a0) 11 (cI (cl_ tb_ct tb_mt B K_X13_stepAt [.ref a0, .int x1, .int x2, .int (1 : Int32)] s_5) (fun x_8 s_7 => eC (am_cls s_7 a0) 11 (cI (cl_ tb_ct tb_mt B K_X13_stepAt [.ref a0, .int x1, .int x2, .int (2 : Int32)] s_7) (fun x_10 s_9 => eC (am_cls s_9 a0) 11 (cV (cl_ tb_ct tb_mt B K_X13_writes [.ref a0, .int x_8, .int x_10, .int (0 : Int32)] s_9) (fun s_11 => rn_ tb_ct tb_mt B mm_X13_commit 113 [.ref a0, .int x1, .int x2] [] s_11) xo)) xo)) xo) else eC (am_cls s_5 a0) 11 (cI (cl_ tb_ct tb_mt B K_X13_stepAt [.ref a0, .int x1, .int x2, .int (1 : Int32)] s_5) (fun x_13 s_12 => eC (am_cls s_12 a0) 11 (cI (cl_ tb_ct tb_mt B K_X13_isThere [.ref a0, .int x_13] s_12) (fun x_15 s_14 => if x_15 = 0 then rn_ tb_ct tb_mt B mm_X13_commit 113 [.ref a0, .int x1, .int x2] [] s_14 else eC (am_cls s_14 a0) 11 (cI (cl_ tb_ct tb_mt B K_X13_stepAt [.ref a0, .int x1, .int x2, .int (1 : Int32)] s_14) (fun x_17 s_16 => eC (am_cls s_16 a0) 11 (cV (cl_ tb_ct tb_mt B K_X13_deletes [.ref a0, .int x_17] s_16) (fun s_18 => rn_ tb_ct tb_mt B mm_X13_commit 113 [.ref a0, .int x1, .int x2] [] s_18) xo)) xo)) xo)) xo)) xo))) := by
  refine Eq.trans (rn_go 2 (pc' := 45) (L' := [.ref a0, .int x1, .int x2]) (st' := [.ref a0, .int x2]) rfl) ?_
  refine Eq.trans (rn_gA (L' := [.ref a0, .int x1, .int x2]) rfl rfl rfl rfl) ?_
  refine eA_c ?_ (fun b_1 => ?_)
  · refine Eq.trans (rn_go 3 (pc' := 52) (L' := [.ref a0, .int x1, .int x2]) (st' := [.int ((10 : Int32) + x1), .null, .int x2]) rfl) ?_
    exact rn_z rfl rfl
  · refine Eq.trans (rn_go 3 (pc' := 52) (L' := [.ref a0, .int x1, .int x2]) (st' := [.int ((10 : Int32) + x1), .ref b_1, .int x2]) rfl) ?_
    refine Eq.trans (rn_aI (L' := [.ref a0, .int x1, .int x2]) rfl rfl) ?_
    refine eI_c (fun x_2 => ?_)
    refine Eq.trans (rn_icge (L' := [.ref a0, .int x1, .int x2]) rfl rfl) ?_
    refine if_c ?_ ?_
    · refine Eq.trans (rn_go 1 (pc' := 120) (L' := [.ref a0, .int x1, .int x2]) (st' := [.ref a0]) rfl) ?_
      refine Eq.trans (rn_vir (L' := [.ref a0, .int x1, .int x2]) (as := []) (rest := []) rfl rfl rfl rfl rfl (Nat.le_of_ble_eq_true rfl) (by decide) (by decide)) ?_
      refine eC_c ?_
      refine Eq.trans (cW_V rfl rfl) ?_
      refine cV_c (fun s_3 => ?_) (xh_nil rfl)
      refine Eq.trans (rn_go 1 (pc' := 124) (L' := [.ref a0, .int x1, .int x2]) (st' := [.ref a0]) rfl) ?_
      refine Eq.trans (rn_vir (L' := [.ref a0, .int x1, .int x2]) (as := []) (rest := []) rfl rfl rfl rfl rfl (Nat.le_of_ble_eq_true rfl) (by decide) (by decide)) ?_
      refine eC_c ?_
      refine Eq.trans (cW_V rfl rfl) ?_
      refine cV_c (fun s_4 => ?_) (xh_nil rfl)
      refine Eq.trans (rn_go 3 (pc' := 130) (L' := [.ref a0, .int x1, .int x2]) (st' := [.int ((1 : Int32) - x1)]) rfl) ?_
      exact rn_retI rfl rfl rfl
    · refine Eq.trans (rn_go 4 (pc' := 60) (L' := [.ref a0, .int x1, .int x2]) (st' := [.int (0 : Int32), .int x2, .int x1, .ref a0]) rfl) ?_
      refine Eq.trans (rn_vir (L' := [.ref a0, .int x1, .int x2]) (as := [.int x1, .int x2, .int (0 : Int32)]) (rest := []) rfl rfl rfl rfl rfl (Nat.le_of_ble_eq_true rfl) (by decide) (by decide)) ?_
      refine eC_c ?_
      refine Eq.trans (cW_I rfl rfl rfl) ?_
      refine cI_c (fun x_6 s_5 => ?_) (xh_nil rfl)
      refine Eq.trans (rn_ifne (L' := [.ref a0, .int x1, .int x2]) rfl rfl) ?_
      refine if_c ?_ ?_
      · refine Eq.trans (rn_go 5 (pc' := 71) (L' := [.ref a0, .int x1, .int x2]) (st' := [.int (1 : Int32), .int x2, .int x1, .ref a0, .ref a0]) rfl) ?_
        refine Eq.trans (rn_vir (L' := [.ref a0, .int x1, .int x2]) (as := [.int x1, .int x2, .int (1 : Int32)]) (rest := [.ref a0]) rfl rfl rfl rfl rfl (Nat.le_of_ble_eq_true rfl) (by decide) (by decide)) ?_
        refine eC_c ?_
        refine Eq.trans (cW_I rfl rfl rfl) ?_
        refine cI_c (fun x_8 s_7 => ?_) (xh_nil rfl)
        refine Eq.trans (rn_go 4 (pc' := 78) (L' := [.ref a0, .int x1, .int x2]) (st' := [.int (2 : Int32), .int x2, .int x1, .ref a0, .int x_8, .ref a0]) rfl) ?_
        refine Eq.trans (rn_vir (L' := [.ref a0, .int x1, .int x2]) (as := [.int x1, .int x2, .int (2 : Int32)]) (rest := [.int x_8, .ref a0]) rfl rfl rfl rfl rfl (Nat.le_of_ble_eq_true rfl) (by decide) (by decide)) ?_
        refine eC_c ?_
        refine Eq.trans (cW_I rfl rfl rfl) ?_
        refine cI_c (fun x_10 s_9 => ?_) (xh_nil rfl)
        refine Eq.trans (rn_go 1 (pc' := 82) (L' := [.ref a0, .int x1, .int x2]) (st' := [.int (0 : Int32), .int x_10, .int x_8, .ref a0]) rfl) ?_
        refine Eq.trans (rn_vir (L' := [.ref a0, .int x1, .int x2]) (as := [.int x_8, .int x_10, .int (0 : Int32)]) (rest := []) rfl rfl rfl rfl rfl (Nat.le_of_ble_eq_true rfl) (by decide) (by decide)) ?_
        refine eC_c ?_
        refine Eq.trans (cW_V rfl rfl) ?_
        refine cV_c (fun s_11 => ?_) (xh_nil rfl)
        exact rn_go 1 (pc' := 113) (L' := [.ref a0, .int x1, .int x2]) (st' := []) rfl
      · refine Eq.trans (rn_go 5 (pc' := 93) (L' := [.ref a0, .int x1, .int x2]) (st' := [.int (1 : Int32), .int x2, .int x1, .ref a0, .ref a0]) rfl) ?_
        refine Eq.trans (rn_vir (L' := [.ref a0, .int x1, .int x2]) (as := [.int x1, .int x2, .int (1 : Int32)]) (rest := [.ref a0]) rfl rfl rfl rfl rfl (Nat.le_of_ble_eq_true rfl) (by decide) (by decide)) ?_
        refine eC_c ?_
        refine Eq.trans (cW_I rfl rfl rfl) ?_
        refine cI_c (fun x_13 s_12 => ?_) (xh_nil rfl)
        refine Eq.trans (rn_vir (L' := [.ref a0, .int x1, .int x2]) (as := [.int x_13]) (rest := []) rfl rfl rfl rfl rfl (Nat.le_of_ble_eq_true rfl) (by decide) (by decide)) ?_
        refine eC_c ?_
        refine Eq.trans (cW_I rfl rfl rfl) ?_
        refine cI_c (fun x_15 s_14 => ?_) (xh_nil rfl)
        refine Eq.trans (rn_ifeq (L' := [.ref a0, .int x1, .int x2]) rfl rfl) ?_
        refine if_c ?_ ?_
        · rfl
        · refine Eq.trans (rn_go 5 (pc' := 107) (L' := [.ref a0, .int x1, .int x2]) (st' := [.int (1 : Int32), .int x2, .int x1, .ref a0, .ref a0]) rfl) ?_
          refine Eq.trans (rn_vir (L' := [.ref a0, .int x1, .int x2]) (as := [.int x1, .int x2, .int (1 : Int32)]) (rest := [.ref a0]) rfl rfl rfl rfl rfl (Nat.le_of_ble_eq_true rfl) (by decide) (by decide)) ?_
          refine eC_c ?_
          refine Eq.trans (cW_I rfl rfl rfl) ?_
          refine cI_c (fun x_17 s_16 => ?_) (xh_nil rfl)
          refine Eq.trans (rn_vir (L' := [.ref a0, .int x1, .int x2]) (as := [.int x_17]) (rest := []) rfl rfl rfl rfl rfl (Nat.le_of_ble_eq_true rfl) (by decide) (by decide)) ?_
          refine eC_c ?_
          refine Eq.trans (cW_V rfl rfl) ?_
          refine cV_c (fun s_18 => ?_) (xh_nil rfl)
          rfl
theorem dc_X13_commit_113 {B : Nat} (a0 : Nat) (x1 : Int32) (x2 : Int32) (s : am_S) : rn_ tb_ct tb_mt B mm_X13_commit 113 [.ref a0, .int x1, .int x2] [] s = rn_ tb_ct tb_mt B mm_X13_commit 43 [.ref a0, .int x1, .int (x2 + (1 : Int32))] [] s := by
  exact rn_go 2 (pc' := 43) (L' := [.ref a0, .int x1, .int (x2 + (1 : Int32))]) (st' := []) rfl
theorem in_X13_drop {B : Nat} (a0 : Nat) (s : am_S) : cl_ tb_ct tb_mt B K_X13_drop [.ref a0] s = rn_ tb_ct tb_mt B mm_X13_drop 0 [.ref a0, am_un] [] s := cl_in rfl rfl rfl rfl
theorem dc_X13_drop_0 {B : Nat} (a0 : Nat) (s : am_S) : rn_ tb_ct tb_mt B mm_X13_drop 0 [.ref a0, am_un] [] s = eS (am_put tb_ct mm_X13_drop B s (.int (0 : Int32)) a0 11 4) (fun s_1 => eA (gA tb_ct s_1 a0 11 0) (none) (fun b_2 => eI (aI s_1 b_2 (9 : Int32)) (fun x_3 => eA (gA tb_ct s_1 a0 11 0) (none) (fun b_4 => eI (aI s_1 b_4 (10 : Int32)) (fun x_5 => eA (gA tb_ct s_1 a0 11 0) (none) (fun b_6 => eI (aI s_1 b_6 (11 : Int32)) (fun x_7 => eC (am_cls s_1 a0) 11 (cV (cl_ tb_ct tb_mt B K_X13_emptiesTransaction [.ref a0] s_1) (fun s_8 => some (.inl (some (.int ((x_3 + x_5) + x_7))), s_8)) xo)))))))) := by
  refine Eq.trans (rn_go 2 (pc' := 2) (L' := [.ref a0, am_un]) (st' := [.int (0 : Int32), .ref a0]) rfl) ?_
  refine Eq.trans (rn_pF (L' := [.ref a0, am_un]) rfl rfl) ?_
  refine eS_c (fun s_1 => ?_)
  refine Eq.trans (rn_go 1 (pc' := 6) (L' := [.ref a0, am_un]) (st' := [.ref a0]) rfl) ?_
  refine Eq.trans (rn_gA (L' := [.ref a0, am_un]) rfl rfl rfl rfl) ?_
  refine eA_c ?_ (fun b_2 => ?_)
  · refine Eq.trans (rn_go 1 (pc' := 11) (L' := [.ref a0, am_un]) (st' := [.int (9 : Int32), .null]) rfl) ?_
    exact rn_z rfl rfl
  · refine Eq.trans (rn_go 1 (pc' := 11) (L' := [.ref a0, am_un]) (st' := [.int (9 : Int32), .ref b_2]) rfl) ?_
    refine Eq.trans (rn_aI (L' := [.ref a0, am_un]) rfl rfl) ?_
    refine eI_c (fun x_3 => ?_)
    refine Eq.trans (rn_go 1 (pc' := 13) (L' := [.ref a0, am_un]) (st' := [.ref a0, .int x_3]) rfl) ?_
    refine Eq.trans (rn_gA (L' := [.ref a0, am_un]) rfl rfl rfl rfl) ?_
    refine eA_c ?_ (fun b_4 => ?_)
    · refine Eq.trans (rn_go 1 (pc' := 18) (L' := [.ref a0, am_un]) (st' := [.int (10 : Int32), .null, .int x_3]) rfl) ?_
      exact rn_z rfl rfl
    · refine Eq.trans (rn_go 1 (pc' := 18) (L' := [.ref a0, am_un]) (st' := [.int (10 : Int32), .ref b_4, .int x_3]) rfl) ?_
      refine Eq.trans (rn_aI (L' := [.ref a0, am_un]) rfl rfl) ?_
      refine eI_c (fun x_5 => ?_)
      refine Eq.trans (rn_go 2 (pc' := 21) (L' := [.ref a0, am_un]) (st' := [.ref a0, .int (x_3 + x_5)]) rfl) ?_
      refine Eq.trans (rn_gA (L' := [.ref a0, am_un]) rfl rfl rfl rfl) ?_
      refine eA_c ?_ (fun b_6 => ?_)
      · refine Eq.trans (rn_go 1 (pc' := 26) (L' := [.ref a0, am_un]) (st' := [.int (11 : Int32), .null, .int (x_3 + x_5)]) rfl) ?_
        exact rn_z rfl rfl
      · refine Eq.trans (rn_go 1 (pc' := 26) (L' := [.ref a0, am_un]) (st' := [.int (11 : Int32), .ref b_6, .int (x_3 + x_5)]) rfl) ?_
        refine Eq.trans (rn_aI (L' := [.ref a0, am_un]) rfl rfl) ?_
        refine eI_c (fun x_7 => ?_)
        refine Eq.trans (rn_go 3 (pc' := 30) (L' := [.ref a0, .int ((x_3 + x_5) + x_7)]) (st' := [.ref a0]) rfl) ?_
        refine Eq.trans (rn_vir (L' := [.ref a0, .int ((x_3 + x_5) + x_7)]) (as := []) (rest := []) rfl rfl rfl rfl rfl (Nat.le_of_ble_eq_true rfl) (by decide) (by decide)) ?_
        refine eC_c ?_
        refine Eq.trans (cW_V rfl rfl) ?_
        refine cV_c (fun s_8 => ?_) (xh_nil rfl)
        refine Eq.trans (rn_go 1 (pc' := 34) (L' := [.ref a0, .int ((x_3 + x_5) + x_7)]) (st' := [.int ((x_3 + x_5) + x_7)]) rfl) ?_
        exact rn_retI rfl rfl rfl
theorem in_X13_says {B : Nat} (a0 : Nat) (x1 : Int32) (s : am_S) : cl_ tb_ct tb_mt B K_X13_says [.ref a0, .int x1] s = rn_ tb_ct tb_mt B mm_X13_says 0 [.ref a0, .int x1] [] s := cl_in rfl rfl rfl rfl
theorem dc_X13_says_0 {B : Nat} (a0 : Nat) (x1 : Int32) (s : am_S) : rn_ tb_ct tb_mt B mm_X13_says 0 [.ref a0, .int x1] [] s = eA (gA tb_ct s a0 11 20) (eI (gI tb_ct s a0 11 21) (fun x_2 => none)) (fun b_1 => eI (gI tb_ct s a0 11 21) (fun x_3 => eS (wB B s b_1 x_3 x1.toInt8.toInt32) (fun s_4 => eI (gI tb_ct s_4 a0 11 21) (fun x_5 => eS (am_put tb_ct mm_X13_says B s_4 (.int (x_5 + (1 : Int32))) a0 11 21) (fun s_6 => some (.inl none, s_6)))))) := by
  refine Eq.trans (rn_go 1 (pc' := 1) (L' := [.ref a0, .int x1]) (st' := [.ref a0]) rfl) ?_
  refine Eq.trans (rn_gA (L' := [.ref a0, .int x1]) rfl rfl rfl rfl) ?_
  refine eA_c ?_ (fun b_1 => ?_)
  · refine Eq.trans (rn_go 1 (pc' := 5) (L' := [.ref a0, .int x1]) (st' := [.ref a0, .null]) rfl) ?_
    refine Eq.trans (rn_gI (L' := [.ref a0, .int x1]) rfl rfl rfl rfl) ?_
    refine eI_c (fun x_2 => ?_)
    refine Eq.trans (rn_go 2 (pc' := 10) (L' := [.ref a0, .int x1]) (st' := [.int x1.toInt8.toInt32, .int x_2, .null]) rfl) ?_
    exact rn_z rfl rfl
  · refine Eq.trans (rn_go 1 (pc' := 5) (L' := [.ref a0, .int x1]) (st' := [.ref a0, .ref b_1]) rfl) ?_
    refine Eq.trans (rn_gI (L' := [.ref a0, .int x1]) rfl rfl rfl rfl) ?_
    refine eI_c (fun x_3 => ?_)
    refine Eq.trans (rn_go 2 (pc' := 10) (L' := [.ref a0, .int x1]) (st' := [.int x1.toInt8.toInt32, .int x_3, .ref b_1]) rfl) ?_
    refine Eq.trans (rn_wB (L' := [.ref a0, .int x1]) rfl rfl) ?_
    refine eS_c (fun s_4 => ?_)
    refine Eq.trans (rn_go 2 (pc' := 13) (L' := [.ref a0, .int x1]) (st' := [.ref a0, .ref a0]) rfl) ?_
    refine Eq.trans (rn_gI (L' := [.ref a0, .int x1]) rfl rfl rfl rfl) ?_
    refine eI_c (fun x_5 => ?_)
    refine Eq.trans (rn_go 2 (pc' := 18) (L' := [.ref a0, .int x1]) (st' := [.int (x_5 + (1 : Int32)), .ref a0]) rfl) ?_
    refine Eq.trans (rn_pF (L' := [.ref a0, .int x1]) rfl rfl) ?_
    refine eS_c (fun s_6 => ?_)
    exact rn_retV rfl rfl
theorem in_X13_writeKey {B : Nat} (a0 : Nat) (x1 : Int32) (s : am_S) : cl_ tb_ct tb_mt B K_X13_writeKey [.ref a0, .int x1] s = rn_ tb_ct tb_mt B mm_X13_writeKey 0 [.ref a0, .int x1, am_un] [] s := cl_in rfl rfl rfl rfl
theorem dc_X13_writeKey_0 {B : Nat} (a0 : Nat) (x1 : Int32) (s : am_S) : rn_ tb_ct tb_mt B mm_X13_writeKey 0 [.ref a0, .int x1, am_un] [] s = cI (cl_ tb_ct tb_mt B K_X13_isKey [.int x1] s) (fun x_2 s_1 => eC (am_cls s_1 a0) 11 (cI (cl_ tb_ct tb_mt B K_X13_isThrown [.ref a0, .int x_2, .int (1 : Int32)] s_1) (fun x_4 s_3 => if x_4 = 0 then eS (am_put tb_ct mm_X13_writeKey B s_3 (.int (0 : Int32)) a0 11 21) (fun s_5 => eC (am_cls s_5 a0) 11 (cI (cl_ tb_ct tb_mt B K_X13_isThere [.ref a0, .int x1] s_5) (fun x_7 s_6 => if x_7 = 0 then some (.inl (some (.int (0 : Int32))), s_6) else eC (am_cls s_6 a0) 11 (cI (cl_ tb_ct tb_mt B K_X13_placeOf [.ref a0, .int x1] s_6) (fun x_9 s_8 => eC (am_cls s_8 a0) 11 (cV (cl_ tb_ct tb_mt B K_X13_saysNumber_0 [.ref a0, .int x1] s_8) (fun s_10 => eC (am_cls s_10 a0) 11 (cV (cl_ tb_ct tb_mt B K_X13_says [.ref a0, .int (58 : Int32)] s_10) (fun s_11 => eC (am_cls s_11 a0) 11 (cI (cl_ tb_ct tb_mt B K_X13_keyAt [.ref a0, .int x_9, .int (1 : Int32)] s_11) (fun x_13 s_12 => eC (am_cls s_12 a0) 11 (cV (cl_ tb_ct tb_mt B K_X13_saysNumber_0 [.ref a0, .int x_13] s_12) (fun s_14 => eC (am_cls s_14 a0) 11 (cV (cl_ tb_ct tb_mt B K_X13_says [.ref a0, .int (32 : Int32)] s_14) (fun s_15 => eC (am_cls s_15 a0) 11 (cV (cl_ tb_ct tb_mt B K_X13_says [.ref a0, .int (118 : Int32)] s_15) (fun s_16 => eC (am_cls s_16 a0) 11 (cI (cl_ tb_ct tb_mt B K_X13_keyAt [.ref a0, .int x_9, .int (4 : Int32)] s_16) (fun x_18 s_17 => eC (am_cls s_17 a0) 11 (cV (cl_ tb_ct tb_mt B K_X13_saysNumber_0 [.ref a0, .int x_18] s_17) (fun s_19 => eC (am_cls s_19 a0) 11 (cI (cl_ tb_ct tb_mt B K_X13_keyAt [.ref a0, .int x_9, .int (5 : Int32)] s_19) (fun x_21 s_20 => if x_21 ≤ 0 then rn_ tb_ct tb_mt B mm_X13_writeKey 109 [.ref a0, .int x1, .int x_9] [] s_20 else eC (am_cls s_20 a0) 11 (cV (cl_ tb_ct tb_mt B K_X13_says [.ref a0, .int (32 : Int32)] s_20) (fun s_22 => eC (am_cls s_22 a0) 11 (cV (cl_ tb_ct tb_mt B K_X13_says [.ref a0, .int (108 : Int32)] s_22) (fun s_23 => eC (am_cls s_23 a0) 11 (cI (cl_ tb_ct tb_mt B K_X13_keyAt [.ref a0, .int x_9, .int (5 : Int32)] s_23) (fun x_25 s_24 => eC (am_cls s_24 a0) 11 (cV (cl_ tb_ct tb_mt B K_X13_saysNumber_0 [.ref a0, .int x_25] s_24) (fun s_26 => rn_ tb_ct tb_mt B mm_X13_writeKey 109 [.ref a0, .int x1, .int x_9] [] s_26) xo)) xo)) xo)) xo)) xo)) xo)) xo)) xo)) xo)) xo)) xo)) xo)) xo)) xo)) xo)) else some (.inl (some (.int (0 : Int32))), s_3)) xo)) xo := by
  refine Eq.trans (rn_go 2 (pc' := 2) (L' := [.ref a0, .int x1, am_un]) (st' := [.int x1, .ref a0]) rfl) ?_
  refine Eq.trans (rn_sta (L' := [.ref a0, .int x1, am_un]) (as := [.int x1]) (rest := [.ref a0]) rfl rfl rfl rfl rfl (Nat.le_of_ble_eq_true rfl) (by decide) rfl) ?_
  refine Eq.trans (cW_I rfl rfl rfl) ?_
  refine cI_c (fun x_2 s_1 => ?_) (xh_nil rfl)
  refine Eq.trans (rn_go 1 (pc' := 6) (L' := [.ref a0, .int x1, am_un]) (st' := [.int (1 : Int32), .int x_2, .ref a0]) rfl) ?_
  refine Eq.trans (rn_vir (L' := [.ref a0, .int x1, am_un]) (as := [.int x_2, .int (1 : Int32)]) (rest := []) rfl rfl rfl rfl rfl (Nat.le_of_ble_eq_true rfl) (by decide) (by decide)) ?_
  refine eC_c ?_
  refine Eq.trans (cW_I rfl rfl rfl) ?_
  refine cI_c (fun x_4 s_3 => ?_) (xh_nil rfl)
  refine Eq.trans (rn_ifeq (L' := [.ref a0, .int x1, am_un]) rfl rfl) ?_
  refine if_c ?_ ?_
  · refine Eq.trans (rn_go 2 (pc' := 16) (L' := [.ref a0, .int x1, am_un]) (st' := [.int (0 : Int32), .ref a0]) rfl) ?_
    refine Eq.trans (rn_pF (L' := [.ref a0, .int x1, am_un]) rfl rfl) ?_
    refine eS_c (fun s_5 => ?_)
    refine Eq.trans (rn_go 2 (pc' := 21) (L' := [.ref a0, .int x1, am_un]) (st' := [.int x1, .ref a0]) rfl) ?_
    refine Eq.trans (rn_vir (L' := [.ref a0, .int x1, am_un]) (as := [.int x1]) (rest := []) rfl rfl rfl rfl rfl (Nat.le_of_ble_eq_true rfl) (by decide) (by decide)) ?_
    refine eC_c ?_
    refine Eq.trans (cW_I rfl rfl rfl) ?_
    refine cI_c (fun x_7 s_6 => ?_) (xh_nil rfl)
    refine Eq.trans (rn_ifne (L' := [.ref a0, .int x1, am_un]) rfl rfl) ?_
    refine if_c ?_ ?_
    · refine Eq.trans (rn_go 1 (pc' := 28) (L' := [.ref a0, .int x1, am_un]) (st' := [.int (0 : Int32)]) rfl) ?_
      exact rn_retI rfl rfl rfl
    · refine Eq.trans (rn_go 2 (pc' := 31) (L' := [.ref a0, .int x1, am_un]) (st' := [.int x1, .ref a0]) rfl) ?_
      refine Eq.trans (rn_vir (L' := [.ref a0, .int x1, am_un]) (as := [.int x1]) (rest := []) rfl rfl rfl rfl rfl (Nat.le_of_ble_eq_true rfl) (by decide) (by decide)) ?_
      refine eC_c ?_
      refine Eq.trans (cW_I rfl rfl rfl) ?_
      refine cI_c (fun x_9 s_8 => ?_) (xh_nil rfl)
      refine Eq.trans (rn_go 3 (pc' := 37) (L' := [.ref a0, .int x1, .int x_9]) (st' := [.int x1, .ref a0]) rfl) ?_
      refine Eq.trans (rn_vir (L' := [.ref a0, .int x1, .int x_9]) (as := [.int x1]) (rest := []) rfl rfl rfl rfl rfl (Nat.le_of_ble_eq_true rfl) (by decide) (by decide)) ?_
      refine eC_c ?_
      refine Eq.trans (cW_V rfl rfl) ?_
      refine cV_c (fun s_10 => ?_) (xh_nil rfl)
      refine Eq.trans (rn_go 2 (pc' := 43) (L' := [.ref a0, .int x1, .int x_9]) (st' := [.int (58 : Int32), .ref a0]) rfl) ?_
      refine Eq.trans (rn_vir (L' := [.ref a0, .int x1, .int x_9]) (as := [.int (58 : Int32)]) (rest := []) rfl rfl rfl rfl rfl (Nat.le_of_ble_eq_true rfl) (by decide) (by decide)) ?_
      refine eC_c ?_
      refine Eq.trans (cW_V rfl rfl) ?_
      refine cV_c (fun s_11 => ?_) (xh_nil rfl)
      refine Eq.trans (rn_go 4 (pc' := 50) (L' := [.ref a0, .int x1, .int x_9]) (st' := [.int (1 : Int32), .int x_9, .ref a0, .ref a0]) rfl) ?_
      refine Eq.trans (rn_vir (L' := [.ref a0, .int x1, .int x_9]) (as := [.int x_9, .int (1 : Int32)]) (rest := [.ref a0]) rfl rfl rfl rfl rfl (Nat.le_of_ble_eq_true rfl) (by decide) (by decide)) ?_
      refine eC_c ?_
      refine Eq.trans (cW_I rfl rfl rfl) ?_
      refine cI_c (fun x_13 s_12 => ?_) (xh_nil rfl)
      refine Eq.trans (rn_vir (L' := [.ref a0, .int x1, .int x_9]) (as := [.int x_13]) (rest := []) rfl rfl rfl rfl rfl (Nat.le_of_ble_eq_true rfl) (by decide) (by decide)) ?_
      refine eC_c ?_
      refine Eq.trans (cW_V rfl rfl) ?_
      refine cV_c (fun s_14 => ?_) (xh_nil rfl)
      refine Eq.trans (rn_go 2 (pc' := 59) (L' := [.ref a0, .int x1, .int x_9]) (st' := [.int (32 : Int32), .ref a0]) rfl) ?_
      refine Eq.trans (rn_vir (L' := [.ref a0, .int x1, .int x_9]) (as := [.int (32 : Int32)]) (rest := []) rfl rfl rfl rfl rfl (Nat.le_of_ble_eq_true rfl) (by decide) (by decide)) ?_
      refine eC_c ?_
      refine Eq.trans (cW_V rfl rfl) ?_
      refine cV_c (fun s_15 => ?_) (xh_nil rfl)
      refine Eq.trans (rn_go 2 (pc' := 65) (L' := [.ref a0, .int x1, .int x_9]) (st' := [.int (118 : Int32), .ref a0]) rfl) ?_
      refine Eq.trans (rn_vir (L' := [.ref a0, .int x1, .int x_9]) (as := [.int (118 : Int32)]) (rest := []) rfl rfl rfl rfl rfl (Nat.le_of_ble_eq_true rfl) (by decide) (by decide)) ?_
      refine eC_c ?_
      refine Eq.trans (cW_V rfl rfl) ?_
      refine cV_c (fun s_16 => ?_) (xh_nil rfl)
      refine Eq.trans (rn_go 4 (pc' := 72) (L' := [.ref a0, .int x1, .int x_9]) (st' := [.int (4 : Int32), .int x_9, .ref a0, .ref a0]) rfl) ?_
      refine Eq.trans (rn_vir (L' := [.ref a0, .int x1, .int x_9]) (as := [.int x_9, .int (4 : Int32)]) (rest := [.ref a0]) rfl rfl rfl rfl rfl (Nat.le_of_ble_eq_true rfl) (by decide) (by decide)) ?_
      refine eC_c ?_
      refine Eq.trans (cW_I rfl rfl rfl) ?_
      refine cI_c (fun x_18 s_17 => ?_) (xh_nil rfl)
      refine Eq.trans (rn_vir (L' := [.ref a0, .int x1, .int x_9]) (as := [.int x_18]) (rest := []) rfl rfl rfl rfl rfl (Nat.le_of_ble_eq_true rfl) (by decide) (by decide)) ?_
      refine eC_c ?_
      refine Eq.trans (cW_V rfl rfl) ?_
      refine cV_c (fun s_19 => ?_) (xh_nil rfl)
      refine Eq.trans (rn_go 3 (pc' := 81) (L' := [.ref a0, .int x1, .int x_9]) (st' := [.int (5 : Int32), .int x_9, .ref a0]) rfl) ?_
      refine Eq.trans (rn_vir (L' := [.ref a0, .int x1, .int x_9]) (as := [.int x_9, .int (5 : Int32)]) (rest := []) rfl rfl rfl rfl rfl (Nat.le_of_ble_eq_true rfl) (by decide) (by decide)) ?_
      refine eC_c ?_
      refine Eq.trans (cW_I rfl rfl rfl) ?_
      refine cI_c (fun x_21 s_20 => ?_) (xh_nil rfl)
      refine Eq.trans (rn_ifle (L' := [.ref a0, .int x1, .int x_9]) rfl rfl) ?_
      refine if_c ?_ ?_
      · rfl
      · refine Eq.trans (rn_go 2 (pc' := 90) (L' := [.ref a0, .int x1, .int x_9]) (st' := [.int (32 : Int32), .ref a0]) rfl) ?_
        refine Eq.trans (rn_vir (L' := [.ref a0, .int x1, .int x_9]) (as := [.int (32 : Int32)]) (rest := []) rfl rfl rfl rfl rfl (Nat.le_of_ble_eq_true rfl) (by decide) (by decide)) ?_
        refine eC_c ?_
        refine Eq.trans (cW_V rfl rfl) ?_
        refine cV_c (fun s_22 => ?_) (xh_nil rfl)
        refine Eq.trans (rn_go 2 (pc' := 96) (L' := [.ref a0, .int x1, .int x_9]) (st' := [.int (108 : Int32), .ref a0]) rfl) ?_
        refine Eq.trans (rn_vir (L' := [.ref a0, .int x1, .int x_9]) (as := [.int (108 : Int32)]) (rest := []) rfl rfl rfl rfl rfl (Nat.le_of_ble_eq_true rfl) (by decide) (by decide)) ?_
        refine eC_c ?_
        refine Eq.trans (cW_V rfl rfl) ?_
        refine cV_c (fun s_23 => ?_) (xh_nil rfl)
        refine Eq.trans (rn_go 4 (pc' := 103) (L' := [.ref a0, .int x1, .int x_9]) (st' := [.int (5 : Int32), .int x_9, .ref a0, .ref a0]) rfl) ?_
        refine Eq.trans (rn_vir (L' := [.ref a0, .int x1, .int x_9]) (as := [.int x_9, .int (5 : Int32)]) (rest := [.ref a0]) rfl rfl rfl rfl rfl (Nat.le_of_ble_eq_true rfl) (by decide) (by decide)) ?_
        refine eC_c ?_
        refine Eq.trans (cW_I rfl rfl rfl) ?_
        refine cI_c (fun x_25 s_24 => ?_) (xh_nil rfl)
        refine Eq.trans (rn_vir (L' := [.ref a0, .int x1, .int x_9]) (as := [.int x_25]) (rest := []) rfl rfl rfl rfl rfl (Nat.le_of_ble_eq_true rfl) (by decide) (by decide)) ?_
        refine eC_c ?_
        refine Eq.trans (cW_V rfl rfl) ?_
        refine cV_c (fun s_26 => ?_) (xh_nil rfl)
        rfl
  · refine Eq.trans (rn_go 1 (pc' := 13) (L' := [.ref a0, .int x1, am_un]) (st' := [.int (0 : Int32)]) rfl) ?_
    exact rn_retI rfl rfl rfl
theorem dc_X13_writeKey_109 {B : Nat} (a0 : Nat) (w1 : Value) (w2 : Value) (s : am_S) : rn_ tb_ct tb_mt B mm_X13_writeKey 109 [.ref a0, w1, w2] [] s = eI (gI tb_ct s a0 11 21) (fun x_1 => some (.inl (some (.int x_1)), s)) := by
  refine Eq.trans (rn_go 1 (pc' := 110) (L' := [.ref a0, am_un, am_un]) (st' := [.ref a0]) rfl) ?_
  refine Eq.trans (rn_gI (L' := [.ref a0, am_un, am_un]) rfl rfl rfl rfl) ?_
  refine eI_c (fun x_1 => ?_)
  exact rn_retI rfl rfl rfl
theorem in_X13_outputByte {B : Nat} (a0 : Nat) (x1 : Int32) (s : am_S) : cl_ tb_ct tb_mt B K_X13_outputByte [.ref a0, .int x1] s = rn_ tb_ct tb_mt B mm_X13_outputByte 0 [.ref a0, .int x1] [] s := cl_in rfl rfl rfl rfl
theorem dc_X13_outputByte_0 {B : Nat} (a0 : Nat) (x1 : Int32) (s : am_S) : rn_ tb_ct tb_mt B mm_X13_outputByte 0 [.ref a0, .int x1] [] s = eS (am_put tb_ct mm_X13_outputByte B s (.int (0 : Int32)) a0 11 4) (fun s_1 => eI (gI tb_ct s_1 a0 11 21) (fun x_2 => cI (cl_ tb_ct tb_mt B K_X13_in [.long x1.toInt64, .long (0 : Int64), .long (x_2 - (1 : Int32)).toInt64] s_1) (fun x_4 s_3 => if x_4 = 0 then some (.inl (some (.int (-(1 : Int32)))), s_3) else eA (gA tb_ct s_3 a0 11 20) (none) (fun b_5 => eI (aB s_3 b_5 x1) (fun x_6 => some (.inl (some (.int x_6)), s_3)))) xo)) := by
  refine Eq.trans (rn_go 2 (pc' := 2) (L' := [.ref a0, .int x1]) (st' := [.int (0 : Int32), .ref a0]) rfl) ?_
  refine Eq.trans (rn_pF (L' := [.ref a0, .int x1]) rfl rfl) ?_
  refine eS_c (fun s_1 => ?_)
  refine Eq.trans (rn_go 4 (pc' := 9) (L' := [.ref a0, .int x1]) (st' := [.ref a0, .long (0 : Int64), .long x1.toInt64]) rfl) ?_
  refine Eq.trans (rn_gI (L' := [.ref a0, .int x1]) rfl rfl rfl rfl) ?_
  refine eI_c (fun x_2 => ?_)
  refine Eq.trans (rn_go 3 (pc' := 15) (L' := [.ref a0, .int x1]) (st' := [.long (x_2 - (1 : Int32)).toInt64, .long (0 : Int64), .long x1.toInt64]) rfl) ?_
  refine Eq.trans (rn_sta (L' := [.ref a0, .int x1]) (as := [.long x1.toInt64, .long (0 : Int64), .long (x_2 - (1 : Int32)).toInt64]) (rest := []) rfl rfl rfl rfl rfl (Nat.le_of_ble_eq_true rfl) (by decide) rfl) ?_
  refine Eq.trans (cW_I rfl rfl rfl) ?_
  refine cI_c (fun x_4 s_3 => ?_) (xh_nil rfl)
  refine Eq.trans (rn_ifeq (L' := [.ref a0, .int x1]) rfl rfl) ?_
  refine if_c ?_ ?_
  · refine Eq.trans (rn_go 1 (pc' := 31) (L' := [.ref a0, .int x1]) (st' := [.int (-(1 : Int32))]) rfl) ?_
    exact rn_retI rfl rfl rfl
  · refine Eq.trans (rn_go 1 (pc' := 22) (L' := [.ref a0, .int x1]) (st' := [.ref a0]) rfl) ?_
    refine Eq.trans (rn_gA (L' := [.ref a0, .int x1]) rfl rfl rfl rfl) ?_
    refine eA_c ?_ (fun b_5 => ?_)
    · refine Eq.trans (rn_go 1 (pc' := 26) (L' := [.ref a0, .int x1]) (st' := [.int x1, .null]) rfl) ?_
      exact rn_z rfl rfl
    · refine Eq.trans (rn_go 1 (pc' := 26) (L' := [.ref a0, .int x1]) (st' := [.int x1, .ref b_5]) rfl) ?_
      refine Eq.trans (rn_aB (L' := [.ref a0, .int x1]) rfl rfl) ?_
      refine eI_c (fun x_6 => ?_)
      refine Eq.trans (rn_go 1 (pc' := 31) (L' := [.ref a0, .int x1]) (st' := [.int x_6]) rfl) ?_
      exact rn_retI rfl rfl rfl
theorem in_X13_saveSnapshot {B : Nat} (a0 : Nat) (x1 : Int32) (s : am_S) : cl_ tb_ct tb_mt B K_X13_saveSnapshot [.ref a0, .int x1] s = rn_ tb_ct tb_mt B mm_X13_saveSnapshot 0 [.ref a0, .int x1] [] s := cl_in rfl rfl rfl rfl
theorem dc_X13_saveSnapshot_0 {B : Nat} (a0 : Nat) (x1 : Int32) (s : am_S) : rn_ tb_ct tb_mt B mm_X13_saveSnapshot 0 [.ref a0, .int x1] [] s = cI (cl_ tb_ct tb_mt B K_X13_in [.long x1.toInt64, .long (0 : Int64), .long (1 : Int64)] s) (fun x_2 s_1 => eC (am_cls s_1 a0) 11 (cI (cl_ tb_ct tb_mt B K_X13_isThrown [.ref a0, .int x_2, .int (1 : Int32)] s_1) (fun x_4 s_3 => if x_4 = 0 then eA (gA tb_ct s_3 a0 11 0) (eA (gA tb_ct s_3 a0 11 2) (cV (cl_ tb_ct tb_mt B K_X13_copies [.null, .int (0 : Int32), .null, .int x1] s_3) (fun s_7 => eA (gA tb_ct s_7 a0 11 3) (none) (fun b_8 => eS (wB B s_7 b_8 x1 (1 : Int32)) (fun s_9 => eA (gA tb_ct s_9 a0 11 0) (none) (fun b_10 => eI (aI s_9 b_10 (0 : Int32)) (fun x_11 => some (.inl (some (.int x_11)), s_9)))))) xo) (fun b_6 => cV (cl_ tb_ct tb_mt B K_X13_copies [.null, .int (0 : Int32), .ref b_6, .int x1] s_3) (fun s_12 => eA (gA tb_ct s_12 a0 11 3) (none) (fun b_13 => eS (wB B s_12 b_13 x1 (1 : Int32)) (fun s_14 => eA (gA tb_ct s_14 a0 11 0) (none) (fun b_15 => eI (aI s_14 b_15 (0 : Int32)) (fun x_16 => some (.inl (some (.int x_16)), s_14)))))) xo)) (fun b_5 => eA (gA tb_ct s_3 a0 11 2) (cV (cl_ tb_ct tb_mt B K_X13_copies [.ref b_5, .int (0 : Int32), .null, .int x1] s_3) (fun s_18 => eA (gA tb_ct s_18 a0 11 3) (none) (fun b_19 => eS (wB B s_18 b_19 x1 (1 : Int32)) (fun s_20 => eA (gA tb_ct s_20 a0 11 0) (none) (fun b_21 => eI (aI s_20 b_21 (0 : Int32)) (fun x_22 => some (.inl (some (.int x_22)), s_20)))))) xo) (fun b_17 => cV (cl_ tb_ct tb_mt B K_X13_copies [.ref b_5, .int (0 : Int32), .ref b_17, .int x1] s_3) (fun s_23 => eA (gA tb_ct s_23 a0 11 3) (none) (fun b_24 => eS (wB B s_23 b_24 x1 (1 : Int32)) (fun s_25 => eA (gA tb_ct s_25 a0 11 0) (none) (fun b_26 => eI (aI s_25 b_26 (0 : Int32)) (fun x_27 => some (.inl (some (.int x_27)), s_25)))))) xo)) else some (.inl (some (.int (0 : Int32))), s_3)) xo)) xo := by
  refine Eq.trans (rn_go 5 (pc' := 5) (L' := [.ref a0, .int x1]) (st' := [.long (1 : Int64), .long (0 : Int64), .long x1.toInt64, .ref a0]) rfl) ?_
  refine Eq.trans (rn_sta (L' := [.ref a0, .int x1]) (as := [.long x1.toInt64, .long (0 : Int64), .long (1 : Int64)]) (rest := [.ref a0]) rfl rfl rfl rfl rfl (Nat.le_of_ble_eq_true rfl) (by decide) rfl) ?_
  refine Eq.trans (cW_I rfl rfl rfl) ?_
  refine cI_c (fun x_2 s_1 => ?_) (xh_nil rfl)
  refine Eq.trans (rn_go 1 (pc' := 9) (L' := [.ref a0, .int x1]) (st' := [.int (1 : Int32), .int x_2, .ref a0]) rfl) ?_
  refine Eq.trans (rn_vir (L' := [.ref a0, .int x1]) (as := [.int x_2, .int (1 : Int32)]) (rest := []) rfl rfl rfl rfl rfl (Nat.le_of_ble_eq_true rfl) (by decide) (by decide)) ?_
  refine eC_c ?_
  refine Eq.trans (cW_I rfl rfl rfl) ?_
  refine cI_c (fun x_4 s_3 => ?_) (xh_nil rfl)
  refine Eq.trans (rn_ifeq (L' := [.ref a0, .int x1]) rfl rfl) ?_
  refine if_c ?_ ?_
  · refine Eq.trans (rn_go 1 (pc' := 18) (L' := [.ref a0, .int x1]) (st' := [.ref a0]) rfl) ?_
    refine Eq.trans (rn_gA (L' := [.ref a0, .int x1]) rfl rfl rfl rfl) ?_
    refine eA_c ?_ (fun b_5 => ?_)
    · refine Eq.trans (rn_go 2 (pc' := 23) (L' := [.ref a0, .int x1]) (st' := [.ref a0, .int (0 : Int32), .null]) rfl) ?_
      refine Eq.trans (rn_gA (L' := [.ref a0, .int x1]) rfl rfl rfl rfl) ?_
      refine eA_c ?_ (fun b_6 => ?_)
      · refine Eq.trans (rn_go 1 (pc' := 27) (L' := [.ref a0, .int x1]) (st' := [.int x1, .null, .int (0 : Int32), .null]) rfl) ?_
        refine Eq.trans (rn_sta (L' := [.ref a0, .int x1]) (as := [.null, .int (0 : Int32), .null, .int x1]) (rest := []) rfl rfl rfl rfl rfl (Nat.le_of_ble_eq_true rfl) (by decide) rfl) ?_
        refine Eq.trans (cW_V rfl rfl) ?_
        refine cV_c (fun s_7 => ?_) (xh_nil rfl)
        refine Eq.trans (rn_go 1 (pc' := 31) (L' := [.ref a0, .int x1]) (st' := [.ref a0]) rfl) ?_
        refine Eq.trans (rn_gA (L' := [.ref a0, .int x1]) rfl rfl rfl rfl) ?_
        refine eA_c ?_ (fun b_8 => ?_)
        · refine Eq.trans (rn_go 2 (pc' := 36) (L' := [.ref a0, .int x1]) (st' := [.int (1 : Int32), .int x1, .null]) rfl) ?_
          exact rn_z rfl rfl
        · refine Eq.trans (rn_go 2 (pc' := 36) (L' := [.ref a0, .int x1]) (st' := [.int (1 : Int32), .int x1, .ref b_8]) rfl) ?_
          refine Eq.trans (rn_wB (L' := [.ref a0, .int x1]) rfl rfl) ?_
          refine eS_c (fun s_9 => ?_)
          refine Eq.trans (rn_go 1 (pc' := 38) (L' := [.ref a0, .int x1]) (st' := [.ref a0]) rfl) ?_
          refine Eq.trans (rn_gA (L' := [.ref a0, .int x1]) rfl rfl rfl rfl) ?_
          refine eA_c ?_ (fun b_10 => ?_)
          · refine Eq.trans (rn_go 1 (pc' := 42) (L' := [.ref a0, .int x1]) (st' := [.int (0 : Int32), .null]) rfl) ?_
            exact rn_z rfl rfl
          · refine Eq.trans (rn_go 1 (pc' := 42) (L' := [.ref a0, .int x1]) (st' := [.int (0 : Int32), .ref b_10]) rfl) ?_
            refine Eq.trans (rn_aI (L' := [.ref a0, .int x1]) rfl rfl) ?_
            refine eI_c (fun x_11 => ?_)
            exact rn_retI rfl rfl rfl
      · refine Eq.trans (rn_go 1 (pc' := 27) (L' := [.ref a0, .int x1]) (st' := [.int x1, .ref b_6, .int (0 : Int32), .null]) rfl) ?_
        refine Eq.trans (rn_sta (L' := [.ref a0, .int x1]) (as := [.null, .int (0 : Int32), .ref b_6, .int x1]) (rest := []) rfl rfl rfl rfl rfl (Nat.le_of_ble_eq_true rfl) (by decide) rfl) ?_
        refine Eq.trans (cW_V rfl rfl) ?_
        refine cV_c (fun s_12 => ?_) (xh_nil rfl)
        refine Eq.trans (rn_go 1 (pc' := 31) (L' := [.ref a0, .int x1]) (st' := [.ref a0]) rfl) ?_
        refine Eq.trans (rn_gA (L' := [.ref a0, .int x1]) rfl rfl rfl rfl) ?_
        refine eA_c ?_ (fun b_13 => ?_)
        · refine Eq.trans (rn_go 2 (pc' := 36) (L' := [.ref a0, .int x1]) (st' := [.int (1 : Int32), .int x1, .null]) rfl) ?_
          exact rn_z rfl rfl
        · refine Eq.trans (rn_go 2 (pc' := 36) (L' := [.ref a0, .int x1]) (st' := [.int (1 : Int32), .int x1, .ref b_13]) rfl) ?_
          refine Eq.trans (rn_wB (L' := [.ref a0, .int x1]) rfl rfl) ?_
          refine eS_c (fun s_14 => ?_)
          refine Eq.trans (rn_go 1 (pc' := 38) (L' := [.ref a0, .int x1]) (st' := [.ref a0]) rfl) ?_
          refine Eq.trans (rn_gA (L' := [.ref a0, .int x1]) rfl rfl rfl rfl) ?_
          refine eA_c ?_ (fun b_15 => ?_)
          · refine Eq.trans (rn_go 1 (pc' := 42) (L' := [.ref a0, .int x1]) (st' := [.int (0 : Int32), .null]) rfl) ?_
            exact rn_z rfl rfl
          · refine Eq.trans (rn_go 1 (pc' := 42) (L' := [.ref a0, .int x1]) (st' := [.int (0 : Int32), .ref b_15]) rfl) ?_
            refine Eq.trans (rn_aI (L' := [.ref a0, .int x1]) rfl rfl) ?_
            refine eI_c (fun x_16 => ?_)
            exact rn_retI rfl rfl rfl
    · refine Eq.trans (rn_go 2 (pc' := 23) (L' := [.ref a0, .int x1]) (st' := [.ref a0, .int (0 : Int32), .ref b_5]) rfl) ?_
      refine Eq.trans (rn_gA (L' := [.ref a0, .int x1]) rfl rfl rfl rfl) ?_
      refine eA_c ?_ (fun b_17 => ?_)
      · refine Eq.trans (rn_go 1 (pc' := 27) (L' := [.ref a0, .int x1]) (st' := [.int x1, .null, .int (0 : Int32), .ref b_5]) rfl) ?_
        refine Eq.trans (rn_sta (L' := [.ref a0, .int x1]) (as := [.ref b_5, .int (0 : Int32), .null, .int x1]) (rest := []) rfl rfl rfl rfl rfl (Nat.le_of_ble_eq_true rfl) (by decide) rfl) ?_
        refine Eq.trans (cW_V rfl rfl) ?_
        refine cV_c (fun s_18 => ?_) (xh_nil rfl)
        refine Eq.trans (rn_go 1 (pc' := 31) (L' := [.ref a0, .int x1]) (st' := [.ref a0]) rfl) ?_
        refine Eq.trans (rn_gA (L' := [.ref a0, .int x1]) rfl rfl rfl rfl) ?_
        refine eA_c ?_ (fun b_19 => ?_)
        · refine Eq.trans (rn_go 2 (pc' := 36) (L' := [.ref a0, .int x1]) (st' := [.int (1 : Int32), .int x1, .null]) rfl) ?_
          exact rn_z rfl rfl
        · refine Eq.trans (rn_go 2 (pc' := 36) (L' := [.ref a0, .int x1]) (st' := [.int (1 : Int32), .int x1, .ref b_19]) rfl) ?_
          refine Eq.trans (rn_wB (L' := [.ref a0, .int x1]) rfl rfl) ?_
          refine eS_c (fun s_20 => ?_)
          refine Eq.trans (rn_go 1 (pc' := 38) (L' := [.ref a0, .int x1]) (st' := [.ref a0]) rfl) ?_
          refine Eq.trans (rn_gA (L' := [.ref a0, .int x1]) rfl rfl rfl rfl) ?_
          refine eA_c ?_ (fun b_21 => ?_)
          · refine Eq.trans (rn_go 1 (pc' := 42) (L' := [.ref a0, .int x1]) (st' := [.int (0 : Int32), .null]) rfl) ?_
            exact rn_z rfl rfl
          · refine Eq.trans (rn_go 1 (pc' := 42) (L' := [.ref a0, .int x1]) (st' := [.int (0 : Int32), .ref b_21]) rfl) ?_
            refine Eq.trans (rn_aI (L' := [.ref a0, .int x1]) rfl rfl) ?_
            refine eI_c (fun x_22 => ?_)
            exact rn_retI rfl rfl rfl
      · refine Eq.trans (rn_go 1 (pc' := 27) (L' := [.ref a0, .int x1]) (st' := [.int x1, .ref b_17, .int (0 : Int32), .ref b_5]) rfl) ?_
        refine Eq.trans (rn_sta (L' := [.ref a0, .int x1]) (as := [.ref b_5, .int (0 : Int32), .ref b_17, .int x1]) (rest := []) rfl rfl rfl rfl rfl (Nat.le_of_ble_eq_true rfl) (by decide) rfl) ?_
        refine Eq.trans (cW_V rfl rfl) ?_
        refine cV_c (fun s_23 => ?_) (xh_nil rfl)
        refine Eq.trans (rn_go 1 (pc' := 31) (L' := [.ref a0, .int x1]) (st' := [.ref a0]) rfl) ?_
        refine Eq.trans (rn_gA (L' := [.ref a0, .int x1]) rfl rfl rfl rfl) ?_
        refine eA_c ?_ (fun b_24 => ?_)
        · refine Eq.trans (rn_go 2 (pc' := 36) (L' := [.ref a0, .int x1]) (st' := [.int (1 : Int32), .int x1, .null]) rfl) ?_
          exact rn_z rfl rfl
        · refine Eq.trans (rn_go 2 (pc' := 36) (L' := [.ref a0, .int x1]) (st' := [.int (1 : Int32), .int x1, .ref b_24]) rfl) ?_
          refine Eq.trans (rn_wB (L' := [.ref a0, .int x1]) rfl rfl) ?_
          refine eS_c (fun s_25 => ?_)
          refine Eq.trans (rn_go 1 (pc' := 38) (L' := [.ref a0, .int x1]) (st' := [.ref a0]) rfl) ?_
          refine Eq.trans (rn_gA (L' := [.ref a0, .int x1]) rfl rfl rfl rfl) ?_
          refine eA_c ?_ (fun b_26 => ?_)
          · refine Eq.trans (rn_go 1 (pc' := 42) (L' := [.ref a0, .int x1]) (st' := [.int (0 : Int32), .null]) rfl) ?_
            exact rn_z rfl rfl
          · refine Eq.trans (rn_go 1 (pc' := 42) (L' := [.ref a0, .int x1]) (st' := [.int (0 : Int32), .ref b_26]) rfl) ?_
            refine Eq.trans (rn_aI (L' := [.ref a0, .int x1]) rfl rfl) ?_
            refine eI_c (fun x_27 => ?_)
            exact rn_retI rfl rfl rfl
  · refine Eq.trans (rn_go 1 (pc' := 16) (L' := [.ref a0, .int x1]) (st' := [.int (0 : Int32)]) rfl) ?_
    exact rn_retI rfl rfl rfl
theorem in_X13_restoreSnapshot {B : Nat} (a0 : Nat) (x1 : Int32) (s : am_S) : cl_ tb_ct tb_mt B K_X13_restoreSnapshot [.ref a0, .int x1] s = rn_ tb_ct tb_mt B mm_X13_restoreSnapshot 0 [.ref a0, .int x1] [] s := cl_in rfl rfl rfl rfl
theorem dc_X13_restoreSnapshot_0 {B : Nat} (a0 : Nat) (x1 : Int32) (s : am_S) : rn_ tb_ct tb_mt B mm_X13_restoreSnapshot 0 [.ref a0, .int x1] [] s = cI (cl_ tb_ct tb_mt B K_X13_in [.long x1.toInt64, .long (0 : Int64), .long (1 : Int64)] s) (fun x_2 s_1 => eC (am_cls s_1 a0) 11 (cI (cl_ tb_ct tb_mt B K_X13_isThrown [.ref a0, .int x_2, .int (1 : Int32)] s_1) (fun x_4 s_3 => if x_4 = 0 then eA (gA tb_ct s_3 a0 11 3) (none) (fun b_5 => eI (aB s_3 b_5 x1) (fun x_6 => if x_6 = 0 then some (.inl (some (.int (-(1 : Int32)))), s_3) else eA (gA tb_ct s_3 a0 11 2) (eA (gA tb_ct s_3 a0 11 0) (cV (cl_ tb_ct tb_mt B K_X13_copies [.null, .int x1, .null, .int (0 : Int32)] s_3) (fun s_9 => eA (gA tb_ct s_9 a0 11 0) (none) (fun b_10 => eI (aI s_9 b_10 (0 : Int32)) (fun x_11 => some (.inl (some (.int x_11)), s_9)))) xo) (fun b_8 => cV (cl_ tb_ct tb_mt B K_X13_copies [.null, .int x1, .ref b_8, .int (0 : Int32)] s_3) (fun s_12 => eA (gA tb_ct s_12 a0 11 0) (none) (fun b_13 => eI (aI s_12 b_13 (0 : Int32)) (fun x_14 => some (.inl (some (.int x_14)), s_12)))) xo)) (fun b_7 => eA (gA tb_ct s_3 a0 11 0) (cV (cl_ tb_ct tb_mt B K_X13_copies [.ref b_7, .int x1, .null, .int (0 : Int32)] s_3) (fun s_16 => eA (gA tb_ct s_16 a0 11 0) (none) (fun b_17 => eI (aI s_16 b_17 (0 : Int32)) (fun x_18 => some (.inl (some (.int x_18)), s_16)))) xo) (fun b_15 => cV (cl_ tb_ct tb_mt B K_X13_copies [.ref b_7, .int x1, .ref b_15, .int (0 : Int32)] s_3) (fun s_19 => eA (gA tb_ct s_19 a0 11 0) (none) (fun b_20 => eI (aI s_19 b_20 (0 : Int32)) (fun x_21 => some (.inl (some (.int x_21)), s_19)))) xo)))) else some (.inl (some (.int (0 : Int32))), s_3)) xo)) xo := by
  refine Eq.trans (rn_go 5 (pc' := 5) (L' := [.ref a0, .int x1]) (st' := [.long (1 : Int64), .long (0 : Int64), .long x1.toInt64, .ref a0]) rfl) ?_
  refine Eq.trans (rn_sta (L' := [.ref a0, .int x1]) (as := [.long x1.toInt64, .long (0 : Int64), .long (1 : Int64)]) (rest := [.ref a0]) rfl rfl rfl rfl rfl (Nat.le_of_ble_eq_true rfl) (by decide) rfl) ?_
  refine Eq.trans (cW_I rfl rfl rfl) ?_
  refine cI_c (fun x_2 s_1 => ?_) (xh_nil rfl)
  refine Eq.trans (rn_go 1 (pc' := 9) (L' := [.ref a0, .int x1]) (st' := [.int (1 : Int32), .int x_2, .ref a0]) rfl) ?_
  refine Eq.trans (rn_vir (L' := [.ref a0, .int x1]) (as := [.int x_2, .int (1 : Int32)]) (rest := []) rfl rfl rfl rfl rfl (Nat.le_of_ble_eq_true rfl) (by decide) (by decide)) ?_
  refine eC_c ?_
  refine Eq.trans (cW_I rfl rfl rfl) ?_
  refine cI_c (fun x_4 s_3 => ?_) (xh_nil rfl)
  refine Eq.trans (rn_ifeq (L' := [.ref a0, .int x1]) rfl rfl) ?_
  refine if_c ?_ ?_
  · refine Eq.trans (rn_go 1 (pc' := 18) (L' := [.ref a0, .int x1]) (st' := [.ref a0]) rfl) ?_
    refine Eq.trans (rn_gA (L' := [.ref a0, .int x1]) rfl rfl rfl rfl) ?_
    refine eA_c ?_ (fun b_5 => ?_)
    · refine Eq.trans (rn_go 1 (pc' := 22) (L' := [.ref a0, .int x1]) (st' := [.int x1, .null]) rfl) ?_
      exact rn_z rfl rfl
    · refine Eq.trans (rn_go 1 (pc' := 22) (L' := [.ref a0, .int x1]) (st' := [.int x1, .ref b_5]) rfl) ?_
      refine Eq.trans (rn_aB (L' := [.ref a0, .int x1]) rfl rfl) ?_
      refine eI_c (fun x_6 => ?_)
      refine Eq.trans (rn_ifne (L' := [.ref a0, .int x1]) rfl rfl) ?_
      refine if_c ?_ ?_
      · refine Eq.trans (rn_go 1 (pc' := 27) (L' := [.ref a0, .int x1]) (st' := [.int (-(1 : Int32))]) rfl) ?_
        exact rn_retI rfl rfl rfl
      · refine Eq.trans (rn_go 1 (pc' := 29) (L' := [.ref a0, .int x1]) (st' := [.ref a0]) rfl) ?_
        refine Eq.trans (rn_gA (L' := [.ref a0, .int x1]) rfl rfl rfl rfl) ?_
        refine eA_c ?_ (fun b_7 => ?_)
        · refine Eq.trans (rn_go 2 (pc' := 34) (L' := [.ref a0, .int x1]) (st' := [.ref a0, .int x1, .null]) rfl) ?_
          refine Eq.trans (rn_gA (L' := [.ref a0, .int x1]) rfl rfl rfl rfl) ?_
          refine eA_c ?_ (fun b_8 => ?_)
          · refine Eq.trans (rn_go 1 (pc' := 38) (L' := [.ref a0, .int x1]) (st' := [.int (0 : Int32), .null, .int x1, .null]) rfl) ?_
            refine Eq.trans (rn_sta (L' := [.ref a0, .int x1]) (as := [.null, .int x1, .null, .int (0 : Int32)]) (rest := []) rfl rfl rfl rfl rfl (Nat.le_of_ble_eq_true rfl) (by decide) rfl) ?_
            refine Eq.trans (cW_V rfl rfl) ?_
            refine cV_c (fun s_9 => ?_) (xh_nil rfl)
            refine Eq.trans (rn_go 1 (pc' := 42) (L' := [.ref a0, .int x1]) (st' := [.ref a0]) rfl) ?_
            refine Eq.trans (rn_gA (L' := [.ref a0, .int x1]) rfl rfl rfl rfl) ?_
            refine eA_c ?_ (fun b_10 => ?_)
            · refine Eq.trans (rn_go 1 (pc' := 46) (L' := [.ref a0, .int x1]) (st' := [.int (0 : Int32), .null]) rfl) ?_
              exact rn_z rfl rfl
            · refine Eq.trans (rn_go 1 (pc' := 46) (L' := [.ref a0, .int x1]) (st' := [.int (0 : Int32), .ref b_10]) rfl) ?_
              refine Eq.trans (rn_aI (L' := [.ref a0, .int x1]) rfl rfl) ?_
              refine eI_c (fun x_11 => ?_)
              exact rn_retI rfl rfl rfl
          · refine Eq.trans (rn_go 1 (pc' := 38) (L' := [.ref a0, .int x1]) (st' := [.int (0 : Int32), .ref b_8, .int x1, .null]) rfl) ?_
            refine Eq.trans (rn_sta (L' := [.ref a0, .int x1]) (as := [.null, .int x1, .ref b_8, .int (0 : Int32)]) (rest := []) rfl rfl rfl rfl rfl (Nat.le_of_ble_eq_true rfl) (by decide) rfl) ?_
            refine Eq.trans (cW_V rfl rfl) ?_
            refine cV_c (fun s_12 => ?_) (xh_nil rfl)
            refine Eq.trans (rn_go 1 (pc' := 42) (L' := [.ref a0, .int x1]) (st' := [.ref a0]) rfl) ?_
            refine Eq.trans (rn_gA (L' := [.ref a0, .int x1]) rfl rfl rfl rfl) ?_
            refine eA_c ?_ (fun b_13 => ?_)
            · refine Eq.trans (rn_go 1 (pc' := 46) (L' := [.ref a0, .int x1]) (st' := [.int (0 : Int32), .null]) rfl) ?_
              exact rn_z rfl rfl
            · refine Eq.trans (rn_go 1 (pc' := 46) (L' := [.ref a0, .int x1]) (st' := [.int (0 : Int32), .ref b_13]) rfl) ?_
              refine Eq.trans (rn_aI (L' := [.ref a0, .int x1]) rfl rfl) ?_
              refine eI_c (fun x_14 => ?_)
              exact rn_retI rfl rfl rfl
        · refine Eq.trans (rn_go 2 (pc' := 34) (L' := [.ref a0, .int x1]) (st' := [.ref a0, .int x1, .ref b_7]) rfl) ?_
          refine Eq.trans (rn_gA (L' := [.ref a0, .int x1]) rfl rfl rfl rfl) ?_
          refine eA_c ?_ (fun b_15 => ?_)
          · refine Eq.trans (rn_go 1 (pc' := 38) (L' := [.ref a0, .int x1]) (st' := [.int (0 : Int32), .null, .int x1, .ref b_7]) rfl) ?_
            refine Eq.trans (rn_sta (L' := [.ref a0, .int x1]) (as := [.ref b_7, .int x1, .null, .int (0 : Int32)]) (rest := []) rfl rfl rfl rfl rfl (Nat.le_of_ble_eq_true rfl) (by decide) rfl) ?_
            refine Eq.trans (cW_V rfl rfl) ?_
            refine cV_c (fun s_16 => ?_) (xh_nil rfl)
            refine Eq.trans (rn_go 1 (pc' := 42) (L' := [.ref a0, .int x1]) (st' := [.ref a0]) rfl) ?_
            refine Eq.trans (rn_gA (L' := [.ref a0, .int x1]) rfl rfl rfl rfl) ?_
            refine eA_c ?_ (fun b_17 => ?_)
            · refine Eq.trans (rn_go 1 (pc' := 46) (L' := [.ref a0, .int x1]) (st' := [.int (0 : Int32), .null]) rfl) ?_
              exact rn_z rfl rfl
            · refine Eq.trans (rn_go 1 (pc' := 46) (L' := [.ref a0, .int x1]) (st' := [.int (0 : Int32), .ref b_17]) rfl) ?_
              refine Eq.trans (rn_aI (L' := [.ref a0, .int x1]) rfl rfl) ?_
              refine eI_c (fun x_18 => ?_)
              exact rn_retI rfl rfl rfl
          · refine Eq.trans (rn_go 1 (pc' := 38) (L' := [.ref a0, .int x1]) (st' := [.int (0 : Int32), .ref b_15, .int x1, .ref b_7]) rfl) ?_
            refine Eq.trans (rn_sta (L' := [.ref a0, .int x1]) (as := [.ref b_7, .int x1, .ref b_15, .int (0 : Int32)]) (rest := []) rfl rfl rfl rfl rfl (Nat.le_of_ble_eq_true rfl) (by decide) rfl) ?_
            refine Eq.trans (cW_V rfl rfl) ?_
            refine cV_c (fun s_19 => ?_) (xh_nil rfl)
            refine Eq.trans (rn_go 1 (pc' := 42) (L' := [.ref a0, .int x1]) (st' := [.ref a0]) rfl) ?_
            refine Eq.trans (rn_gA (L' := [.ref a0, .int x1]) rfl rfl rfl rfl) ?_
            refine eA_c ?_ (fun b_20 => ?_)
            · refine Eq.trans (rn_go 1 (pc' := 46) (L' := [.ref a0, .int x1]) (st' := [.int (0 : Int32), .null]) rfl) ?_
              exact rn_z rfl rfl
            · refine Eq.trans (rn_go 1 (pc' := 46) (L' := [.ref a0, .int x1]) (st' := [.int (0 : Int32), .ref b_20]) rfl) ?_
              refine Eq.trans (rn_aI (L' := [.ref a0, .int x1]) rfl rfl) ?_
              refine eI_c (fun x_21 => ?_)
              exact rn_retI rfl rfl rfl
  · refine Eq.trans (rn_go 1 (pc' := 16) (L' := [.ref a0, .int x1]) (st' := [.int (0 : Int32)]) rfl) ?_
    exact rn_retI rfl rfl rfl
theorem in_X13_saysNumber_0 {B : Nat} (a0 : Nat) (x1 : Int32) (s : am_S) : cl_ tb_ct tb_mt B K_X13_saysNumber_0 [.ref a0, .int x1] s = rn_ tb_ct tb_mt B mm_X13_saysNumber_0 0 [.ref a0, .int x1, am_un] [] s := cl_in rfl rfl rfl rfl
theorem dc_X13_saysNumber_0_0 {B : Nat} (a0 : Nat) (x1 : Int32) (s : am_S) : rn_ tb_ct tb_mt B mm_X13_saysNumber_0 0 [.ref a0, .int x1, am_un] [] s = if 0 ≤ x1 then rn_ tb_ct tb_mt B mm_X13_saysNumber_0 10 [.ref a0, .int x1, am_un] [] s else eC (am_cls s a0) 11 (cV (cl_ tb_ct tb_mt B K_X13_says [.ref a0, .int (45 : Int32)] s) (fun s_1 => rn_ tb_ct tb_mt B mm_X13_saysNumber_0 10 [.ref a0, .int x1, am_un] [] s_1) xo) := by
  refine Eq.trans (rn_go 1 (pc' := 1) (L' := [.ref a0, .int x1, am_un]) (st' := [.int x1]) rfl) ?_
  refine Eq.trans (rn_ifge (L' := [.ref a0, .int x1, am_un]) rfl rfl) ?_
  refine if_c ?_ ?_
  · rfl
  · refine Eq.trans (rn_go 2 (pc' := 7) (L' := [.ref a0, .int x1, am_un]) (st' := [.int (45 : Int32), .ref a0]) rfl) ?_
    refine Eq.trans (rn_vir (L' := [.ref a0, .int x1, am_un]) (as := [.int (45 : Int32)]) (rest := []) rfl rfl rfl rfl rfl (Nat.le_of_ble_eq_true rfl) (by decide) (by decide)) ?_
    refine eC_c ?_
    refine Eq.trans (cW_V rfl rfl) ?_
    refine cV_c (fun s_1 => ?_) (xh_nil rfl)
    rfl
theorem dc_X13_saysNumber_0_10 {B : Nat} (a0 : Nat) (x1 : Int32) (s : am_S) : rn_ tb_ct tb_mt B mm_X13_saysNumber_0 10 [.ref a0, .int x1, am_un] [] s = if (if 0 ≤ x1 then x1 else 0 - x1) < (10 : Int32) then rn_ tb_ct tb_mt B mm_X13_saysNumber_0 29 [.ref a0, .int x1, .int (if 0 ≤ x1 then x1 else 0 - x1)] [] s else eC (am_cls s a0) 11 (cV (cl_ tb_ct tb_mt B K_X13_saysNumber_1 [.ref a0, .int ((if 0 ≤ x1 then x1 else 0 - x1) / (10 : Int32))] s) (fun s_1 => rn_ tb_ct tb_mt B mm_X13_saysNumber_0 29 [.ref a0, .int x1, .int (if 0 ≤ x1 then x1 else 0 - x1)] [] s_1) xo) := by
  refine Eq.trans (rn_go 1 (pc' := 11) (L' := [.ref a0, .int x1, am_un]) (st' := [.int x1]) rfl) ?_
  refine Eq.trans (rn_abs (L' := [.ref a0, .int x1, am_un]) rfl rfl (Nat.le_of_ble_eq_true rfl)) ?_
  refine Eq.trans (rn_go 3 (pc' := 18) (L' := [.ref a0, .int x1, .int (if 0 ≤ x1 then x1 else 0 - x1)]) (st' := [.int (10 : Int32), .int (if 0 ≤ x1 then x1 else 0 - x1)]) rfl) ?_
  refine Eq.trans (rn_iclt (L' := [.ref a0, .int x1, .int (if 0 ≤ x1 then x1 else 0 - x1)]) rfl rfl) ?_
  refine if_c ?_ ?_
  · rfl
  · refine Eq.trans (rn_go 4 (pc' := 26) (L' := [.ref a0, .int x1, .int (if 0 ≤ x1 then x1 else 0 - x1)]) (st' := [.int ((if 0 ≤ x1 then x1 else 0 - x1) / (10 : Int32)), .ref a0]) rfl) ?_
    refine Eq.trans (rn_vir (L' := [.ref a0, .int x1, .int (if 0 ≤ x1 then x1 else 0 - x1)]) (as := [.int ((if 0 ≤ x1 then x1 else 0 - x1) / (10 : Int32))]) (rest := []) rfl rfl rfl rfl rfl (Nat.le_of_ble_eq_true rfl) (by decide) (by decide)) ?_
    refine eC_c ?_
    refine Eq.trans (cW_V rfl rfl) ?_
    refine cV_c (fun s_1 => ?_) (xh_nil rfl)
    rfl
theorem dc_X13_saysNumber_0_29 {B : Nat} (a0 : Nat) (w1 : Value) (x2 : Int32) (s : am_S) : rn_ tb_ct tb_mt B mm_X13_saysNumber_0 29 [.ref a0, w1, .int x2] [] s = eC (am_cls s a0) 11 (cV (cl_ tb_ct tb_mt B K_X13_says [.ref a0, .int ((48 : Int32) + (x2 - x2 / (10 : Int32) * (10 : Int32)))] s) (fun s_1 => some (.inl none, s_1)) xo) := by
  refine Eq.trans (rn_go 6 (pc' := 37) (L' := [.ref a0, am_un, .int x2]) (st' := [.int ((48 : Int32) + (x2 - x2 / (10 : Int32) * (10 : Int32))), .ref a0]) rfl) ?_
  refine Eq.trans (rn_vir (L' := [.ref a0, am_un, .int x2]) (as := [.int ((48 : Int32) + (x2 - x2 / (10 : Int32) * (10 : Int32)))]) (rest := []) rfl rfl rfl rfl rfl (Nat.le_of_ble_eq_true rfl) (by decide) (by decide)) ?_
  refine eC_c ?_
  refine Eq.trans (cW_V rfl rfl) ?_
  refine cV_c (fun s_1 => ?_) (xh_nil rfl)
  exact rn_retV rfl rfl
theorem in_X13_saysNumber_1 {B : Nat} (a0 : Nat) (x1 : Int32) (s : am_S) : cl_ tb_ct tb_mt B K_X13_saysNumber_1 [.ref a0, .int x1] s = rn_ tb_ct tb_mt B mm_X13_saysNumber_1 0 [.ref a0, .int x1, am_un] [] s := cl_in rfl rfl rfl rfl
theorem dc_X13_saysNumber_1_0 {B : Nat} (a0 : Nat) (x1 : Int32) (s : am_S) : rn_ tb_ct tb_mt B mm_X13_saysNumber_1 0 [.ref a0, .int x1, am_un] [] s = if 0 ≤ x1 then rn_ tb_ct tb_mt B mm_X13_saysNumber_1 10 [.ref a0, .int x1, am_un] [] s else eC (am_cls s a0) 11 (cV (cl_ tb_ct tb_mt B K_X13_says [.ref a0, .int (45 : Int32)] s) (fun s_1 => rn_ tb_ct tb_mt B mm_X13_saysNumber_1 10 [.ref a0, .int x1, am_un] [] s_1) xo) := by
  refine Eq.trans (rn_go 1 (pc' := 1) (L' := [.ref a0, .int x1, am_un]) (st' := [.int x1]) rfl) ?_
  refine Eq.trans (rn_ifge (L' := [.ref a0, .int x1, am_un]) rfl rfl) ?_
  refine if_c ?_ ?_
  · rfl
  · refine Eq.trans (rn_go 2 (pc' := 7) (L' := [.ref a0, .int x1, am_un]) (st' := [.int (45 : Int32), .ref a0]) rfl) ?_
    refine Eq.trans (rn_vir (L' := [.ref a0, .int x1, am_un]) (as := [.int (45 : Int32)]) (rest := []) rfl rfl rfl rfl rfl (Nat.le_of_ble_eq_true rfl) (by decide) (by decide)) ?_
    refine eC_c ?_
    refine Eq.trans (cW_V rfl rfl) ?_
    refine cV_c (fun s_1 => ?_) (xh_nil rfl)
    rfl
theorem dc_X13_saysNumber_1_10 {B : Nat} (a0 : Nat) (x1 : Int32) (s : am_S) : rn_ tb_ct tb_mt B mm_X13_saysNumber_1 10 [.ref a0, .int x1, am_un] [] s = if (if 0 ≤ x1 then x1 else 0 - x1) < (10 : Int32) then rn_ tb_ct tb_mt B mm_X13_saysNumber_1 29 [.ref a0, .int x1, .int (if 0 ≤ x1 then x1 else 0 - x1)] [] s else eC (am_cls s a0) 11 (cV (cl_ tb_ct tb_mt B K_X13_saysNumber_2 [.ref a0, .int ((if 0 ≤ x1 then x1 else 0 - x1) / (10 : Int32))] s) (fun s_1 => rn_ tb_ct tb_mt B mm_X13_saysNumber_1 29 [.ref a0, .int x1, .int (if 0 ≤ x1 then x1 else 0 - x1)] [] s_1) xo) := by
  refine Eq.trans (rn_go 1 (pc' := 11) (L' := [.ref a0, .int x1, am_un]) (st' := [.int x1]) rfl) ?_
  refine Eq.trans (rn_abs (L' := [.ref a0, .int x1, am_un]) rfl rfl (Nat.le_of_ble_eq_true rfl)) ?_
  refine Eq.trans (rn_go 3 (pc' := 18) (L' := [.ref a0, .int x1, .int (if 0 ≤ x1 then x1 else 0 - x1)]) (st' := [.int (10 : Int32), .int (if 0 ≤ x1 then x1 else 0 - x1)]) rfl) ?_
  refine Eq.trans (rn_iclt (L' := [.ref a0, .int x1, .int (if 0 ≤ x1 then x1 else 0 - x1)]) rfl rfl) ?_
  refine if_c ?_ ?_
  · rfl
  · refine Eq.trans (rn_go 4 (pc' := 26) (L' := [.ref a0, .int x1, .int (if 0 ≤ x1 then x1 else 0 - x1)]) (st' := [.int ((if 0 ≤ x1 then x1 else 0 - x1) / (10 : Int32)), .ref a0]) rfl) ?_
    refine Eq.trans (rn_vir (L' := [.ref a0, .int x1, .int (if 0 ≤ x1 then x1 else 0 - x1)]) (as := [.int ((if 0 ≤ x1 then x1 else 0 - x1) / (10 : Int32))]) (rest := []) rfl rfl rfl rfl rfl (Nat.le_of_ble_eq_true rfl) (by decide) (by decide)) ?_
    refine eC_c ?_
    refine Eq.trans (cW_V rfl rfl) ?_
    refine cV_c (fun s_1 => ?_) (xh_nil rfl)
    rfl
theorem dc_X13_saysNumber_1_29 {B : Nat} (a0 : Nat) (w1 : Value) (x2 : Int32) (s : am_S) : rn_ tb_ct tb_mt B mm_X13_saysNumber_1 29 [.ref a0, w1, .int x2] [] s = eC (am_cls s a0) 11 (cV (cl_ tb_ct tb_mt B K_X13_says [.ref a0, .int ((48 : Int32) + (x2 - x2 / (10 : Int32) * (10 : Int32)))] s) (fun s_1 => some (.inl none, s_1)) xo) := by
  refine Eq.trans (rn_go 6 (pc' := 37) (L' := [.ref a0, am_un, .int x2]) (st' := [.int ((48 : Int32) + (x2 - x2 / (10 : Int32) * (10 : Int32))), .ref a0]) rfl) ?_
  refine Eq.trans (rn_vir (L' := [.ref a0, am_un, .int x2]) (as := [.int ((48 : Int32) + (x2 - x2 / (10 : Int32) * (10 : Int32)))]) (rest := []) rfl rfl rfl rfl rfl (Nat.le_of_ble_eq_true rfl) (by decide) (by decide)) ?_
  refine eC_c ?_
  refine Eq.trans (cW_V rfl rfl) ?_
  refine cV_c (fun s_1 => ?_) (xh_nil rfl)
  exact rn_retV rfl rfl
theorem in_X13_saysNumber_2 {B : Nat} (a0 : Nat) (x1 : Int32) (s : am_S) : cl_ tb_ct tb_mt B K_X13_saysNumber_2 [.ref a0, .int x1] s = rn_ tb_ct tb_mt B mm_X13_saysNumber_2 0 [.ref a0, .int x1, am_un] [] s := cl_in rfl rfl rfl rfl
theorem dc_X13_saysNumber_2_0 {B : Nat} (a0 : Nat) (x1 : Int32) (s : am_S) : rn_ tb_ct tb_mt B mm_X13_saysNumber_2 0 [.ref a0, .int x1, am_un] [] s = if 0 ≤ x1 then rn_ tb_ct tb_mt B mm_X13_saysNumber_2 10 [.ref a0, .int x1, am_un] [] s else eC (am_cls s a0) 11 (cV (cl_ tb_ct tb_mt B K_X13_says [.ref a0, .int (45 : Int32)] s) (fun s_1 => rn_ tb_ct tb_mt B mm_X13_saysNumber_2 10 [.ref a0, .int x1, am_un] [] s_1) xo) := by
  refine Eq.trans (rn_go 1 (pc' := 1) (L' := [.ref a0, .int x1, am_un]) (st' := [.int x1]) rfl) ?_
  refine Eq.trans (rn_ifge (L' := [.ref a0, .int x1, am_un]) rfl rfl) ?_
  refine if_c ?_ ?_
  · rfl
  · refine Eq.trans (rn_go 2 (pc' := 7) (L' := [.ref a0, .int x1, am_un]) (st' := [.int (45 : Int32), .ref a0]) rfl) ?_
    refine Eq.trans (rn_vir (L' := [.ref a0, .int x1, am_un]) (as := [.int (45 : Int32)]) (rest := []) rfl rfl rfl rfl rfl (Nat.le_of_ble_eq_true rfl) (by decide) (by decide)) ?_
    refine eC_c ?_
    refine Eq.trans (cW_V rfl rfl) ?_
    refine cV_c (fun s_1 => ?_) (xh_nil rfl)
    rfl
theorem dc_X13_saysNumber_2_10 {B : Nat} (a0 : Nat) (x1 : Int32) (s : am_S) : rn_ tb_ct tb_mt B mm_X13_saysNumber_2 10 [.ref a0, .int x1, am_un] [] s = if (if 0 ≤ x1 then x1 else 0 - x1) < (10 : Int32) then rn_ tb_ct tb_mt B mm_X13_saysNumber_2 29 [.ref a0, .int x1, .int (if 0 ≤ x1 then x1 else 0 - x1)] [] s else eC (am_cls s a0) 11 (cV (cl_ tb_ct tb_mt B K_X13_saysNumber_3 [.ref a0, .int ((if 0 ≤ x1 then x1 else 0 - x1) / (10 : Int32))] s) (fun s_1 => rn_ tb_ct tb_mt B mm_X13_saysNumber_2 29 [.ref a0, .int x1, .int (if 0 ≤ x1 then x1 else 0 - x1)] [] s_1) xo) := by
  refine Eq.trans (rn_go 1 (pc' := 11) (L' := [.ref a0, .int x1, am_un]) (st' := [.int x1]) rfl) ?_
  refine Eq.trans (rn_abs (L' := [.ref a0, .int x1, am_un]) rfl rfl (Nat.le_of_ble_eq_true rfl)) ?_
  refine Eq.trans (rn_go 3 (pc' := 18) (L' := [.ref a0, .int x1, .int (if 0 ≤ x1 then x1 else 0 - x1)]) (st' := [.int (10 : Int32), .int (if 0 ≤ x1 then x1 else 0 - x1)]) rfl) ?_
  refine Eq.trans (rn_iclt (L' := [.ref a0, .int x1, .int (if 0 ≤ x1 then x1 else 0 - x1)]) rfl rfl) ?_
  refine if_c ?_ ?_
  · rfl
  · refine Eq.trans (rn_go 4 (pc' := 26) (L' := [.ref a0, .int x1, .int (if 0 ≤ x1 then x1 else 0 - x1)]) (st' := [.int ((if 0 ≤ x1 then x1 else 0 - x1) / (10 : Int32)), .ref a0]) rfl) ?_
    refine Eq.trans (rn_vir (L' := [.ref a0, .int x1, .int (if 0 ≤ x1 then x1 else 0 - x1)]) (as := [.int ((if 0 ≤ x1 then x1 else 0 - x1) / (10 : Int32))]) (rest := []) rfl rfl rfl rfl rfl (Nat.le_of_ble_eq_true rfl) (by decide) (by decide)) ?_
    refine eC_c ?_
    refine Eq.trans (cW_V rfl rfl) ?_
    refine cV_c (fun s_1 => ?_) (xh_nil rfl)
    rfl
theorem dc_X13_saysNumber_2_29 {B : Nat} (a0 : Nat) (w1 : Value) (x2 : Int32) (s : am_S) : rn_ tb_ct tb_mt B mm_X13_saysNumber_2 29 [.ref a0, w1, .int x2] [] s = eC (am_cls s a0) 11 (cV (cl_ tb_ct tb_mt B K_X13_says [.ref a0, .int ((48 : Int32) + (x2 - x2 / (10 : Int32) * (10 : Int32)))] s) (fun s_1 => some (.inl none, s_1)) xo) := by
  refine Eq.trans (rn_go 6 (pc' := 37) (L' := [.ref a0, am_un, .int x2]) (st' := [.int ((48 : Int32) + (x2 - x2 / (10 : Int32) * (10 : Int32))), .ref a0]) rfl) ?_
  refine Eq.trans (rn_vir (L' := [.ref a0, am_un, .int x2]) (as := [.int ((48 : Int32) + (x2 - x2 / (10 : Int32) * (10 : Int32)))]) (rest := []) rfl rfl rfl rfl rfl (Nat.le_of_ble_eq_true rfl) (by decide) (by decide)) ?_
  refine eC_c ?_
  refine Eq.trans (cW_V rfl rfl) ?_
  refine cV_c (fun s_1 => ?_) (xh_nil rfl)
  exact rn_retV rfl rfl
theorem in_X13_saysNumber_3 {B : Nat} (a0 : Nat) (x1 : Int32) (s : am_S) : cl_ tb_ct tb_mt B K_X13_saysNumber_3 [.ref a0, .int x1] s = rn_ tb_ct tb_mt B mm_X13_saysNumber_3 0 [.ref a0, .int x1, am_un] [] s := cl_in rfl rfl rfl rfl
theorem dc_X13_saysNumber_3_0 {B : Nat} (a0 : Nat) (x1 : Int32) (s : am_S) : rn_ tb_ct tb_mt B mm_X13_saysNumber_3 0 [.ref a0, .int x1, am_un] [] s = if 0 ≤ x1 then rn_ tb_ct tb_mt B mm_X13_saysNumber_3 10 [.ref a0, .int x1, am_un] [] s else eC (am_cls s a0) 11 (cV (cl_ tb_ct tb_mt B K_X13_says [.ref a0, .int (45 : Int32)] s) (fun s_1 => rn_ tb_ct tb_mt B mm_X13_saysNumber_3 10 [.ref a0, .int x1, am_un] [] s_1) xo) := by
  refine Eq.trans (rn_go 1 (pc' := 1) (L' := [.ref a0, .int x1, am_un]) (st' := [.int x1]) rfl) ?_
  refine Eq.trans (rn_ifge (L' := [.ref a0, .int x1, am_un]) rfl rfl) ?_
  refine if_c ?_ ?_
  · rfl
  · refine Eq.trans (rn_go 2 (pc' := 7) (L' := [.ref a0, .int x1, am_un]) (st' := [.int (45 : Int32), .ref a0]) rfl) ?_
    refine Eq.trans (rn_vir (L' := [.ref a0, .int x1, am_un]) (as := [.int (45 : Int32)]) (rest := []) rfl rfl rfl rfl rfl (Nat.le_of_ble_eq_true rfl) (by decide) (by decide)) ?_
    refine eC_c ?_
    refine Eq.trans (cW_V rfl rfl) ?_
    refine cV_c (fun s_1 => ?_) (xh_nil rfl)
    rfl
theorem dc_X13_saysNumber_3_10 {B : Nat} (a0 : Nat) (x1 : Int32) (s : am_S) : rn_ tb_ct tb_mt B mm_X13_saysNumber_3 10 [.ref a0, .int x1, am_un] [] s = if (if 0 ≤ x1 then x1 else 0 - x1) < (10 : Int32) then rn_ tb_ct tb_mt B mm_X13_saysNumber_3 29 [.ref a0, .int x1, .int (if 0 ≤ x1 then x1 else 0 - x1)] [] s else eC (am_cls s a0) 11 (cV (cl_ tb_ct tb_mt B K_X13_saysNumber_4 [.ref a0, .int ((if 0 ≤ x1 then x1 else 0 - x1) / (10 : Int32))] s) (fun s_1 => rn_ tb_ct tb_mt B mm_X13_saysNumber_3 29 [.ref a0, .int x1, .int (if 0 ≤ x1 then x1 else 0 - x1)] [] s_1) xo) := by
  refine Eq.trans (rn_go 1 (pc' := 11) (L' := [.ref a0, .int x1, am_un]) (st' := [.int x1]) rfl) ?_
  refine Eq.trans (rn_abs (L' := [.ref a0, .int x1, am_un]) rfl rfl (Nat.le_of_ble_eq_true rfl)) ?_
  refine Eq.trans (rn_go 3 (pc' := 18) (L' := [.ref a0, .int x1, .int (if 0 ≤ x1 then x1 else 0 - x1)]) (st' := [.int (10 : Int32), .int (if 0 ≤ x1 then x1 else 0 - x1)]) rfl) ?_
  refine Eq.trans (rn_iclt (L' := [.ref a0, .int x1, .int (if 0 ≤ x1 then x1 else 0 - x1)]) rfl rfl) ?_
  refine if_c ?_ ?_
  · rfl
  · refine Eq.trans (rn_go 4 (pc' := 26) (L' := [.ref a0, .int x1, .int (if 0 ≤ x1 then x1 else 0 - x1)]) (st' := [.int ((if 0 ≤ x1 then x1 else 0 - x1) / (10 : Int32)), .ref a0]) rfl) ?_
    refine Eq.trans (rn_vir (L' := [.ref a0, .int x1, .int (if 0 ≤ x1 then x1 else 0 - x1)]) (as := [.int ((if 0 ≤ x1 then x1 else 0 - x1) / (10 : Int32))]) (rest := []) rfl rfl rfl rfl rfl (Nat.le_of_ble_eq_true rfl) (by decide) (by decide)) ?_
    refine eC_c ?_
    refine Eq.trans (cW_V rfl rfl) ?_
    refine cV_c (fun s_1 => ?_) (xh_nil rfl)
    rfl
theorem dc_X13_saysNumber_3_29 {B : Nat} (a0 : Nat) (w1 : Value) (x2 : Int32) (s : am_S) : rn_ tb_ct tb_mt B mm_X13_saysNumber_3 29 [.ref a0, w1, .int x2] [] s = eC (am_cls s a0) 11 (cV (cl_ tb_ct tb_mt B K_X13_says [.ref a0, .int ((48 : Int32) + (x2 - x2 / (10 : Int32) * (10 : Int32)))] s) (fun s_1 => some (.inl none, s_1)) xo) := by
  refine Eq.trans (rn_go 6 (pc' := 37) (L' := [.ref a0, am_un, .int x2]) (st' := [.int ((48 : Int32) + (x2 - x2 / (10 : Int32) * (10 : Int32))), .ref a0]) rfl) ?_
  refine Eq.trans (rn_vir (L' := [.ref a0, am_un, .int x2]) (as := [.int ((48 : Int32) + (x2 - x2 / (10 : Int32) * (10 : Int32)))]) (rest := []) rfl rfl rfl rfl rfl (Nat.le_of_ble_eq_true rfl) (by decide) (by decide)) ?_
  refine eC_c ?_
  refine Eq.trans (cW_V rfl rfl) ?_
  refine cV_c (fun s_1 => ?_) (xh_nil rfl)
  exact rn_retV rfl rfl
theorem in_X13_saysNumber_4 {B : Nat} (a0 : Nat) (x1 : Int32) (s : am_S) : cl_ tb_ct tb_mt B K_X13_saysNumber_4 [.ref a0, .int x1] s = rn_ tb_ct tb_mt B mm_X13_saysNumber_4 0 [.ref a0, .int x1, am_un] [] s := cl_in rfl rfl rfl rfl
theorem dc_X13_saysNumber_4_0 {B : Nat} (a0 : Nat) (x1 : Int32) (s : am_S) : rn_ tb_ct tb_mt B mm_X13_saysNumber_4 0 [.ref a0, .int x1, am_un] [] s = if 0 ≤ x1 then rn_ tb_ct tb_mt B mm_X13_saysNumber_4 10 [.ref a0, .int x1, am_un] [] s else eC (am_cls s a0) 11 (cV (cl_ tb_ct tb_mt B K_X13_says [.ref a0, .int (45 : Int32)] s) (fun s_1 => rn_ tb_ct tb_mt B mm_X13_saysNumber_4 10 [.ref a0, .int x1, am_un] [] s_1) xo) := by
  refine Eq.trans (rn_go 1 (pc' := 1) (L' := [.ref a0, .int x1, am_un]) (st' := [.int x1]) rfl) ?_
  refine Eq.trans (rn_ifge (L' := [.ref a0, .int x1, am_un]) rfl rfl) ?_
  refine if_c ?_ ?_
  · rfl
  · refine Eq.trans (rn_go 2 (pc' := 7) (L' := [.ref a0, .int x1, am_un]) (st' := [.int (45 : Int32), .ref a0]) rfl) ?_
    refine Eq.trans (rn_vir (L' := [.ref a0, .int x1, am_un]) (as := [.int (45 : Int32)]) (rest := []) rfl rfl rfl rfl rfl (Nat.le_of_ble_eq_true rfl) (by decide) (by decide)) ?_
    refine eC_c ?_
    refine Eq.trans (cW_V rfl rfl) ?_
    refine cV_c (fun s_1 => ?_) (xh_nil rfl)
    rfl
theorem dc_X13_saysNumber_4_10 {B : Nat} (a0 : Nat) (x1 : Int32) (s : am_S) : rn_ tb_ct tb_mt B mm_X13_saysNumber_4 10 [.ref a0, .int x1, am_un] [] s = if (if 0 ≤ x1 then x1 else 0 - x1) < (10 : Int32) then rn_ tb_ct tb_mt B mm_X13_saysNumber_4 29 [.ref a0, .int x1, .int (if 0 ≤ x1 then x1 else 0 - x1)] [] s else eC (am_cls s a0) 11 (cV (cl_ tb_ct tb_mt B K_X13_saysNumber_5 [.ref a0, .int ((if 0 ≤ x1 then x1 else 0 - x1) / (10 : Int32))] s) (fun s_1 => rn_ tb_ct tb_mt B mm_X13_saysNumber_4 29 [.ref a0, .int x1, .int (if 0 ≤ x1 then x1 else 0 - x1)] [] s_1) xo) := by
  refine Eq.trans (rn_go 1 (pc' := 11) (L' := [.ref a0, .int x1, am_un]) (st' := [.int x1]) rfl) ?_
  refine Eq.trans (rn_abs (L' := [.ref a0, .int x1, am_un]) rfl rfl (Nat.le_of_ble_eq_true rfl)) ?_
  refine Eq.trans (rn_go 3 (pc' := 18) (L' := [.ref a0, .int x1, .int (if 0 ≤ x1 then x1 else 0 - x1)]) (st' := [.int (10 : Int32), .int (if 0 ≤ x1 then x1 else 0 - x1)]) rfl) ?_
  refine Eq.trans (rn_iclt (L' := [.ref a0, .int x1, .int (if 0 ≤ x1 then x1 else 0 - x1)]) rfl rfl) ?_
  refine if_c ?_ ?_
  · rfl
  · refine Eq.trans (rn_go 4 (pc' := 26) (L' := [.ref a0, .int x1, .int (if 0 ≤ x1 then x1 else 0 - x1)]) (st' := [.int ((if 0 ≤ x1 then x1 else 0 - x1) / (10 : Int32)), .ref a0]) rfl) ?_
    refine Eq.trans (rn_vir (L' := [.ref a0, .int x1, .int (if 0 ≤ x1 then x1 else 0 - x1)]) (as := [.int ((if 0 ≤ x1 then x1 else 0 - x1) / (10 : Int32))]) (rest := []) rfl rfl rfl rfl rfl (Nat.le_of_ble_eq_true rfl) (by decide) (by decide)) ?_
    refine eC_c ?_
    refine Eq.trans (cW_V rfl rfl) ?_
    refine cV_c (fun s_1 => ?_) (xh_nil rfl)
    rfl
theorem dc_X13_saysNumber_4_29 {B : Nat} (a0 : Nat) (w1 : Value) (x2 : Int32) (s : am_S) : rn_ tb_ct tb_mt B mm_X13_saysNumber_4 29 [.ref a0, w1, .int x2] [] s = eC (am_cls s a0) 11 (cV (cl_ tb_ct tb_mt B K_X13_says [.ref a0, .int ((48 : Int32) + (x2 - x2 / (10 : Int32) * (10 : Int32)))] s) (fun s_1 => some (.inl none, s_1)) xo) := by
  refine Eq.trans (rn_go 6 (pc' := 37) (L' := [.ref a0, am_un, .int x2]) (st' := [.int ((48 : Int32) + (x2 - x2 / (10 : Int32) * (10 : Int32))), .ref a0]) rfl) ?_
  refine Eq.trans (rn_vir (L' := [.ref a0, am_un, .int x2]) (as := [.int ((48 : Int32) + (x2 - x2 / (10 : Int32) * (10 : Int32)))]) (rest := []) rfl rfl rfl rfl rfl (Nat.le_of_ble_eq_true rfl) (by decide) (by decide)) ?_
  refine eC_c ?_
  refine Eq.trans (cW_V rfl rfl) ?_
  refine cV_c (fun s_1 => ?_) (xh_nil rfl)
  exact rn_retV rfl rfl
theorem in_X13_saysNumber_5 {B : Nat} (a0 : Nat) (x1 : Int32) (s : am_S) : cl_ tb_ct tb_mt B K_X13_saysNumber_5 [.ref a0, .int x1] s = rn_ tb_ct tb_mt B mm_X13_saysNumber_5 0 [.ref a0, .int x1, am_un] [] s := cl_in rfl rfl rfl rfl
theorem dc_X13_saysNumber_5_0 {B : Nat} (a0 : Nat) (x1 : Int32) (s : am_S) : rn_ tb_ct tb_mt B mm_X13_saysNumber_5 0 [.ref a0, .int x1, am_un] [] s = if 0 ≤ x1 then rn_ tb_ct tb_mt B mm_X13_saysNumber_5 10 [.ref a0, .int x1, am_un] [] s else eC (am_cls s a0) 11 (cV (cl_ tb_ct tb_mt B K_X13_says [.ref a0, .int (45 : Int32)] s) (fun s_1 => rn_ tb_ct tb_mt B mm_X13_saysNumber_5 10 [.ref a0, .int x1, am_un] [] s_1) xo) := by
  refine Eq.trans (rn_go 1 (pc' := 1) (L' := [.ref a0, .int x1, am_un]) (st' := [.int x1]) rfl) ?_
  refine Eq.trans (rn_ifge (L' := [.ref a0, .int x1, am_un]) rfl rfl) ?_
  refine if_c ?_ ?_
  · rfl
  · refine Eq.trans (rn_go 2 (pc' := 7) (L' := [.ref a0, .int x1, am_un]) (st' := [.int (45 : Int32), .ref a0]) rfl) ?_
    refine Eq.trans (rn_vir (L' := [.ref a0, .int x1, am_un]) (as := [.int (45 : Int32)]) (rest := []) rfl rfl rfl rfl rfl (Nat.le_of_ble_eq_true rfl) (by decide) (by decide)) ?_
    refine eC_c ?_
    refine Eq.trans (cW_V rfl rfl) ?_
    refine cV_c (fun s_1 => ?_) (xh_nil rfl)
    rfl
theorem dc_X13_saysNumber_5_10 {B : Nat} (a0 : Nat) (x1 : Int32) (s : am_S) : rn_ tb_ct tb_mt B mm_X13_saysNumber_5 10 [.ref a0, .int x1, am_un] [] s = if (if 0 ≤ x1 then x1 else 0 - x1) < (10 : Int32) then rn_ tb_ct tb_mt B mm_X13_saysNumber_5 29 [.ref a0, .int x1, .int (if 0 ≤ x1 then x1 else 0 - x1)] [] s else eC (am_cls s a0) 11 (cV (cl_ tb_ct tb_mt B K_X13_saysNumber_6 [.ref a0, .int ((if 0 ≤ x1 then x1 else 0 - x1) / (10 : Int32))] s) (fun s_1 => rn_ tb_ct tb_mt B mm_X13_saysNumber_5 29 [.ref a0, .int x1, .int (if 0 ≤ x1 then x1 else 0 - x1)] [] s_1) xo) := by
  refine Eq.trans (rn_go 1 (pc' := 11) (L' := [.ref a0, .int x1, am_un]) (st' := [.int x1]) rfl) ?_
  refine Eq.trans (rn_abs (L' := [.ref a0, .int x1, am_un]) rfl rfl (Nat.le_of_ble_eq_true rfl)) ?_
  refine Eq.trans (rn_go 3 (pc' := 18) (L' := [.ref a0, .int x1, .int (if 0 ≤ x1 then x1 else 0 - x1)]) (st' := [.int (10 : Int32), .int (if 0 ≤ x1 then x1 else 0 - x1)]) rfl) ?_
  refine Eq.trans (rn_iclt (L' := [.ref a0, .int x1, .int (if 0 ≤ x1 then x1 else 0 - x1)]) rfl rfl) ?_
  refine if_c ?_ ?_
  · rfl
  · refine Eq.trans (rn_go 4 (pc' := 26) (L' := [.ref a0, .int x1, .int (if 0 ≤ x1 then x1 else 0 - x1)]) (st' := [.int ((if 0 ≤ x1 then x1 else 0 - x1) / (10 : Int32)), .ref a0]) rfl) ?_
    refine Eq.trans (rn_vir (L' := [.ref a0, .int x1, .int (if 0 ≤ x1 then x1 else 0 - x1)]) (as := [.int ((if 0 ≤ x1 then x1 else 0 - x1) / (10 : Int32))]) (rest := []) rfl rfl rfl rfl rfl (Nat.le_of_ble_eq_true rfl) (by decide) (by decide)) ?_
    refine eC_c ?_
    refine Eq.trans (cW_V rfl rfl) ?_
    refine cV_c (fun s_1 => ?_) (xh_nil rfl)
    rfl
theorem dc_X13_saysNumber_5_29 {B : Nat} (a0 : Nat) (w1 : Value) (x2 : Int32) (s : am_S) : rn_ tb_ct tb_mt B mm_X13_saysNumber_5 29 [.ref a0, w1, .int x2] [] s = eC (am_cls s a0) 11 (cV (cl_ tb_ct tb_mt B K_X13_says [.ref a0, .int ((48 : Int32) + (x2 - x2 / (10 : Int32) * (10 : Int32)))] s) (fun s_1 => some (.inl none, s_1)) xo) := by
  refine Eq.trans (rn_go 6 (pc' := 37) (L' := [.ref a0, am_un, .int x2]) (st' := [.int ((48 : Int32) + (x2 - x2 / (10 : Int32) * (10 : Int32))), .ref a0]) rfl) ?_
  refine Eq.trans (rn_vir (L' := [.ref a0, am_un, .int x2]) (as := [.int ((48 : Int32) + (x2 - x2 / (10 : Int32) * (10 : Int32)))]) (rest := []) rfl rfl rfl rfl rfl (Nat.le_of_ble_eq_true rfl) (by decide) (by decide)) ?_
  refine eC_c ?_
  refine Eq.trans (cW_V rfl rfl) ?_
  refine cV_c (fun s_1 => ?_) (xh_nil rfl)
  exact rn_retV rfl rfl
theorem in_X13_saysNumber_6 {B : Nat} (a0 : Nat) (x1 : Int32) (s : am_S) : cl_ tb_ct tb_mt B K_X13_saysNumber_6 [.ref a0, .int x1] s = rn_ tb_ct tb_mt B mm_X13_saysNumber_6 0 [.ref a0, .int x1, am_un] [] s := cl_in rfl rfl rfl rfl
theorem dc_X13_saysNumber_6_0 {B : Nat} (a0 : Nat) (x1 : Int32) (s : am_S) : rn_ tb_ct tb_mt B mm_X13_saysNumber_6 0 [.ref a0, .int x1, am_un] [] s = if 0 ≤ x1 then rn_ tb_ct tb_mt B mm_X13_saysNumber_6 10 [.ref a0, .int x1, am_un] [] s else eC (am_cls s a0) 11 (cV (cl_ tb_ct tb_mt B K_X13_says [.ref a0, .int (45 : Int32)] s) (fun s_1 => rn_ tb_ct tb_mt B mm_X13_saysNumber_6 10 [.ref a0, .int x1, am_un] [] s_1) xo) := by
  refine Eq.trans (rn_go 1 (pc' := 1) (L' := [.ref a0, .int x1, am_un]) (st' := [.int x1]) rfl) ?_
  refine Eq.trans (rn_ifge (L' := [.ref a0, .int x1, am_un]) rfl rfl) ?_
  refine if_c ?_ ?_
  · rfl
  · refine Eq.trans (rn_go 2 (pc' := 7) (L' := [.ref a0, .int x1, am_un]) (st' := [.int (45 : Int32), .ref a0]) rfl) ?_
    refine Eq.trans (rn_vir (L' := [.ref a0, .int x1, am_un]) (as := [.int (45 : Int32)]) (rest := []) rfl rfl rfl rfl rfl (Nat.le_of_ble_eq_true rfl) (by decide) (by decide)) ?_
    refine eC_c ?_
    refine Eq.trans (cW_V rfl rfl) ?_
    refine cV_c (fun s_1 => ?_) (xh_nil rfl)
    rfl
theorem dc_X13_saysNumber_6_10 {B : Nat} (a0 : Nat) (x1 : Int32) (s : am_S) : rn_ tb_ct tb_mt B mm_X13_saysNumber_6 10 [.ref a0, .int x1, am_un] [] s = if (if 0 ≤ x1 then x1 else 0 - x1) < (10 : Int32) then rn_ tb_ct tb_mt B mm_X13_saysNumber_6 29 [.ref a0, .int x1, .int (if 0 ≤ x1 then x1 else 0 - x1)] [] s else eC (am_cls s a0) 11 (cV (cl_ tb_ct tb_mt B K_X13_saysNumber_7 [.ref a0, .int ((if 0 ≤ x1 then x1 else 0 - x1) / (10 : Int32))] s) (fun s_1 => rn_ tb_ct tb_mt B mm_X13_saysNumber_6 29 [.ref a0, .int x1, .int (if 0 ≤ x1 then x1 else 0 - x1)] [] s_1) xo) := by
  refine Eq.trans (rn_go 1 (pc' := 11) (L' := [.ref a0, .int x1, am_un]) (st' := [.int x1]) rfl) ?_
  refine Eq.trans (rn_abs (L' := [.ref a0, .int x1, am_un]) rfl rfl (Nat.le_of_ble_eq_true rfl)) ?_
  refine Eq.trans (rn_go 3 (pc' := 18) (L' := [.ref a0, .int x1, .int (if 0 ≤ x1 then x1 else 0 - x1)]) (st' := [.int (10 : Int32), .int (if 0 ≤ x1 then x1 else 0 - x1)]) rfl) ?_
  refine Eq.trans (rn_iclt (L' := [.ref a0, .int x1, .int (if 0 ≤ x1 then x1 else 0 - x1)]) rfl rfl) ?_
  refine if_c ?_ ?_
  · rfl
  · refine Eq.trans (rn_go 4 (pc' := 26) (L' := [.ref a0, .int x1, .int (if 0 ≤ x1 then x1 else 0 - x1)]) (st' := [.int ((if 0 ≤ x1 then x1 else 0 - x1) / (10 : Int32)), .ref a0]) rfl) ?_
    refine Eq.trans (rn_vir (L' := [.ref a0, .int x1, .int (if 0 ≤ x1 then x1 else 0 - x1)]) (as := [.int ((if 0 ≤ x1 then x1 else 0 - x1) / (10 : Int32))]) (rest := []) rfl rfl rfl rfl rfl (Nat.le_of_ble_eq_true rfl) (by decide) (by decide)) ?_
    refine eC_c ?_
    refine Eq.trans (cW_V rfl rfl) ?_
    refine cV_c (fun s_1 => ?_) (xh_nil rfl)
    rfl
theorem dc_X13_saysNumber_6_29 {B : Nat} (a0 : Nat) (w1 : Value) (x2 : Int32) (s : am_S) : rn_ tb_ct tb_mt B mm_X13_saysNumber_6 29 [.ref a0, w1, .int x2] [] s = eC (am_cls s a0) 11 (cV (cl_ tb_ct tb_mt B K_X13_says [.ref a0, .int ((48 : Int32) + (x2 - x2 / (10 : Int32) * (10 : Int32)))] s) (fun s_1 => some (.inl none, s_1)) xo) := by
  refine Eq.trans (rn_go 6 (pc' := 37) (L' := [.ref a0, am_un, .int x2]) (st' := [.int ((48 : Int32) + (x2 - x2 / (10 : Int32) * (10 : Int32))), .ref a0]) rfl) ?_
  refine Eq.trans (rn_vir (L' := [.ref a0, am_un, .int x2]) (as := [.int ((48 : Int32) + (x2 - x2 / (10 : Int32) * (10 : Int32)))]) (rest := []) rfl rfl rfl rfl rfl (Nat.le_of_ble_eq_true rfl) (by decide) (by decide)) ?_
  refine eC_c ?_
  refine Eq.trans (cW_V rfl rfl) ?_
  refine cV_c (fun s_1 => ?_) (xh_nil rfl)
  exact rn_retV rfl rfl
theorem in_X13_saysNumber_7 {B : Nat} (a0 : Nat) (x1 : Int32) (s : am_S) : cl_ tb_ct tb_mt B K_X13_saysNumber_7 [.ref a0, .int x1] s = rn_ tb_ct tb_mt B mm_X13_saysNumber_7 0 [.ref a0, .int x1, am_un] [] s := cl_in rfl rfl rfl rfl
theorem dc_X13_saysNumber_7_0 {B : Nat} (a0 : Nat) (x1 : Int32) (s : am_S) : rn_ tb_ct tb_mt B mm_X13_saysNumber_7 0 [.ref a0, .int x1, am_un] [] s = if 0 ≤ x1 then rn_ tb_ct tb_mt B mm_X13_saysNumber_7 10 [.ref a0, .int x1, am_un] [] s else eC (am_cls s a0) 11 (cV (cl_ tb_ct tb_mt B K_X13_says [.ref a0, .int (45 : Int32)] s) (fun s_1 => rn_ tb_ct tb_mt B mm_X13_saysNumber_7 10 [.ref a0, .int x1, am_un] [] s_1) xo) := by
  refine Eq.trans (rn_go 1 (pc' := 1) (L' := [.ref a0, .int x1, am_un]) (st' := [.int x1]) rfl) ?_
  refine Eq.trans (rn_ifge (L' := [.ref a0, .int x1, am_un]) rfl rfl) ?_
  refine if_c ?_ ?_
  · rfl
  · refine Eq.trans (rn_go 2 (pc' := 7) (L' := [.ref a0, .int x1, am_un]) (st' := [.int (45 : Int32), .ref a0]) rfl) ?_
    refine Eq.trans (rn_vir (L' := [.ref a0, .int x1, am_un]) (as := [.int (45 : Int32)]) (rest := []) rfl rfl rfl rfl rfl (Nat.le_of_ble_eq_true rfl) (by decide) (by decide)) ?_
    refine eC_c ?_
    refine Eq.trans (cW_V rfl rfl) ?_
    refine cV_c (fun s_1 => ?_) (xh_nil rfl)
    rfl
theorem dc_X13_saysNumber_7_10 {B : Nat} (a0 : Nat) (x1 : Int32) (s : am_S) : rn_ tb_ct tb_mt B mm_X13_saysNumber_7 10 [.ref a0, .int x1, am_un] [] s = if (if 0 ≤ x1 then x1 else 0 - x1) < (10 : Int32) then rn_ tb_ct tb_mt B mm_X13_saysNumber_7 29 [.ref a0, .int x1, .int (if 0 ≤ x1 then x1 else 0 - x1)] [] s else eC (am_cls s a0) 11 (cV (cl_ tb_ct tb_mt B K_X13_saysNumber_8 [.ref a0, .int ((if 0 ≤ x1 then x1 else 0 - x1) / (10 : Int32))] s) (fun s_1 => rn_ tb_ct tb_mt B mm_X13_saysNumber_7 29 [.ref a0, .int x1, .int (if 0 ≤ x1 then x1 else 0 - x1)] [] s_1) xo) := by
  refine Eq.trans (rn_go 1 (pc' := 11) (L' := [.ref a0, .int x1, am_un]) (st' := [.int x1]) rfl) ?_
  refine Eq.trans (rn_abs (L' := [.ref a0, .int x1, am_un]) rfl rfl (Nat.le_of_ble_eq_true rfl)) ?_
  refine Eq.trans (rn_go 3 (pc' := 18) (L' := [.ref a0, .int x1, .int (if 0 ≤ x1 then x1 else 0 - x1)]) (st' := [.int (10 : Int32), .int (if 0 ≤ x1 then x1 else 0 - x1)]) rfl) ?_
  refine Eq.trans (rn_iclt (L' := [.ref a0, .int x1, .int (if 0 ≤ x1 then x1 else 0 - x1)]) rfl rfl) ?_
  refine if_c ?_ ?_
  · rfl
  · refine Eq.trans (rn_go 4 (pc' := 26) (L' := [.ref a0, .int x1, .int (if 0 ≤ x1 then x1 else 0 - x1)]) (st' := [.int ((if 0 ≤ x1 then x1 else 0 - x1) / (10 : Int32)), .ref a0]) rfl) ?_
    refine Eq.trans (rn_vir (L' := [.ref a0, .int x1, .int (if 0 ≤ x1 then x1 else 0 - x1)]) (as := [.int ((if 0 ≤ x1 then x1 else 0 - x1) / (10 : Int32))]) (rest := []) rfl rfl rfl rfl rfl (Nat.le_of_ble_eq_true rfl) (by decide) (by decide)) ?_
    refine eC_c ?_
    refine Eq.trans (cW_V rfl rfl) ?_
    refine cV_c (fun s_1 => ?_) (xh_nil rfl)
    rfl
theorem dc_X13_saysNumber_7_29 {B : Nat} (a0 : Nat) (w1 : Value) (x2 : Int32) (s : am_S) : rn_ tb_ct tb_mt B mm_X13_saysNumber_7 29 [.ref a0, w1, .int x2] [] s = eC (am_cls s a0) 11 (cV (cl_ tb_ct tb_mt B K_X13_says [.ref a0, .int ((48 : Int32) + (x2 - x2 / (10 : Int32) * (10 : Int32)))] s) (fun s_1 => some (.inl none, s_1)) xo) := by
  refine Eq.trans (rn_go 6 (pc' := 37) (L' := [.ref a0, am_un, .int x2]) (st' := [.int ((48 : Int32) + (x2 - x2 / (10 : Int32) * (10 : Int32))), .ref a0]) rfl) ?_
  refine Eq.trans (rn_vir (L' := [.ref a0, am_un, .int x2]) (as := [.int ((48 : Int32) + (x2 - x2 / (10 : Int32) * (10 : Int32)))]) (rest := []) rfl rfl rfl rfl rfl (Nat.le_of_ble_eq_true rfl) (by decide) (by decide)) ?_
  refine eC_c ?_
  refine Eq.trans (cW_V rfl rfl) ?_
  refine cV_c (fun s_1 => ?_) (xh_nil rfl)
  exact rn_retV rfl rfl
theorem in_X13_saysNumber_8 {B : Nat} (a0 : Nat) (x1 : Int32) (s : am_S) : cl_ tb_ct tb_mt B K_X13_saysNumber_8 [.ref a0, .int x1] s = rn_ tb_ct tb_mt B mm_X13_saysNumber_8 0 [.ref a0, .int x1, am_un] [] s := cl_in rfl rfl rfl rfl
theorem dc_X13_saysNumber_8_0 {B : Nat} (a0 : Nat) (x1 : Int32) (s : am_S) : rn_ tb_ct tb_mt B mm_X13_saysNumber_8 0 [.ref a0, .int x1, am_un] [] s = if 0 ≤ x1 then rn_ tb_ct tb_mt B mm_X13_saysNumber_8 10 [.ref a0, .int x1, am_un] [] s else eC (am_cls s a0) 11 (cV (cl_ tb_ct tb_mt B K_X13_says [.ref a0, .int (45 : Int32)] s) (fun s_1 => rn_ tb_ct tb_mt B mm_X13_saysNumber_8 10 [.ref a0, .int x1, am_un] [] s_1) xo) := by
  refine Eq.trans (rn_go 1 (pc' := 1) (L' := [.ref a0, .int x1, am_un]) (st' := [.int x1]) rfl) ?_
  refine Eq.trans (rn_ifge (L' := [.ref a0, .int x1, am_un]) rfl rfl) ?_
  refine if_c ?_ ?_
  · rfl
  · refine Eq.trans (rn_go 2 (pc' := 7) (L' := [.ref a0, .int x1, am_un]) (st' := [.int (45 : Int32), .ref a0]) rfl) ?_
    refine Eq.trans (rn_vir (L' := [.ref a0, .int x1, am_un]) (as := [.int (45 : Int32)]) (rest := []) rfl rfl rfl rfl rfl (Nat.le_of_ble_eq_true rfl) (by decide) (by decide)) ?_
    refine eC_c ?_
    refine Eq.trans (cW_V rfl rfl) ?_
    refine cV_c (fun s_1 => ?_) (xh_nil rfl)
    rfl
theorem dc_X13_saysNumber_8_10 {B : Nat} (a0 : Nat) (x1 : Int32) (s : am_S) : rn_ tb_ct tb_mt B mm_X13_saysNumber_8 10 [.ref a0, .int x1, am_un] [] s = if (if 0 ≤ x1 then x1 else 0 - x1) < (10 : Int32) then rn_ tb_ct tb_mt B mm_X13_saysNumber_8 29 [.ref a0, .int x1, .int (if 0 ≤ x1 then x1 else 0 - x1)] [] s else eC (am_cls s a0) 11 (cV (cl_ tb_ct tb_mt B K_X13_saysNumber_9 [.ref a0, .int ((if 0 ≤ x1 then x1 else 0 - x1) / (10 : Int32))] s) (fun s_1 => rn_ tb_ct tb_mt B mm_X13_saysNumber_8 29 [.ref a0, .int x1, .int (if 0 ≤ x1 then x1 else 0 - x1)] [] s_1) xo) := by
  refine Eq.trans (rn_go 1 (pc' := 11) (L' := [.ref a0, .int x1, am_un]) (st' := [.int x1]) rfl) ?_
  refine Eq.trans (rn_abs (L' := [.ref a0, .int x1, am_un]) rfl rfl (Nat.le_of_ble_eq_true rfl)) ?_
  refine Eq.trans (rn_go 3 (pc' := 18) (L' := [.ref a0, .int x1, .int (if 0 ≤ x1 then x1 else 0 - x1)]) (st' := [.int (10 : Int32), .int (if 0 ≤ x1 then x1 else 0 - x1)]) rfl) ?_
  refine Eq.trans (rn_iclt (L' := [.ref a0, .int x1, .int (if 0 ≤ x1 then x1 else 0 - x1)]) rfl rfl) ?_
  refine if_c ?_ ?_
  · rfl
  · refine Eq.trans (rn_go 4 (pc' := 26) (L' := [.ref a0, .int x1, .int (if 0 ≤ x1 then x1 else 0 - x1)]) (st' := [.int ((if 0 ≤ x1 then x1 else 0 - x1) / (10 : Int32)), .ref a0]) rfl) ?_
    refine Eq.trans (rn_vir (L' := [.ref a0, .int x1, .int (if 0 ≤ x1 then x1 else 0 - x1)]) (as := [.int ((if 0 ≤ x1 then x1 else 0 - x1) / (10 : Int32))]) (rest := []) rfl rfl rfl rfl rfl (Nat.le_of_ble_eq_true rfl) (by decide) (by decide)) ?_
    refine eC_c ?_
    refine Eq.trans (cW_V rfl rfl) ?_
    refine cV_c (fun s_1 => ?_) (xh_nil rfl)
    rfl
theorem dc_X13_saysNumber_8_29 {B : Nat} (a0 : Nat) (w1 : Value) (x2 : Int32) (s : am_S) : rn_ tb_ct tb_mt B mm_X13_saysNumber_8 29 [.ref a0, w1, .int x2] [] s = eC (am_cls s a0) 11 (cV (cl_ tb_ct tb_mt B K_X13_says [.ref a0, .int ((48 : Int32) + (x2 - x2 / (10 : Int32) * (10 : Int32)))] s) (fun s_1 => some (.inl none, s_1)) xo) := by
  refine Eq.trans (rn_go 6 (pc' := 37) (L' := [.ref a0, am_un, .int x2]) (st' := [.int ((48 : Int32) + (x2 - x2 / (10 : Int32) * (10 : Int32))), .ref a0]) rfl) ?_
  refine Eq.trans (rn_vir (L' := [.ref a0, am_un, .int x2]) (as := [.int ((48 : Int32) + (x2 - x2 / (10 : Int32) * (10 : Int32)))]) (rest := []) rfl rfl rfl rfl rfl (Nat.le_of_ble_eq_true rfl) (by decide) (by decide)) ?_
  refine eC_c ?_
  refine Eq.trans (cW_V rfl rfl) ?_
  refine cV_c (fun s_1 => ?_) (xh_nil rfl)
  exact rn_retV rfl rfl
theorem in_X13_saysNumber_9 {B : Nat} (a0 : Nat) (x1 : Int32) (s : am_S) : cl_ tb_ct tb_mt B K_X13_saysNumber_9 [.ref a0, .int x1] s = rn_ tb_ct tb_mt B mm_X13_saysNumber_9 0 [.ref a0, .int x1, am_un] [] s := cl_in rfl rfl rfl rfl
theorem dc_X13_saysNumber_9_0 {B : Nat} (a0 : Nat) (x1 : Int32) (s : am_S) : rn_ tb_ct tb_mt B mm_X13_saysNumber_9 0 [.ref a0, .int x1, am_un] [] s = if 0 ≤ x1 then rn_ tb_ct tb_mt B mm_X13_saysNumber_9 10 [.ref a0, .int x1, am_un] [] s else eC (am_cls s a0) 11 (cV (cl_ tb_ct tb_mt B K_X13_says [.ref a0, .int (45 : Int32)] s) (fun s_1 => rn_ tb_ct tb_mt B mm_X13_saysNumber_9 10 [.ref a0, .int x1, am_un] [] s_1) xo) := by
  refine Eq.trans (rn_go 1 (pc' := 1) (L' := [.ref a0, .int x1, am_un]) (st' := [.int x1]) rfl) ?_
  refine Eq.trans (rn_ifge (L' := [.ref a0, .int x1, am_un]) rfl rfl) ?_
  refine if_c ?_ ?_
  · rfl
  · refine Eq.trans (rn_go 2 (pc' := 7) (L' := [.ref a0, .int x1, am_un]) (st' := [.int (45 : Int32), .ref a0]) rfl) ?_
    refine Eq.trans (rn_vir (L' := [.ref a0, .int x1, am_un]) (as := [.int (45 : Int32)]) (rest := []) rfl rfl rfl rfl rfl (Nat.le_of_ble_eq_true rfl) (by decide) (by decide)) ?_
    refine eC_c ?_
    refine Eq.trans (cW_V rfl rfl) ?_
    refine cV_c (fun s_1 => ?_) (xh_nil rfl)
    rfl
theorem dc_X13_saysNumber_9_10 {B : Nat} (a0 : Nat) (x1 : Int32) (s : am_S) : rn_ tb_ct tb_mt B mm_X13_saysNumber_9 10 [.ref a0, .int x1, am_un] [] s = if (if 0 ≤ x1 then x1 else 0 - x1) < (10 : Int32) then rn_ tb_ct tb_mt B mm_X13_saysNumber_9 29 [.ref a0, .int x1, .int (if 0 ≤ x1 then x1 else 0 - x1)] [] s else eC (am_cls s a0) 11 (cV (cl_ tb_ct tb_mt B K_X13_saysNumber_10 [.ref a0, .int ((if 0 ≤ x1 then x1 else 0 - x1) / (10 : Int32))] s) (fun s_1 => rn_ tb_ct tb_mt B mm_X13_saysNumber_9 29 [.ref a0, .int x1, .int (if 0 ≤ x1 then x1 else 0 - x1)] [] s_1) xo) := by
  refine Eq.trans (rn_go 1 (pc' := 11) (L' := [.ref a0, .int x1, am_un]) (st' := [.int x1]) rfl) ?_
  refine Eq.trans (rn_abs (L' := [.ref a0, .int x1, am_un]) rfl rfl (Nat.le_of_ble_eq_true rfl)) ?_
  refine Eq.trans (rn_go 3 (pc' := 18) (L' := [.ref a0, .int x1, .int (if 0 ≤ x1 then x1 else 0 - x1)]) (st' := [.int (10 : Int32), .int (if 0 ≤ x1 then x1 else 0 - x1)]) rfl) ?_
  refine Eq.trans (rn_iclt (L' := [.ref a0, .int x1, .int (if 0 ≤ x1 then x1 else 0 - x1)]) rfl rfl) ?_
  refine if_c ?_ ?_
  · rfl
  · refine Eq.trans (rn_go 4 (pc' := 26) (L' := [.ref a0, .int x1, .int (if 0 ≤ x1 then x1 else 0 - x1)]) (st' := [.int ((if 0 ≤ x1 then x1 else 0 - x1) / (10 : Int32)), .ref a0]) rfl) ?_
    refine Eq.trans (rn_vir (L' := [.ref a0, .int x1, .int (if 0 ≤ x1 then x1 else 0 - x1)]) (as := [.int ((if 0 ≤ x1 then x1 else 0 - x1) / (10 : Int32))]) (rest := []) rfl rfl rfl rfl rfl (Nat.le_of_ble_eq_true rfl) (by decide) (by decide)) ?_
    refine eC_c ?_
    refine Eq.trans (cW_V rfl rfl) ?_
    refine cV_c (fun s_1 => ?_) (xh_nil rfl)
    rfl
theorem dc_X13_saysNumber_9_29 {B : Nat} (a0 : Nat) (w1 : Value) (x2 : Int32) (s : am_S) : rn_ tb_ct tb_mt B mm_X13_saysNumber_9 29 [.ref a0, w1, .int x2] [] s = eC (am_cls s a0) 11 (cV (cl_ tb_ct tb_mt B K_X13_says [.ref a0, .int ((48 : Int32) + (x2 - x2 / (10 : Int32) * (10 : Int32)))] s) (fun s_1 => some (.inl none, s_1)) xo) := by
  refine Eq.trans (rn_go 6 (pc' := 37) (L' := [.ref a0, am_un, .int x2]) (st' := [.int ((48 : Int32) + (x2 - x2 / (10 : Int32) * (10 : Int32))), .ref a0]) rfl) ?_
  refine Eq.trans (rn_vir (L' := [.ref a0, am_un, .int x2]) (as := [.int ((48 : Int32) + (x2 - x2 / (10 : Int32) * (10 : Int32)))]) (rest := []) rfl rfl rfl rfl rfl (Nat.le_of_ble_eq_true rfl) (by decide) (by decide)) ?_
  refine eC_c ?_
  refine Eq.trans (cW_V rfl rfl) ?_
  refine cV_c (fun s_1 => ?_) (xh_nil rfl)
  exact rn_retV rfl rfl
theorem in_X13_saysNumber_10 {B : Nat} (a0 : Nat) (x1 : Int32) (s : am_S) : cl_ tb_ct tb_mt B K_X13_saysNumber_10 [.ref a0, .int x1] s = rn_ tb_ct tb_mt B mm_X13_saysNumber_10 0 [.ref a0, .int x1, am_un] [] s := cl_in rfl rfl rfl rfl
theorem dc_X13_saysNumber_10_0 {B : Nat} (a0 : Nat) (x1 : Int32) (s : am_S) : rn_ tb_ct tb_mt B mm_X13_saysNumber_10 0 [.ref a0, .int x1, am_un] [] s = if 0 ≤ x1 then rn_ tb_ct tb_mt B mm_X13_saysNumber_10 10 [.ref a0, .int x1, am_un] [] s else eC (am_cls s a0) 11 (cV (cl_ tb_ct tb_mt B K_X13_says [.ref a0, .int (45 : Int32)] s) (fun s_1 => rn_ tb_ct tb_mt B mm_X13_saysNumber_10 10 [.ref a0, .int x1, am_un] [] s_1) xo) := by
  refine Eq.trans (rn_go 1 (pc' := 1) (L' := [.ref a0, .int x1, am_un]) (st' := [.int x1]) rfl) ?_
  refine Eq.trans (rn_ifge (L' := [.ref a0, .int x1, am_un]) rfl rfl) ?_
  refine if_c ?_ ?_
  · rfl
  · refine Eq.trans (rn_go 2 (pc' := 7) (L' := [.ref a0, .int x1, am_un]) (st' := [.int (45 : Int32), .ref a0]) rfl) ?_
    refine Eq.trans (rn_vir (L' := [.ref a0, .int x1, am_un]) (as := [.int (45 : Int32)]) (rest := []) rfl rfl rfl rfl rfl (Nat.le_of_ble_eq_true rfl) (by decide) (by decide)) ?_
    refine eC_c ?_
    refine Eq.trans (cW_V rfl rfl) ?_
    refine cV_c (fun s_1 => ?_) (xh_nil rfl)
    rfl
theorem dc_X13_saysNumber_10_10 {B : Nat} (a0 : Nat) (x1 : Int32) (s : am_S) : rn_ tb_ct tb_mt B mm_X13_saysNumber_10 10 [.ref a0, .int x1, am_un] [] s = if (if 0 ≤ x1 then x1 else 0 - x1) < (10 : Int32) then rn_ tb_ct tb_mt B mm_X13_saysNumber_10 29 [.ref a0, .int x1, .int (if 0 ≤ x1 then x1 else 0 - x1)] [] s else eC (am_cls s a0) 11 (cV (cl_ tb_ct tb_mt B K_X13_saysNumber_11 [.ref a0, .int ((if 0 ≤ x1 then x1 else 0 - x1) / (10 : Int32))] s) (fun s_1 => rn_ tb_ct tb_mt B mm_X13_saysNumber_10 29 [.ref a0, .int x1, .int (if 0 ≤ x1 then x1 else 0 - x1)] [] s_1) xo) := by
  refine Eq.trans (rn_go 1 (pc' := 11) (L' := [.ref a0, .int x1, am_un]) (st' := [.int x1]) rfl) ?_
  refine Eq.trans (rn_abs (L' := [.ref a0, .int x1, am_un]) rfl rfl (Nat.le_of_ble_eq_true rfl)) ?_
  refine Eq.trans (rn_go 3 (pc' := 18) (L' := [.ref a0, .int x1, .int (if 0 ≤ x1 then x1 else 0 - x1)]) (st' := [.int (10 : Int32), .int (if 0 ≤ x1 then x1 else 0 - x1)]) rfl) ?_
  refine Eq.trans (rn_iclt (L' := [.ref a0, .int x1, .int (if 0 ≤ x1 then x1 else 0 - x1)]) rfl rfl) ?_
  refine if_c ?_ ?_
  · rfl
  · refine Eq.trans (rn_go 4 (pc' := 26) (L' := [.ref a0, .int x1, .int (if 0 ≤ x1 then x1 else 0 - x1)]) (st' := [.int ((if 0 ≤ x1 then x1 else 0 - x1) / (10 : Int32)), .ref a0]) rfl) ?_
    refine Eq.trans (rn_vir (L' := [.ref a0, .int x1, .int (if 0 ≤ x1 then x1 else 0 - x1)]) (as := [.int ((if 0 ≤ x1 then x1 else 0 - x1) / (10 : Int32))]) (rest := []) rfl rfl rfl rfl rfl (Nat.le_of_ble_eq_true rfl) (by decide) (by decide)) ?_
    refine eC_c ?_
    refine Eq.trans (cW_V rfl rfl) ?_
    refine cV_c (fun s_1 => ?_) (xh_nil rfl)
    rfl
theorem dc_X13_saysNumber_10_29 {B : Nat} (a0 : Nat) (w1 : Value) (x2 : Int32) (s : am_S) : rn_ tb_ct tb_mt B mm_X13_saysNumber_10 29 [.ref a0, w1, .int x2] [] s = eC (am_cls s a0) 11 (cV (cl_ tb_ct tb_mt B K_X13_says [.ref a0, .int ((48 : Int32) + (x2 - x2 / (10 : Int32) * (10 : Int32)))] s) (fun s_1 => some (.inl none, s_1)) xo) := by
  refine Eq.trans (rn_go 6 (pc' := 37) (L' := [.ref a0, am_un, .int x2]) (st' := [.int ((48 : Int32) + (x2 - x2 / (10 : Int32) * (10 : Int32))), .ref a0]) rfl) ?_
  refine Eq.trans (rn_vir (L' := [.ref a0, am_un, .int x2]) (as := [.int ((48 : Int32) + (x2 - x2 / (10 : Int32) * (10 : Int32)))]) (rest := []) rfl rfl rfl rfl rfl (Nat.le_of_ble_eq_true rfl) (by decide) (by decide)) ?_
  refine eC_c ?_
  refine Eq.trans (cW_V rfl rfl) ?_
  refine cV_c (fun s_1 => ?_) (xh_nil rfl)
  exact rn_retV rfl rfl
theorem in_X13_saysNumber_11 {B : Nat} (a0 : Nat) (x1 : Int32) (s : am_S) : cl_ tb_ct tb_mt B K_X13_saysNumber_11 [.ref a0, .int x1] s = rn_ tb_ct tb_mt B mm_X13_saysNumber_11 0 [.ref a0, .int x1, am_un] [] s := cl_in rfl rfl rfl rfl
theorem dc_X13_saysNumber_11_0 {B : Nat} (a0 : Nat) (x1 : Int32) (s : am_S) : rn_ tb_ct tb_mt B mm_X13_saysNumber_11 0 [.ref a0, .int x1, am_un] [] s = if 0 ≤ x1 then rn_ tb_ct tb_mt B mm_X13_saysNumber_11 10 [.ref a0, .int x1, am_un] [] s else eC (am_cls s a0) 11 (cV (cl_ tb_ct tb_mt B K_X13_says [.ref a0, .int (45 : Int32)] s) (fun s_1 => rn_ tb_ct tb_mt B mm_X13_saysNumber_11 10 [.ref a0, .int x1, am_un] [] s_1) xo) := by
  refine Eq.trans (rn_go 1 (pc' := 1) (L' := [.ref a0, .int x1, am_un]) (st' := [.int x1]) rfl) ?_
  refine Eq.trans (rn_ifge (L' := [.ref a0, .int x1, am_un]) rfl rfl) ?_
  refine if_c ?_ ?_
  · rfl
  · refine Eq.trans (rn_go 2 (pc' := 7) (L' := [.ref a0, .int x1, am_un]) (st' := [.int (45 : Int32), .ref a0]) rfl) ?_
    refine Eq.trans (rn_vir (L' := [.ref a0, .int x1, am_un]) (as := [.int (45 : Int32)]) (rest := []) rfl rfl rfl rfl rfl (Nat.le_of_ble_eq_true rfl) (by decide) (by decide)) ?_
    refine eC_c ?_
    refine Eq.trans (cW_V rfl rfl) ?_
    refine cV_c (fun s_1 => ?_) (xh_nil rfl)
    rfl
theorem dc_X13_saysNumber_11_10 {B : Nat} (a0 : Nat) (x1 : Int32) (s : am_S) : rn_ tb_ct tb_mt B mm_X13_saysNumber_11 10 [.ref a0, .int x1, am_un] [] s = if (if 0 ≤ x1 then x1 else 0 - x1) < (10 : Int32) then eC (am_cls s a0) 11 (cV (cl_ tb_ct tb_mt B K_X13_says [.ref a0, .int ((48 : Int32) + ((if 0 ≤ x1 then x1 else 0 - x1) - (if 0 ≤ x1 then x1 else 0 - x1) / (10 : Int32) * (10 : Int32)))] s) (fun s_1 => some (.inl none, s_1)) xo) else none := by
  refine Eq.trans (rn_go 1 (pc' := 11) (L' := [.ref a0, .int x1, am_un]) (st' := [.int x1]) rfl) ?_
  refine Eq.trans (rn_abs (L' := [.ref a0, .int x1, am_un]) rfl rfl (Nat.le_of_ble_eq_true rfl)) ?_
  refine Eq.trans (rn_go 3 (pc' := 18) (L' := [.ref a0, .int x1, .int (if 0 ≤ x1 then x1 else 0 - x1)]) (st' := [.int (10 : Int32), .int (if 0 ≤ x1 then x1 else 0 - x1)]) rfl) ?_
  refine Eq.trans (rn_iclt (L' := [.ref a0, .int x1, .int (if 0 ≤ x1 then x1 else 0 - x1)]) rfl rfl) ?_
  refine if_c ?_ ?_
  · refine Eq.trans (rn_go 6 (pc' := 37) (L' := [.ref a0, .int x1, .int (if 0 ≤ x1 then x1 else 0 - x1)]) (st' := [.int ((48 : Int32) + ((if 0 ≤ x1 then x1 else 0 - x1) - (if 0 ≤ x1 then x1 else 0 - x1) / (10 : Int32) * (10 : Int32))), .ref a0]) rfl) ?_
    refine Eq.trans (rn_vir (L' := [.ref a0, .int x1, .int (if 0 ≤ x1 then x1 else 0 - x1)]) (as := [.int ((48 : Int32) + ((if 0 ≤ x1 then x1 else 0 - x1) - (if 0 ≤ x1 then x1 else 0 - x1) / (10 : Int32) * (10 : Int32)))]) (rest := []) rfl rfl rfl rfl rfl (Nat.le_of_ble_eq_true rfl) (by decide) (by decide)) ?_
    refine eC_c ?_
    refine Eq.trans (cW_V rfl rfl) ?_
    refine cV_c (fun s_1 => ?_) (xh_nil rfl)
    exact rn_retV rfl rfl
  · refine Eq.trans (rn_go 4 (pc' := 26) (L' := [.ref a0, .int x1, .int (if 0 ≤ x1 then x1 else 0 - x1)]) (st' := [.int ((if 0 ≤ x1 then x1 else 0 - x1) / (10 : Int32)), .ref a0]) rfl) ?_
    exact rn_nolk rfl
