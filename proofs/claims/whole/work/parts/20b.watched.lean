theorem in_X12_init {B : Nat} (a0 : Nat) (s : am_S) : cl_ tb_ct tb_mt B K_X12_init [.ref a0] s = rn_ tb_ct tb_mt B mm_X12_init 0 [.ref a0] [] s := cl_in rfl rfl rfl rfl
theorem dc_X12_init_0 {B : Nat} (a0 : Nat) (s : am_S) : rn_ tb_ct tb_mt B mm_X12_init 0 [.ref a0] [] s = nwO tb_ct s 7 (fun b_1 s_2 => eC (am_cls s_2 b_1) 7 (cV (cl_ tb_ct tb_mt B K_X8_init [.ref b_1] s_2) (fun s_3 => eS (am_put tb_ct mm_X12_init B s_3 (.ref b_1) a0 10 0) (fun s_4 => nwO tb_ct s_4 7 (fun b_5 s_6 => eC (am_cls s_6 b_5) 7 (cV (cl_ tb_ct tb_mt B K_X8_init [.ref b_5] s_6) (fun s_7 => eS (am_put tb_ct mm_X12_init B s_7 (.ref b_5) a0 10 1) (fun s_8 => nwA "WatchedKeys$Store" s_8 (2 : Int32) (fun b_9 s_10 => eS (am_put tb_ct mm_X12_init B s_10 (.ref b_9) a0 10 2) (fun s_11 => nwO tb_ct s_11 5 (fun b_12 s_13 => eC (am_cls s_13 b_12) 5 (cV (cl_ tb_ct tb_mt B K_X6_init [.ref b_12] s_13) (fun s_14 => eS (am_put tb_ct mm_X12_init B s_14 (.ref b_12) a0 10 3) (fun s_15 => nwO tb_ct s_15 12 (fun b_16 s_17 => eC (am_cls s_17 b_16) 12 (cV (cl_ tb_ct tb_mt B K_J4_init_da8c8 [.ref b_16] s_17) (fun s_18 => eS (am_put tb_ct mm_X12_init B s_18 (.ref b_16) a0 10 4) (fun s_19 => nwO tb_ct s_19 3 (fun b_20 s_21 => eC (am_cls s_21 b_20) 3 (cV (cl_ tb_ct tb_mt B K_X4_init [.ref b_20] s_21) (fun s_22 => eS (am_put tb_ct mm_X12_init B s_22 (.ref b_20) a0 10 5) (fun s_23 => nwO tb_ct s_23 3 (fun b_24 s_25 => eC (am_cls s_25 b_24) 3 (cV (cl_ tb_ct tb_mt B K_X4_init [.ref b_24] s_25) (fun s_26 => eS (am_put tb_ct mm_X12_init B s_26 (.ref b_24) a0 10 6) (fun s_27 => nwI .int s_27 (1000 : Int32) (fun b_28 s_29 => eS (am_put tb_ct mm_X12_init B s_29 (.ref b_28) a0 10 7) (fun s_30 => some (.inl none, s_30))))) xo)))) xo)))) xo)))) xo)))))) xo)))) xo)) := by
  refine Eq.trans (rn_go 1 (pc' := 1) (L' := [.ref a0]) (st' := [.ref a0]) rfl) ?_
  refine Eq.trans (rn_obj (L' := [.ref a0]) rfl rfl (Nat.le_of_ble_eq_true rfl)) ?_
  refine Eq.trans (rn_go 1 (pc' := 5) (L' := [.ref a0]) (st' := [.ref a0]) rfl) ?_
  refine Eq.trans (rn_new (L' := [.ref a0]) rfl rfl) ?_
  refine nwO_c (fun b_1 s_2 => ?_)
  refine Eq.trans (rn_go 1 (pc' := 9) (L' := [.ref a0]) (st' := [.ref b_1, .ref b_1, .ref a0]) rfl) ?_
  refine Eq.trans (rn_spe (L' := [.ref a0]) (as := []) (rest := [.ref b_1, .ref a0]) rfl rfl (by decide) rfl rfl rfl (Nat.le_of_ble_eq_true rfl) (by decide) (by decide)) ?_
  refine eC_c ?_
  refine Eq.trans (cW_V rfl rfl) ?_
  refine cV_c (fun s_3 => ?_) (xh_nil rfl)
  refine Eq.trans (rn_pF (L' := [.ref a0]) rfl rfl) ?_
  refine eS_c (fun s_4 => ?_)
  refine Eq.trans (rn_go 1 (pc' := 16) (L' := [.ref a0]) (st' := [.ref a0]) rfl) ?_
  refine Eq.trans (rn_new (L' := [.ref a0]) rfl rfl) ?_
  refine nwO_c (fun b_5 s_6 => ?_)
  refine Eq.trans (rn_go 1 (pc' := 20) (L' := [.ref a0]) (st' := [.ref b_5, .ref b_5, .ref a0]) rfl) ?_
  refine Eq.trans (rn_spe (L' := [.ref a0]) (as := []) (rest := [.ref b_5, .ref a0]) rfl rfl (by decide) rfl rfl rfl (Nat.le_of_ble_eq_true rfl) (by decide) (by decide)) ?_
  refine eC_c ?_
  refine Eq.trans (cW_V rfl rfl) ?_
  refine cV_c (fun s_7 => ?_) (xh_nil rfl)
  refine Eq.trans (rn_pF (L' := [.ref a0]) rfl rfl) ?_
  refine eS_c (fun s_8 => ?_)
  refine Eq.trans (rn_go 2 (pc' := 28) (L' := [.ref a0]) (st' := [.int (2 : Int32), .ref a0]) rfl) ?_
  refine Eq.trans (rn_nwA (L' := [.ref a0]) rfl rfl rfl) ?_
  refine nwA_c (fun b_9 s_10 => ?_)
  refine Eq.trans (rn_pF (L' := [.ref a0]) rfl rfl) ?_
  refine eS_c (fun s_11 => ?_)
  refine Eq.trans (rn_go 1 (pc' := 35) (L' := [.ref a0]) (st' := [.ref a0]) rfl) ?_
  refine Eq.trans (rn_new (L' := [.ref a0]) rfl rfl) ?_
  refine nwO_c (fun b_12 s_13 => ?_)
  refine Eq.trans (rn_go 1 (pc' := 39) (L' := [.ref a0]) (st' := [.ref b_12, .ref b_12, .ref a0]) rfl) ?_
  refine Eq.trans (rn_spe (L' := [.ref a0]) (as := []) (rest := [.ref b_12, .ref a0]) rfl rfl (by decide) rfl rfl rfl (Nat.le_of_ble_eq_true rfl) (by decide) (by decide)) ?_
  refine eC_c ?_
  refine Eq.trans (cW_V rfl rfl) ?_
  refine cV_c (fun s_14 => ?_) (xh_nil rfl)
  refine Eq.trans (rn_pF (L' := [.ref a0]) rfl rfl) ?_
  refine eS_c (fun s_15 => ?_)
  refine Eq.trans (rn_go 1 (pc' := 46) (L' := [.ref a0]) (st' := [.ref a0]) rfl) ?_
  refine Eq.trans (rn_new (L' := [.ref a0]) rfl rfl) ?_
  refine nwO_c (fun b_16 s_17 => ?_)
  refine Eq.trans (rn_go 1 (pc' := 50) (L' := [.ref a0]) (st' := [.ref b_16, .ref b_16, .ref a0]) rfl) ?_
  refine Eq.trans (rn_spe (L' := [.ref a0]) (as := []) (rest := [.ref b_16, .ref a0]) rfl rfl (by decide) rfl rfl rfl (Nat.le_of_ble_eq_true rfl) (by decide) (by decide)) ?_
  refine eC_c ?_
  refine Eq.trans (cW_V rfl rfl) ?_
  refine cV_c (fun s_18 => ?_) (xh_nil rfl)
  refine Eq.trans (rn_pF (L' := [.ref a0]) rfl rfl) ?_
  refine eS_c (fun s_19 => ?_)
  refine Eq.trans (rn_go 1 (pc' := 57) (L' := [.ref a0]) (st' := [.ref a0]) rfl) ?_
  refine Eq.trans (rn_new (L' := [.ref a0]) rfl rfl) ?_
  refine nwO_c (fun b_20 s_21 => ?_)
  refine Eq.trans (rn_go 1 (pc' := 61) (L' := [.ref a0]) (st' := [.ref b_20, .ref b_20, .ref a0]) rfl) ?_
  refine Eq.trans (rn_spe (L' := [.ref a0]) (as := []) (rest := [.ref b_20, .ref a0]) rfl rfl (by decide) rfl rfl rfl (Nat.le_of_ble_eq_true rfl) (by decide) (by decide)) ?_
  refine eC_c ?_
  refine Eq.trans (cW_V rfl rfl) ?_
  refine cV_c (fun s_22 => ?_) (xh_nil rfl)
  refine Eq.trans (rn_pF (L' := [.ref a0]) rfl rfl) ?_
  refine eS_c (fun s_23 => ?_)
  refine Eq.trans (rn_go 1 (pc' := 68) (L' := [.ref a0]) (st' := [.ref a0]) rfl) ?_
  refine Eq.trans (rn_new (L' := [.ref a0]) rfl rfl) ?_
  refine nwO_c (fun b_24 s_25 => ?_)
  refine Eq.trans (rn_go 1 (pc' := 72) (L' := [.ref a0]) (st' := [.ref b_24, .ref b_24, .ref a0]) rfl) ?_
  refine Eq.trans (rn_spe (L' := [.ref a0]) (as := []) (rest := [.ref b_24, .ref a0]) rfl rfl (by decide) rfl rfl rfl (Nat.le_of_ble_eq_true rfl) (by decide) (by decide)) ?_
  refine eC_c ?_
  refine Eq.trans (cW_V rfl rfl) ?_
  refine cV_c (fun s_26 => ?_) (xh_nil rfl)
  refine Eq.trans (rn_pF (L' := [.ref a0]) rfl rfl) ?_
  refine eS_c (fun s_27 => ?_)
  refine Eq.trans (rn_go 2 (pc' := 82) (L' := [.ref a0]) (st' := [.int (1000 : Int32), .ref a0]) rfl) ?_
  refine Eq.trans (rn_nwI (L' := [.ref a0]) rfl rfl) ?_
  refine nwI_c (fun b_28 s_29 => ?_)
  refine Eq.trans (rn_pF (L' := [.ref a0]) rfl rfl) ?_
  refine eS_c (fun s_30 => ?_)
  exact rn_retV rfl rfl
theorem in_X12_append {B : Nat} (a0 : Nat) (j1 : Int64) (s : am_S) : cl_ tb_ct tb_mt B K_X12_append [.ref a0, .long j1] s = rn_ tb_ct tb_mt B mm_X12_append 0 [.ref a0, .long j1, am_un] [] s := cl_in rfl rfl rfl rfl
theorem dc_X12_append_0 {B : Nat} (a0 : Nat) (j1 : Int64) (s : am_S) : rn_ tb_ct tb_mt B mm_X12_append 0 [.ref a0, .long j1, am_un] [] s = eA (gA tb_ct s a0 10 3) (none) (fun b_1 => eC (am_cls s b_1) 5 (cI (cl_ tb_ct tb_mt B K_X6_addBytes [.ref b_1, .long j1] s) (fun x_3 s_2 => some (.inl (some (.int x_3)), s_2)) xo)) := by
  refine Eq.trans (rn_go 1 (pc' := 1) (L' := [.ref a0, .long j1, am_un]) (st' := [.ref a0]) rfl) ?_
  refine Eq.trans (rn_gA (L' := [.ref a0, .long j1, am_un]) rfl rfl rfl rfl) ?_
  refine eA_c ?_ (fun b_1 => ?_)
  · refine Eq.trans (rn_go 1 (pc' := 5) (L' := [.ref a0, .long j1, am_un]) (st' := [.long j1, .null]) rfl) ?_
    exact rn_z rfl rfl
  · refine Eq.trans (rn_go 1 (pc' := 5) (L' := [.ref a0, .long j1, am_un]) (st' := [.long j1, .ref b_1]) rfl) ?_
    refine Eq.trans (rn_vir (L' := [.ref a0, .long j1, am_un]) (as := [.long j1]) (rest := []) rfl rfl rfl rfl rfl (Nat.le_of_ble_eq_true rfl) (by decide) (by decide)) ?_
    refine eC_c ?_
    refine Eq.trans (cW_I rfl rfl rfl) ?_
    refine cI_c (fun x_3 s_2 => ?_) (xh_nil rfl)
    exact rn_retI rfl rfl rfl
theorem in_X12_load {B : Nat} (a0 : Nat) (s : am_S) : cl_ tb_ct tb_mt B K_X12_load [.ref a0] s = rn_ tb_ct tb_mt B mm_X12_load 0 [.ref a0, am_un, am_un, am_un] [] s := cl_in rfl rfl rfl rfl
theorem dc_X12_load_0 {B : Nat} (a0 : Nat) (s : am_S) : rn_ tb_ct tb_mt B mm_X12_load 0 [.ref a0, am_un, am_un, am_un] [] s = eA (gA tb_ct s a0 10 1) (none) (fun b_1 => eC (am_cls s b_1) 7 (cV (cl_ tb_ct tb_mt B K_X8_clear [.ref b_1] s) (fun s_2 => eA (gA tb_ct s_2 a0 10 3) (none) (fun b_3 => eC (am_cls s_2 b_3) 5 (cV (cl_ tb_ct tb_mt B K_X6_begin [.ref b_3] s_2) (fun s_4 => rn_ tb_ct tb_mt B mm_X12_load 18 [.ref a0, .int (1 : Int32), .int (0 : Int32), am_un] [] s_4) xo))) xo)) := by
  refine Eq.trans (rn_go 1 (pc' := 1) (L' := [.ref a0, am_un, am_un, am_un]) (st' := [.ref a0]) rfl) ?_
  refine Eq.trans (rn_gA (L' := [.ref a0, am_un, am_un, am_un]) rfl rfl rfl rfl) ?_
  refine eA_c ?_ (fun b_1 => ?_)
  · exact rn_z rfl rfl
  · refine Eq.trans (rn_vir (L' := [.ref a0, am_un, am_un, am_un]) (as := []) (rest := []) rfl rfl rfl rfl rfl (Nat.le_of_ble_eq_true rfl) (by decide) (by decide)) ?_
    refine eC_c ?_
    refine Eq.trans (cW_V rfl rfl) ?_
    refine cV_c (fun s_2 => ?_) (xh_nil rfl)
    refine Eq.trans (rn_go 1 (pc' := 8) (L' := [.ref a0, am_un, am_un, am_un]) (st' := [.ref a0]) rfl) ?_
    refine Eq.trans (rn_gA (L' := [.ref a0, am_un, am_un, am_un]) rfl rfl rfl rfl) ?_
    refine eA_c ?_ (fun b_3 => ?_)
    · exact rn_z rfl rfl
    · refine Eq.trans (rn_vir (L' := [.ref a0, am_un, am_un, am_un]) (as := []) (rest := []) rfl rfl rfl rfl rfl (Nat.le_of_ble_eq_true rfl) (by decide) (by decide)) ?_
      refine eC_c ?_
      refine Eq.trans (cW_V rfl rfl) ?_
      refine cV_c (fun s_4 => ?_) (xh_nil rfl)
      exact rn_go 4 (pc' := 18) (L' := [.ref a0, .int (1 : Int32), .int (0 : Int32), am_un]) (st' := []) rfl
theorem dc_X12_load_18 {B : Nat} (a0 : Nat) (x1 : Int32) (x2 : Int32) (s : am_S) : rn_ tb_ct tb_mt B mm_X12_load 18 [.ref a0, .int x1, .int x2, am_un] [] s = if x1 = 0 then rn_ tb_ct tb_mt B mm_X12_load 72 [.ref a0, .int x1, .int x2, am_un] [] s else if (500 : Int32) < x2 then rn_ tb_ct tb_mt B mm_X12_load 72 [.ref a0, .int x1, .int x2, am_un] [] s else eA (gA tb_ct s a0 10 3) (none) (fun b_1 => eC (am_cls s b_1) 5 (cA (cl_ tb_ct tb_mt B K_X6_readStatement [.ref b_1] s) (fun s_2 => rn_ tb_ct tb_mt B mm_X12_load 58 [.ref a0, .int x1, .int x2, va_rf none] [] s_2) (fun b_3 s_2 => eA (gA tb_ct s_2 a0 10 3) (eA (gA tb_ct s_2 a0 10 1) (eC (am_cls s_2 a0) 10 (cI (cl_ tb_ct tb_mt B K_X12_perform [.ref a0, .ref b_3, .null] s_2) (fun x_7 s_6 => none) xo)) (fun b_5 => eC (am_cls s_2 a0) 10 (cI (cl_ tb_ct tb_mt B K_X12_perform [.ref a0, .ref b_3, .ref b_5] s_2) (fun x_9 s_8 => none) xo))) (fun b_4 => eA (gA tb_ct s_2 a0 10 1) (eC (am_cls s_2 a0) 10 (cI (cl_ tb_ct tb_mt B K_X12_perform [.ref a0, .ref b_3, .null] s_2) (fun x_12 s_11 => eC (am_cls s_11 b_4) 5 (cV (cl_ tb_ct tb_mt B K_X6_judge [.ref b_4, .ref b_3, .int x_12] s_11) (fun s_13 => rn_ tb_ct tb_mt B mm_X12_load 58 [.ref a0, .int x1, .int x2, va_rf (some b_3)] [] s_13) xo)) xo)) (fun b_10 => eC (am_cls s_2 a0) 10 (cI (cl_ tb_ct tb_mt B K_X12_perform [.ref a0, .ref b_3, .ref b_10] s_2) (fun x_15 s_14 => eC (am_cls s_14 b_4) 5 (cV (cl_ tb_ct tb_mt B K_X6_judge [.ref b_4, .ref b_3, .int x_15] s_14) (fun s_16 => rn_ tb_ct tb_mt B mm_X12_load 58 [.ref a0, .int x1, .int x2, va_rf (some b_3)] [] s_16) xo)) xo)))) xo)) := by
  refine Eq.trans (rn_go 1 (pc' := 19) (L' := [.ref a0, .int x1, .int x2, am_un]) (st' := [.int x1]) rfl) ?_
  refine Eq.trans (rn_ifeq (L' := [.ref a0, .int x1, .int x2, am_un]) rfl rfl) ?_
  refine if_c ?_ ?_
  · rfl
  · refine Eq.trans (rn_go 2 (pc' := 26) (L' := [.ref a0, .int x1, .int x2, am_un]) (st' := [.int (500 : Int32), .int x2]) rfl) ?_
    refine Eq.trans (rn_icgt (L' := [.ref a0, .int x1, .int x2, am_un]) rfl rfl) ?_
    refine if_c ?_ ?_
    · rfl
    · refine Eq.trans (rn_go 1 (pc' := 30) (L' := [.ref a0, .int x1, .int x2, am_un]) (st' := [.ref a0]) rfl) ?_
      refine Eq.trans (rn_gA (L' := [.ref a0, .int x1, .int x2, am_un]) rfl rfl rfl rfl) ?_
      refine eA_c ?_ (fun b_1 => ?_)
      · exact rn_z rfl rfl
      · refine Eq.trans (rn_vir (L' := [.ref a0, .int x1, .int x2, am_un]) (as := []) (rest := []) rfl rfl rfl rfl rfl (Nat.le_of_ble_eq_true rfl) (by decide) (by decide)) ?_
        refine eC_c ?_
        refine Eq.trans (cW_A rfl rfl rfl) ?_
        refine cA_c (fun s_2 => ?_) (fun b_3 s_2 => ?_) (xh_nil rfl)
        · exact rn_go 3 (pc' := 58) (L' := [.ref a0, .int x1, .int x2, va_rf none]) (st' := []) rfl
        · refine Eq.trans (rn_go 4 (pc' := 42) (L' := [.ref a0, .int x1, .int x2, .ref b_3]) (st' := [.ref a0]) rfl) ?_
          refine Eq.trans (rn_gA (L' := [.ref a0, .int x1, .int x2, .ref b_3]) rfl rfl rfl rfl) ?_
          refine eA_c ?_ (fun b_4 => ?_)
          · refine Eq.trans (rn_go 4 (pc' := 49) (L' := [.ref a0, .int x1, .int x2, .ref b_3]) (st' := [.ref a0, .ref b_3, .ref a0, .ref b_3, .null]) rfl) ?_
            refine Eq.trans (rn_gA (L' := [.ref a0, .int x1, .int x2, .ref b_3]) rfl rfl rfl rfl) ?_
            refine eA_c ?_ (fun b_5 => ?_)
            · refine Eq.trans (rn_vir (L' := [.ref a0, .int x1, .int x2, .ref b_3]) (as := [.ref b_3, .null]) (rest := [.ref b_3, .null]) rfl rfl rfl rfl rfl (Nat.le_of_ble_eq_true rfl) (by decide) (by decide)) ?_
              refine eC_c ?_
              refine Eq.trans (cW_I rfl rfl rfl) ?_
              refine cI_c (fun x_7 s_6 => ?_) (xh_nil rfl)
              exact rn_z rfl rfl
            · refine Eq.trans (rn_vir (L' := [.ref a0, .int x1, .int x2, .ref b_3]) (as := [.ref b_3, .ref b_5]) (rest := [.ref b_3, .null]) rfl rfl rfl rfl rfl (Nat.le_of_ble_eq_true rfl) (by decide) (by decide)) ?_
              refine eC_c ?_
              refine Eq.trans (cW_I rfl rfl rfl) ?_
              refine cI_c (fun x_9 s_8 => ?_) (xh_nil rfl)
              exact rn_z rfl rfl
          · refine Eq.trans (rn_go 4 (pc' := 49) (L' := [.ref a0, .int x1, .int x2, .ref b_3]) (st' := [.ref a0, .ref b_3, .ref a0, .ref b_3, .ref b_4]) rfl) ?_
            refine Eq.trans (rn_gA (L' := [.ref a0, .int x1, .int x2, .ref b_3]) rfl rfl rfl rfl) ?_
            refine eA_c ?_ (fun b_10 => ?_)
            · refine Eq.trans (rn_vir (L' := [.ref a0, .int x1, .int x2, .ref b_3]) (as := [.ref b_3, .null]) (rest := [.ref b_3, .ref b_4]) rfl rfl rfl rfl rfl (Nat.le_of_ble_eq_true rfl) (by decide) (by decide)) ?_
              refine eC_c ?_
              refine Eq.trans (cW_I rfl rfl rfl) ?_
              refine cI_c (fun x_12 s_11 => ?_) (xh_nil rfl)
              refine Eq.trans (rn_vir (L' := [.ref a0, .int x1, .int x2, .ref b_3]) (as := [.ref b_3, .int x_12]) (rest := []) rfl rfl rfl rfl rfl (Nat.le_of_ble_eq_true rfl) (by decide) (by decide)) ?_
              refine eC_c ?_
              refine Eq.trans (cW_V rfl rfl) ?_
              refine cV_c (fun s_13 => ?_) (xh_nil rfl)
              rfl
            · refine Eq.trans (rn_vir (L' := [.ref a0, .int x1, .int x2, .ref b_3]) (as := [.ref b_3, .ref b_10]) (rest := [.ref b_3, .ref b_4]) rfl rfl rfl rfl rfl (Nat.le_of_ble_eq_true rfl) (by decide) (by decide)) ?_
              refine eC_c ?_
              refine Eq.trans (cW_I rfl rfl rfl) ?_
              refine cI_c (fun x_15 s_14 => ?_) (xh_nil rfl)
              refine Eq.trans (rn_vir (L' := [.ref a0, .int x1, .int x2, .ref b_3]) (as := [.ref b_3, .int x_15]) (rest := []) rfl rfl rfl rfl rfl (Nat.le_of_ble_eq_true rfl) (by decide) (by decide)) ?_
              refine eC_c ?_
              refine Eq.trans (cW_V rfl rfl) ?_
              refine cV_c (fun s_16 => ?_) (xh_nil rfl)
              rfl
theorem dc_X12_load_58 {B : Nat} (a0 : Nat) (w1 : Value) (x2 : Int32) (w3 : Value) (s : am_S) : rn_ tb_ct tb_mt B mm_X12_load 58 [.ref a0, w1, .int x2, w3] [] s = eA (gA tb_ct s a0 10 3) (none) (fun b_1 => eC (am_cls s b_1) 5 (cI (cl_ tb_ct tb_mt B K_X6_passSemicolon [.ref b_1] s) (fun x_3 s_2 => rn_ tb_ct tb_mt B mm_X12_load 18 [.ref a0, .int x_3, .int (x2 + (1 : Int32)), am_un] [] s_2) xo)) := by
  refine Eq.trans (rn_go 1 (pc' := 59) (L' := [.ref a0, am_un, .int x2, am_un]) (st' := [.ref a0]) rfl) ?_
  refine Eq.trans (rn_gA (L' := [.ref a0, am_un, .int x2, am_un]) rfl rfl rfl rfl) ?_
  refine eA_c ?_ (fun b_1 => ?_)
  · exact rn_z rfl rfl
  · refine Eq.trans (rn_vir (L' := [.ref a0, am_un, .int x2, am_un]) (as := []) (rest := []) rfl rfl rfl rfl rfl (Nat.le_of_ble_eq_true rfl) (by decide) (by decide)) ?_
    refine eC_c ?_
    refine Eq.trans (cW_I rfl rfl rfl) ?_
    refine cI_c (fun x_3 s_2 => ?_) (xh_nil rfl)
    exact rn_go 3 (pc' := 18) (L' := [.ref a0, .int x_3, .int (x2 + (1 : Int32)), am_un]) (st' := []) rfl
theorem dc_X12_load_72 {B : Nat} (a0 : Nat) (w1 : Value) (w2 : Value) (s : am_S) : rn_ tb_ct tb_mt B mm_X12_load 72 [.ref a0, w1, w2, am_un] [] s = eA (gA tb_ct s a0 10 3) (none) (fun b_1 => eI (gI tb_ct s b_1 5 7) (fun x_2 => if x_2 = 0 then eA (gA tb_ct s a0 10 0) (eA (gA tb_ct s a0 10 1) (eS (am_put tb_ct mm_X12_load B s (.null) a0 10 0) (fun s_5 => eS (am_put tb_ct mm_X12_load B s_5 (.null) a0 10 1) (fun s_6 => rn_ tb_ct tb_mt B mm_X12_load 100 [.ref a0, am_un, .null, am_un] [] s_6))) (fun b_4 => eS (am_put tb_ct mm_X12_load B s (.ref b_4) a0 10 0) (fun s_7 => eS (am_put tb_ct mm_X12_load B s_7 (.null) a0 10 1) (fun s_8 => rn_ tb_ct tb_mt B mm_X12_load 100 [.ref a0, am_un, .null, am_un] [] s_8)))) (fun b_3 => eA (gA tb_ct s a0 10 1) (eS (am_put tb_ct mm_X12_load B s (.null) a0 10 0) (fun s_10 => eS (am_put tb_ct mm_X12_load B s_10 (.ref b_3) a0 10 1) (fun s_11 => rn_ tb_ct tb_mt B mm_X12_load 100 [.ref a0, am_un, .ref b_3, am_un] [] s_11))) (fun b_9 => eS (am_put tb_ct mm_X12_load B s (.ref b_9) a0 10 0) (fun s_12 => eS (am_put tb_ct mm_X12_load B s_12 (.ref b_3) a0 10 1) (fun s_13 => rn_ tb_ct tb_mt B mm_X12_load 100 [.ref a0, am_un, .ref b_3, am_un] [] s_13)))) else rn_ tb_ct tb_mt B mm_X12_load 100 [.ref a0, am_un, am_un, am_un] [] s)) := by
  refine Eq.trans (rn_go 1 (pc' := 73) (L' := [.ref a0, am_un, am_un, am_un]) (st' := [.ref a0]) rfl) ?_
  refine Eq.trans (rn_gA (L' := [.ref a0, am_un, am_un, am_un]) rfl rfl rfl rfl) ?_
  refine eA_c ?_ (fun b_1 => ?_)
  · exact rn_z rfl rfl
  · refine Eq.trans (rn_gI (L' := [.ref a0, am_un, am_un, am_un]) rfl rfl rfl rfl) ?_
    refine eI_c (fun x_2 => ?_)
    refine Eq.trans (rn_ifne (L' := [.ref a0, am_un, am_un, am_un]) rfl rfl) ?_
    refine if_c ?_ ?_
    · refine Eq.trans (rn_go 1 (pc' := 83) (L' := [.ref a0, am_un, am_un, am_un]) (st' := [.ref a0]) rfl) ?_
      refine Eq.trans (rn_gA (L' := [.ref a0, am_un, am_un, am_un]) rfl rfl rfl rfl) ?_
      refine eA_c ?_ (fun b_3 => ?_)
      · refine Eq.trans (rn_go 3 (pc' := 89) (L' := [.ref a0, am_un, .null, am_un]) (st' := [.ref a0, .ref a0]) rfl) ?_
        refine Eq.trans (rn_gA (L' := [.ref a0, am_un, .null, am_un]) rfl rfl rfl rfl) ?_
        refine eA_c ?_ (fun b_4 => ?_)
        · refine Eq.trans (rn_pF (L' := [.ref a0, am_un, .null, am_un]) rfl rfl) ?_
          refine eS_c (fun s_5 => ?_)
          refine Eq.trans (rn_go 2 (pc' := 97) (L' := [.ref a0, am_un, .null, am_un]) (st' := [.null, .ref a0]) rfl) ?_
          refine Eq.trans (rn_pF (L' := [.ref a0, am_un, .null, am_un]) rfl rfl) ?_
          refine eS_c (fun s_6 => ?_)
          rfl
        · refine Eq.trans (rn_pF (L' := [.ref a0, am_un, .null, am_un]) rfl rfl) ?_
          refine eS_c (fun s_7 => ?_)
          refine Eq.trans (rn_go 2 (pc' := 97) (L' := [.ref a0, am_un, .null, am_un]) (st' := [.null, .ref a0]) rfl) ?_
          refine Eq.trans (rn_pF (L' := [.ref a0, am_un, .null, am_un]) rfl rfl) ?_
          refine eS_c (fun s_8 => ?_)
          rfl
      · refine Eq.trans (rn_go 3 (pc' := 89) (L' := [.ref a0, am_un, .ref b_3, am_un]) (st' := [.ref a0, .ref a0]) rfl) ?_
        refine Eq.trans (rn_gA (L' := [.ref a0, am_un, .ref b_3, am_un]) rfl rfl rfl rfl) ?_
        refine eA_c ?_ (fun b_9 => ?_)
        · refine Eq.trans (rn_pF (L' := [.ref a0, am_un, .ref b_3, am_un]) rfl rfl) ?_
          refine eS_c (fun s_10 => ?_)
          refine Eq.trans (rn_go 2 (pc' := 97) (L' := [.ref a0, am_un, .ref b_3, am_un]) (st' := [.ref b_3, .ref a0]) rfl) ?_
          refine Eq.trans (rn_pF (L' := [.ref a0, am_un, .ref b_3, am_un]) rfl rfl) ?_
          refine eS_c (fun s_11 => ?_)
          rfl
        · refine Eq.trans (rn_pF (L' := [.ref a0, am_un, .ref b_3, am_un]) rfl rfl) ?_
          refine eS_c (fun s_12 => ?_)
          refine Eq.trans (rn_go 2 (pc' := 97) (L' := [.ref a0, am_un, .ref b_3, am_un]) (st' := [.ref b_3, .ref a0]) rfl) ?_
          refine Eq.trans (rn_pF (L' := [.ref a0, am_un, .ref b_3, am_un]) rfl rfl) ?_
          refine eS_c (fun s_13 => ?_)
          rfl
    · rfl
theorem dc_X12_load_100 {B : Nat} (a0 : Nat) (w2 : Value) (s : am_S) : rn_ tb_ct tb_mt B mm_X12_load 100 [.ref a0, am_un, w2, am_un] [] s = eA (gA tb_ct s a0 10 3) (none) (fun b_1 => eC (am_cls s b_1) 5 (cI (cl_ tb_ct tb_mt B K_X6_finish [.ref b_1] s) (fun x_3 s_2 => some (.inl (some (.int x_3)), s_2)) xo)) := by
  refine Eq.trans (rn_go 1 (pc' := 101) (L' := [.ref a0, am_un, am_un, am_un]) (st' := [.ref a0]) rfl) ?_
  refine Eq.trans (rn_gA (L' := [.ref a0, am_un, am_un, am_un]) rfl rfl rfl rfl) ?_
  refine eA_c ?_ (fun b_1 => ?_)
  · exact rn_z rfl rfl
  · refine Eq.trans (rn_vir (L' := [.ref a0, am_un, am_un, am_un]) (as := []) (rest := []) rfl rfl rfl rfl rfl (Nat.le_of_ble_eq_true rfl) (by decide) (by decide)) ?_
    refine eC_c ?_
    refine Eq.trans (cW_I rfl rfl rfl) ?_
    refine cI_c (fun x_3 s_2 => ?_) (xh_nil rfl)
    exact rn_retI rfl rfl rfl
theorem in_X12_loadError {B : Nat} (a0 : Nat) (s : am_S) : cl_ tb_ct tb_mt B K_X12_loadError [.ref a0] s = rn_ tb_ct tb_mt B mm_X12_loadError 0 [.ref a0] [] s := cl_in rfl rfl rfl rfl
theorem dc_X12_loadError_0 {B : Nat} (a0 : Nat) (s : am_S) : rn_ tb_ct tb_mt B mm_X12_loadError 0 [.ref a0] [] s = eA (gA tb_ct s a0 10 3) (none) (fun b_1 => eI (gI tb_ct s b_1 5 7) (fun x_2 => some (.inl (some (.int x_2)), s))) := by
  refine Eq.trans (rn_go 1 (pc' := 1) (L' := [.ref a0]) (st' := [.ref a0]) rfl) ?_
  refine Eq.trans (rn_gA (L' := [.ref a0]) rfl rfl rfl rfl) ?_
  refine eA_c ?_ (fun b_1 => ?_)
  · exact rn_z rfl rfl
  · refine Eq.trans (rn_gI (L' := [.ref a0]) rfl rfl rfl rfl) ?_
    refine eI_c (fun x_2 => ?_)
    exact rn_retI rfl rfl rfl
theorem in_X12_loadStatement {B : Nat} (a0 : Nat) (s : am_S) : cl_ tb_ct tb_mt B K_X12_loadStatement [.ref a0] s = rn_ tb_ct tb_mt B mm_X12_loadStatement 0 [.ref a0] [] s := cl_in rfl rfl rfl rfl
theorem dc_X12_loadStatement_0 {B : Nat} (a0 : Nat) (s : am_S) : rn_ tb_ct tb_mt B mm_X12_loadStatement 0 [.ref a0] [] s = eA (gA tb_ct s a0 10 3) (none) (fun b_1 => eI (gI tb_ct s b_1 5 7) (fun x_2 => if x_2 = 0 then some (.inl (some (.int (-(1 : Int32)))), s) else eA (gA tb_ct s a0 10 3) (none) (fun b_3 => eI (gI tb_ct s b_3 5 5) (fun x_4 => some (.inl (some (.int x_4)), s))))) := by
  refine Eq.trans (rn_go 1 (pc' := 1) (L' := [.ref a0]) (st' := [.ref a0]) rfl) ?_
  refine Eq.trans (rn_gA (L' := [.ref a0]) rfl rfl rfl rfl) ?_
  refine eA_c ?_ (fun b_1 => ?_)
  · exact rn_z rfl rfl
  · refine Eq.trans (rn_gI (L' := [.ref a0]) rfl rfl rfl rfl) ?_
    refine eI_c (fun x_2 => ?_)
    refine Eq.trans (rn_ifne (L' := [.ref a0]) rfl rfl) ?_
    refine if_c ?_ ?_
    · refine Eq.trans (rn_go 2 (pc' := 21) (L' := [.ref a0]) (st' := [.int (-(1 : Int32))]) rfl) ?_
      exact rn_retI rfl rfl rfl
    · refine Eq.trans (rn_go 1 (pc' := 15) (L' := [.ref a0]) (st' := [.ref a0]) rfl) ?_
      refine Eq.trans (rn_gA (L' := [.ref a0]) rfl rfl rfl rfl) ?_
      refine eA_c ?_ (fun b_3 => ?_)
      · exact rn_z rfl rfl
      · refine Eq.trans (rn_gI (L' := [.ref a0]) rfl rfl rfl rfl) ?_
        refine eI_c (fun x_4 => ?_)
        exact rn_retI rfl rfl rfl
theorem in_X12_count {B : Nat} (a0 : Nat) (x1 : Int32) (s : am_S) : cl_ tb_ct tb_mt B K_X12_count [.ref a0, .int x1] s = rn_ tb_ct tb_mt B mm_X12_count 0 [.ref a0, .int x1] [] s := cl_in rfl rfl rfl rfl
theorem dc_X12_count_0 {B : Nat} (a0 : Nat) (x1 : Int32) (s : am_S) : rn_ tb_ct tb_mt B mm_X12_count 0 [.ref a0, .int x1] [] s = if x1 < 0 then rn_ tb_ct tb_mt B mm_X12_count 14 [.ref a0, .int x1] [] s else if (9 : Int32) < x1 then rn_ tb_ct tb_mt B mm_X12_count 14 [.ref a0, .int x1] [] s else rn_ tb_ct tb_mt B mm_X12_count 15 [.ref a0, .int x1] [.int (1 : Int32)] s := by
  refine Eq.trans (rn_go 1 (pc' := 1) (L' := [.ref a0, .int x1]) (st' := [.int x1]) rfl) ?_
  refine Eq.trans (rn_iflt (L' := [.ref a0, .int x1]) rfl rfl) ?_
  refine if_c ?_ ?_
  · rfl
  · refine Eq.trans (rn_go 2 (pc' := 7) (L' := [.ref a0, .int x1]) (st' := [.int (9 : Int32), .int x1]) rfl) ?_
    refine Eq.trans (rn_icgt (L' := [.ref a0, .int x1]) rfl rfl) ?_
    refine if_c ?_ ?_
    · rfl
    · exact rn_go 2 (pc' := 15) (L' := [.ref a0, .int x1]) (st' := [.int (1 : Int32)]) rfl
theorem dc_X12_count_14 {B : Nat} (a0 : Nat) (x1 : Int32) (s : am_S) : rn_ tb_ct tb_mt B mm_X12_count 14 [.ref a0, .int x1] [] s = rn_ tb_ct tb_mt B mm_X12_count 15 [.ref a0, .int x1] [.int (0 : Int32)] s := by
  exact rn_go 1 (pc' := 15) (L' := [.ref a0, .int x1]) (st' := [.int (0 : Int32)]) rfl
theorem dc_X12_count_15 {B : Nat} (a0 : Nat) (x1 : Int32) (xs0 : Int32) (s : am_S) : rn_ tb_ct tb_mt B mm_X12_count 15 [.ref a0, .int x1] [.int xs0] s = cV (cl_ tb_ct tb_mt B K_X12_need [.int xs0] s) (fun s_1 => sw x1.toInt (0) [eA (gA tb_ct s_1 a0 10 0) (none) (fun b_2 => eI (gI tb_ct s_1 b_2 7 5) (fun x_3 => some (.inl (some (.int x_3)), s_1))), eA (gA tb_ct s_1 a0 10 0) (none) (fun b_4 => eI (gI tb_ct s_1 b_4 7 6) (fun x_5 => some (.inl (some (.int x_5)), s_1))), eA (gA tb_ct s_1 a0 10 0) (none) (fun b_6 => eA (gA tb_ct s_1 b_6 7 0) (none) (fun b_7 => eI (gI tb_ct s_1 b_7 3 1) (fun x_8 => some (.inl (some (.int x_8)), s_1)))), eA (gA tb_ct s_1 a0 10 0) (none) (fun b_9 => eI (gI tb_ct s_1 b_9 7 9) (fun x_10 => some (.inl (some (.int x_10)), s_1))), eA (gA tb_ct s_1 a0 10 0) (none) (fun b_11 => eI (gI tb_ct s_1 b_11 7 8) (fun x_12 => some (.inl (some (.int x_12)), s_1))), eA (gA tb_ct s_1 a0 10 0) (none) (fun b_13 => eA (gA tb_ct s_1 b_13 7 1) (none) (fun b_14 => eI (gI tb_ct s_1 b_14 1 1) (fun x_15 => some (.inl (some (.int x_15)), s_1)))), eA (gA tb_ct s_1 a0 10 0) (none) (fun b_16 => eI (gI tb_ct s_1 b_16 7 7) (fun x_17 => some (.inl (some (.int x_17)), s_1))), eA (gA tb_ct s_1 a0 10 0) (none) (fun b_18 => eA (gA tb_ct s_1 b_18 7 4) (none) (fun b_19 => eI (gI tb_ct s_1 b_19 8 4) (fun x_20 => some (.inl (some (.int x_20)), s_1)))), eA (gA tb_ct s_1 a0 10 0) (none) (fun b_21 => eA (gA tb_ct s_1 b_21 7 4) (none) (fun b_22 => eA (gA tb_ct s_1 b_22 8 5) (none) (fun b_23 => eI (gI tb_ct s_1 b_23 6 3) (fun x_24 => some (.inl (some (.int x_24)), s_1)))))] (eA (gA tb_ct s_1 a0 10 0) (none) (fun b_25 => eA (gA tb_ct s_1 b_25 7 4) (none) (fun b_26 => eA (gA tb_ct s_1 b_26 8 6) (none) (fun b_27 => eI (gI tb_ct s_1 b_27 6 3) (fun x_28 => some (.inl (some (.int x_28)), s_1))))))) xo := by
  refine Eq.trans (rn_sta (L' := [.ref a0, .int x1]) (as := [.int xs0]) (rest := []) rfl rfl rfl rfl rfl (Nat.le_of_ble_eq_true rfl) (by decide) rfl) ?_
  refine Eq.trans (cW_V rfl rfl) ?_
  refine cV_c (fun s_1 => ?_) (xh_nil rfl)
  refine Eq.trans (rn_go 1 (pc' := 19) (L' := [.ref a0, .int x1]) (st' := [.int x1]) rfl) ?_
  refine Eq.trans (rn_tsw (L' := [.ref a0, .int x1]) (ts := [68, 76, 84, 95, 103, 111, 122, 130, 141]) (td := 155) rfl rfl (by decide) rfl rfl) ?_
  refine sw_c ?_ ?_
  · refine cons_c ?_ ?_
    · refine Eq.trans (rn_go 1 (pc' := 69) (L' := [.ref a0, .int x1]) (st' := [.ref a0]) rfl) ?_
      refine Eq.trans (rn_gA (L' := [.ref a0, .int x1]) rfl rfl rfl rfl) ?_
      refine eA_c ?_ (fun b_2 => ?_)
      · exact rn_z rfl rfl
      · refine Eq.trans (rn_gI (L' := [.ref a0, .int x1]) rfl rfl rfl rfl) ?_
        refine eI_c (fun x_3 => ?_)
        exact rn_retI rfl rfl rfl
    refine cons_c ?_ ?_
    · refine Eq.trans (rn_go 1 (pc' := 77) (L' := [.ref a0, .int x1]) (st' := [.ref a0]) rfl) ?_
      refine Eq.trans (rn_gA (L' := [.ref a0, .int x1]) rfl rfl rfl rfl) ?_
      refine eA_c ?_ (fun b_4 => ?_)
      · exact rn_z rfl rfl
      · refine Eq.trans (rn_gI (L' := [.ref a0, .int x1]) rfl rfl rfl rfl) ?_
        refine eI_c (fun x_5 => ?_)
        exact rn_retI rfl rfl rfl
    refine cons_c ?_ ?_
    · refine Eq.trans (rn_go 1 (pc' := 85) (L' := [.ref a0, .int x1]) (st' := [.ref a0]) rfl) ?_
      refine Eq.trans (rn_gA (L' := [.ref a0, .int x1]) rfl rfl rfl rfl) ?_
      refine eA_c ?_ (fun b_6 => ?_)
      · exact rn_z rfl rfl
      · refine Eq.trans (rn_gA (L' := [.ref a0, .int x1]) rfl rfl rfl rfl) ?_
        refine eA_c ?_ (fun b_7 => ?_)
        · exact rn_z rfl rfl
        · refine Eq.trans (rn_gI (L' := [.ref a0, .int x1]) rfl rfl rfl rfl) ?_
          refine eI_c (fun x_8 => ?_)
          exact rn_retI rfl rfl rfl
    refine cons_c ?_ ?_
    · refine Eq.trans (rn_go 1 (pc' := 96) (L' := [.ref a0, .int x1]) (st' := [.ref a0]) rfl) ?_
      refine Eq.trans (rn_gA (L' := [.ref a0, .int x1]) rfl rfl rfl rfl) ?_
      refine eA_c ?_ (fun b_9 => ?_)
      · exact rn_z rfl rfl
      · refine Eq.trans (rn_gI (L' := [.ref a0, .int x1]) rfl rfl rfl rfl) ?_
        refine eI_c (fun x_10 => ?_)
        exact rn_retI rfl rfl rfl
    refine cons_c ?_ ?_
    · refine Eq.trans (rn_go 1 (pc' := 104) (L' := [.ref a0, .int x1]) (st' := [.ref a0]) rfl) ?_
      refine Eq.trans (rn_gA (L' := [.ref a0, .int x1]) rfl rfl rfl rfl) ?_
      refine eA_c ?_ (fun b_11 => ?_)
      · exact rn_z rfl rfl
      · refine Eq.trans (rn_gI (L' := [.ref a0, .int x1]) rfl rfl rfl rfl) ?_
        refine eI_c (fun x_12 => ?_)
        exact rn_retI rfl rfl rfl
    refine cons_c ?_ ?_
    · refine Eq.trans (rn_go 1 (pc' := 112) (L' := [.ref a0, .int x1]) (st' := [.ref a0]) rfl) ?_
      refine Eq.trans (rn_gA (L' := [.ref a0, .int x1]) rfl rfl rfl rfl) ?_
      refine eA_c ?_ (fun b_13 => ?_)
      · exact rn_z rfl rfl
      · refine Eq.trans (rn_gA (L' := [.ref a0, .int x1]) rfl rfl rfl rfl) ?_
        refine eA_c ?_ (fun b_14 => ?_)
        · exact rn_z rfl rfl
        · refine Eq.trans (rn_gI (L' := [.ref a0, .int x1]) rfl rfl rfl rfl) ?_
          refine eI_c (fun x_15 => ?_)
          exact rn_retI rfl rfl rfl
    refine cons_c ?_ ?_
    · refine Eq.trans (rn_go 1 (pc' := 123) (L' := [.ref a0, .int x1]) (st' := [.ref a0]) rfl) ?_
      refine Eq.trans (rn_gA (L' := [.ref a0, .int x1]) rfl rfl rfl rfl) ?_
      refine eA_c ?_ (fun b_16 => ?_)
      · exact rn_z rfl rfl
      · refine Eq.trans (rn_gI (L' := [.ref a0, .int x1]) rfl rfl rfl rfl) ?_
        refine eI_c (fun x_17 => ?_)
        exact rn_retI rfl rfl rfl
    refine cons_c ?_ ?_
    · refine Eq.trans (rn_go 1 (pc' := 131) (L' := [.ref a0, .int x1]) (st' := [.ref a0]) rfl) ?_
      refine Eq.trans (rn_gA (L' := [.ref a0, .int x1]) rfl rfl rfl rfl) ?_
      refine eA_c ?_ (fun b_18 => ?_)
      · exact rn_z rfl rfl
      · refine Eq.trans (rn_gA (L' := [.ref a0, .int x1]) rfl rfl rfl rfl) ?_
        refine eA_c ?_ (fun b_19 => ?_)
        · exact rn_z rfl rfl
        · refine Eq.trans (rn_gI (L' := [.ref a0, .int x1]) rfl rfl rfl rfl) ?_
          refine eI_c (fun x_20 => ?_)
          exact rn_retI rfl rfl rfl
    refine cons_c ?_ ?_
    · refine Eq.trans (rn_go 1 (pc' := 142) (L' := [.ref a0, .int x1]) (st' := [.ref a0]) rfl) ?_
      refine Eq.trans (rn_gA (L' := [.ref a0, .int x1]) rfl rfl rfl rfl) ?_
      refine eA_c ?_ (fun b_21 => ?_)
      · exact rn_z rfl rfl
      · refine Eq.trans (rn_gA (L' := [.ref a0, .int x1]) rfl rfl rfl rfl) ?_
        refine eA_c ?_ (fun b_22 => ?_)
        · exact rn_z rfl rfl
        · refine Eq.trans (rn_gA (L' := [.ref a0, .int x1]) rfl rfl rfl rfl) ?_
          refine eA_c ?_ (fun b_23 => ?_)
          · exact rn_z rfl rfl
          · refine Eq.trans (rn_gI (L' := [.ref a0, .int x1]) rfl rfl rfl rfl) ?_
            refine eI_c (fun x_24 => ?_)
            exact rn_retI rfl rfl rfl
    rfl
  · refine Eq.trans (rn_go 1 (pc' := 156) (L' := [.ref a0, .int x1]) (st' := [.ref a0]) rfl) ?_
    refine Eq.trans (rn_gA (L' := [.ref a0, .int x1]) rfl rfl rfl rfl) ?_
    refine eA_c ?_ (fun b_25 => ?_)
    · exact rn_z rfl rfl
    · refine Eq.trans (rn_gA (L' := [.ref a0, .int x1]) rfl rfl rfl rfl) ?_
      refine eA_c ?_ (fun b_26 => ?_)
      · exact rn_z rfl rfl
      · refine Eq.trans (rn_gA (L' := [.ref a0, .int x1]) rfl rfl rfl rfl) ?_
        refine eA_c ?_ (fun b_27 => ?_)
        · exact rn_z rfl rfl
        · refine Eq.trans (rn_gI (L' := [.ref a0, .int x1]) rfl rfl rfl rfl) ?_
          refine eI_c (fun x_28 => ?_)
          exact rn_retI rfl rfl rfl
theorem in_X12_get {B : Nat} (a0 : Nat) (x1 : Int32) (x2 : Int32) (s : am_S) : cl_ tb_ct tb_mt B K_X12_get [.ref a0, .int x1, .int x2] s = rn_ tb_ct tb_mt B mm_X12_get 0 [.ref a0, .int x1, .int x2, am_un] [] s := cl_in rfl rfl rfl rfl
theorem dc_X12_get_0 {B : Nat} (a0 : Nat) (x1 : Int32) (x2 : Int32) (s : am_S) : rn_ tb_ct tb_mt B mm_X12_get 0 [.ref a0, .int x1, .int x2, am_un] [] s = cV (cl_ tb_ct tb_mt B K_X12_needKey [.int x1] s) (fun s_1 => if x2 < 0 then rn_ tb_ct tb_mt B mm_X12_get 17 [.ref a0, .int x1, .int x2, am_un] [] s_1 else if (4 : Int32) < x2 then rn_ tb_ct tb_mt B mm_X12_get 17 [.ref a0, .int x1, .int x2, am_un] [] s_1 else rn_ tb_ct tb_mt B mm_X12_get 18 [.ref a0, .int x1, .int x2, am_un] [.int (1 : Int32)] s_1) xo := by
  refine Eq.trans (rn_go 1 (pc' := 1) (L' := [.ref a0, .int x1, .int x2, am_un]) (st' := [.int x1]) rfl) ?_
  refine Eq.trans (rn_sta (L' := [.ref a0, .int x1, .int x2, am_un]) (as := [.int x1]) (rest := []) rfl rfl rfl rfl rfl (Nat.le_of_ble_eq_true rfl) (by decide) rfl) ?_
  refine Eq.trans (cW_V rfl rfl) ?_
  refine cV_c (fun s_1 => ?_) (xh_nil rfl)
  refine Eq.trans (rn_go 1 (pc' := 5) (L' := [.ref a0, .int x1, .int x2, am_un]) (st' := [.int x2]) rfl) ?_
  refine Eq.trans (rn_iflt (L' := [.ref a0, .int x1, .int x2, am_un]) rfl rfl) ?_
  refine if_c ?_ ?_
  · rfl
  · refine Eq.trans (rn_go 2 (pc' := 10) (L' := [.ref a0, .int x1, .int x2, am_un]) (st' := [.int (4 : Int32), .int x2]) rfl) ?_
    refine Eq.trans (rn_icgt (L' := [.ref a0, .int x1, .int x2, am_un]) rfl rfl) ?_
    refine if_c ?_ ?_
    · rfl
    · exact rn_go 2 (pc' := 18) (L' := [.ref a0, .int x1, .int x2, am_un]) (st' := [.int (1 : Int32)]) rfl
theorem dc_X12_get_17 {B : Nat} (a0 : Nat) (x1 : Int32) (x2 : Int32) (s : am_S) : rn_ tb_ct tb_mt B mm_X12_get 17 [.ref a0, .int x1, .int x2, am_un] [] s = rn_ tb_ct tb_mt B mm_X12_get 18 [.ref a0, .int x1, .int x2, am_un] [.int (0 : Int32)] s := by
  exact rn_go 1 (pc' := 18) (L' := [.ref a0, .int x1, .int x2, am_un]) (st' := [.int (0 : Int32)]) rfl
theorem dc_X12_get_18 {B : Nat} (a0 : Nat) (x1 : Int32) (x2 : Int32) (xs0 : Int32) (s : am_S) : rn_ tb_ct tb_mt B mm_X12_get 18 [.ref a0, .int x1, .int x2, am_un] [.int xs0] s = cV (cl_ tb_ct tb_mt B K_X12_need [.int xs0] s) (fun s_1 => eA (gA tb_ct s_1 a0 10 0) (none) (fun b_2 => eA (gA tb_ct s_1 b_2 7 0) (none) (fun b_3 => eC (am_cls s_1 b_3) 3 (cA (cl_ tb_ct tb_mt B K_X4_find [.ref b_3, .int x1] s_1) (fun s_4 => some (.inl (some (.int (-(2000000000 : Int32)))), s_4)) (fun b_5 s_4 => eC (am_cls s_4 b_5) 2 (cI (cl_ tb_ct tb_mt B K_X3_number [.ref b_5, .int x2] s_4) (fun x_7 s_6 => some (.inl (some (.int x_7)), s_6)) xo)) xo)))) xo := by
  refine Eq.trans (rn_sta (L' := [.ref a0, .int x1, .int x2, am_un]) (as := [.int xs0]) (rest := []) rfl rfl rfl rfl rfl (Nat.le_of_ble_eq_true rfl) (by decide) rfl) ?_
  refine Eq.trans (cW_V rfl rfl) ?_
  refine cV_c (fun s_1 => ?_) (xh_nil rfl)
  refine Eq.trans (rn_go 1 (pc' := 22) (L' := [.ref a0, .int x1, .int x2, am_un]) (st' := [.ref a0]) rfl) ?_
  refine Eq.trans (rn_gA (L' := [.ref a0, .int x1, .int x2, am_un]) rfl rfl rfl rfl) ?_
  refine eA_c ?_ (fun b_2 => ?_)
  · exact rn_z rfl rfl
  · refine Eq.trans (rn_gA (L' := [.ref a0, .int x1, .int x2, am_un]) rfl rfl rfl rfl) ?_
    refine eA_c ?_ (fun b_3 => ?_)
    · refine Eq.trans (rn_go 1 (pc' := 29) (L' := [.ref a0, .int x1, .int x2, am_un]) (st' := [.int x1, .null]) rfl) ?_
      exact rn_z rfl rfl
    · refine Eq.trans (rn_go 1 (pc' := 29) (L' := [.ref a0, .int x1, .int x2, am_un]) (st' := [.int x1, .ref b_3]) rfl) ?_
      refine Eq.trans (rn_vir (L' := [.ref a0, .int x1, .int x2, am_un]) (as := [.int x1]) (rest := []) rfl rfl rfl rfl rfl (Nat.le_of_ble_eq_true rfl) (by decide) (by decide)) ?_
      refine eC_c ?_
      refine Eq.trans (cW_A rfl rfl rfl) ?_
      refine cA_c (fun s_4 => ?_) (fun b_5 s_4 => ?_) (xh_nil rfl)
      · refine Eq.trans (rn_go 5 (pc' := 47) (L' := [.ref a0, .int x1, .int x2, .null]) (st' := [.int (-(2000000000 : Int32))]) rfl) ?_
        exact rn_retI rfl rfl rfl
      · refine Eq.trans (rn_go 5 (pc' := 44) (L' := [.ref a0, .int x1, .int x2, .ref b_5]) (st' := [.int x2, .ref b_5]) rfl) ?_
        refine Eq.trans (rn_vir (L' := [.ref a0, .int x1, .int x2, .ref b_5]) (as := [.int x2]) (rest := []) rfl rfl rfl rfl rfl (Nat.le_of_ble_eq_true rfl) (by decide) (by decide)) ?_
        refine eC_c ?_
        refine Eq.trans (cW_I rfl rfl rfl) ?_
        refine cI_c (fun x_7 s_6 => ?_) (xh_nil rfl)
        exact rn_retI rfl rfl rfl
theorem in_X12_getAt {B : Nat} (a0 : Nat) (x1 : Int32) (x2 : Int32) (s : am_S) : cl_ tb_ct tb_mt B K_X12_getAt [.ref a0, .int x1, .int x2] s = rn_ tb_ct tb_mt B mm_X12_getAt 0 [.ref a0, .int x1, .int x2, am_un, am_un] [] s := cl_in rfl rfl rfl rfl
theorem dc_X12_getAt_0 {B : Nat} (a0 : Nat) (x1 : Int32) (x2 : Int32) (s : am_S) : rn_ tb_ct tb_mt B mm_X12_getAt 0 [.ref a0, .int x1, .int x2, am_un, am_un] [] s = cV (cl_ tb_ct tb_mt B K_X12_needKey [.int x1] s) (fun s_1 => if x2 < 0 then rn_ tb_ct tb_mt B mm_X12_getAt 13 [.ref a0, .int x1, .int x2, am_un, am_un] [.int (0 : Int32)] s_1 else rn_ tb_ct tb_mt B mm_X12_getAt 13 [.ref a0, .int x1, .int x2, am_un, am_un] [.int (1 : Int32)] s_1) xo := by
  refine Eq.trans (rn_go 1 (pc' := 1) (L' := [.ref a0, .int x1, .int x2, am_un, am_un]) (st' := [.int x1]) rfl) ?_
  refine Eq.trans (rn_sta (L' := [.ref a0, .int x1, .int x2, am_un, am_un]) (as := [.int x1]) (rest := []) rfl rfl rfl rfl rfl (Nat.le_of_ble_eq_true rfl) (by decide) rfl) ?_
  refine Eq.trans (cW_V rfl rfl) ?_
  refine cV_c (fun s_1 => ?_) (xh_nil rfl)
  refine Eq.trans (rn_go 1 (pc' := 5) (L' := [.ref a0, .int x1, .int x2, am_un, am_un]) (st' := [.int x2]) rfl) ?_
  refine Eq.trans (rn_iflt (L' := [.ref a0, .int x1, .int x2, am_un, am_un]) rfl rfl) ?_
  refine if_c ?_ ?_
  · exact rn_go 1 (pc' := 13) (L' := [.ref a0, .int x1, .int x2, am_un, am_un]) (st' := [.int (0 : Int32)]) rfl
  · exact rn_go 2 (pc' := 13) (L' := [.ref a0, .int x1, .int x2, am_un, am_un]) (st' := [.int (1 : Int32)]) rfl
theorem dc_X12_getAt_13 {B : Nat} (a0 : Nat) (x1 : Int32) (x2 : Int32) (xs0 : Int32) (s : am_S) : rn_ tb_ct tb_mt B mm_X12_getAt 13 [.ref a0, .int x1, .int x2, am_un, am_un] [.int xs0] s = cV (cl_ tb_ct tb_mt B K_X12_need [.int xs0] s) (fun s_1 => eA (gA tb_ct s_1 a0 10 0) (eA (gA tb_ct s_1 a0 10 5) (none) (fun b_3 => none)) (fun b_2 => eA (gA tb_ct s_1 a0 10 5) (eC (am_cls s_1 b_2) 7 (cI (cl_ tb_ct tb_mt B K_X8_recall [.ref b_2, .int x2, .null] s_1) (fun x_6 s_5 => if x_6 = 0 then eA (gA tb_ct s_5 a0 10 5) (none) (fun b_7 => eC (am_cls s_5 b_7) 3 (cA (cl_ tb_ct tb_mt B K_X4_find [.ref b_7, .int x1] s_5) (fun s_8 => some (.inl (some (.int (-(2000000000 : Int32)))), s_8)) (fun b_9 s_8 => eI (gI tb_ct s_8 b_9 2 1) (fun x_10 => some (.inl (some (.int x_10)), s_8))) xo)) else some (.inl (some (.int x_6)), s_5)) xo)) (fun b_4 => eC (am_cls s_1 b_2) 7 (cI (cl_ tb_ct tb_mt B K_X8_recall [.ref b_2, .int x2, .ref b_4] s_1) (fun x_12 s_11 => if x_12 = 0 then eA (gA tb_ct s_11 a0 10 5) (none) (fun b_13 => eC (am_cls s_11 b_13) 3 (cA (cl_ tb_ct tb_mt B K_X4_find [.ref b_13, .int x1] s_11) (fun s_14 => some (.inl (some (.int (-(2000000000 : Int32)))), s_14)) (fun b_15 s_14 => eI (gI tb_ct s_14 b_15 2 1) (fun x_16 => some (.inl (some (.int x_16)), s_14))) xo)) else some (.inl (some (.int x_12)), s_11)) xo)))) xo := by
  refine Eq.trans (rn_sta (L' := [.ref a0, .int x1, .int x2, am_un, am_un]) (as := [.int xs0]) (rest := []) rfl rfl rfl rfl rfl (Nat.le_of_ble_eq_true rfl) (by decide) rfl) ?_
  refine Eq.trans (cW_V rfl rfl) ?_
  refine cV_c (fun s_1 => ?_) (xh_nil rfl)
  refine Eq.trans (rn_go 1 (pc' := 17) (L' := [.ref a0, .int x1, .int x2, am_un, am_un]) (st' := [.ref a0]) rfl) ?_
  refine Eq.trans (rn_gA (L' := [.ref a0, .int x1, .int x2, am_un, am_un]) rfl rfl rfl rfl) ?_
  refine eA_c ?_ (fun b_2 => ?_)
  · refine Eq.trans (rn_go 2 (pc' := 22) (L' := [.ref a0, .int x1, .int x2, am_un, am_un]) (st' := [.ref a0, .int x2, .null]) rfl) ?_
    refine Eq.trans (rn_gA (L' := [.ref a0, .int x1, .int x2, am_un, am_un]) rfl rfl rfl rfl) ?_
    refine eA_c ?_ (fun b_3 => ?_)
    · exact rn_z rfl rfl
    · exact rn_z rfl rfl
  · refine Eq.trans (rn_go 2 (pc' := 22) (L' := [.ref a0, .int x1, .int x2, am_un, am_un]) (st' := [.ref a0, .int x2, .ref b_2]) rfl) ?_
    refine Eq.trans (rn_gA (L' := [.ref a0, .int x1, .int x2, am_un, am_un]) rfl rfl rfl rfl) ?_
    refine eA_c ?_ (fun b_4 => ?_)
    · refine Eq.trans (rn_vir (L' := [.ref a0, .int x1, .int x2, am_un, am_un]) (as := [.int x2, .null]) (rest := []) rfl rfl rfl rfl rfl (Nat.le_of_ble_eq_true rfl) (by decide) (by decide)) ?_
      refine eC_c ?_
      refine Eq.trans (cW_I rfl rfl rfl) ?_
      refine cI_c (fun x_6 s_5 => ?_) (xh_nil rfl)
      refine Eq.trans (rn_go 2 (pc' := 30) (L' := [.ref a0, .int x1, .int x2, .int x_6, am_un]) (st' := [.int x_6]) rfl) ?_
      refine Eq.trans (rn_ifeq (L' := [.ref a0, .int x1, .int x2, .int x_6, am_un]) rfl rfl) ?_
      refine if_c ?_ ?_
      · refine Eq.trans (rn_go 1 (pc' := 36) (L' := [.ref a0, .int x1, .int x2, .int x_6, am_un]) (st' := [.ref a0]) rfl) ?_
        refine Eq.trans (rn_gA (L' := [.ref a0, .int x1, .int x2, .int x_6, am_un]) rfl rfl rfl rfl) ?_
        refine eA_c ?_ (fun b_7 => ?_)
        · refine Eq.trans (rn_go 1 (pc' := 40) (L' := [.ref a0, .int x1, .int x2, .int x_6, am_un]) (st' := [.int x1, .null]) rfl) ?_
          exact rn_z rfl rfl
        · refine Eq.trans (rn_go 1 (pc' := 40) (L' := [.ref a0, .int x1, .int x2, .int x_6, am_un]) (st' := [.int x1, .ref b_7]) rfl) ?_
          refine Eq.trans (rn_vir (L' := [.ref a0, .int x1, .int x2, .int x_6, am_un]) (as := [.int x1]) (rest := []) rfl rfl rfl rfl rfl (Nat.le_of_ble_eq_true rfl) (by decide) (by decide)) ?_
          refine eC_c ?_
          refine Eq.trans (cW_A rfl rfl rfl) ?_
          refine cA_c (fun s_8 => ?_) (fun b_9 s_8 => ?_) (xh_nil rfl)
          · refine Eq.trans (rn_go 5 (pc' := 60) (L' := [.ref a0, .int x1, .int x2, .int x_6, .null]) (st' := [.int (-(2000000000 : Int32))]) rfl) ?_
            exact rn_retI rfl rfl rfl
          · refine Eq.trans (rn_go 4 (pc' := 57) (L' := [.ref a0, .int x1, .int x2, .int x_6, .ref b_9]) (st' := [.ref b_9]) rfl) ?_
            refine Eq.trans (rn_gI (L' := [.ref a0, .int x1, .int x2, .int x_6, .ref b_9]) rfl rfl rfl rfl) ?_
            refine eI_c (fun x_10 => ?_)
            exact rn_retI rfl rfl rfl
      · refine Eq.trans (rn_go 1 (pc' := 34) (L' := [.ref a0, .int x1, .int x2, .int x_6, am_un]) (st' := [.int x_6]) rfl) ?_
        exact rn_retI rfl rfl rfl
    · refine Eq.trans (rn_vir (L' := [.ref a0, .int x1, .int x2, am_un, am_un]) (as := [.int x2, .ref b_4]) (rest := []) rfl rfl rfl rfl rfl (Nat.le_of_ble_eq_true rfl) (by decide) (by decide)) ?_
      refine eC_c ?_
      refine Eq.trans (cW_I rfl rfl rfl) ?_
      refine cI_c (fun x_12 s_11 => ?_) (xh_nil rfl)
      refine Eq.trans (rn_go 2 (pc' := 30) (L' := [.ref a0, .int x1, .int x2, .int x_12, am_un]) (st' := [.int x_12]) rfl) ?_
      refine Eq.trans (rn_ifeq (L' := [.ref a0, .int x1, .int x2, .int x_12, am_un]) rfl rfl) ?_
      refine if_c ?_ ?_
      · refine Eq.trans (rn_go 1 (pc' := 36) (L' := [.ref a0, .int x1, .int x2, .int x_12, am_un]) (st' := [.ref a0]) rfl) ?_
        refine Eq.trans (rn_gA (L' := [.ref a0, .int x1, .int x2, .int x_12, am_un]) rfl rfl rfl rfl) ?_
        refine eA_c ?_ (fun b_13 => ?_)
        · refine Eq.trans (rn_go 1 (pc' := 40) (L' := [.ref a0, .int x1, .int x2, .int x_12, am_un]) (st' := [.int x1, .null]) rfl) ?_
          exact rn_z rfl rfl
        · refine Eq.trans (rn_go 1 (pc' := 40) (L' := [.ref a0, .int x1, .int x2, .int x_12, am_un]) (st' := [.int x1, .ref b_13]) rfl) ?_
          refine Eq.trans (rn_vir (L' := [.ref a0, .int x1, .int x2, .int x_12, am_un]) (as := [.int x1]) (rest := []) rfl rfl rfl rfl rfl (Nat.le_of_ble_eq_true rfl) (by decide) (by decide)) ?_
          refine eC_c ?_
          refine Eq.trans (cW_A rfl rfl rfl) ?_
          refine cA_c (fun s_14 => ?_) (fun b_15 s_14 => ?_) (xh_nil rfl)
          · refine Eq.trans (rn_go 5 (pc' := 60) (L' := [.ref a0, .int x1, .int x2, .int x_12, .null]) (st' := [.int (-(2000000000 : Int32))]) rfl) ?_
            exact rn_retI rfl rfl rfl
          · refine Eq.trans (rn_go 4 (pc' := 57) (L' := [.ref a0, .int x1, .int x2, .int x_12, .ref b_15]) (st' := [.ref b_15]) rfl) ?_
            refine Eq.trans (rn_gI (L' := [.ref a0, .int x1, .int x2, .int x_12, .ref b_15]) rfl rfl rfl rfl) ?_
            refine eI_c (fun x_16 => ?_)
            exact rn_retI rfl rfl rfl
      · refine Eq.trans (rn_go 1 (pc' := 34) (L' := [.ref a0, .int x1, .int x2, .int x_12, am_un]) (st' := [.int x_12]) rfl) ?_
        exact rn_retI rfl rfl rfl
theorem in_X12_keysAt {B : Nat} (a0 : Nat) (x1 : Int32) (x2 : Int32) (x3 : Int32) (s : am_S) : cl_ tb_ct tb_mt B K_X12_keysAt [.ref a0, .int x1, .int x2, .int x3] s = rn_ tb_ct tb_mt B mm_X12_keysAt 0 [.ref a0, .int x1, .int x2, .int x3, am_un] [] s := cl_in rfl rfl rfl rfl
theorem dc_X12_keysAt_0 {B : Nat} (a0 : Nat) (x1 : Int32) (x2 : Int32) (x3 : Int32) (s : am_S) : rn_ tb_ct tb_mt B mm_X12_keysAt 0 [.ref a0, .int x1, .int x2, .int x3, am_un] [] s = cV (cl_ tb_ct tb_mt B K_X12_needRange [.int x1, .int x2] s) (fun s_1 => if x3 < 0 then rn_ tb_ct tb_mt B mm_X12_keysAt 14 [.ref a0, .int x1, .int x2, .int x3, am_un] [.int (0 : Int32)] s_1 else rn_ tb_ct tb_mt B mm_X12_keysAt 14 [.ref a0, .int x1, .int x2, .int x3, am_un] [.int (1 : Int32)] s_1) xo := by
  refine Eq.trans (rn_go 2 (pc' := 2) (L' := [.ref a0, .int x1, .int x2, .int x3, am_un]) (st' := [.int x2, .int x1]) rfl) ?_
  refine Eq.trans (rn_sta (L' := [.ref a0, .int x1, .int x2, .int x3, am_un]) (as := [.int x1, .int x2]) (rest := []) rfl rfl rfl rfl rfl (Nat.le_of_ble_eq_true rfl) (by decide) rfl) ?_
  refine Eq.trans (cW_V rfl rfl) ?_
  refine cV_c (fun s_1 => ?_) (xh_nil rfl)
  refine Eq.trans (rn_go 1 (pc' := 6) (L' := [.ref a0, .int x1, .int x2, .int x3, am_un]) (st' := [.int x3]) rfl) ?_
  refine Eq.trans (rn_iflt (L' := [.ref a0, .int x1, .int x2, .int x3, am_un]) rfl rfl) ?_
  refine if_c ?_ ?_
  · exact rn_go 1 (pc' := 14) (L' := [.ref a0, .int x1, .int x2, .int x3, am_un]) (st' := [.int (0 : Int32)]) rfl
  · exact rn_go 2 (pc' := 14) (L' := [.ref a0, .int x1, .int x2, .int x3, am_un]) (st' := [.int (1 : Int32)]) rfl
theorem dc_X12_keysAt_14 {B : Nat} (a0 : Nat) (x1 : Int32) (x2 : Int32) (x3 : Int32) (xs0 : Int32) (s : am_S) : rn_ tb_ct tb_mt B mm_X12_keysAt 14 [.ref a0, .int x1, .int x2, .int x3, am_un] [.int xs0] s = cV (cl_ tb_ct tb_mt B K_X12_need [.int xs0] s) (fun s_1 => eA (gA tb_ct s_1 a0 10 0) (eA (gA tb_ct s_1 a0 10 5) (none) (fun b_3 => none)) (fun b_2 => eA (gA tb_ct s_1 a0 10 5) (eC (am_cls s_1 b_2) 7 (cI (cl_ tb_ct tb_mt B K_X8_recall [.ref b_2, .int x3, .null] s_1) (fun x_6 s_5 => if x_6 = 0 then eA (gA tb_ct s_5 a0 10 5) (none) (fun b_7 => eC (am_cls s_5 b_7) 3 (cI (cl_ tb_ct tb_mt B K_X4_firstFrom [.ref b_7, .int (x2 + (1 : Int32))] s_5) (fun x_9 s_8 => eA (gA tb_ct s_8 a0 10 5) (none) (fun b_10 => eC (am_cls s_8 b_10) 3 (cI (cl_ tb_ct tb_mt B K_X4_firstFrom [.ref b_10, .int x1] s_8) (fun x_12 s_11 => some (.inl (some (.int (x_9 - x_12))), s_11)) xo))) xo)) else some (.inl (some (.int x_6)), s_5)) xo)) (fun b_4 => eC (am_cls s_1 b_2) 7 (cI (cl_ tb_ct tb_mt B K_X8_recall [.ref b_2, .int x3, .ref b_4] s_1) (fun x_14 s_13 => if x_14 = 0 then eA (gA tb_ct s_13 a0 10 5) (none) (fun b_15 => eC (am_cls s_13 b_15) 3 (cI (cl_ tb_ct tb_mt B K_X4_firstFrom [.ref b_15, .int (x2 + (1 : Int32))] s_13) (fun x_17 s_16 => eA (gA tb_ct s_16 a0 10 5) (none) (fun b_18 => eC (am_cls s_16 b_18) 3 (cI (cl_ tb_ct tb_mt B K_X4_firstFrom [.ref b_18, .int x1] s_16) (fun x_20 s_19 => some (.inl (some (.int (x_17 - x_20))), s_19)) xo))) xo)) else some (.inl (some (.int x_14)), s_13)) xo)))) xo := by
  refine Eq.trans (rn_sta (L' := [.ref a0, .int x1, .int x2, .int x3, am_un]) (as := [.int xs0]) (rest := []) rfl rfl rfl rfl rfl (Nat.le_of_ble_eq_true rfl) (by decide) rfl) ?_
  refine Eq.trans (cW_V rfl rfl) ?_
  refine cV_c (fun s_1 => ?_) (xh_nil rfl)
  refine Eq.trans (rn_go 1 (pc' := 18) (L' := [.ref a0, .int x1, .int x2, .int x3, am_un]) (st' := [.ref a0]) rfl) ?_
  refine Eq.trans (rn_gA (L' := [.ref a0, .int x1, .int x2, .int x3, am_un]) rfl rfl rfl rfl) ?_
  refine eA_c ?_ (fun b_2 => ?_)
  · refine Eq.trans (rn_go 2 (pc' := 23) (L' := [.ref a0, .int x1, .int x2, .int x3, am_un]) (st' := [.ref a0, .int x3, .null]) rfl) ?_
    refine Eq.trans (rn_gA (L' := [.ref a0, .int x1, .int x2, .int x3, am_un]) rfl rfl rfl rfl) ?_
    refine eA_c ?_ (fun b_3 => ?_)
    · exact rn_z rfl rfl
    · exact rn_z rfl rfl
  · refine Eq.trans (rn_go 2 (pc' := 23) (L' := [.ref a0, .int x1, .int x2, .int x3, am_un]) (st' := [.ref a0, .int x3, .ref b_2]) rfl) ?_
    refine Eq.trans (rn_gA (L' := [.ref a0, .int x1, .int x2, .int x3, am_un]) rfl rfl rfl rfl) ?_
    refine eA_c ?_ (fun b_4 => ?_)
    · refine Eq.trans (rn_vir (L' := [.ref a0, .int x1, .int x2, .int x3, am_un]) (as := [.int x3, .null]) (rest := []) rfl rfl rfl rfl rfl (Nat.le_of_ble_eq_true rfl) (by decide) (by decide)) ?_
      refine eC_c ?_
      refine Eq.trans (cW_I rfl rfl rfl) ?_
      refine cI_c (fun x_6 s_5 => ?_) (xh_nil rfl)
      refine Eq.trans (rn_go 2 (pc' := 33) (L' := [.ref a0, .int x1, .int x2, .int x3, .int x_6]) (st' := [.int x_6]) rfl) ?_
      refine Eq.trans (rn_ifeq (L' := [.ref a0, .int x1, .int x2, .int x3, .int x_6]) rfl rfl) ?_
      refine if_c ?_ ?_
      · refine Eq.trans (rn_go 1 (pc' := 40) (L' := [.ref a0, .int x1, .int x2, .int x3, .int x_6]) (st' := [.ref a0]) rfl) ?_
        refine Eq.trans (rn_gA (L' := [.ref a0, .int x1, .int x2, .int x3, .int x_6]) rfl rfl rfl rfl) ?_
        refine eA_c ?_ (fun b_7 => ?_)
        · refine Eq.trans (rn_go 3 (pc' := 46) (L' := [.ref a0, .int x1, .int x2, .int x3, .int x_6]) (st' := [.int (x2 + (1 : Int32)), .null]) rfl) ?_
          exact rn_z rfl rfl
        · refine Eq.trans (rn_go 3 (pc' := 46) (L' := [.ref a0, .int x1, .int x2, .int x3, .int x_6]) (st' := [.int (x2 + (1 : Int32)), .ref b_7]) rfl) ?_
          refine Eq.trans (rn_vir (L' := [.ref a0, .int x1, .int x2, .int x3, .int x_6]) (as := [.int (x2 + (1 : Int32))]) (rest := []) rfl rfl rfl rfl rfl (Nat.le_of_ble_eq_true rfl) (by decide) (by decide)) ?_
          refine eC_c ?_
          refine Eq.trans (cW_I rfl rfl rfl) ?_
          refine cI_c (fun x_9 s_8 => ?_) (xh_nil rfl)
          refine Eq.trans (rn_go 1 (pc' := 50) (L' := [.ref a0, .int x1, .int x2, .int x3, .int x_6]) (st' := [.ref a0, .int x_9]) rfl) ?_
          refine Eq.trans (rn_gA (L' := [.ref a0, .int x1, .int x2, .int x3, .int x_6]) rfl rfl rfl rfl) ?_
          refine eA_c ?_ (fun b_10 => ?_)
          · refine Eq.trans (rn_go 1 (pc' := 54) (L' := [.ref a0, .int x1, .int x2, .int x3, .int x_6]) (st' := [.int x1, .null, .int x_9]) rfl) ?_
            exact rn_z rfl rfl
          · refine Eq.trans (rn_go 1 (pc' := 54) (L' := [.ref a0, .int x1, .int x2, .int x3, .int x_6]) (st' := [.int x1, .ref b_10, .int x_9]) rfl) ?_
            refine Eq.trans (rn_vir (L' := [.ref a0, .int x1, .int x2, .int x3, .int x_6]) (as := [.int x1]) (rest := [.int x_9]) rfl rfl rfl rfl rfl (Nat.le_of_ble_eq_true rfl) (by decide) (by decide)) ?_
            refine eC_c ?_
            refine Eq.trans (cW_I rfl rfl rfl) ?_
            refine cI_c (fun x_12 s_11 => ?_) (xh_nil rfl)
            refine Eq.trans (rn_go 1 (pc' := 58) (L' := [.ref a0, .int x1, .int x2, .int x3, .int x_6]) (st' := [.int (x_9 - x_12)]) rfl) ?_
            exact rn_retI rfl rfl rfl
      · refine Eq.trans (rn_go 1 (pc' := 38) (L' := [.ref a0, .int x1, .int x2, .int x3, .int x_6]) (st' := [.int x_6]) rfl) ?_
        exact rn_retI rfl rfl rfl
    · refine Eq.trans (rn_vir (L' := [.ref a0, .int x1, .int x2, .int x3, am_un]) (as := [.int x3, .ref b_4]) (rest := []) rfl rfl rfl rfl rfl (Nat.le_of_ble_eq_true rfl) (by decide) (by decide)) ?_
      refine eC_c ?_
      refine Eq.trans (cW_I rfl rfl rfl) ?_
      refine cI_c (fun x_14 s_13 => ?_) (xh_nil rfl)
      refine Eq.trans (rn_go 2 (pc' := 33) (L' := [.ref a0, .int x1, .int x2, .int x3, .int x_14]) (st' := [.int x_14]) rfl) ?_
      refine Eq.trans (rn_ifeq (L' := [.ref a0, .int x1, .int x2, .int x3, .int x_14]) rfl rfl) ?_
      refine if_c ?_ ?_
      · refine Eq.trans (rn_go 1 (pc' := 40) (L' := [.ref a0, .int x1, .int x2, .int x3, .int x_14]) (st' := [.ref a0]) rfl) ?_
        refine Eq.trans (rn_gA (L' := [.ref a0, .int x1, .int x2, .int x3, .int x_14]) rfl rfl rfl rfl) ?_
        refine eA_c ?_ (fun b_15 => ?_)
        · refine Eq.trans (rn_go 3 (pc' := 46) (L' := [.ref a0, .int x1, .int x2, .int x3, .int x_14]) (st' := [.int (x2 + (1 : Int32)), .null]) rfl) ?_
          exact rn_z rfl rfl
        · refine Eq.trans (rn_go 3 (pc' := 46) (L' := [.ref a0, .int x1, .int x2, .int x3, .int x_14]) (st' := [.int (x2 + (1 : Int32)), .ref b_15]) rfl) ?_
          refine Eq.trans (rn_vir (L' := [.ref a0, .int x1, .int x2, .int x3, .int x_14]) (as := [.int (x2 + (1 : Int32))]) (rest := []) rfl rfl rfl rfl rfl (Nat.le_of_ble_eq_true rfl) (by decide) (by decide)) ?_
          refine eC_c ?_
          refine Eq.trans (cW_I rfl rfl rfl) ?_
          refine cI_c (fun x_17 s_16 => ?_) (xh_nil rfl)
          refine Eq.trans (rn_go 1 (pc' := 50) (L' := [.ref a0, .int x1, .int x2, .int x3, .int x_14]) (st' := [.ref a0, .int x_17]) rfl) ?_
          refine Eq.trans (rn_gA (L' := [.ref a0, .int x1, .int x2, .int x3, .int x_14]) rfl rfl rfl rfl) ?_
          refine eA_c ?_ (fun b_18 => ?_)
          · refine Eq.trans (rn_go 1 (pc' := 54) (L' := [.ref a0, .int x1, .int x2, .int x3, .int x_14]) (st' := [.int x1, .null, .int x_17]) rfl) ?_
            exact rn_z rfl rfl
          · refine Eq.trans (rn_go 1 (pc' := 54) (L' := [.ref a0, .int x1, .int x2, .int x3, .int x_14]) (st' := [.int x1, .ref b_18, .int x_17]) rfl) ?_
            refine Eq.trans (rn_vir (L' := [.ref a0, .int x1, .int x2, .int x3, .int x_14]) (as := [.int x1]) (rest := [.int x_17]) rfl rfl rfl rfl rfl (Nat.le_of_ble_eq_true rfl) (by decide) (by decide)) ?_
            refine eC_c ?_
            refine Eq.trans (cW_I rfl rfl rfl) ?_
            refine cI_c (fun x_20 s_19 => ?_) (xh_nil rfl)
            refine Eq.trans (rn_go 1 (pc' := 58) (L' := [.ref a0, .int x1, .int x2, .int x3, .int x_14]) (st' := [.int (x_17 - x_20)]) rfl) ?_
            exact rn_retI rfl rfl rfl
      · refine Eq.trans (rn_go 1 (pc' := 38) (L' := [.ref a0, .int x1, .int x2, .int x3, .int x_14]) (st' := [.int x_14]) rfl) ?_
        exact rn_retI rfl rfl rfl
theorem in_X12_keyAt {B : Nat} (a0 : Nat) (x1 : Int32) (x2 : Int32) (x3 : Int32) (x4 : Int32) (s : am_S) : cl_ tb_ct tb_mt B K_X12_keyAt [.ref a0, .int x1, .int x2, .int x3, .int x4] s = rn_ tb_ct tb_mt B mm_X12_keyAt 0 [.ref a0, .int x1, .int x2, .int x3, .int x4, am_un, am_un] [] s := cl_in rfl rfl rfl rfl
theorem dc_X12_keyAt_0 {B : Nat} (a0 : Nat) (x1 : Int32) (x2 : Int32) (x3 : Int32) (x4 : Int32) (s : am_S) : rn_ tb_ct tb_mt B mm_X12_keyAt 0 [.ref a0, .int x1, .int x2, .int x3, .int x4, am_un, am_un] [] s = cV (cl_ tb_ct tb_mt B K_X12_needRange [.int x1, .int x2] s) (fun s_1 => if x4 < 0 then rn_ tb_ct tb_mt B mm_X12_keyAt 15 [.ref a0, .int x1, .int x2, .int x3, .int x4, am_un, am_un] [.int (0 : Int32)] s_1 else rn_ tb_ct tb_mt B mm_X12_keyAt 15 [.ref a0, .int x1, .int x2, .int x3, .int x4, am_un, am_un] [.int (1 : Int32)] s_1) xo := by
  refine Eq.trans (rn_go 2 (pc' := 2) (L' := [.ref a0, .int x1, .int x2, .int x3, .int x4, am_un, am_un]) (st' := [.int x2, .int x1]) rfl) ?_
  refine Eq.trans (rn_sta (L' := [.ref a0, .int x1, .int x2, .int x3, .int x4, am_un, am_un]) (as := [.int x1, .int x2]) (rest := []) rfl rfl rfl rfl rfl (Nat.le_of_ble_eq_true rfl) (by decide) rfl) ?_
  refine Eq.trans (cW_V rfl rfl) ?_
  refine cV_c (fun s_1 => ?_) (xh_nil rfl)
  refine Eq.trans (rn_go 1 (pc' := 7) (L' := [.ref a0, .int x1, .int x2, .int x3, .int x4, am_un, am_un]) (st' := [.int x4]) rfl) ?_
  refine Eq.trans (rn_iflt (L' := [.ref a0, .int x1, .int x2, .int x3, .int x4, am_un, am_un]) rfl rfl) ?_
  refine if_c ?_ ?_
  · exact rn_go 1 (pc' := 15) (L' := [.ref a0, .int x1, .int x2, .int x3, .int x4, am_un, am_un]) (st' := [.int (0 : Int32)]) rfl
  · exact rn_go 2 (pc' := 15) (L' := [.ref a0, .int x1, .int x2, .int x3, .int x4, am_un, am_un]) (st' := [.int (1 : Int32)]) rfl
theorem dc_X12_keyAt_15 {B : Nat} (a0 : Nat) (x1 : Int32) (x2 : Int32) (x3 : Int32) (x4 : Int32) (xs0 : Int32) (s : am_S) : rn_ tb_ct tb_mt B mm_X12_keyAt 15 [.ref a0, .int x1, .int x2, .int x3, .int x4, am_un, am_un] [.int xs0] s = cV (cl_ tb_ct tb_mt B K_X12_need [.int xs0] s) (fun s_1 => eA (gA tb_ct s_1 a0 10 0) (eA (gA tb_ct s_1 a0 10 5) (none) (fun b_3 => none)) (fun b_2 => eA (gA tb_ct s_1 a0 10 5) (eC (am_cls s_1 b_2) 7 (cI (cl_ tb_ct tb_mt B K_X8_recall [.ref b_2, .int x4, .null] s_1) (fun x_6 s_5 => if x_6 = 0 then if x3 < 0 then some (.inl (some (.int (-(1 : Int32)))), s_5) else eA (gA tb_ct s_5 a0 10 5) (none) (fun b_7 => eI (gI tb_ct s_5 b_7 3 1) (fun x_8 => if x3 < x_8 then eA (gA tb_ct s_5 a0 10 5) (eA (gA tb_ct s_5 a0 10 5) (none) (fun b_10 => eC (am_cls s_5 b_10) 3 (cI (cl_ tb_ct tb_mt B K_X4_firstFrom [.ref b_10, .int x1] s_5) (fun x_12 s_11 => none) xo))) (fun b_9 => eA (gA tb_ct s_5 a0 10 5) (none) (fun b_13 => eC (am_cls s_5 b_13) 3 (cI (cl_ tb_ct tb_mt B K_X4_firstFrom [.ref b_13, .int x1] s_5) (fun x_15 s_14 => eC (am_cls s_14 b_9) 3 (cA (cl_ tb_ct tb_mt B K_X4_at [.ref b_9, .int (x_15 + x3)] s_14) (fun s_16 => some (.inl (some (.int (-(1 : Int32)))), s_16)) (fun b_17 s_16 => eI (gI tb_ct s_16 b_17 2 0) (fun x_18 => if x2 < x_18 then some (.inl (some (.int (-(1 : Int32)))), s_16) else eI (gI tb_ct s_16 b_17 2 0) (fun x_19 => some (.inl (some (.int x_19)), s_16)))) xo)) xo))) else some (.inl (some (.int (-(1 : Int32)))), s_5))) else some (.inl (some (.int x_6)), s_5)) xo)) (fun b_4 => eC (am_cls s_1 b_2) 7 (cI (cl_ tb_ct tb_mt B K_X8_recall [.ref b_2, .int x4, .ref b_4] s_1) (fun x_21 s_20 => if x_21 = 0 then if x3 < 0 then some (.inl (some (.int (-(1 : Int32)))), s_20) else eA (gA tb_ct s_20 a0 10 5) (none) (fun b_22 => eI (gI tb_ct s_20 b_22 3 1) (fun x_23 => if x3 < x_23 then eA (gA tb_ct s_20 a0 10 5) (eA (gA tb_ct s_20 a0 10 5) (none) (fun b_25 => eC (am_cls s_20 b_25) 3 (cI (cl_ tb_ct tb_mt B K_X4_firstFrom [.ref b_25, .int x1] s_20) (fun x_27 s_26 => none) xo))) (fun b_24 => eA (gA tb_ct s_20 a0 10 5) (none) (fun b_28 => eC (am_cls s_20 b_28) 3 (cI (cl_ tb_ct tb_mt B K_X4_firstFrom [.ref b_28, .int x1] s_20) (fun x_30 s_29 => eC (am_cls s_29 b_24) 3 (cA (cl_ tb_ct tb_mt B K_X4_at [.ref b_24, .int (x_30 + x3)] s_29) (fun s_31 => some (.inl (some (.int (-(1 : Int32)))), s_31)) (fun b_32 s_31 => eI (gI tb_ct s_31 b_32 2 0) (fun x_33 => if x2 < x_33 then some (.inl (some (.int (-(1 : Int32)))), s_31) else eI (gI tb_ct s_31 b_32 2 0) (fun x_34 => some (.inl (some (.int x_34)), s_31)))) xo)) xo))) else some (.inl (some (.int (-(1 : Int32)))), s_20))) else some (.inl (some (.int x_21)), s_20)) xo)))) xo := by
  refine Eq.trans (rn_sta (L' := [.ref a0, .int x1, .int x2, .int x3, .int x4, am_un, am_un]) (as := [.int xs0]) (rest := []) rfl rfl rfl rfl rfl (Nat.le_of_ble_eq_true rfl) (by decide) rfl) ?_
  refine Eq.trans (cW_V rfl rfl) ?_
  refine cV_c (fun s_1 => ?_) (xh_nil rfl)
  refine Eq.trans (rn_go 1 (pc' := 19) (L' := [.ref a0, .int x1, .int x2, .int x3, .int x4, am_un, am_un]) (st' := [.ref a0]) rfl) ?_
  refine Eq.trans (rn_gA (L' := [.ref a0, .int x1, .int x2, .int x3, .int x4, am_un, am_un]) rfl rfl rfl rfl) ?_
  refine eA_c ?_ (fun b_2 => ?_)
  · refine Eq.trans (rn_go 2 (pc' := 25) (L' := [.ref a0, .int x1, .int x2, .int x3, .int x4, am_un, am_un]) (st' := [.ref a0, .int x4, .null]) rfl) ?_
    refine Eq.trans (rn_gA (L' := [.ref a0, .int x1, .int x2, .int x3, .int x4, am_un, am_un]) rfl rfl rfl rfl) ?_
    refine eA_c ?_ (fun b_3 => ?_)
    · exact rn_z rfl rfl
    · exact rn_z rfl rfl
  · refine Eq.trans (rn_go 2 (pc' := 25) (L' := [.ref a0, .int x1, .int x2, .int x3, .int x4, am_un, am_un]) (st' := [.ref a0, .int x4, .ref b_2]) rfl) ?_
    refine Eq.trans (rn_gA (L' := [.ref a0, .int x1, .int x2, .int x3, .int x4, am_un, am_un]) rfl rfl rfl rfl) ?_
    refine eA_c ?_ (fun b_4 => ?_)
    · refine Eq.trans (rn_vir (L' := [.ref a0, .int x1, .int x2, .int x3, .int x4, am_un, am_un]) (as := [.int x4, .null]) (rest := []) rfl rfl rfl rfl rfl (Nat.le_of_ble_eq_true rfl) (by decide) (by decide)) ?_
      refine eC_c ?_
      refine Eq.trans (cW_I rfl rfl rfl) ?_
      refine cI_c (fun x_6 s_5 => ?_) (xh_nil rfl)
      refine Eq.trans (rn_go 2 (pc' := 35) (L' := [.ref a0, .int x1, .int x2, .int x3, .int x4, .int x_6, am_un]) (st' := [.int x_6]) rfl) ?_
      refine Eq.trans (rn_ifeq (L' := [.ref a0, .int x1, .int x2, .int x3, .int x4, .int x_6, am_un]) rfl rfl) ?_
      refine if_c ?_ ?_
      · refine Eq.trans (rn_go 1 (pc' := 42) (L' := [.ref a0, .int x1, .int x2, .int x3, .int x4, .int x_6, am_un]) (st' := [.int x3]) rfl) ?_
        refine Eq.trans (rn_iflt (L' := [.ref a0, .int x1, .int x2, .int x3, .int x4, .int x_6, am_un]) rfl rfl) ?_
        refine if_c ?_ ?_
        · refine Eq.trans (rn_go 1 (pc' := 57) (L' := [.ref a0, .int x1, .int x2, .int x3, .int x4, .int x_6, am_un]) (st' := [.int (-(1 : Int32))]) rfl) ?_
          exact rn_retI rfl rfl rfl
        · refine Eq.trans (rn_go 2 (pc' := 47) (L' := [.ref a0, .int x1, .int x2, .int x3, .int x4, .int x_6, am_un]) (st' := [.ref a0, .int x3]) rfl) ?_
          refine Eq.trans (rn_gA (L' := [.ref a0, .int x1, .int x2, .int x3, .int x4, .int x_6, am_un]) rfl rfl rfl rfl) ?_
          refine eA_c ?_ (fun b_7 => ?_)
          · exact rn_z rfl rfl
          · refine Eq.trans (rn_gI (L' := [.ref a0, .int x1, .int x2, .int x3, .int x4, .int x_6, am_un]) rfl rfl rfl rfl) ?_
            refine eI_c (fun x_8 => ?_)
            refine Eq.trans (rn_iclt (L' := [.ref a0, .int x1, .int x2, .int x3, .int x4, .int x_6, am_un]) rfl rfl) ?_
            refine if_c ?_ ?_
            · refine Eq.trans (rn_go 1 (pc' := 59) (L' := [.ref a0, .int x1, .int x2, .int x3, .int x4, .int x_6, am_un]) (st' := [.ref a0]) rfl) ?_
              refine Eq.trans (rn_gA (L' := [.ref a0, .int x1, .int x2, .int x3, .int x4, .int x_6, am_un]) rfl rfl rfl rfl) ?_
              refine eA_c ?_ (fun b_9 => ?_)
              · refine Eq.trans (rn_go 1 (pc' := 63) (L' := [.ref a0, .int x1, .int x2, .int x3, .int x4, .int x_6, am_un]) (st' := [.ref a0, .null]) rfl) ?_
                refine Eq.trans (rn_gA (L' := [.ref a0, .int x1, .int x2, .int x3, .int x4, .int x_6, am_un]) rfl rfl rfl rfl) ?_
                refine eA_c ?_ (fun b_10 => ?_)
                · refine Eq.trans (rn_go 1 (pc' := 67) (L' := [.ref a0, .int x1, .int x2, .int x3, .int x4, .int x_6, am_un]) (st' := [.int x1, .null, .null]) rfl) ?_
                  exact rn_z rfl rfl
                · refine Eq.trans (rn_go 1 (pc' := 67) (L' := [.ref a0, .int x1, .int x2, .int x3, .int x4, .int x_6, am_un]) (st' := [.int x1, .ref b_10, .null]) rfl) ?_
                  refine Eq.trans (rn_vir (L' := [.ref a0, .int x1, .int x2, .int x3, .int x4, .int x_6, am_un]) (as := [.int x1]) (rest := [.null]) rfl rfl rfl rfl rfl (Nat.le_of_ble_eq_true rfl) (by decide) (by decide)) ?_
                  refine eC_c ?_
                  refine Eq.trans (cW_I rfl rfl rfl) ?_
                  refine cI_c (fun x_12 s_11 => ?_) (xh_nil rfl)
                  refine Eq.trans (rn_go 2 (pc' := 72) (L' := [.ref a0, .int x1, .int x2, .int x3, .int x4, .int x_6, am_un]) (st' := [.int (x_12 + x3), .null]) rfl) ?_
                  exact rn_z rfl rfl
              · refine Eq.trans (rn_go 1 (pc' := 63) (L' := [.ref a0, .int x1, .int x2, .int x3, .int x4, .int x_6, am_un]) (st' := [.ref a0, .ref b_9]) rfl) ?_
                refine Eq.trans (rn_gA (L' := [.ref a0, .int x1, .int x2, .int x3, .int x4, .int x_6, am_un]) rfl rfl rfl rfl) ?_
                refine eA_c ?_ (fun b_13 => ?_)
                · refine Eq.trans (rn_go 1 (pc' := 67) (L' := [.ref a0, .int x1, .int x2, .int x3, .int x4, .int x_6, am_un]) (st' := [.int x1, .null, .ref b_9]) rfl) ?_
                  exact rn_z rfl rfl
                · refine Eq.trans (rn_go 1 (pc' := 67) (L' := [.ref a0, .int x1, .int x2, .int x3, .int x4, .int x_6, am_un]) (st' := [.int x1, .ref b_13, .ref b_9]) rfl) ?_
                  refine Eq.trans (rn_vir (L' := [.ref a0, .int x1, .int x2, .int x3, .int x4, .int x_6, am_un]) (as := [.int x1]) (rest := [.ref b_9]) rfl rfl rfl rfl rfl (Nat.le_of_ble_eq_true rfl) (by decide) (by decide)) ?_
                  refine eC_c ?_
                  refine Eq.trans (cW_I rfl rfl rfl) ?_
                  refine cI_c (fun x_15 s_14 => ?_) (xh_nil rfl)
                  refine Eq.trans (rn_go 2 (pc' := 72) (L' := [.ref a0, .int x1, .int x2, .int x3, .int x4, .int x_6, am_un]) (st' := [.int (x_15 + x3), .ref b_9]) rfl) ?_
                  refine Eq.trans (rn_vir (L' := [.ref a0, .int x1, .int x2, .int x3, .int x4, .int x_6, am_un]) (as := [.int (x_15 + x3)]) (rest := []) rfl rfl rfl rfl rfl (Nat.le_of_ble_eq_true rfl) (by decide) (by decide)) ?_
                  refine eC_c ?_
                  refine Eq.trans (cW_A rfl rfl rfl) ?_
                  refine cA_c (fun s_16 => ?_) (fun b_17 s_16 => ?_) (xh_nil rfl)
                  · refine Eq.trans (rn_go 4 (pc' := 100) (L' := [.ref a0, .int x1, .int x2, .int x3, .int x4, .int x_6, .null]) (st' := [.int (-(1 : Int32))]) rfl) ?_
                    exact rn_retI rfl rfl rfl
                  · refine Eq.trans (rn_go 4 (pc' := 84) (L' := [.ref a0, .int x1, .int x2, .int x3, .int x4, .int x_6, .ref b_17]) (st' := [.ref b_17]) rfl) ?_
                    refine Eq.trans (rn_gI (L' := [.ref a0, .int x1, .int x2, .int x3, .int x4, .int x_6, .ref b_17]) rfl rfl rfl rfl) ?_
                    refine eI_c (fun x_18 => ?_)
                    refine Eq.trans (rn_go 1 (pc' := 88) (L' := [.ref a0, .int x1, .int x2, .int x3, .int x4, .int x_6, .ref b_17]) (st' := [.int x2, .int x_18]) rfl) ?_
                    refine Eq.trans (rn_icgt (L' := [.ref a0, .int x1, .int x2, .int x3, .int x4, .int x_6, .ref b_17]) rfl rfl) ?_
                    refine if_c ?_ ?_
                    · refine Eq.trans (rn_go 1 (pc' := 100) (L' := [.ref a0, .int x1, .int x2, .int x3, .int x4, .int x_6, .ref b_17]) (st' := [.int (-(1 : Int32))]) rfl) ?_
                      exact rn_retI rfl rfl rfl
                    · refine Eq.trans (rn_go 1 (pc' := 93) (L' := [.ref a0, .int x1, .int x2, .int x3, .int x4, .int x_6, .ref b_17]) (st' := [.ref b_17]) rfl) ?_
                      refine Eq.trans (rn_gI (L' := [.ref a0, .int x1, .int x2, .int x3, .int x4, .int x_6, .ref b_17]) rfl rfl rfl rfl) ?_
                      refine eI_c (fun x_19 => ?_)
                      refine Eq.trans (rn_go 1 (pc' := 100) (L' := [.ref a0, .int x1, .int x2, .int x3, .int x4, .int x_6, .ref b_17]) (st' := [.int x_19]) rfl) ?_
                      exact rn_retI rfl rfl rfl
            · refine Eq.trans (rn_go 1 (pc' := 57) (L' := [.ref a0, .int x1, .int x2, .int x3, .int x4, .int x_6, am_un]) (st' := [.int (-(1 : Int32))]) rfl) ?_
              exact rn_retI rfl rfl rfl
      · refine Eq.trans (rn_go 1 (pc' := 40) (L' := [.ref a0, .int x1, .int x2, .int x3, .int x4, .int x_6, am_un]) (st' := [.int x_6]) rfl) ?_
        exact rn_retI rfl rfl rfl
    · refine Eq.trans (rn_vir (L' := [.ref a0, .int x1, .int x2, .int x3, .int x4, am_un, am_un]) (as := [.int x4, .ref b_4]) (rest := []) rfl rfl rfl rfl rfl (Nat.le_of_ble_eq_true rfl) (by decide) (by decide)) ?_
      refine eC_c ?_
      refine Eq.trans (cW_I rfl rfl rfl) ?_
      refine cI_c (fun x_21 s_20 => ?_) (xh_nil rfl)
      refine Eq.trans (rn_go 2 (pc' := 35) (L' := [.ref a0, .int x1, .int x2, .int x3, .int x4, .int x_21, am_un]) (st' := [.int x_21]) rfl) ?_
      refine Eq.trans (rn_ifeq (L' := [.ref a0, .int x1, .int x2, .int x3, .int x4, .int x_21, am_un]) rfl rfl) ?_
      refine if_c ?_ ?_
      · refine Eq.trans (rn_go 1 (pc' := 42) (L' := [.ref a0, .int x1, .int x2, .int x3, .int x4, .int x_21, am_un]) (st' := [.int x3]) rfl) ?_
        refine Eq.trans (rn_iflt (L' := [.ref a0, .int x1, .int x2, .int x3, .int x4, .int x_21, am_un]) rfl rfl) ?_
        refine if_c ?_ ?_
        · refine Eq.trans (rn_go 1 (pc' := 57) (L' := [.ref a0, .int x1, .int x2, .int x3, .int x4, .int x_21, am_un]) (st' := [.int (-(1 : Int32))]) rfl) ?_
          exact rn_retI rfl rfl rfl
        · refine Eq.trans (rn_go 2 (pc' := 47) (L' := [.ref a0, .int x1, .int x2, .int x3, .int x4, .int x_21, am_un]) (st' := [.ref a0, .int x3]) rfl) ?_
          refine Eq.trans (rn_gA (L' := [.ref a0, .int x1, .int x2, .int x3, .int x4, .int x_21, am_un]) rfl rfl rfl rfl) ?_
          refine eA_c ?_ (fun b_22 => ?_)
          · exact rn_z rfl rfl
          · refine Eq.trans (rn_gI (L' := [.ref a0, .int x1, .int x2, .int x3, .int x4, .int x_21, am_un]) rfl rfl rfl rfl) ?_
            refine eI_c (fun x_23 => ?_)
            refine Eq.trans (rn_iclt (L' := [.ref a0, .int x1, .int x2, .int x3, .int x4, .int x_21, am_un]) rfl rfl) ?_
            refine if_c ?_ ?_
            · refine Eq.trans (rn_go 1 (pc' := 59) (L' := [.ref a0, .int x1, .int x2, .int x3, .int x4, .int x_21, am_un]) (st' := [.ref a0]) rfl) ?_
              refine Eq.trans (rn_gA (L' := [.ref a0, .int x1, .int x2, .int x3, .int x4, .int x_21, am_un]) rfl rfl rfl rfl) ?_
              refine eA_c ?_ (fun b_24 => ?_)
              · refine Eq.trans (rn_go 1 (pc' := 63) (L' := [.ref a0, .int x1, .int x2, .int x3, .int x4, .int x_21, am_un]) (st' := [.ref a0, .null]) rfl) ?_
                refine Eq.trans (rn_gA (L' := [.ref a0, .int x1, .int x2, .int x3, .int x4, .int x_21, am_un]) rfl rfl rfl rfl) ?_
                refine eA_c ?_ (fun b_25 => ?_)
                · refine Eq.trans (rn_go 1 (pc' := 67) (L' := [.ref a0, .int x1, .int x2, .int x3, .int x4, .int x_21, am_un]) (st' := [.int x1, .null, .null]) rfl) ?_
                  exact rn_z rfl rfl
                · refine Eq.trans (rn_go 1 (pc' := 67) (L' := [.ref a0, .int x1, .int x2, .int x3, .int x4, .int x_21, am_un]) (st' := [.int x1, .ref b_25, .null]) rfl) ?_
                  refine Eq.trans (rn_vir (L' := [.ref a0, .int x1, .int x2, .int x3, .int x4, .int x_21, am_un]) (as := [.int x1]) (rest := [.null]) rfl rfl rfl rfl rfl (Nat.le_of_ble_eq_true rfl) (by decide) (by decide)) ?_
                  refine eC_c ?_
                  refine Eq.trans (cW_I rfl rfl rfl) ?_
                  refine cI_c (fun x_27 s_26 => ?_) (xh_nil rfl)
                  refine Eq.trans (rn_go 2 (pc' := 72) (L' := [.ref a0, .int x1, .int x2, .int x3, .int x4, .int x_21, am_un]) (st' := [.int (x_27 + x3), .null]) rfl) ?_
                  exact rn_z rfl rfl
              · refine Eq.trans (rn_go 1 (pc' := 63) (L' := [.ref a0, .int x1, .int x2, .int x3, .int x4, .int x_21, am_un]) (st' := [.ref a0, .ref b_24]) rfl) ?_
                refine Eq.trans (rn_gA (L' := [.ref a0, .int x1, .int x2, .int x3, .int x4, .int x_21, am_un]) rfl rfl rfl rfl) ?_
                refine eA_c ?_ (fun b_28 => ?_)
                · refine Eq.trans (rn_go 1 (pc' := 67) (L' := [.ref a0, .int x1, .int x2, .int x3, .int x4, .int x_21, am_un]) (st' := [.int x1, .null, .ref b_24]) rfl) ?_
                  exact rn_z rfl rfl
                · refine Eq.trans (rn_go 1 (pc' := 67) (L' := [.ref a0, .int x1, .int x2, .int x3, .int x4, .int x_21, am_un]) (st' := [.int x1, .ref b_28, .ref b_24]) rfl) ?_
                  refine Eq.trans (rn_vir (L' := [.ref a0, .int x1, .int x2, .int x3, .int x4, .int x_21, am_un]) (as := [.int x1]) (rest := [.ref b_24]) rfl rfl rfl rfl rfl (Nat.le_of_ble_eq_true rfl) (by decide) (by decide)) ?_
                  refine eC_c ?_
                  refine Eq.trans (cW_I rfl rfl rfl) ?_
                  refine cI_c (fun x_30 s_29 => ?_) (xh_nil rfl)
                  refine Eq.trans (rn_go 2 (pc' := 72) (L' := [.ref a0, .int x1, .int x2, .int x3, .int x4, .int x_21, am_un]) (st' := [.int (x_30 + x3), .ref b_24]) rfl) ?_
                  refine Eq.trans (rn_vir (L' := [.ref a0, .int x1, .int x2, .int x3, .int x4, .int x_21, am_un]) (as := [.int (x_30 + x3)]) (rest := []) rfl rfl rfl rfl rfl (Nat.le_of_ble_eq_true rfl) (by decide) (by decide)) ?_
                  refine eC_c ?_
                  refine Eq.trans (cW_A rfl rfl rfl) ?_
                  refine cA_c (fun s_31 => ?_) (fun b_32 s_31 => ?_) (xh_nil rfl)
                  · refine Eq.trans (rn_go 4 (pc' := 100) (L' := [.ref a0, .int x1, .int x2, .int x3, .int x4, .int x_21, .null]) (st' := [.int (-(1 : Int32))]) rfl) ?_
                    exact rn_retI rfl rfl rfl
                  · refine Eq.trans (rn_go 4 (pc' := 84) (L' := [.ref a0, .int x1, .int x2, .int x3, .int x4, .int x_21, .ref b_32]) (st' := [.ref b_32]) rfl) ?_
                    refine Eq.trans (rn_gI (L' := [.ref a0, .int x1, .int x2, .int x3, .int x4, .int x_21, .ref b_32]) rfl rfl rfl rfl) ?_
                    refine eI_c (fun x_33 => ?_)
                    refine Eq.trans (rn_go 1 (pc' := 88) (L' := [.ref a0, .int x1, .int x2, .int x3, .int x4, .int x_21, .ref b_32]) (st' := [.int x2, .int x_33]) rfl) ?_
                    refine Eq.trans (rn_icgt (L' := [.ref a0, .int x1, .int x2, .int x3, .int x4, .int x_21, .ref b_32]) rfl rfl) ?_
                    refine if_c ?_ ?_
                    · refine Eq.trans (rn_go 1 (pc' := 100) (L' := [.ref a0, .int x1, .int x2, .int x3, .int x4, .int x_21, .ref b_32]) (st' := [.int (-(1 : Int32))]) rfl) ?_
                      exact rn_retI rfl rfl rfl
                    · refine Eq.trans (rn_go 1 (pc' := 93) (L' := [.ref a0, .int x1, .int x2, .int x3, .int x4, .int x_21, .ref b_32]) (st' := [.ref b_32]) rfl) ?_
                      refine Eq.trans (rn_gI (L' := [.ref a0, .int x1, .int x2, .int x3, .int x4, .int x_21, .ref b_32]) rfl rfl rfl rfl) ?_
                      refine eI_c (fun x_34 => ?_)
                      refine Eq.trans (rn_go 1 (pc' := 100) (L' := [.ref a0, .int x1, .int x2, .int x3, .int x4, .int x_21, .ref b_32]) (st' := [.int x_34]) rfl) ?_
                      exact rn_retI rfl rfl rfl
            · refine Eq.trans (rn_go 1 (pc' := 57) (L' := [.ref a0, .int x1, .int x2, .int x3, .int x4, .int x_21, am_un]) (st' := [.int (-(1 : Int32))]) rfl) ?_
              exact rn_retI rfl rfl rfl
      · refine Eq.trans (rn_go 1 (pc' := 40) (L' := [.ref a0, .int x1, .int x2, .int x3, .int x4, .int x_21, am_un]) (st' := [.int x_21]) rfl) ?_
        exact rn_retI rfl rfl rfl
theorem in_X12_sumAt {B : Nat} (a0 : Nat) (x1 : Int32) (x2 : Int32) (x3 : Int32) (s : am_S) : cl_ tb_ct tb_mt B K_X12_sumAt [.ref a0, .int x1, .int x2, .int x3] s = rn_ tb_ct tb_mt B mm_X12_sumAt 0 [.ref a0, .int x1, .int x2, .int x3, am_un, am_un, am_un, am_un, am_un] [] s := cl_in rfl rfl rfl rfl
theorem dc_X12_sumAt_0 {B : Nat} (a0 : Nat) (x1 : Int32) (x2 : Int32) (x3 : Int32) (s : am_S) : rn_ tb_ct tb_mt B mm_X12_sumAt 0 [.ref a0, .int x1, .int x2, .int x3, am_un, am_un, am_un, am_un, am_un] [] s = cV (cl_ tb_ct tb_mt B K_X12_needRange [.int x1, .int x2] s) (fun s_1 => if x3 < 0 then rn_ tb_ct tb_mt B mm_X12_sumAt 14 [.ref a0, .int x1, .int x2, .int x3, am_un, am_un, am_un, am_un, am_un] [.int (0 : Int32)] s_1 else rn_ tb_ct tb_mt B mm_X12_sumAt 14 [.ref a0, .int x1, .int x2, .int x3, am_un, am_un, am_un, am_un, am_un] [.int (1 : Int32)] s_1) xo := by
  refine Eq.trans (rn_go 2 (pc' := 2) (L' := [.ref a0, .int x1, .int x2, .int x3, am_un, am_un, am_un, am_un, am_un]) (st' := [.int x2, .int x1]) rfl) ?_
  refine Eq.trans (rn_sta (L' := [.ref a0, .int x1, .int x2, .int x3, am_un, am_un, am_un, am_un, am_un]) (as := [.int x1, .int x2]) (rest := []) rfl rfl rfl rfl rfl (Nat.le_of_ble_eq_true rfl) (by decide) rfl) ?_
  refine Eq.trans (cW_V rfl rfl) ?_
  refine cV_c (fun s_1 => ?_) (xh_nil rfl)
  refine Eq.trans (rn_go 1 (pc' := 6) (L' := [.ref a0, .int x1, .int x2, .int x3, am_un, am_un, am_un, am_un, am_un]) (st' := [.int x3]) rfl) ?_
  refine Eq.trans (rn_iflt (L' := [.ref a0, .int x1, .int x2, .int x3, am_un, am_un, am_un, am_un, am_un]) rfl rfl) ?_
  refine if_c ?_ ?_
  · exact rn_go 1 (pc' := 14) (L' := [.ref a0, .int x1, .int x2, .int x3, am_un, am_un, am_un, am_un, am_un]) (st' := [.int (0 : Int32)]) rfl
  · exact rn_go 2 (pc' := 14) (L' := [.ref a0, .int x1, .int x2, .int x3, am_un, am_un, am_un, am_un, am_un]) (st' := [.int (1 : Int32)]) rfl
theorem dc_X12_sumAt_14 {B : Nat} (a0 : Nat) (x1 : Int32) (x2 : Int32) (x3 : Int32) (xs0 : Int32) (s : am_S) : rn_ tb_ct tb_mt B mm_X12_sumAt 14 [.ref a0, .int x1, .int x2, .int x3, am_un, am_un, am_un, am_un, am_un] [.int xs0] s = cV (cl_ tb_ct tb_mt B K_X12_need [.int xs0] s) (fun s_1 => eA (gA tb_ct s_1 a0 10 0) (eA (gA tb_ct s_1 a0 10 5) (none) (fun b_3 => none)) (fun b_2 => eA (gA tb_ct s_1 a0 10 5) (eC (am_cls s_1 b_2) 7 (cI (cl_ tb_ct tb_mt B K_X8_recall [.ref b_2, .int x3, .null] s_1) (fun x_6 s_5 => if x_6 = 0 then rn_ tb_ct tb_mt B mm_X12_sumAt 46 [.ref a0, .int x1, .int x2, .int x3, .int x_6, .long (0 : Int64), am_un, .int (0 : Int32), am_un] [] s_5 else some (.inl (some (.long x_6.toInt64)), s_5)) xo)) (fun b_4 => eC (am_cls s_1 b_2) 7 (cI (cl_ tb_ct tb_mt B K_X8_recall [.ref b_2, .int x3, .ref b_4] s_1) (fun x_8 s_7 => if x_8 = 0 then rn_ tb_ct tb_mt B mm_X12_sumAt 46 [.ref a0, .int x1, .int x2, .int x3, .int x_8, .long (0 : Int64), am_un, .int (0 : Int32), am_un] [] s_7 else some (.inl (some (.long x_8.toInt64)), s_7)) xo)))) xo := by
  refine Eq.trans (rn_sta (L' := [.ref a0, .int x1, .int x2, .int x3, am_un, am_un, am_un, am_un, am_un]) (as := [.int xs0]) (rest := []) rfl rfl rfl rfl rfl (Nat.le_of_ble_eq_true rfl) (by decide) rfl) ?_
  refine Eq.trans (cW_V rfl rfl) ?_
  refine cV_c (fun s_1 => ?_) (xh_nil rfl)
  refine Eq.trans (rn_go 1 (pc' := 18) (L' := [.ref a0, .int x1, .int x2, .int x3, am_un, am_un, am_un, am_un, am_un]) (st' := [.ref a0]) rfl) ?_
  refine Eq.trans (rn_gA (L' := [.ref a0, .int x1, .int x2, .int x3, am_un, am_un, am_un, am_un, am_un]) rfl rfl rfl rfl) ?_
  refine eA_c ?_ (fun b_2 => ?_)
  · refine Eq.trans (rn_go 2 (pc' := 23) (L' := [.ref a0, .int x1, .int x2, .int x3, am_un, am_un, am_un, am_un, am_un]) (st' := [.ref a0, .int x3, .null]) rfl) ?_
    refine Eq.trans (rn_gA (L' := [.ref a0, .int x1, .int x2, .int x3, am_un, am_un, am_un, am_un, am_un]) rfl rfl rfl rfl) ?_
    refine eA_c ?_ (fun b_3 => ?_)
    · exact rn_z rfl rfl
    · exact rn_z rfl rfl
  · refine Eq.trans (rn_go 2 (pc' := 23) (L' := [.ref a0, .int x1, .int x2, .int x3, am_un, am_un, am_un, am_un, am_un]) (st' := [.ref a0, .int x3, .ref b_2]) rfl) ?_
    refine Eq.trans (rn_gA (L' := [.ref a0, .int x1, .int x2, .int x3, am_un, am_un, am_un, am_un, am_un]) rfl rfl rfl rfl) ?_
    refine eA_c ?_ (fun b_4 => ?_)
    · refine Eq.trans (rn_vir (L' := [.ref a0, .int x1, .int x2, .int x3, am_un, am_un, am_un, am_un, am_un]) (as := [.int x3, .null]) (rest := []) rfl rfl rfl rfl rfl (Nat.le_of_ble_eq_true rfl) (by decide) (by decide)) ?_
      refine eC_c ?_
      refine Eq.trans (cW_I rfl rfl rfl) ?_
      refine cI_c (fun x_6 s_5 => ?_) (xh_nil rfl)
      refine Eq.trans (rn_go 2 (pc' := 33) (L' := [.ref a0, .int x1, .int x2, .int x3, .int x_6, am_un, am_un, am_un, am_un]) (st' := [.int x_6]) rfl) ?_
      refine Eq.trans (rn_ifeq (L' := [.ref a0, .int x1, .int x2, .int x3, .int x_6, am_un, am_un, am_un, am_un]) rfl rfl) ?_
      refine if_c ?_ ?_
      · exact rn_go 4 (pc' := 46) (L' := [.ref a0, .int x1, .int x2, .int x3, .int x_6, .long (0 : Int64), am_un, .int (0 : Int32), am_un]) (st' := []) rfl
      · refine Eq.trans (rn_go 2 (pc' := 39) (L' := [.ref a0, .int x1, .int x2, .int x3, .int x_6, am_un, am_un, am_un, am_un]) (st' := [.long x_6.toInt64]) rfl) ?_
        exact rn_retJ rfl rfl
    · refine Eq.trans (rn_vir (L' := [.ref a0, .int x1, .int x2, .int x3, am_un, am_un, am_un, am_un, am_un]) (as := [.int x3, .ref b_4]) (rest := []) rfl rfl rfl rfl rfl (Nat.le_of_ble_eq_true rfl) (by decide) (by decide)) ?_
      refine eC_c ?_
      refine Eq.trans (cW_I rfl rfl rfl) ?_
      refine cI_c (fun x_8 s_7 => ?_) (xh_nil rfl)
      refine Eq.trans (rn_go 2 (pc' := 33) (L' := [.ref a0, .int x1, .int x2, .int x3, .int x_8, am_un, am_un, am_un, am_un]) (st' := [.int x_8]) rfl) ?_
      refine Eq.trans (rn_ifeq (L' := [.ref a0, .int x1, .int x2, .int x3, .int x_8, am_un, am_un, am_un, am_un]) rfl rfl) ?_
      refine if_c ?_ ?_
      · exact rn_go 4 (pc' := 46) (L' := [.ref a0, .int x1, .int x2, .int x3, .int x_8, .long (0 : Int64), am_un, .int (0 : Int32), am_un]) (st' := []) rfl
      · refine Eq.trans (rn_go 2 (pc' := 39) (L' := [.ref a0, .int x1, .int x2, .int x3, .int x_8, am_un, am_un, am_un, am_un]) (st' := [.long x_8.toInt64]) rfl) ?_
        exact rn_retJ rfl rfl
theorem dc_X12_sumAt_46 {B : Nat} (a0 : Nat) (x1 : Int32) (x2 : Int32) (w3 : Value) (w4 : Value) (j5 : Int64) (x7 : Int32) (s : am_S) : rn_ tb_ct tb_mt B mm_X12_sumAt 46 [.ref a0, .int x1, .int x2, w3, w4, .long j5, am_un, .int x7, am_un] [] s = eA (gA tb_ct s a0 10 5) (none) (fun b_1 => eI (gI tb_ct s b_1 3 1) (fun x_2 => if x_2 ≤ x7 then some (.inl (some (.long j5)), s) else eA (gA tb_ct s a0 10 5) (none) (fun b_3 => eC (am_cls s b_3) 3 (cA (cl_ tb_ct tb_mt B K_X4_at [.ref b_3, .int x7] s) (fun s_4 => rn_ tb_ct tb_mt B mm_X12_sumAt 95 [.ref a0, .int x1, .int x2, am_un, am_un, .long j5, am_un, .int x7, va_rf none] [] s_4) (fun b_5 s_4 => eC (am_cls s_4 b_5) 2 (cI (cl_ tb_ct tb_mt B K_X3_isIn [.ref b_5, .int x1, .int x2] s_4) (fun x_7 s_6 => if x_7 = 0 then rn_ tb_ct tb_mt B mm_X12_sumAt 95 [.ref a0, .int x1, .int x2, am_un, am_un, .long j5, am_un, .int x7, va_rf (some b_5)] [] s_6 else eI (gI tb_ct s_6 b_5 2 1) (fun x_8 => rn_ tb_ct tb_mt B mm_X12_sumAt 95 [.ref a0, .int x1, .int x2, am_un, am_un, .long (j5 + x_8.toInt64), am_un, .int x7, va_rf (some b_5)] [] s_6)) xo)) xo)))) := by
  refine Eq.trans (rn_go 2 (pc' := 49) (L' := [.ref a0, .int x1, .int x2, am_un, am_un, .long j5, am_un, .int x7, am_un]) (st' := [.ref a0, .int x7]) rfl) ?_
  refine Eq.trans (rn_gA (L' := [.ref a0, .int x1, .int x2, am_un, am_un, .long j5, am_un, .int x7, am_un]) rfl rfl rfl rfl) ?_
  refine eA_c ?_ (fun b_1 => ?_)
  · exact rn_z rfl rfl
  · refine Eq.trans (rn_gI (L' := [.ref a0, .int x1, .int x2, am_un, am_un, .long j5, am_un, .int x7, am_un]) rfl rfl rfl rfl) ?_
    refine eI_c (fun x_2 => ?_)
    refine Eq.trans (rn_icge (L' := [.ref a0, .int x1, .int x2, am_un, am_un, .long j5, am_un, .int x7, am_un]) rfl rfl) ?_
    refine if_c ?_ ?_
    · refine Eq.trans (rn_go 1 (pc' := 103) (L' := [.ref a0, .int x1, .int x2, am_un, am_un, .long j5, am_un, .int x7, am_un]) (st' := [.long j5]) rfl) ?_
      exact rn_retJ rfl rfl
    · refine Eq.trans (rn_go 1 (pc' := 59) (L' := [.ref a0, .int x1, .int x2, am_un, am_un, .long j5, am_un, .int x7, am_un]) (st' := [.ref a0]) rfl) ?_
      refine Eq.trans (rn_gA (L' := [.ref a0, .int x1, .int x2, am_un, am_un, .long j5, am_un, .int x7, am_un]) rfl rfl rfl rfl) ?_
      refine eA_c ?_ (fun b_3 => ?_)
      · refine Eq.trans (rn_go 1 (pc' := 64) (L' := [.ref a0, .int x1, .int x2, am_un, am_un, .long j5, am_un, .int x7, am_un]) (st' := [.int x7, .null]) rfl) ?_
        exact rn_z rfl rfl
      · refine Eq.trans (rn_go 1 (pc' := 64) (L' := [.ref a0, .int x1, .int x2, am_un, am_un, .long j5, am_un, .int x7, am_un]) (st' := [.int x7, .ref b_3]) rfl) ?_
        refine Eq.trans (rn_vir (L' := [.ref a0, .int x1, .int x2, am_un, am_un, .long j5, am_un, .int x7, am_un]) (as := [.int x7]) (rest := []) rfl rfl rfl rfl rfl (Nat.le_of_ble_eq_true rfl) (by decide) (by decide)) ?_
        refine eC_c ?_
        refine Eq.trans (cW_A rfl rfl rfl) ?_
        refine cA_c (fun s_4 => ?_) (fun b_5 s_4 => ?_) (xh_nil rfl)
        · exact rn_go 3 (pc' := 95) (L' := [.ref a0, .int x1, .int x2, am_un, am_un, .long j5, am_un, .int x7, va_rf none]) (st' := []) rfl
        · refine Eq.trans (rn_go 6 (pc' := 78) (L' := [.ref a0, .int x1, .int x2, am_un, am_un, .long j5, am_un, .int x7, .ref b_5]) (st' := [.int x2, .int x1, .ref b_5]) rfl) ?_
          refine Eq.trans (rn_vir (L' := [.ref a0, .int x1, .int x2, am_un, am_un, .long j5, am_un, .int x7, .ref b_5]) (as := [.int x1, .int x2]) (rest := []) rfl rfl rfl rfl rfl (Nat.le_of_ble_eq_true rfl) (by decide) (by decide)) ?_
          refine eC_c ?_
          refine Eq.trans (cW_I rfl rfl rfl) ?_
          refine cI_c (fun x_7 s_6 => ?_) (xh_nil rfl)
          refine Eq.trans (rn_ifeq (L' := [.ref a0, .int x1, .int x2, am_un, am_un, .long j5, am_un, .int x7, .ref b_5]) rfl rfl) ?_
          refine if_c ?_ ?_
          · rfl
          · refine Eq.trans (rn_go 2 (pc' := 88) (L' := [.ref a0, .int x1, .int x2, am_un, am_un, .long j5, am_un, .int x7, .ref b_5]) (st' := [.ref b_5, .long j5]) rfl) ?_
            refine Eq.trans (rn_gI (L' := [.ref a0, .int x1, .int x2, am_un, am_un, .long j5, am_un, .int x7, .ref b_5]) rfl rfl rfl rfl) ?_
            refine eI_c (fun x_8 => ?_)
            exact rn_go 3 (pc' := 95) (L' := [.ref a0, .int x1, .int x2, am_un, am_un, .long (j5 + x_8.toInt64), am_un, .int x7, va_rf (some b_5)]) (st' := []) rfl
theorem dc_X12_sumAt_95 {B : Nat} (a0 : Nat) (x1 : Int32) (x2 : Int32) (j5 : Int64) (x7 : Int32) (w8 : Value) (s : am_S) : rn_ tb_ct tb_mt B mm_X12_sumAt 95 [.ref a0, .int x1, .int x2, am_un, am_un, .long j5, am_un, .int x7, w8] [] s = rn_ tb_ct tb_mt B mm_X12_sumAt 46 [.ref a0, .int x1, .int x2, am_un, am_un, .long j5, am_un, .int (x7 + (1 : Int32)), am_un] [] s := by
  exact rn_go 2 (pc' := 46) (L' := [.ref a0, .int x1, .int x2, am_un, am_un, .long j5, am_un, .int (x7 + (1 : Int32)), am_un]) (st' := []) rfl
theorem in_X12_changed {B : Nat} (a0 : Nat) (x1 : Int32) (x2 : Int32) (s : am_S) : cl_ tb_ct tb_mt B K_X12_changed [.ref a0, .int x1, .int x2] s = rn_ tb_ct tb_mt B mm_X12_changed 0 [.ref a0, .int x1, .int x2, am_un] [] s := cl_in rfl rfl rfl rfl
theorem dc_X12_changed_0 {B : Nat} (a0 : Nat) (x1 : Int32) (x2 : Int32) (s : am_S) : rn_ tb_ct tb_mt B mm_X12_changed 0 [.ref a0, .int x1, .int x2, am_un] [] s = if x1 < 0 then rn_ tb_ct tb_mt B mm_X12_changed 12 [.ref a0, .int x1, .int x2, am_un] [] s else if x2 < 0 then rn_ tb_ct tb_mt B mm_X12_changed 12 [.ref a0, .int x1, .int x2, am_un] [] s else rn_ tb_ct tb_mt B mm_X12_changed 13 [.ref a0, .int x1, .int x2, am_un] [.int (1 : Int32)] s := by
  refine Eq.trans (rn_go 1 (pc' := 1) (L' := [.ref a0, .int x1, .int x2, am_un]) (st' := [.int x1]) rfl) ?_
  refine Eq.trans (rn_iflt (L' := [.ref a0, .int x1, .int x2, am_un]) rfl rfl) ?_
  refine if_c ?_ ?_
  · rfl
  · refine Eq.trans (rn_go 1 (pc' := 5) (L' := [.ref a0, .int x1, .int x2, am_un]) (st' := [.int x2]) rfl) ?_
    refine Eq.trans (rn_iflt (L' := [.ref a0, .int x1, .int x2, am_un]) rfl rfl) ?_
    refine if_c ?_ ?_
    · rfl
    · exact rn_go 2 (pc' := 13) (L' := [.ref a0, .int x1, .int x2, am_un]) (st' := [.int (1 : Int32)]) rfl
theorem dc_X12_changed_12 {B : Nat} (a0 : Nat) (x1 : Int32) (x2 : Int32) (s : am_S) : rn_ tb_ct tb_mt B mm_X12_changed 12 [.ref a0, .int x1, .int x2, am_un] [] s = rn_ tb_ct tb_mt B mm_X12_changed 13 [.ref a0, .int x1, .int x2, am_un] [.int (0 : Int32)] s := by
  exact rn_go 1 (pc' := 13) (L' := [.ref a0, .int x1, .int x2, am_un]) (st' := [.int (0 : Int32)]) rfl
theorem dc_X12_changed_13 {B : Nat} (a0 : Nat) (x1 : Int32) (x2 : Int32) (xs0 : Int32) (s : am_S) : rn_ tb_ct tb_mt B mm_X12_changed 13 [.ref a0, .int x1, .int x2, am_un] [.int xs0] s = cV (cl_ tb_ct tb_mt B K_X12_need [.int xs0] s) (fun s_1 => eA (gA tb_ct s_1 a0 10 0) (eA (gA tb_ct s_1 a0 10 5) (none) (fun b_3 => none)) (fun b_2 => eA (gA tb_ct s_1 a0 10 5) (eC (am_cls s_1 b_2) 7 (cI (cl_ tb_ct tb_mt B K_X8_recall [.ref b_2, .int x1, .null] s_1) (fun x_6 s_5 => if x_6 = 0 then eA (gA tb_ct s_5 a0 10 0) (eA (gA tb_ct s_5 a0 10 6) (none) (fun b_8 => none)) (fun b_7 => eA (gA tb_ct s_5 a0 10 6) (eC (am_cls s_5 b_7) 7 (cI (cl_ tb_ct tb_mt B K_X8_recall [.ref b_7, .int x2, .null] s_5) (fun x_11 s_10 => rn_ tb_ct tb_mt B mm_X12_changed 46 [.ref a0, .int x1, .int x2, .int x_11] [] s_10) xo)) (fun b_9 => eC (am_cls s_5 b_7) 7 (cI (cl_ tb_ct tb_mt B K_X8_recall [.ref b_7, .int x2, .ref b_9] s_5) (fun x_13 s_12 => rn_ tb_ct tb_mt B mm_X12_changed 46 [.ref a0, .int x1, .int x2, .int x_13] [] s_12) xo))) else rn_ tb_ct tb_mt B mm_X12_changed 46 [.ref a0, .int x1, .int x2, .int x_6] [] s_5) xo)) (fun b_4 => eC (am_cls s_1 b_2) 7 (cI (cl_ tb_ct tb_mt B K_X8_recall [.ref b_2, .int x1, .ref b_4] s_1) (fun x_15 s_14 => if x_15 = 0 then eA (gA tb_ct s_14 a0 10 0) (eA (gA tb_ct s_14 a0 10 6) (none) (fun b_17 => none)) (fun b_16 => eA (gA tb_ct s_14 a0 10 6) (eC (am_cls s_14 b_16) 7 (cI (cl_ tb_ct tb_mt B K_X8_recall [.ref b_16, .int x2, .null] s_14) (fun x_20 s_19 => rn_ tb_ct tb_mt B mm_X12_changed 46 [.ref a0, .int x1, .int x2, .int x_20] [] s_19) xo)) (fun b_18 => eC (am_cls s_14 b_16) 7 (cI (cl_ tb_ct tb_mt B K_X8_recall [.ref b_16, .int x2, .ref b_18] s_14) (fun x_22 s_21 => rn_ tb_ct tb_mt B mm_X12_changed 46 [.ref a0, .int x1, .int x2, .int x_22] [] s_21) xo))) else rn_ tb_ct tb_mt B mm_X12_changed 46 [.ref a0, .int x1, .int x2, .int x_15] [] s_14) xo)))) xo := by
  refine Eq.trans (rn_sta (L' := [.ref a0, .int x1, .int x2, am_un]) (as := [.int xs0]) (rest := []) rfl rfl rfl rfl rfl (Nat.le_of_ble_eq_true rfl) (by decide) rfl) ?_
  refine Eq.trans (cW_V rfl rfl) ?_
  refine cV_c (fun s_1 => ?_) (xh_nil rfl)
  refine Eq.trans (rn_go 1 (pc' := 17) (L' := [.ref a0, .int x1, .int x2, am_un]) (st' := [.ref a0]) rfl) ?_
  refine Eq.trans (rn_gA (L' := [.ref a0, .int x1, .int x2, am_un]) rfl rfl rfl rfl) ?_
  refine eA_c ?_ (fun b_2 => ?_)
  · refine Eq.trans (rn_go 2 (pc' := 22) (L' := [.ref a0, .int x1, .int x2, am_un]) (st' := [.ref a0, .int x1, .null]) rfl) ?_
    refine Eq.trans (rn_gA (L' := [.ref a0, .int x1, .int x2, am_un]) rfl rfl rfl rfl) ?_
    refine eA_c ?_ (fun b_3 => ?_)
    · exact rn_z rfl rfl
    · exact rn_z rfl rfl
  · refine Eq.trans (rn_go 2 (pc' := 22) (L' := [.ref a0, .int x1, .int x2, am_un]) (st' := [.ref a0, .int x1, .ref b_2]) rfl) ?_
    refine Eq.trans (rn_gA (L' := [.ref a0, .int x1, .int x2, am_un]) rfl rfl rfl rfl) ?_
    refine eA_c ?_ (fun b_4 => ?_)
    · refine Eq.trans (rn_vir (L' := [.ref a0, .int x1, .int x2, am_un]) (as := [.int x1, .null]) (rest := []) rfl rfl rfl rfl rfl (Nat.le_of_ble_eq_true rfl) (by decide) (by decide)) ?_
      refine eC_c ?_
      refine Eq.trans (cW_I rfl rfl rfl) ?_
      refine cI_c (fun x_6 s_5 => ?_) (xh_nil rfl)
      refine Eq.trans (rn_go 2 (pc' := 30) (L' := [.ref a0, .int x1, .int x2, .int x_6]) (st' := [.int x_6]) rfl) ?_
      refine Eq.trans (rn_ifne (L' := [.ref a0, .int x1, .int x2, .int x_6]) rfl rfl) ?_
      refine if_c ?_ ?_
      · refine Eq.trans (rn_go 1 (pc' := 34) (L' := [.ref a0, .int x1, .int x2, .int x_6]) (st' := [.ref a0]) rfl) ?_
        refine Eq.trans (rn_gA (L' := [.ref a0, .int x1, .int x2, .int x_6]) rfl rfl rfl rfl) ?_
        refine eA_c ?_ (fun b_7 => ?_)
        · refine Eq.trans (rn_go 2 (pc' := 39) (L' := [.ref a0, .int x1, .int x2, .int x_6]) (st' := [.ref a0, .int x2, .null]) rfl) ?_
          refine Eq.trans (rn_gA (L' := [.ref a0, .int x1, .int x2, .int x_6]) rfl rfl rfl rfl) ?_
          refine eA_c ?_ (fun b_8 => ?_)
          · exact rn_z rfl rfl
          · exact rn_z rfl rfl
        · refine Eq.trans (rn_go 2 (pc' := 39) (L' := [.ref a0, .int x1, .int x2, .int x_6]) (st' := [.ref a0, .int x2, .ref b_7]) rfl) ?_
          refine Eq.trans (rn_gA (L' := [.ref a0, .int x1, .int x2, .int x_6]) rfl rfl rfl rfl) ?_
          refine eA_c ?_ (fun b_9 => ?_)
          · refine Eq.trans (rn_vir (L' := [.ref a0, .int x1, .int x2, .int x_6]) (as := [.int x2, .null]) (rest := []) rfl rfl rfl rfl rfl (Nat.le_of_ble_eq_true rfl) (by decide) (by decide)) ?_
            refine eC_c ?_
            refine Eq.trans (cW_I rfl rfl rfl) ?_
            refine cI_c (fun x_11 s_10 => ?_) (xh_nil rfl)
            exact rn_go 1 (pc' := 46) (L' := [.ref a0, .int x1, .int x2, .int x_11]) (st' := []) rfl
          · refine Eq.trans (rn_vir (L' := [.ref a0, .int x1, .int x2, .int x_6]) (as := [.int x2, .ref b_9]) (rest := []) rfl rfl rfl rfl rfl (Nat.le_of_ble_eq_true rfl) (by decide) (by decide)) ?_
            refine eC_c ?_
            refine Eq.trans (cW_I rfl rfl rfl) ?_
            refine cI_c (fun x_13 s_12 => ?_) (xh_nil rfl)
            exact rn_go 1 (pc' := 46) (L' := [.ref a0, .int x1, .int x2, .int x_13]) (st' := []) rfl
      · rfl
    · refine Eq.trans (rn_vir (L' := [.ref a0, .int x1, .int x2, am_un]) (as := [.int x1, .ref b_4]) (rest := []) rfl rfl rfl rfl rfl (Nat.le_of_ble_eq_true rfl) (by decide) (by decide)) ?_
      refine eC_c ?_
      refine Eq.trans (cW_I rfl rfl rfl) ?_
      refine cI_c (fun x_15 s_14 => ?_) (xh_nil rfl)
      refine Eq.trans (rn_go 2 (pc' := 30) (L' := [.ref a0, .int x1, .int x2, .int x_15]) (st' := [.int x_15]) rfl) ?_
      refine Eq.trans (rn_ifne (L' := [.ref a0, .int x1, .int x2, .int x_15]) rfl rfl) ?_
      refine if_c ?_ ?_
      · refine Eq.trans (rn_go 1 (pc' := 34) (L' := [.ref a0, .int x1, .int x2, .int x_15]) (st' := [.ref a0]) rfl) ?_
        refine Eq.trans (rn_gA (L' := [.ref a0, .int x1, .int x2, .int x_15]) rfl rfl rfl rfl) ?_
        refine eA_c ?_ (fun b_16 => ?_)
        · refine Eq.trans (rn_go 2 (pc' := 39) (L' := [.ref a0, .int x1, .int x2, .int x_15]) (st' := [.ref a0, .int x2, .null]) rfl) ?_
          refine Eq.trans (rn_gA (L' := [.ref a0, .int x1, .int x2, .int x_15]) rfl rfl rfl rfl) ?_
          refine eA_c ?_ (fun b_17 => ?_)
          · exact rn_z rfl rfl
          · exact rn_z rfl rfl
        · refine Eq.trans (rn_go 2 (pc' := 39) (L' := [.ref a0, .int x1, .int x2, .int x_15]) (st' := [.ref a0, .int x2, .ref b_16]) rfl) ?_
          refine Eq.trans (rn_gA (L' := [.ref a0, .int x1, .int x2, .int x_15]) rfl rfl rfl rfl) ?_
          refine eA_c ?_ (fun b_18 => ?_)
          · refine Eq.trans (rn_vir (L' := [.ref a0, .int x1, .int x2, .int x_15]) (as := [.int x2, .null]) (rest := []) rfl rfl rfl rfl rfl (Nat.le_of_ble_eq_true rfl) (by decide) (by decide)) ?_
            refine eC_c ?_
            refine Eq.trans (cW_I rfl rfl rfl) ?_
            refine cI_c (fun x_20 s_19 => ?_) (xh_nil rfl)
            exact rn_go 1 (pc' := 46) (L' := [.ref a0, .int x1, .int x2, .int x_20]) (st' := []) rfl
          · refine Eq.trans (rn_vir (L' := [.ref a0, .int x1, .int x2, .int x_15]) (as := [.int x2, .ref b_18]) (rest := []) rfl rfl rfl rfl rfl (Nat.le_of_ble_eq_true rfl) (by decide) (by decide)) ?_
            refine eC_c ?_
            refine Eq.trans (cW_I rfl rfl rfl) ?_
            refine cI_c (fun x_22 s_21 => ?_) (xh_nil rfl)
            exact rn_go 1 (pc' := 46) (L' := [.ref a0, .int x1, .int x2, .int x_22]) (st' := []) rfl
      · rfl
theorem dc_X12_changed_46 {B : Nat} (a0 : Nat) (w1 : Value) (w2 : Value) (x3 : Int32) (s : am_S) : rn_ tb_ct tb_mt B mm_X12_changed 46 [.ref a0, w1, w2, .int x3] [] s = if x3 = 0 then eA (gA tb_ct s a0 10 5) (eA (gA tb_ct s a0 10 6) (none) (fun b_2 => none)) (fun b_1 => eA (gA tb_ct s a0 10 6) (eC (am_cls s b_1) 3 (cI (cl_ tb_ct tb_mt B K_X4_differences [.ref b_1, .null] s) (fun x_5 s_4 => some (.inl (some (.int x_5)), s_4)) xo)) (fun b_3 => eC (am_cls s b_1) 3 (cI (cl_ tb_ct tb_mt B K_X4_differences [.ref b_1, .ref b_3] s) (fun x_7 s_6 => some (.inl (some (.int x_7)), s_6)) xo))) else some (.inl (some (.int x3)), s) := by
  refine Eq.trans (rn_go 1 (pc' := 47) (L' := [.ref a0, am_un, am_un, .int x3]) (st' := [.int x3]) rfl) ?_
  refine Eq.trans (rn_ifne (L' := [.ref a0, am_un, am_un, .int x3]) rfl rfl) ?_
  refine if_c ?_ ?_
  · refine Eq.trans (rn_go 1 (pc' := 51) (L' := [.ref a0, am_un, am_un, .int x3]) (st' := [.ref a0]) rfl) ?_
    refine Eq.trans (rn_gA (L' := [.ref a0, am_un, am_un, .int x3]) rfl rfl rfl rfl) ?_
    refine eA_c ?_ (fun b_1 => ?_)
    · refine Eq.trans (rn_go 1 (pc' := 55) (L' := [.ref a0, am_un, am_un, .int x3]) (st' := [.ref a0, .null]) rfl) ?_
      refine Eq.trans (rn_gA (L' := [.ref a0, am_un, am_un, .int x3]) rfl rfl rfl rfl) ?_
      refine eA_c ?_ (fun b_2 => ?_)
      · exact rn_z rfl rfl
      · exact rn_z rfl rfl
    · refine Eq.trans (rn_go 1 (pc' := 55) (L' := [.ref a0, am_un, am_un, .int x3]) (st' := [.ref a0, .ref b_1]) rfl) ?_
      refine Eq.trans (rn_gA (L' := [.ref a0, am_un, am_un, .int x3]) rfl rfl rfl rfl) ?_
      refine eA_c ?_ (fun b_3 => ?_)
      · refine Eq.trans (rn_vir (L' := [.ref a0, am_un, am_un, .int x3]) (as := [.null]) (rest := []) rfl rfl rfl rfl rfl (Nat.le_of_ble_eq_true rfl) (by decide) (by decide)) ?_
        refine eC_c ?_
        refine Eq.trans (cW_I rfl rfl rfl) ?_
        refine cI_c (fun x_5 s_4 => ?_) (xh_nil rfl)
        refine Eq.trans (rn_go 1 (pc' := 65) (L' := [.ref a0, am_un, am_un, .int x3]) (st' := [.int x_5]) rfl) ?_
        exact rn_retI rfl rfl rfl
      · refine Eq.trans (rn_vir (L' := [.ref a0, am_un, am_un, .int x3]) (as := [.ref b_3]) (rest := []) rfl rfl rfl rfl rfl (Nat.le_of_ble_eq_true rfl) (by decide) (by decide)) ?_
        refine eC_c ?_
        refine Eq.trans (cW_I rfl rfl rfl) ?_
        refine cI_c (fun x_7 s_6 => ?_) (xh_nil rfl)
        refine Eq.trans (rn_go 1 (pc' := 65) (L' := [.ref a0, am_un, am_un, .int x3]) (st' := [.int x_7]) rfl) ?_
        exact rn_retI rfl rfl rfl
  · refine Eq.trans (rn_go 1 (pc' := 65) (L' := [.ref a0, am_un, am_un, .int x3]) (st' := [.int x3]) rfl) ?_
    exact rn_retI rfl rfl rfl
theorem in_X12_digest {B : Nat} (a0 : Nat) (x1 : Int32) (s : am_S) : cl_ tb_ct tb_mt B K_X12_digest [.ref a0, .int x1] s = rn_ tb_ct tb_mt B mm_X12_digest 0 [.ref a0, .int x1, am_un, am_un, am_un] [] s := cl_in rfl rfl rfl rfl
theorem dc_X12_digest_0 {B : Nat} (a0 : Nat) (x1 : Int32) (s : am_S) : rn_ tb_ct tb_mt B mm_X12_digest 0 [.ref a0, .int x1, am_un, am_un, am_un] [] s = if x1 < 0 then rn_ tb_ct tb_mt B mm_X12_digest 9 [.ref a0, .int x1, am_un, am_un, am_un] [.int (0 : Int32)] s else rn_ tb_ct tb_mt B mm_X12_digest 9 [.ref a0, .int x1, am_un, am_un, am_un] [.int (1 : Int32)] s := by
  refine Eq.trans (rn_go 1 (pc' := 1) (L' := [.ref a0, .int x1, am_un, am_un, am_un]) (st' := [.int x1]) rfl) ?_
  refine Eq.trans (rn_iflt (L' := [.ref a0, .int x1, am_un, am_un, am_un]) rfl rfl) ?_
  refine if_c ?_ ?_
  · exact rn_go 1 (pc' := 9) (L' := [.ref a0, .int x1, am_un, am_un, am_un]) (st' := [.int (0 : Int32)]) rfl
  · exact rn_go 2 (pc' := 9) (L' := [.ref a0, .int x1, am_un, am_un, am_un]) (st' := [.int (1 : Int32)]) rfl
theorem dc_X12_digest_9 {B : Nat} (a0 : Nat) (x1 : Int32) (xs0 : Int32) (s : am_S) : rn_ tb_ct tb_mt B mm_X12_digest 9 [.ref a0, .int x1, am_un, am_un, am_un] [.int xs0] s = cV (cl_ tb_ct tb_mt B K_X12_need [.int xs0] s) (fun s_1 => eA (gA tb_ct s_1 a0 10 0) (eA (gA tb_ct s_1 a0 10 5) (none) (fun b_3 => none)) (fun b_2 => eA (gA tb_ct s_1 a0 10 5) (eC (am_cls s_1 b_2) 7 (cI (cl_ tb_ct tb_mt B K_X8_recall [.ref b_2, .int x1, .null] s_1) (fun x_6 s_5 => if x_6 = 0 then rn_ tb_ct tb_mt B mm_X12_digest 34 [.ref a0, .int x1, .int (17 : Int32), .int (0 : Int32), am_un] [] s_5 else some (.inl (some (.int (0 : Int32))), s_5)) xo)) (fun b_4 => eC (am_cls s_1 b_2) 7 (cI (cl_ tb_ct tb_mt B K_X8_recall [.ref b_2, .int x1, .ref b_4] s_1) (fun x_8 s_7 => if x_8 = 0 then rn_ tb_ct tb_mt B mm_X12_digest 34 [.ref a0, .int x1, .int (17 : Int32), .int (0 : Int32), am_un] [] s_7 else some (.inl (some (.int (0 : Int32))), s_7)) xo)))) xo := by
  refine Eq.trans (rn_sta (L' := [.ref a0, .int x1, am_un, am_un, am_un]) (as := [.int xs0]) (rest := []) rfl rfl rfl rfl rfl (Nat.le_of_ble_eq_true rfl) (by decide) rfl) ?_
  refine Eq.trans (cW_V rfl rfl) ?_
  refine cV_c (fun s_1 => ?_) (xh_nil rfl)
  refine Eq.trans (rn_go 1 (pc' := 13) (L' := [.ref a0, .int x1, am_un, am_un, am_un]) (st' := [.ref a0]) rfl) ?_
  refine Eq.trans (rn_gA (L' := [.ref a0, .int x1, am_un, am_un, am_un]) rfl rfl rfl rfl) ?_
  refine eA_c ?_ (fun b_2 => ?_)
  · refine Eq.trans (rn_go 2 (pc' := 18) (L' := [.ref a0, .int x1, am_un, am_un, am_un]) (st' := [.ref a0, .int x1, .null]) rfl) ?_
    refine Eq.trans (rn_gA (L' := [.ref a0, .int x1, am_un, am_un, am_un]) rfl rfl rfl rfl) ?_
    refine eA_c ?_ (fun b_3 => ?_)
    · exact rn_z rfl rfl
    · exact rn_z rfl rfl
  · refine Eq.trans (rn_go 2 (pc' := 18) (L' := [.ref a0, .int x1, am_un, am_un, am_un]) (st' := [.ref a0, .int x1, .ref b_2]) rfl) ?_
    refine Eq.trans (rn_gA (L' := [.ref a0, .int x1, am_un, am_un, am_un]) rfl rfl rfl rfl) ?_
    refine eA_c ?_ (fun b_4 => ?_)
    · refine Eq.trans (rn_vir (L' := [.ref a0, .int x1, am_un, am_un, am_un]) (as := [.int x1, .null]) (rest := []) rfl rfl rfl rfl rfl (Nat.le_of_ble_eq_true rfl) (by decide) (by decide)) ?_
      refine eC_c ?_
      refine Eq.trans (cW_I rfl rfl rfl) ?_
      refine cI_c (fun x_6 s_5 => ?_) (xh_nil rfl)
      refine Eq.trans (rn_ifeq (L' := [.ref a0, .int x1, am_un, am_un, am_un]) rfl rfl) ?_
      refine if_c ?_ ?_
      · exact rn_go 4 (pc' := 34) (L' := [.ref a0, .int x1, .int (17 : Int32), .int (0 : Int32), am_un]) (st' := []) rfl
      · refine Eq.trans (rn_go 1 (pc' := 28) (L' := [.ref a0, .int x1, am_un, am_un, am_un]) (st' := [.int (0 : Int32)]) rfl) ?_
        exact rn_retI rfl rfl rfl
    · refine Eq.trans (rn_vir (L' := [.ref a0, .int x1, am_un, am_un, am_un]) (as := [.int x1, .ref b_4]) (rest := []) rfl rfl rfl rfl rfl (Nat.le_of_ble_eq_true rfl) (by decide) (by decide)) ?_
      refine eC_c ?_
      refine Eq.trans (cW_I rfl rfl rfl) ?_
      refine cI_c (fun x_8 s_7 => ?_) (xh_nil rfl)
      refine Eq.trans (rn_ifeq (L' := [.ref a0, .int x1, am_un, am_un, am_un]) rfl rfl) ?_
      refine if_c ?_ ?_
      · exact rn_go 4 (pc' := 34) (L' := [.ref a0, .int x1, .int (17 : Int32), .int (0 : Int32), am_un]) (st' := []) rfl
      · refine Eq.trans (rn_go 1 (pc' := 28) (L' := [.ref a0, .int x1, am_un, am_un, am_un]) (st' := [.int (0 : Int32)]) rfl) ?_
        exact rn_retI rfl rfl rfl
theorem dc_X12_digest_34 {B : Nat} (a0 : Nat) (w1 : Value) (x2 : Int32) (x3 : Int32) (s : am_S) : rn_ tb_ct tb_mt B mm_X12_digest 34 [.ref a0, w1, .int x2, .int x3, am_un] [] s = eA (gA tb_ct s a0 10 5) (none) (fun b_1 => eI (gI tb_ct s b_1 3 1) (fun x_2 => if x_2 ≤ x3 then some (.inl (some (.int x2)), s) else eA (gA tb_ct s a0 10 5) (none) (fun b_3 => eC (am_cls s b_3) 3 (cA (cl_ tb_ct tb_mt B K_X4_at [.ref b_3, .int x3] s) (fun s_4 => rn_ tb_ct tb_mt B mm_X12_digest 82 [.ref a0, am_un, .int x2, .int x3, va_rf none] [] s_4) (fun b_5 s_4 => eI (gI tb_ct s_4 b_5 2 0) (fun x_6 => eI (gI tb_ct s_4 b_5 2 1) (fun x_7 => rn_ tb_ct tb_mt B mm_X12_digest 82 [.ref a0, am_un, .int (((31 : Int32) * (((31 : Int32) * x2) + x_6)) + x_7), .int x3, va_rf (some b_5)] [] s_4))) xo)))) := by
  refine Eq.trans (rn_go 2 (pc' := 36) (L' := [.ref a0, am_un, .int x2, .int x3, am_un]) (st' := [.ref a0, .int x3]) rfl) ?_
  refine Eq.trans (rn_gA (L' := [.ref a0, am_un, .int x2, .int x3, am_un]) rfl rfl rfl rfl) ?_
  refine eA_c ?_ (fun b_1 => ?_)
  · exact rn_z rfl rfl
  · refine Eq.trans (rn_gI (L' := [.ref a0, am_un, .int x2, .int x3, am_un]) rfl rfl rfl rfl) ?_
    refine eI_c (fun x_2 => ?_)
    refine Eq.trans (rn_icge (L' := [.ref a0, am_un, .int x2, .int x3, am_un]) rfl rfl) ?_
    refine if_c ?_ ?_
    · refine Eq.trans (rn_go 1 (pc' := 89) (L' := [.ref a0, am_un, .int x2, .int x3, am_un]) (st' := [.int x2]) rfl) ?_
      exact rn_retI rfl rfl rfl
    · refine Eq.trans (rn_go 1 (pc' := 46) (L' := [.ref a0, am_un, .int x2, .int x3, am_un]) (st' := [.ref a0]) rfl) ?_
      refine Eq.trans (rn_gA (L' := [.ref a0, am_un, .int x2, .int x3, am_un]) rfl rfl rfl rfl) ?_
      refine eA_c ?_ (fun b_3 => ?_)
      · refine Eq.trans (rn_go 1 (pc' := 50) (L' := [.ref a0, am_un, .int x2, .int x3, am_un]) (st' := [.int x3, .null]) rfl) ?_
        exact rn_z rfl rfl
      · refine Eq.trans (rn_go 1 (pc' := 50) (L' := [.ref a0, am_un, .int x2, .int x3, am_un]) (st' := [.int x3, .ref b_3]) rfl) ?_
        refine Eq.trans (rn_vir (L' := [.ref a0, am_un, .int x2, .int x3, am_un]) (as := [.int x3]) (rest := []) rfl rfl rfl rfl rfl (Nat.le_of_ble_eq_true rfl) (by decide) (by decide)) ?_
        refine eC_c ?_
        refine Eq.trans (cW_A rfl rfl rfl) ?_
        refine cA_c (fun s_4 => ?_) (fun b_5 s_4 => ?_) (xh_nil rfl)
        · exact rn_go 3 (pc' := 82) (L' := [.ref a0, am_un, .int x2, .int x3, va_rf none]) (st' := []) rfl
        · refine Eq.trans (rn_go 7 (pc' := 66) (L' := [.ref a0, am_un, .int x2, .int x3, .ref b_5]) (st' := [.ref b_5, .int ((31 : Int32) * x2)]) rfl) ?_
          refine Eq.trans (rn_gI (L' := [.ref a0, am_un, .int x2, .int x3, .ref b_5]) rfl rfl rfl rfl) ?_
          refine eI_c (fun x_6 => ?_)
          refine Eq.trans (rn_go 6 (pc' := 77) (L' := [.ref a0, am_un, .int (((31 : Int32) * x2) + x_6), .int x3, .ref b_5]) (st' := [.ref b_5, .int ((31 : Int32) * (((31 : Int32) * x2) + x_6))]) rfl) ?_
          refine Eq.trans (rn_gI (L' := [.ref a0, am_un, .int (((31 : Int32) * x2) + x_6), .int x3, .ref b_5]) rfl rfl rfl rfl) ?_
          refine eI_c (fun x_7 => ?_)
          exact rn_go 2 (pc' := 82) (L' := [.ref a0, am_un, .int (((31 : Int32) * (((31 : Int32) * x2) + x_6)) + x_7), .int x3, va_rf (some b_5)]) (st' := []) rfl
theorem dc_X12_digest_82 {B : Nat} (a0 : Nat) (x2 : Int32) (x3 : Int32) (w4 : Value) (s : am_S) : rn_ tb_ct tb_mt B mm_X12_digest 82 [.ref a0, am_un, .int x2, .int x3, w4] [] s = rn_ tb_ct tb_mt B mm_X12_digest 34 [.ref a0, am_un, .int x2, .int (x3 + (1 : Int32)), am_un] [] s := by
  exact rn_go 2 (pc' := 34) (L' := [.ref a0, am_un, .int x2, .int (x3 + (1 : Int32)), am_un]) (st' := []) rfl
theorem in_X12_versionAt {B : Nat} (a0 : Nat) (x1 : Int32) (x2 : Int32) (s : am_S) : cl_ tb_ct tb_mt B K_X12_versionAt [.ref a0, .int x1, .int x2] s = rn_ tb_ct tb_mt B mm_X12_versionAt 0 [.ref a0, .int x1, .int x2, am_un, am_un, am_un] [] s := cl_in rfl rfl rfl rfl
theorem dc_X12_versionAt_0 {B : Nat} (a0 : Nat) (x1 : Int32) (x2 : Int32) (s : am_S) : rn_ tb_ct tb_mt B mm_X12_versionAt 0 [.ref a0, .int x1, .int x2, am_un, am_un, am_un] [] s = cV (cl_ tb_ct tb_mt B K_X12_needKey [.int x1] s) (fun s_1 => if x2 < (1 : Int32) then rn_ tb_ct tb_mt B mm_X12_versionAt 14 [.ref a0, .int x1, .int x2, am_un, am_un, am_un] [.int (0 : Int32)] s_1 else rn_ tb_ct tb_mt B mm_X12_versionAt 14 [.ref a0, .int x1, .int x2, am_un, am_un, am_un] [.int (1 : Int32)] s_1) xo := by
  refine Eq.trans (rn_go 1 (pc' := 1) (L' := [.ref a0, .int x1, .int x2, am_un, am_un, am_un]) (st' := [.int x1]) rfl) ?_
  refine Eq.trans (rn_sta (L' := [.ref a0, .int x1, .int x2, am_un, am_un, am_un]) (as := [.int x1]) (rest := []) rfl rfl rfl rfl rfl (Nat.le_of_ble_eq_true rfl) (by decide) rfl) ?_
  refine Eq.trans (cW_V rfl rfl) ?_
  refine cV_c (fun s_1 => ?_) (xh_nil rfl)
  refine Eq.trans (rn_go 2 (pc' := 6) (L' := [.ref a0, .int x1, .int x2, am_un, am_un, am_un]) (st' := [.int (1 : Int32), .int x2]) rfl) ?_
  refine Eq.trans (rn_iclt (L' := [.ref a0, .int x1, .int x2, am_un, am_un, am_un]) rfl rfl) ?_
  refine if_c ?_ ?_
  · exact rn_go 1 (pc' := 14) (L' := [.ref a0, .int x1, .int x2, am_un, am_un, am_un]) (st' := [.int (0 : Int32)]) rfl
  · exact rn_go 2 (pc' := 14) (L' := [.ref a0, .int x1, .int x2, am_un, am_un, am_un]) (st' := [.int (1 : Int32)]) rfl
theorem dc_X12_versionAt_14 {B : Nat} (a0 : Nat) (x1 : Int32) (x2 : Int32) (xs0 : Int32) (s : am_S) : rn_ tb_ct tb_mt B mm_X12_versionAt 14 [.ref a0, .int x1, .int x2, am_un, am_un, am_un] [.int xs0] s = cV (cl_ tb_ct tb_mt B K_X12_need [.int xs0] s) (fun s_1 => eA (gA tb_ct s_1 a0 10 0) (none) (fun b_2 => eA (gA tb_ct s_1 b_2 7 0) (none) (fun b_3 => eC (am_cls s_1 b_3) 3 (cA (cl_ tb_ct tb_mt B K_X4_find [.ref b_3, .int x1] s_1) (fun s_4 => some (.inl (some (.int (-(2000000000 : Int32)))), s_4)) (fun b_5 s_4 => rn_ tb_ct tb_mt B mm_X12_versionAt 39 [.ref a0, .int x1, .int x2, .ref b_5, .int (0 : Int32), am_un] [] s_4) xo)))) xo := by
  refine Eq.trans (rn_sta (L' := [.ref a0, .int x1, .int x2, am_un, am_un, am_un]) (as := [.int xs0]) (rest := []) rfl rfl rfl rfl rfl (Nat.le_of_ble_eq_true rfl) (by decide) rfl) ?_
  refine Eq.trans (cW_V rfl rfl) ?_
  refine cV_c (fun s_1 => ?_) (xh_nil rfl)
  refine Eq.trans (rn_go 1 (pc' := 18) (L' := [.ref a0, .int x1, .int x2, am_un, am_un, am_un]) (st' := [.ref a0]) rfl) ?_
  refine Eq.trans (rn_gA (L' := [.ref a0, .int x1, .int x2, am_un, am_un, am_un]) rfl rfl rfl rfl) ?_
  refine eA_c ?_ (fun b_2 => ?_)
  · exact rn_z rfl rfl
  · refine Eq.trans (rn_gA (L' := [.ref a0, .int x1, .int x2, am_un, am_un, am_un]) rfl rfl rfl rfl) ?_
    refine eA_c ?_ (fun b_3 => ?_)
    · refine Eq.trans (rn_go 1 (pc' := 25) (L' := [.ref a0, .int x1, .int x2, am_un, am_un, am_un]) (st' := [.int x1, .null]) rfl) ?_
      exact rn_z rfl rfl
    · refine Eq.trans (rn_go 1 (pc' := 25) (L' := [.ref a0, .int x1, .int x2, am_un, am_un, am_un]) (st' := [.int x1, .ref b_3]) rfl) ?_
      refine Eq.trans (rn_vir (L' := [.ref a0, .int x1, .int x2, am_un, am_un, am_un]) (as := [.int x1]) (rest := []) rfl rfl rfl rfl rfl (Nat.le_of_ble_eq_true rfl) (by decide) (by decide)) ?_
      refine eC_c ?_
      refine Eq.trans (cW_A rfl rfl rfl) ?_
      refine cA_c (fun s_4 => ?_) (fun b_5 s_4 => ?_) (xh_nil rfl)
      · refine Eq.trans (rn_go 4 (pc' := 35) (L' := [.ref a0, .int x1, .int x2, .null, am_un, am_un]) (st' := [.int (-(2000000000 : Int32))]) rfl) ?_
        exact rn_retI rfl rfl rfl
      · exact rn_go 5 (pc' := 39) (L' := [.ref a0, .int x1, .int x2, .ref b_5, .int (0 : Int32), am_un]) (st' := []) rfl
theorem dc_X12_versionAt_39 {B : Nat} (a0 : Nat) (w1 : Value) (x2 : Int32) (a3 : Nat) (x4 : Int32) (s : am_S) : rn_ tb_ct tb_mt B mm_X12_versionAt 39 [.ref a0, w1, .int x2, .ref a3, .int x4, am_un] [] s = eA (gA tb_ct s a0 10 0) (none) (fun b_1 => eA (gA tb_ct s b_1 7 1) (none) (fun b_2 => eI (gI tb_ct s b_2 1 1) (fun x_3 => if x_3 ≤ x4 then some (.inl (some (.int (-(2000000000 : Int32)))), s) else eA (gA tb_ct s a0 10 0) (none) (fun b_4 => eA (gA tb_ct s b_4 7 1) (none) (fun b_5 => eC (am_cls s b_5) 1 (cA (cl_ tb_ct tb_mt B K_X2_at [.ref b_5, .int x4] s) (fun s_6 => rn_ tb_ct tb_mt B mm_X12_versionAt 89 [.ref a0, am_un, .int x2, .ref a3, .int x4, va_rf none] [] s_6) (fun b_7 s_6 => eC (am_cls s_6 b_7) 0 (cI (cl_ tb_ct tb_mt B K_X1_wrote [.ref b_7, .ref a3, .int x2] s_6) (fun x_9 s_8 => if x_9 = 0 then rn_ tb_ct tb_mt B mm_X12_versionAt 89 [.ref a0, am_un, .int x2, .ref a3, .int x4, va_rf (some b_7)] [] s_8 else eI (gI tb_ct s_8 b_7 0 3) (fun x_10 => some (.inl (some (.int x_10)), s_8))) xo)) xo)))))) := by
  refine Eq.trans (rn_go 2 (pc' := 42) (L' := [.ref a0, am_un, .int x2, .ref a3, .int x4, am_un]) (st' := [.ref a0, .int x4]) rfl) ?_
  refine Eq.trans (rn_gA (L' := [.ref a0, am_un, .int x2, .ref a3, .int x4, am_un]) rfl rfl rfl rfl) ?_
  refine eA_c ?_ (fun b_1 => ?_)
  · exact rn_z rfl rfl
  · refine Eq.trans (rn_gA (L' := [.ref a0, am_un, .int x2, .ref a3, .int x4, am_un]) rfl rfl rfl rfl) ?_
    refine eA_c ?_ (fun b_2 => ?_)
    · exact rn_z rfl rfl
    · refine Eq.trans (rn_gI (L' := [.ref a0, am_un, .int x2, .ref a3, .int x4, am_un]) rfl rfl rfl rfl) ?_
      refine eI_c (fun x_3 => ?_)
      refine Eq.trans (rn_icge (L' := [.ref a0, am_un, .int x2, .ref a3, .int x4, am_un]) rfl rfl) ?_
      refine if_c ?_ ?_
      · refine Eq.trans (rn_go 1 (pc' := 97) (L' := [.ref a0, am_un, .int x2, .ref a3, .int x4, am_un]) (st' := [.int (-(2000000000 : Int32))]) rfl) ?_
        exact rn_retI rfl rfl rfl
      · refine Eq.trans (rn_go 1 (pc' := 55) (L' := [.ref a0, am_un, .int x2, .ref a3, .int x4, am_un]) (st' := [.ref a0]) rfl) ?_
        refine Eq.trans (rn_gA (L' := [.ref a0, am_un, .int x2, .ref a3, .int x4, am_un]) rfl rfl rfl rfl) ?_
        refine eA_c ?_ (fun b_4 => ?_)
        · exact rn_z rfl rfl
        · refine Eq.trans (rn_gA (L' := [.ref a0, am_un, .int x2, .ref a3, .int x4, am_un]) rfl rfl rfl rfl) ?_
          refine eA_c ?_ (fun b_5 => ?_)
          · refine Eq.trans (rn_go 1 (pc' := 63) (L' := [.ref a0, am_un, .int x2, .ref a3, .int x4, am_un]) (st' := [.int x4, .null]) rfl) ?_
            exact rn_z rfl rfl
          · refine Eq.trans (rn_go 1 (pc' := 63) (L' := [.ref a0, am_un, .int x2, .ref a3, .int x4, am_un]) (st' := [.int x4, .ref b_5]) rfl) ?_
            refine Eq.trans (rn_vir (L' := [.ref a0, am_un, .int x2, .ref a3, .int x4, am_un]) (as := [.int x4]) (rest := []) rfl rfl rfl rfl rfl (Nat.le_of_ble_eq_true rfl) (by decide) (by decide)) ?_
            refine eC_c ?_
            refine Eq.trans (cW_A rfl rfl rfl) ?_
            refine cA_c (fun s_6 => ?_) (fun b_7 s_6 => ?_) (xh_nil rfl)
            · exact rn_go 3 (pc' := 89) (L' := [.ref a0, am_un, .int x2, .ref a3, .int x4, va_rf none]) (st' := []) rfl
            · refine Eq.trans (rn_go 6 (pc' := 77) (L' := [.ref a0, am_un, .int x2, .ref a3, .int x4, .ref b_7]) (st' := [.int x2, .ref a3, .ref b_7]) rfl) ?_
              refine Eq.trans (rn_vir (L' := [.ref a0, am_un, .int x2, .ref a3, .int x4, .ref b_7]) (as := [.ref a3, .int x2]) (rest := []) rfl rfl rfl rfl rfl (Nat.le_of_ble_eq_true rfl) (by decide) (by decide)) ?_
              refine eC_c ?_
              refine Eq.trans (cW_I rfl rfl rfl) ?_
              refine cI_c (fun x_9 s_8 => ?_) (xh_nil rfl)
              refine Eq.trans (rn_ifeq (L' := [.ref a0, am_un, .int x2, .ref a3, .int x4, .ref b_7]) rfl rfl) ?_
              refine if_c ?_ ?_
              · rfl
              · refine Eq.trans (rn_go 1 (pc' := 85) (L' := [.ref a0, am_un, .int x2, .ref a3, .int x4, .ref b_7]) (st' := [.ref b_7]) rfl) ?_
                refine Eq.trans (rn_gI (L' := [.ref a0, am_un, .int x2, .ref a3, .int x4, .ref b_7]) rfl rfl rfl rfl) ?_
                refine eI_c (fun x_10 => ?_)
                exact rn_retI rfl rfl rfl
theorem dc_X12_versionAt_89 {B : Nat} (a0 : Nat) (x2 : Int32) (a3 : Nat) (x4 : Int32) (w5 : Value) (s : am_S) : rn_ tb_ct tb_mt B mm_X12_versionAt 89 [.ref a0, am_un, .int x2, .ref a3, .int x4, w5] [] s = rn_ tb_ct tb_mt B mm_X12_versionAt 39 [.ref a0, am_un, .int x2, .ref a3, .int (x4 + (1 : Int32)), am_un] [] s := by
  exact rn_go 2 (pc' := 39) (L' := [.ref a0, am_un, .int x2, .ref a3, .int (x4 + (1 : Int32)), am_un]) (st' := []) rfl
theorem in_X12_event {B : Nat} (a0 : Nat) (x1 : Int32) (x2 : Int32) (s : am_S) : cl_ tb_ct tb_mt B K_X12_event [.ref a0, .int x1, .int x2] s = rn_ tb_ct tb_mt B mm_X12_event 0 [.ref a0, .int x1, .int x2, am_un] [] s := cl_in rfl rfl rfl rfl
theorem dc_X12_event_0 {B : Nat} (a0 : Nat) (x1 : Int32) (x2 : Int32) (s : am_S) : rn_ tb_ct tb_mt B mm_X12_event 0 [.ref a0, .int x1, .int x2, am_un] [] s = eA (gA tb_ct s a0 10 0) (none) (fun b_1 => eA (gA tb_ct s b_1 7 1) (none) (fun b_2 => eC (am_cls s b_2) 1 (cA (cl_ tb_ct tb_mt B K_X2_at [.ref b_2, .int x1] s) (fun s_3 => xo 1 (am_bump s_3)) (fun b_4 s_3 => if x2 < 0 then rn_ tb_ct tb_mt B mm_X12_event 37 [.ref a0, .int x1, .int x2, .ref b_4] [] s_3 else if (5 : Int32) < x2 then rn_ tb_ct tb_mt B mm_X12_event 37 [.ref a0, .int x1, .int x2, .ref b_4] [] s_3 else rn_ tb_ct tb_mt B mm_X12_event 38 [.ref a0, .int x1, .int x2, .ref b_4] [.int (1 : Int32)] s_3) xo))) := by
  refine Eq.trans (rn_go 1 (pc' := 1) (L' := [.ref a0, .int x1, .int x2, am_un]) (st' := [.ref a0]) rfl) ?_
  refine Eq.trans (rn_gA (L' := [.ref a0, .int x1, .int x2, am_un]) rfl rfl rfl rfl) ?_
  refine eA_c ?_ (fun b_1 => ?_)
  · exact rn_z rfl rfl
  · refine Eq.trans (rn_gA (L' := [.ref a0, .int x1, .int x2, am_un]) rfl rfl rfl rfl) ?_
    refine eA_c ?_ (fun b_2 => ?_)
    · refine Eq.trans (rn_go 1 (pc' := 8) (L' := [.ref a0, .int x1, .int x2, am_un]) (st' := [.int x1, .null]) rfl) ?_
      exact rn_z rfl rfl
    · refine Eq.trans (rn_go 1 (pc' := 8) (L' := [.ref a0, .int x1, .int x2, am_un]) (st' := [.int x1, .ref b_2]) rfl) ?_
      refine Eq.trans (rn_vir (L' := [.ref a0, .int x1, .int x2, am_un]) (as := [.int x1]) (rest := []) rfl rfl rfl rfl rfl (Nat.le_of_ble_eq_true rfl) (by decide) (by decide)) ?_
      refine eC_c ?_
      refine Eq.trans (cW_A rfl rfl rfl) ?_
      refine cA_c (fun s_3 => ?_) (fun b_4 s_3 => ?_) (xh_nil rfl)
      · refine Eq.trans (rn_go 3 (pc' := 16) (L' := [.ref a0, .int x1, .int x2, .null]) (st' := []) rfl) ?_
        exact rn_thr rfl rfl
      · refine Eq.trans (rn_go 4 (pc' := 25) (L' := [.ref a0, .int x1, .int x2, .ref b_4]) (st' := [.int x2]) rfl) ?_
        refine Eq.trans (rn_iflt (L' := [.ref a0, .int x1, .int x2, .ref b_4]) rfl rfl) ?_
        refine if_c ?_ ?_
        · rfl
        · refine Eq.trans (rn_go 2 (pc' := 30) (L' := [.ref a0, .int x1, .int x2, .ref b_4]) (st' := [.int (5 : Int32), .int x2]) rfl) ?_
          refine Eq.trans (rn_icgt (L' := [.ref a0, .int x1, .int x2, .ref b_4]) rfl rfl) ?_
          refine if_c ?_ ?_
          · rfl
          · exact rn_go 2 (pc' := 38) (L' := [.ref a0, .int x1, .int x2, .ref b_4]) (st' := [.int (1 : Int32)]) rfl
theorem dc_X12_event_37 {B : Nat} (w0 : Value) (w1 : Value) (x2 : Int32) (a3 : Nat) (s : am_S) : rn_ tb_ct tb_mt B mm_X12_event 37 [w0, w1, .int x2, .ref a3] [] s = rn_ tb_ct tb_mt B mm_X12_event 38 [am_un, am_un, .int x2, .ref a3] [.int (0 : Int32)] s := by
  exact rn_go 1 (pc' := 38) (L' := [am_un, am_un, .int x2, .ref a3]) (st' := [.int (0 : Int32)]) rfl
theorem dc_X12_event_38 {B : Nat} (w0 : Value) (w1 : Value) (x2 : Int32) (a3 : Nat) (xs0 : Int32) (s : am_S) : rn_ tb_ct tb_mt B mm_X12_event 38 [w0, w1, .int x2, .ref a3] [.int xs0] s = cV (cl_ tb_ct tb_mt B K_X12_need [.int xs0] s) (fun s_1 => eC (am_cls s_1 a3) 0 (cI (cl_ tb_ct tb_mt B K_X1_number [.ref a3, .int x2] s_1) (fun x_3 s_2 => some (.inl (some (.int x_3)), s_2)) xo)) xo := by
  refine Eq.trans (rn_sta (L' := [am_un, am_un, .int x2, .ref a3]) (as := [.int xs0]) (rest := []) rfl rfl rfl rfl rfl (Nat.le_of_ble_eq_true rfl) (by decide) rfl) ?_
  refine Eq.trans (cW_V rfl rfl) ?_
  refine cV_c (fun s_1 => ?_) (xh_nil rfl)
  refine Eq.trans (rn_go 2 (pc' := 43) (L' := [am_un, am_un, .int x2, .ref a3]) (st' := [.int x2, .ref a3]) rfl) ?_
  refine Eq.trans (rn_vir (L' := [am_un, am_un, .int x2, .ref a3]) (as := [.int x2]) (rest := []) rfl rfl rfl rfl rfl (Nat.le_of_ble_eq_true rfl) (by decide) (by decide)) ?_
  refine eC_c ?_
  refine Eq.trans (cW_I rfl rfl rfl) ?_
  refine cI_c (fun x_3 s_2 => ?_) (xh_nil rfl)
  exact rn_retI rfl rfl rfl
theorem in_X12_writes {B : Nat} (a0 : Nat) (x1 : Int32) (s : am_S) : cl_ tb_ct tb_mt B K_X12_writes [.ref a0, .int x1] s = rn_ tb_ct tb_mt B mm_X12_writes 0 [.ref a0, .int x1, am_un, am_un, am_un] [] s := cl_in rfl rfl rfl rfl
theorem dc_X12_writes_0 {B : Nat} (a0 : Nat) (x1 : Int32) (s : am_S) : rn_ tb_ct tb_mt B mm_X12_writes 0 [.ref a0, .int x1, am_un, am_un, am_un] [] s = cV (cl_ tb_ct tb_mt B K_X12_needKey [.int x1] s) (fun s_1 => rn_ tb_ct tb_mt B mm_X12_writes 8 [.ref a0, .int x1, .int (0 : Int32), .int (0 : Int32), am_un] [] s_1) xo := by
  refine Eq.trans (rn_go 1 (pc' := 1) (L' := [.ref a0, .int x1, am_un, am_un, am_un]) (st' := [.int x1]) rfl) ?_
  refine Eq.trans (rn_sta (L' := [.ref a0, .int x1, am_un, am_un, am_un]) (as := [.int x1]) (rest := []) rfl rfl rfl rfl rfl (Nat.le_of_ble_eq_true rfl) (by decide) rfl) ?_
  refine Eq.trans (cW_V rfl rfl) ?_
  refine cV_c (fun s_1 => ?_) (xh_nil rfl)
  exact rn_go 4 (pc' := 8) (L' := [.ref a0, .int x1, .int (0 : Int32), .int (0 : Int32), am_un]) (st' := []) rfl
theorem dc_X12_writes_8 {B : Nat} (a0 : Nat) (x1 : Int32) (x2 : Int32) (x3 : Int32) (s : am_S) : rn_ tb_ct tb_mt B mm_X12_writes 8 [.ref a0, .int x1, .int x2, .int x3, am_un] [] s = eA (gA tb_ct s a0 10 0) (none) (fun b_1 => eA (gA tb_ct s b_1 7 1) (none) (fun b_2 => eI (gI tb_ct s b_2 1 1) (fun x_3 => if x_3 ≤ x3 then some (.inl (some (.int x2)), s) else eA (gA tb_ct s a0 10 0) (none) (fun b_4 => eA (gA tb_ct s b_4 7 1) (none) (fun b_5 => eC (am_cls s b_5) 1 (cA (cl_ tb_ct tb_mt B K_X2_at [.ref b_5, .int x3] s) (fun s_6 => rn_ tb_ct tb_mt B mm_X12_writes 52 [.ref a0, .int x1, .int x2, .int x3, va_rf none] [] s_6) (fun b_7 s_6 => eI (gI tb_ct s_6 b_7 0 2) (fun x_8 => if x_8 = x1 then rn_ tb_ct tb_mt B mm_X12_writes 52 [.ref a0, .int x1, .int (x2 + (1 : Int32)), .int x3, va_rf (some b_7)] [] s_6 else rn_ tb_ct tb_mt B mm_X12_writes 52 [.ref a0, .int x1, .int x2, .int x3, va_rf (some b_7)] [] s_6)) xo)))))) := by
  refine Eq.trans (rn_go 2 (pc' := 10) (L' := [.ref a0, .int x1, .int x2, .int x3, am_un]) (st' := [.ref a0, .int x3]) rfl) ?_
  refine Eq.trans (rn_gA (L' := [.ref a0, .int x1, .int x2, .int x3, am_un]) rfl rfl rfl rfl) ?_
  refine eA_c ?_ (fun b_1 => ?_)
  · exact rn_z rfl rfl
  · refine Eq.trans (rn_gA (L' := [.ref a0, .int x1, .int x2, .int x3, am_un]) rfl rfl rfl rfl) ?_
    refine eA_c ?_ (fun b_2 => ?_)
    · exact rn_z rfl rfl
    · refine Eq.trans (rn_gI (L' := [.ref a0, .int x1, .int x2, .int x3, am_un]) rfl rfl rfl rfl) ?_
      refine eI_c (fun x_3 => ?_)
      refine Eq.trans (rn_icge (L' := [.ref a0, .int x1, .int x2, .int x3, am_un]) rfl rfl) ?_
      refine if_c ?_ ?_
      · refine Eq.trans (rn_go 1 (pc' := 59) (L' := [.ref a0, .int x1, .int x2, .int x3, am_un]) (st' := [.int x2]) rfl) ?_
        exact rn_retI rfl rfl rfl
      · refine Eq.trans (rn_go 1 (pc' := 23) (L' := [.ref a0, .int x1, .int x2, .int x3, am_un]) (st' := [.ref a0]) rfl) ?_
        refine Eq.trans (rn_gA (L' := [.ref a0, .int x1, .int x2, .int x3, am_un]) rfl rfl rfl rfl) ?_
        refine eA_c ?_ (fun b_4 => ?_)
        · exact rn_z rfl rfl
        · refine Eq.trans (rn_gA (L' := [.ref a0, .int x1, .int x2, .int x3, am_un]) rfl rfl rfl rfl) ?_
          refine eA_c ?_ (fun b_5 => ?_)
          · refine Eq.trans (rn_go 1 (pc' := 30) (L' := [.ref a0, .int x1, .int x2, .int x3, am_un]) (st' := [.int x3, .null]) rfl) ?_
            exact rn_z rfl rfl
          · refine Eq.trans (rn_go 1 (pc' := 30) (L' := [.ref a0, .int x1, .int x2, .int x3, am_un]) (st' := [.int x3, .ref b_5]) rfl) ?_
            refine Eq.trans (rn_vir (L' := [.ref a0, .int x1, .int x2, .int x3, am_un]) (as := [.int x3]) (rest := []) rfl rfl rfl rfl rfl (Nat.le_of_ble_eq_true rfl) (by decide) (by decide)) ?_
            refine eC_c ?_
            refine Eq.trans (cW_A rfl rfl rfl) ?_
            refine cA_c (fun s_6 => ?_) (fun b_7 s_6 => ?_) (xh_nil rfl)
            · exact rn_go 3 (pc' := 52) (L' := [.ref a0, .int x1, .int x2, .int x3, va_rf none]) (st' := []) rfl
            · refine Eq.trans (rn_go 4 (pc' := 42) (L' := [.ref a0, .int x1, .int x2, .int x3, .ref b_7]) (st' := [.ref b_7]) rfl) ?_
              refine Eq.trans (rn_gI (L' := [.ref a0, .int x1, .int x2, .int x3, .ref b_7]) rfl rfl rfl rfl) ?_
              refine eI_c (fun x_8 => ?_)
              refine Eq.trans (rn_go 1 (pc' := 46) (L' := [.ref a0, .int x1, .int x2, .int x3, .ref b_7]) (st' := [.int x1, .int x_8]) rfl) ?_
              refine Eq.trans (rn_icne (L' := [.ref a0, .int x1, .int x2, .int x3, .ref b_7]) rfl rfl) ?_
              refine if_c ?_ ?_
              · exact rn_go 1 (pc' := 52) (L' := [.ref a0, .int x1, .int (x2 + (1 : Int32)), .int x3, va_rf (some b_7)]) (st' := []) rfl
              · rfl
theorem dc_X12_writes_52 {B : Nat} (a0 : Nat) (x1 : Int32) (x2 : Int32) (x3 : Int32) (w4 : Value) (s : am_S) : rn_ tb_ct tb_mt B mm_X12_writes 52 [.ref a0, .int x1, .int x2, .int x3, w4] [] s = rn_ tb_ct tb_mt B mm_X12_writes 8 [.ref a0, .int x1, .int x2, .int (x3 + (1 : Int32)), am_un] [] s := by
  exact rn_go 2 (pc' := 8) (L' := [.ref a0, .int x1, .int x2, .int (x3 + (1 : Int32)), am_un]) (st' := []) rfl
theorem in_X12_busiest {B : Nat} (a0 : Nat) (s : am_S) : cl_ tb_ct tb_mt B K_X12_busiest [.ref a0] s = rn_ tb_ct tb_mt B mm_X12_busiest 0 [.ref a0, am_un, am_un, am_un] [] s := cl_in rfl rfl rfl rfl
theorem dc_X12_busiest_0 {B : Nat} (a0 : Nat) (s : am_S) : rn_ tb_ct tb_mt B mm_X12_busiest 0 [.ref a0, am_un, am_un, am_un] [] s = eA (gA tb_ct s a0 10 7) (cV (cl_ tb_ct tb_mt B K_J7_fill_53178 [.null, .int (0 : Int32)] s) (fun s_2 => rn_ tb_ct tb_mt B mm_X12_busiest 10 [.ref a0, .int (0 : Int32), am_un, am_un] [] s_2) xo) (fun b_1 => cV (cl_ tb_ct tb_mt B K_J7_fill_53178 [.ref b_1, .int (0 : Int32)] s) (fun s_3 => rn_ tb_ct tb_mt B mm_X12_busiest 10 [.ref a0, .int (0 : Int32), am_un, am_un] [] s_3) xo) := by
  refine Eq.trans (rn_go 1 (pc' := 1) (L' := [.ref a0, am_un, am_un, am_un]) (st' := [.ref a0]) rfl) ?_
  refine Eq.trans (rn_gA (L' := [.ref a0, am_un, am_un, am_un]) rfl rfl rfl rfl) ?_
  refine eA_c ?_ (fun b_1 => ?_)
  · refine Eq.trans (rn_go 1 (pc' := 5) (L' := [.ref a0, am_un, am_un, am_un]) (st' := [.int (0 : Int32), .null]) rfl) ?_
    refine Eq.trans (rn_sta (L' := [.ref a0, am_un, am_un, am_un]) (as := [.null, .int (0 : Int32)]) (rest := []) rfl rfl rfl rfl rfl (Nat.le_of_ble_eq_true rfl) (by decide) rfl) ?_
    refine Eq.trans (cW_V rfl rfl) ?_
    refine cV_c (fun s_2 => ?_) (xh_nil rfl)
    exact rn_go 2 (pc' := 10) (L' := [.ref a0, .int (0 : Int32), am_un, am_un]) (st' := []) rfl
  · refine Eq.trans (rn_go 1 (pc' := 5) (L' := [.ref a0, am_un, am_un, am_un]) (st' := [.int (0 : Int32), .ref b_1]) rfl) ?_
    refine Eq.trans (rn_sta (L' := [.ref a0, am_un, am_un, am_un]) (as := [.ref b_1, .int (0 : Int32)]) (rest := []) rfl rfl rfl rfl rfl (Nat.le_of_ble_eq_true rfl) (by decide) rfl) ?_
    refine Eq.trans (cW_V rfl rfl) ?_
    refine cV_c (fun s_3 => ?_) (xh_nil rfl)
    exact rn_go 2 (pc' := 10) (L' := [.ref a0, .int (0 : Int32), am_un, am_un]) (st' := []) rfl
theorem dc_X12_busiest_10 {B : Nat} (a0 : Nat) (x1 : Int32) (s : am_S) : rn_ tb_ct tb_mt B mm_X12_busiest 10 [.ref a0, .int x1, am_un, am_un] [] s = eA (gA tb_ct s a0 10 0) (none) (fun b_1 => eA (gA tb_ct s b_1 7 1) (none) (fun b_2 => eI (gI tb_ct s b_2 1 1) (fun x_3 => if x_3 ≤ x1 then rn_ tb_ct tb_mt B mm_X12_busiest 84 [.ref a0, .int (-(1 : Int32)), .int (0 : Int32), .int (0 : Int32)] [] s else eA (gA tb_ct s a0 10 0) (none) (fun b_4 => eA (gA tb_ct s b_4 7 1) (none) (fun b_5 => eC (am_cls s b_5) 1 (cA (cl_ tb_ct tb_mt B K_X2_at [.ref b_5, .int x1] s) (fun s_6 => rn_ tb_ct tb_mt B mm_X12_busiest 72 [.ref a0, .int x1, va_rf none, am_un] [] s_6) (fun b_7 s_6 => eI (gI tb_ct s_6 b_7 0 2) (fun x_8 => if x_8 < 0 then rn_ tb_ct tb_mt B mm_X12_busiest 72 [.ref a0, .int x1, va_rf (some b_7), am_un] [] s_6 else eI (gI tb_ct s_6 b_7 0 2) (fun x_9 => eA (gA tb_ct s_6 a0 10 7) (none) (fun b_10 => eK (am_len s_6 b_10) (fun n_11 => if (Int32.ofNat n_11) ≤ x_9 then rn_ tb_ct tb_mt B mm_X12_busiest 72 [.ref a0, .int x1, va_rf (some b_7), am_un] [] s_6 else eA (gA tb_ct s_6 a0 10 7) (eI (gI tb_ct s_6 b_7 0 2) (fun x_13 => none)) (fun b_12 => eI (gI tb_ct s_6 b_7 0 2) (fun x_14 => eI (aI s_6 b_12 x_14) (fun x_15 => eS (wI B s_6 b_12 x_14 (x_15 + (1 : Int32))) (fun s_16 => rn_ tb_ct tb_mt B mm_X12_busiest 72 [.ref a0, .int x1, va_rf (some b_7), am_un] [] s_16))))))))) xo)))))) := by
  refine Eq.trans (rn_go 2 (pc' := 12) (L' := [.ref a0, .int x1, am_un, am_un]) (st' := [.ref a0, .int x1]) rfl) ?_
  refine Eq.trans (rn_gA (L' := [.ref a0, .int x1, am_un, am_un]) rfl rfl rfl rfl) ?_
  refine eA_c ?_ (fun b_1 => ?_)
  · exact rn_z rfl rfl
  · refine Eq.trans (rn_gA (L' := [.ref a0, .int x1, am_un, am_un]) rfl rfl rfl rfl) ?_
    refine eA_c ?_ (fun b_2 => ?_)
    · exact rn_z rfl rfl
    · refine Eq.trans (rn_gI (L' := [.ref a0, .int x1, am_un, am_un]) rfl rfl rfl rfl) ?_
      refine eI_c (fun x_3 => ?_)
      refine Eq.trans (rn_icge (L' := [.ref a0, .int x1, am_un, am_un]) rfl rfl) ?_
      refine if_c ?_ ?_
      · exact rn_go 6 (pc' := 84) (L' := [.ref a0, .int (-(1 : Int32)), .int (0 : Int32), .int (0 : Int32)]) (st' := []) rfl
      · refine Eq.trans (rn_go 1 (pc' := 25) (L' := [.ref a0, .int x1, am_un, am_un]) (st' := [.ref a0]) rfl) ?_
        refine Eq.trans (rn_gA (L' := [.ref a0, .int x1, am_un, am_un]) rfl rfl rfl rfl) ?_
        refine eA_c ?_ (fun b_4 => ?_)
        · exact rn_z rfl rfl
        · refine Eq.trans (rn_gA (L' := [.ref a0, .int x1, am_un, am_un]) rfl rfl rfl rfl) ?_
          refine eA_c ?_ (fun b_5 => ?_)
          · refine Eq.trans (rn_go 1 (pc' := 32) (L' := [.ref a0, .int x1, am_un, am_un]) (st' := [.int x1, .null]) rfl) ?_
            exact rn_z rfl rfl
          · refine Eq.trans (rn_go 1 (pc' := 32) (L' := [.ref a0, .int x1, am_un, am_un]) (st' := [.int x1, .ref b_5]) rfl) ?_
            refine Eq.trans (rn_vir (L' := [.ref a0, .int x1, am_un, am_un]) (as := [.int x1]) (rest := []) rfl rfl rfl rfl rfl (Nat.le_of_ble_eq_true rfl) (by decide) (by decide)) ?_
            refine eC_c ?_
            refine Eq.trans (cW_A rfl rfl rfl) ?_
            refine cA_c (fun s_6 => ?_) (fun b_7 s_6 => ?_) (xh_nil rfl)
            · exact rn_go 3 (pc' := 72) (L' := [.ref a0, .int x1, va_rf none, am_un]) (st' := []) rfl
            · refine Eq.trans (rn_go 4 (pc' := 41) (L' := [.ref a0, .int x1, .ref b_7, am_un]) (st' := [.ref b_7]) rfl) ?_
              refine Eq.trans (rn_gI (L' := [.ref a0, .int x1, .ref b_7, am_un]) rfl rfl rfl rfl) ?_
              refine eI_c (fun x_8 => ?_)
              refine Eq.trans (rn_iflt (L' := [.ref a0, .int x1, .ref b_7, am_un]) rfl rfl) ?_
              refine if_c ?_ ?_
              · rfl
              · refine Eq.trans (rn_go 1 (pc' := 48) (L' := [.ref a0, .int x1, .ref b_7, am_un]) (st' := [.ref b_7]) rfl) ?_
                refine Eq.trans (rn_gI (L' := [.ref a0, .int x1, .ref b_7, am_un]) rfl rfl rfl rfl) ?_
                refine eI_c (fun x_9 => ?_)
                refine Eq.trans (rn_go 1 (pc' := 52) (L' := [.ref a0, .int x1, .ref b_7, am_un]) (st' := [.ref a0, .int x_9]) rfl) ?_
                refine Eq.trans (rn_gA (L' := [.ref a0, .int x1, .ref b_7, am_un]) rfl rfl rfl rfl) ?_
                refine eA_c ?_ (fun b_10 => ?_)
                · exact rn_z rfl rfl
                · refine Eq.trans (rn_al (L' := [.ref a0, .int x1, .ref b_7, am_un]) rfl rfl) ?_
                  refine eK_c (fun n_11 => ?_)
                  refine Eq.trans (rn_icge (L' := [.ref a0, .int x1, .ref b_7, am_un]) rfl rfl) ?_
                  refine if_c ?_ ?_
                  · rfl
                  · refine Eq.trans (rn_go 1 (pc' := 60) (L' := [.ref a0, .int x1, .ref b_7, am_un]) (st' := [.ref a0]) rfl) ?_
                    refine Eq.trans (rn_gA (L' := [.ref a0, .int x1, .ref b_7, am_un]) rfl rfl rfl rfl) ?_
                    refine eA_c ?_ (fun b_12 => ?_)
                    · refine Eq.trans (rn_go 1 (pc' := 64) (L' := [.ref a0, .int x1, .ref b_7, am_un]) (st' := [.ref b_7, .null]) rfl) ?_
                      refine Eq.trans (rn_gI (L' := [.ref a0, .int x1, .ref b_7, am_un]) rfl rfl rfl rfl) ?_
                      refine eI_c (fun x_13 => ?_)
                      refine Eq.trans (rn_go 1 (pc' := 68) (L' := [.ref a0, .int x1, .ref b_7, am_un]) (st' := [.int x_13, .null, .int x_13, .null]) rfl) ?_
                      exact rn_z rfl rfl
                    · refine Eq.trans (rn_go 1 (pc' := 64) (L' := [.ref a0, .int x1, .ref b_7, am_un]) (st' := [.ref b_7, .ref b_12]) rfl) ?_
                      refine Eq.trans (rn_gI (L' := [.ref a0, .int x1, .ref b_7, am_un]) rfl rfl rfl rfl) ?_
                      refine eI_c (fun x_14 => ?_)
                      refine Eq.trans (rn_go 1 (pc' := 68) (L' := [.ref a0, .int x1, .ref b_7, am_un]) (st' := [.int x_14, .ref b_12, .int x_14, .ref b_12]) rfl) ?_
                      refine Eq.trans (rn_aI (L' := [.ref a0, .int x1, .ref b_7, am_un]) rfl rfl) ?_
                      refine eI_c (fun x_15 => ?_)
                      refine Eq.trans (rn_go 2 (pc' := 71) (L' := [.ref a0, .int x1, .ref b_7, am_un]) (st' := [.int (x_15 + (1 : Int32)), .int x_14, .ref b_12]) rfl) ?_
                      refine Eq.trans (rn_wI (L' := [.ref a0, .int x1, .ref b_7, am_un]) rfl rfl) ?_
                      refine eS_c (fun s_16 => ?_)
                      rfl
theorem dc_X12_busiest_72 {B : Nat} (a0 : Nat) (x1 : Int32) (w2 : Value) (s : am_S) : rn_ tb_ct tb_mt B mm_X12_busiest 72 [.ref a0, .int x1, w2, am_un] [] s = rn_ tb_ct tb_mt B mm_X12_busiest 10 [.ref a0, .int (x1 + (1 : Int32)), am_un, am_un] [] s := by
  exact rn_go 2 (pc' := 10) (L' := [.ref a0, .int (x1 + (1 : Int32)), am_un, am_un]) (st' := []) rfl
theorem dc_X12_busiest_84 {B : Nat} (a0 : Nat) (x1 : Int32) (x2 : Int32) (x3 : Int32) (s : am_S) : rn_ tb_ct tb_mt B mm_X12_busiest 84 [.ref a0, .int x1, .int x2, .int x3] [] s = eA (gA tb_ct s a0 10 7) (none) (fun b_1 => eK (am_len s b_1) (fun n_2 => if (Int32.ofNat n_2) ≤ x3 then some (.inl (some (.int x1)), s) else eA (gA tb_ct s a0 10 7) (none) (fun b_3 => eI (aI s b_3 x3) (fun x_4 => if x_4 ≤ x2 then rn_ tb_ct tb_mt B mm_X12_busiest 112 [.ref a0, .int x1, .int x2, .int x3] [] s else eA (gA tb_ct s a0 10 7) (none) (fun b_5 => eI (aI s b_5 x3) (fun x_6 => rn_ tb_ct tb_mt B mm_X12_busiest 112 [.ref a0, .int x3, .int x_6, .int x3] [] s)))))) := by
  refine Eq.trans (rn_go 2 (pc' := 86) (L' := [.ref a0, .int x1, .int x2, .int x3]) (st' := [.ref a0, .int x3]) rfl) ?_
  refine Eq.trans (rn_gA (L' := [.ref a0, .int x1, .int x2, .int x3]) rfl rfl rfl rfl) ?_
  refine eA_c ?_ (fun b_1 => ?_)
  · exact rn_z rfl rfl
  · refine Eq.trans (rn_al (L' := [.ref a0, .int x1, .int x2, .int x3]) rfl rfl) ?_
    refine eK_c (fun n_2 => ?_)
    refine Eq.trans (rn_icge (L' := [.ref a0, .int x1, .int x2, .int x3]) rfl rfl) ?_
    refine if_c ?_ ?_
    · refine Eq.trans (rn_go 1 (pc' := 119) (L' := [.ref a0, .int x1, .int x2, .int x3]) (st' := [.int x1]) rfl) ?_
      exact rn_retI rfl rfl rfl
    · refine Eq.trans (rn_go 1 (pc' := 94) (L' := [.ref a0, .int x1, .int x2, .int x3]) (st' := [.ref a0]) rfl) ?_
      refine Eq.trans (rn_gA (L' := [.ref a0, .int x1, .int x2, .int x3]) rfl rfl rfl rfl) ?_
      refine eA_c ?_ (fun b_3 => ?_)
      · refine Eq.trans (rn_go 1 (pc' := 98) (L' := [.ref a0, .int x1, .int x2, .int x3]) (st' := [.int x3, .null]) rfl) ?_
        exact rn_z rfl rfl
      · refine Eq.trans (rn_go 1 (pc' := 98) (L' := [.ref a0, .int x1, .int x2, .int x3]) (st' := [.int x3, .ref b_3]) rfl) ?_
        refine Eq.trans (rn_aI (L' := [.ref a0, .int x1, .int x2, .int x3]) rfl rfl) ?_
        refine eI_c (fun x_4 => ?_)
        refine Eq.trans (rn_go 1 (pc' := 100) (L' := [.ref a0, .int x1, .int x2, .int x3]) (st' := [.int x2, .int x_4]) rfl) ?_
        refine Eq.trans (rn_icle (L' := [.ref a0, .int x1, .int x2, .int x3]) rfl rfl) ?_
        refine if_c ?_ ?_
        · rfl
        · refine Eq.trans (rn_go 3 (pc' := 106) (L' := [.ref a0, .int x3, .int x2, .int x3]) (st' := [.ref a0]) rfl) ?_
          refine Eq.trans (rn_gA (L' := [.ref a0, .int x3, .int x2, .int x3]) rfl rfl rfl rfl) ?_
          refine eA_c ?_ (fun b_5 => ?_)
          · refine Eq.trans (rn_go 1 (pc' := 110) (L' := [.ref a0, .int x3, .int x2, .int x3]) (st' := [.int x3, .null]) rfl) ?_
            exact rn_z rfl rfl
          · refine Eq.trans (rn_go 1 (pc' := 110) (L' := [.ref a0, .int x3, .int x2, .int x3]) (st' := [.int x3, .ref b_5]) rfl) ?_
            refine Eq.trans (rn_aI (L' := [.ref a0, .int x3, .int x2, .int x3]) rfl rfl) ?_
            refine eI_c (fun x_6 => ?_)
            exact rn_go 1 (pc' := 112) (L' := [.ref a0, .int x3, .int x_6, .int x3]) (st' := []) rfl
theorem dc_X12_busiest_112 {B : Nat} (a0 : Nat) (x1 : Int32) (x2 : Int32) (x3 : Int32) (s : am_S) : rn_ tb_ct tb_mt B mm_X12_busiest 112 [.ref a0, .int x1, .int x2, .int x3] [] s = rn_ tb_ct tb_mt B mm_X12_busiest 84 [.ref a0, .int x1, .int x2, .int (x3 + (1 : Int32))] [] s := by
  exact rn_go 2 (pc' := 84) (L' := [.ref a0, .int x1, .int x2, .int (x3 + (1 : Int32))]) (st' := []) rfl
theorem in_X12_deletedPart {B : Nat} (a0 : Nat) (s : am_S) : cl_ tb_ct tb_mt B K_X12_deletedPart [.ref a0] s = rn_ tb_ct tb_mt B mm_X12_deletedPart 0 [.ref a0, am_un, am_un, am_un, am_un] [] s := cl_in rfl rfl rfl rfl
theorem dc_X12_deletedPart_0 {B : Nat} (a0 : Nat) (s : am_S) : rn_ tb_ct tb_mt B mm_X12_deletedPart 0 [.ref a0, am_un, am_un, am_un, am_un] [] s = eA (gA tb_ct s a0 10 0) (none) (fun b_1 => eA (gA tb_ct s b_1 7 1) (none) (fun b_2 => eI (gI tb_ct s b_2 1 1) (fun x_3 => if x_3 = 0 then some (.inl (some (.double FP.dconst0)), s) else rn_ tb_ct tb_mt B mm_X12_deletedPart 21 [.ref a0, .int x_3, .int (0 : Int32), .int (0 : Int32), am_un] [] s))) := by
  refine Eq.trans (rn_go 1 (pc' := 1) (L' := [.ref a0, am_un, am_un, am_un, am_un]) (st' := [.ref a0]) rfl) ?_
  refine Eq.trans (rn_gA (L' := [.ref a0, am_un, am_un, am_un, am_un]) rfl rfl rfl rfl) ?_
  refine eA_c ?_ (fun b_1 => ?_)
  · exact rn_z rfl rfl
  · refine Eq.trans (rn_gA (L' := [.ref a0, am_un, am_un, am_un, am_un]) rfl rfl rfl rfl) ?_
    refine eA_c ?_ (fun b_2 => ?_)
    · exact rn_z rfl rfl
    · refine Eq.trans (rn_gI (L' := [.ref a0, am_un, am_un, am_un, am_un]) rfl rfl rfl rfl) ?_
      refine eI_c (fun x_3 => ?_)
      refine Eq.trans (rn_go 2 (pc' := 12) (L' := [.ref a0, .int x_3, am_un, am_un, am_un]) (st' := [.int x_3]) rfl) ?_
      refine Eq.trans (rn_ifne (L' := [.ref a0, .int x_3, am_un, am_un, am_un]) rfl rfl) ?_
      refine if_c ?_ ?_
      · refine Eq.trans (rn_go 1 (pc' := 16) (L' := [.ref a0, .int x_3, am_un, am_un, am_un]) (st' := [.double FP.dconst0]) rfl) ?_
        exact rn_retD rfl rfl
      · exact rn_go 4 (pc' := 21) (L' := [.ref a0, .int x_3, .int (0 : Int32), .int (0 : Int32), am_un]) (st' := []) rfl
theorem dc_X12_deletedPart_21 {B : Nat} (a0 : Nat) (x1 : Int32) (x2 : Int32) (x3 : Int32) (s : am_S) : rn_ tb_ct tb_mt B mm_X12_deletedPart 21 [.ref a0, .int x1, .int x2, .int x3, am_un] [] s = if x1 ≤ x3 then if (FP.ddiv (FP.i2d x2) (FP.i2d x1)) &&& 0x7fffffffffffffff ≤ 0x7ff0000000000000 then some (.inl (some (.double (FP.ddiv (FP.i2d x2) (FP.i2d x1)))), s) else none else eA (gA tb_ct s a0 10 0) (none) (fun b_1 => eA (gA tb_ct s b_1 7 1) (none) (fun b_2 => eC (am_cls s b_2) 1 (cA (cl_ tb_ct tb_mt B K_X2_at [.ref b_2, .int x3] s) (fun s_3 => rn_ tb_ct tb_mt B mm_X12_deletedPart 56 [.ref a0, .int x1, .int x2, .int x3, va_rf none] [] s_3) (fun b_4 s_3 => eI (gI tb_ct s_3 b_4 0 1) (fun x_5 => if x_5 = (1 : Int32) then rn_ tb_ct tb_mt B mm_X12_deletedPart 56 [.ref a0, .int x1, .int (x2 + (1 : Int32)), .int x3, va_rf (some b_4)] [] s_3 else rn_ tb_ct tb_mt B mm_X12_deletedPart 56 [.ref a0, .int x1, .int x2, .int x3, va_rf (some b_4)] [] s_3)) xo))) := by
  refine Eq.trans (rn_go 2 (pc' := 23) (L' := [.ref a0, .int x1, .int x2, .int x3, am_un]) (st' := [.int x1, .int x3]) rfl) ?_
  refine Eq.trans (rn_icge (L' := [.ref a0, .int x1, .int x2, .int x3, am_un]) rfl rfl) ?_
  refine if_c ?_ ?_
  · refine Eq.trans (rn_go 4 (pc' := 66) (L' := [.ref a0, .int x1, .int x2, .int x3, am_un]) (st' := [.double (FP.i2d x1), .double (FP.i2d x2)]) rfl) ?_
    refine Eq.trans (rn_ddiv (L' := [.ref a0, .int x1, .int x2, .int x3, am_un]) rfl rfl) ?_
    refine if_c ?_ rfl
    exact rn_retD rfl rfl
  · refine Eq.trans (rn_go 1 (pc' := 27) (L' := [.ref a0, .int x1, .int x2, .int x3, am_un]) (st' := [.ref a0]) rfl) ?_
    refine Eq.trans (rn_gA (L' := [.ref a0, .int x1, .int x2, .int x3, am_un]) rfl rfl rfl rfl) ?_
    refine eA_c ?_ (fun b_1 => ?_)
    · exact rn_z rfl rfl
    · refine Eq.trans (rn_gA (L' := [.ref a0, .int x1, .int x2, .int x3, am_un]) rfl rfl rfl rfl) ?_
      refine eA_c ?_ (fun b_2 => ?_)
      · refine Eq.trans (rn_go 1 (pc' := 34) (L' := [.ref a0, .int x1, .int x2, .int x3, am_un]) (st' := [.int x3, .null]) rfl) ?_
        exact rn_z rfl rfl
      · refine Eq.trans (rn_go 1 (pc' := 34) (L' := [.ref a0, .int x1, .int x2, .int x3, am_un]) (st' := [.int x3, .ref b_2]) rfl) ?_
        refine Eq.trans (rn_vir (L' := [.ref a0, .int x1, .int x2, .int x3, am_un]) (as := [.int x3]) (rest := []) rfl rfl rfl rfl rfl (Nat.le_of_ble_eq_true rfl) (by decide) (by decide)) ?_
        refine eC_c ?_
        refine Eq.trans (cW_A rfl rfl rfl) ?_
        refine cA_c (fun s_3 => ?_) (fun b_4 s_3 => ?_) (xh_nil rfl)
        · exact rn_go 3 (pc' := 56) (L' := [.ref a0, .int x1, .int x2, .int x3, va_rf none]) (st' := []) rfl
        · refine Eq.trans (rn_go 4 (pc' := 46) (L' := [.ref a0, .int x1, .int x2, .int x3, .ref b_4]) (st' := [.ref b_4]) rfl) ?_
          refine Eq.trans (rn_gI (L' := [.ref a0, .int x1, .int x2, .int x3, .ref b_4]) rfl rfl rfl rfl) ?_
          refine eI_c (fun x_5 => ?_)
          refine Eq.trans (rn_go 1 (pc' := 50) (L' := [.ref a0, .int x1, .int x2, .int x3, .ref b_4]) (st' := [.int (1 : Int32), .int x_5]) rfl) ?_
          refine Eq.trans (rn_icne (L' := [.ref a0, .int x1, .int x2, .int x3, .ref b_4]) rfl rfl) ?_
          refine if_c ?_ ?_
          · exact rn_go 1 (pc' := 56) (L' := [.ref a0, .int x1, .int (x2 + (1 : Int32)), .int x3, va_rf (some b_4)]) (st' := []) rfl
          · rfl
theorem dc_X12_deletedPart_56 {B : Nat} (a0 : Nat) (x1 : Int32) (x2 : Int32) (x3 : Int32) (w4 : Value) (s : am_S) : rn_ tb_ct tb_mt B mm_X12_deletedPart 56 [.ref a0, .int x1, .int x2, .int x3, w4] [] s = rn_ tb_ct tb_mt B mm_X12_deletedPart 21 [.ref a0, .int x1, .int x2, .int (x3 + (1 : Int32)), am_un] [] s := by
  exact rn_go 2 (pc' := 21) (L' := [.ref a0, .int x1, .int x2, .int (x3 + (1 : Int32)), am_un]) (st' := []) rfl
theorem in_X12_leader {B : Nat} (a0 : Nat) (x1 : Int32) (x2 : Int32) (s : am_S) : cl_ tb_ct tb_mt B K_X12_leader [.ref a0, .int x1, .int x2] s = rn_ tb_ct tb_mt B mm_X12_leader 0 [.ref a0, .int x1, .int x2, am_un, am_un, am_un] [] s := cl_in rfl rfl rfl rfl
theorem dc_X12_leader_0 {B : Nat} (a0 : Nat) (x1 : Int32) (x2 : Int32) (s : am_S) : rn_ tb_ct tb_mt B mm_X12_leader 0 [.ref a0, .int x1, .int x2, am_un, am_un, am_un] [] s = cV (cl_ tb_ct tb_mt B K_X12_needRange [.int x1, .int x2] s) (fun s_1 => rn_ tb_ct tb_mt B mm_X12_leader 10 [.ref a0, .int x1, .int x2, va_rf none, .int (0 : Int32), am_un] [] s_1) xo := by
  refine Eq.trans (rn_go 2 (pc' := 2) (L' := [.ref a0, .int x1, .int x2, am_un, am_un, am_un]) (st' := [.int x2, .int x1]) rfl) ?_
  refine Eq.trans (rn_sta (L' := [.ref a0, .int x1, .int x2, am_un, am_un, am_un]) (as := [.int x1, .int x2]) (rest := []) rfl rfl rfl rfl rfl (Nat.le_of_ble_eq_true rfl) (by decide) rfl) ?_
  refine Eq.trans (cW_V rfl rfl) ?_
  refine cV_c (fun s_1 => ?_) (xh_nil rfl)
  exact rn_go 4 (pc' := 10) (L' := [.ref a0, .int x1, .int x2, va_rf none, .int (0 : Int32), am_un]) (st' := []) rfl
theorem dc_X12_leader_10 {B : Nat} (a0 : Nat) (x1 : Int32) (x2 : Int32) (r3 : Option Nat) (x4 : Int32) (s : am_S) : rn_ tb_ct tb_mt B mm_X12_leader 10 [.ref a0, .int x1, .int x2, va_rf r3, .int x4, am_un] [] s = eA (some r3) (eA (gA tb_ct s a0 10 0) (none) (fun b_2 => eA (gA tb_ct s b_2 7 0) (none) (fun b_3 => eI (gI tb_ct s b_3 3 1) (fun x_4 => if x_4 ≤ x4 then some (.inl (some (.int (-(1 : Int32)))), s) else eA (gA tb_ct s a0 10 0) (none) (fun b_5 => eA (gA tb_ct s b_5 7 0) (none) (fun b_6 => eC (am_cls s b_6) 3 (cA (cl_ tb_ct tb_mt B K_X4_at [.ref b_6, .int x4] s) (fun s_7 => rn_ tb_ct tb_mt B mm_X12_leader 70 [.ref a0, .int x1, .int x2, va_rf none, .int x4, va_rf none] [] s_7) (fun b_8 s_7 => eC (am_cls s_7 b_8) 2 (cI (cl_ tb_ct tb_mt B K_X3_isIn [.ref b_8, .int x1, .int x2] s_7) (fun x_10 s_9 => if x_10 = 0 then rn_ tb_ct tb_mt B mm_X12_leader 70 [.ref a0, .int x1, .int x2, va_rf none, .int x4, va_rf (some b_8)] [] s_9 else rn_ tb_ct tb_mt B mm_X12_leader 67 [.ref a0, .int x1, .int x2, va_rf none, .int x4, .ref b_8] [] s_9) xo)) xo))))))) (fun b_1 => eA (gA tb_ct s a0 10 0) (none) (fun b_11 => eA (gA tb_ct s b_11 7 0) (none) (fun b_12 => eI (gI tb_ct s b_12 3 1) (fun x_13 => if x_13 ≤ x4 then eI (gI tb_ct s b_1 2 0) (fun x_14 => some (.inl (some (.int x_14)), s)) else eA (gA tb_ct s a0 10 0) (none) (fun b_15 => eA (gA tb_ct s b_15 7 0) (none) (fun b_16 => eC (am_cls s b_16) 3 (cA (cl_ tb_ct tb_mt B K_X4_at [.ref b_16, .int x4] s) (fun s_17 => rn_ tb_ct tb_mt B mm_X12_leader 70 [.ref a0, .int x1, .int x2, va_rf (some b_1), .int x4, va_rf none] [] s_17) (fun b_18 s_17 => eC (am_cls s_17 b_18) 2 (cI (cl_ tb_ct tb_mt B K_X3_isIn [.ref b_18, .int x1, .int x2] s_17) (fun x_20 s_19 => if x_20 = 0 then rn_ tb_ct tb_mt B mm_X12_leader 70 [.ref a0, .int x1, .int x2, va_rf (some b_1), .int x4, va_rf (some b_18)] [] s_19 else eC (am_cls s_19 b_18) 2 (cI (cl_ tb_ct tb_mt B K_X3_cameBefore [.ref b_18, .ref b_1] s_19) (fun x_22 s_21 => if x_22 = 0 then rn_ tb_ct tb_mt B mm_X12_leader 70 [.ref a0, .int x1, .int x2, va_rf (some b_1), .int x4, va_rf (some b_18)] [] s_21 else rn_ tb_ct tb_mt B mm_X12_leader 67 [.ref a0, .int x1, .int x2, va_rf (some b_1), .int x4, .ref b_18] [] s_21) xo)) xo)) xo))))))) := by
  rcases r3 with _ | b_1
  · rw [eA_n]
    refine Eq.trans (rn_go 2 (pc' := 13) (L' := [.ref a0, .int x1, .int x2, .null, .int x4, am_un]) (st' := [.ref a0, .int x4]) rfl) ?_
    refine Eq.trans (rn_gA (L' := [.ref a0, .int x1, .int x2, .null, .int x4, am_un]) rfl rfl rfl rfl) ?_
    refine eA_c ?_ (fun b_2 => ?_)
    · exact rn_z rfl rfl
    · refine Eq.trans (rn_gA (L' := [.ref a0, .int x1, .int x2, .null, .int x4, am_un]) rfl rfl rfl rfl) ?_
      refine eA_c ?_ (fun b_3 => ?_)
      · exact rn_z rfl rfl
      · refine Eq.trans (rn_gI (L' := [.ref a0, .int x1, .int x2, .null, .int x4, am_un]) rfl rfl rfl rfl) ?_
        refine eI_c (fun x_4 => ?_)
        refine Eq.trans (rn_icge (L' := [.ref a0, .int x1, .int x2, .null, .int x4, am_un]) rfl rfl) ?_
        refine if_c ?_ ?_
        · refine Eq.trans (rn_go 4 (pc' := 88) (L' := [.ref a0, .int x1, .int x2, .null, .int x4, am_un]) (st' := [.int (-(1 : Int32))]) rfl) ?_
          exact rn_retI rfl rfl rfl
        · refine Eq.trans (rn_go 1 (pc' := 26) (L' := [.ref a0, .int x1, .int x2, .null, .int x4, am_un]) (st' := [.ref a0]) rfl) ?_
          refine Eq.trans (rn_gA (L' := [.ref a0, .int x1, .int x2, .null, .int x4, am_un]) rfl rfl rfl rfl) ?_
          refine eA_c ?_ (fun b_5 => ?_)
          · exact rn_z rfl rfl
          · refine Eq.trans (rn_gA (L' := [.ref a0, .int x1, .int x2, .null, .int x4, am_un]) rfl rfl rfl rfl) ?_
            refine eA_c ?_ (fun b_6 => ?_)
            · refine Eq.trans (rn_go 1 (pc' := 34) (L' := [.ref a0, .int x1, .int x2, .null, .int x4, am_un]) (st' := [.int x4, .null]) rfl) ?_
              exact rn_z rfl rfl
            · refine Eq.trans (rn_go 1 (pc' := 34) (L' := [.ref a0, .int x1, .int x2, .null, .int x4, am_un]) (st' := [.int x4, .ref b_6]) rfl) ?_
              refine Eq.trans (rn_vir (L' := [.ref a0, .int x1, .int x2, .null, .int x4, am_un]) (as := [.int x4]) (rest := []) rfl rfl rfl rfl rfl (Nat.le_of_ble_eq_true rfl) (by decide) (by decide)) ?_
              refine eC_c ?_
              refine Eq.trans (cW_A rfl rfl rfl) ?_
              refine cA_c (fun s_7 => ?_) (fun b_8 s_7 => ?_) (xh_nil rfl)
              · exact rn_go 3 (pc' := 70) (L' := [.ref a0, .int x1, .int x2, va_rf none, .int x4, va_rf none]) (st' := []) rfl
              · refine Eq.trans (rn_go 6 (pc' := 48) (L' := [.ref a0, .int x1, .int x2, .null, .int x4, .ref b_8]) (st' := [.int x2, .int x1, .ref b_8]) rfl) ?_
                refine Eq.trans (rn_vir (L' := [.ref a0, .int x1, .int x2, .null, .int x4, .ref b_8]) (as := [.int x1, .int x2]) (rest := []) rfl rfl rfl rfl rfl (Nat.le_of_ble_eq_true rfl) (by decide) (by decide)) ?_
                refine eC_c ?_
                refine Eq.trans (cW_I rfl rfl rfl) ?_
                refine cI_c (fun x_10 s_9 => ?_) (xh_nil rfl)
                refine Eq.trans (rn_ifeq (L' := [.ref a0, .int x1, .int x2, .null, .int x4, .ref b_8]) rfl rfl) ?_
                refine if_c ?_ ?_
                · rfl
                · exact rn_go 2 (pc' := 67) (L' := [.ref a0, .int x1, .int x2, va_rf none, .int x4, .ref b_8]) (st' := []) rfl
  · rw [eA_s]
    refine Eq.trans (rn_go 2 (pc' := 13) (L' := [.ref a0, .int x1, .int x2, .ref b_1, .int x4, am_un]) (st' := [.ref a0, .int x4]) rfl) ?_
    refine Eq.trans (rn_gA (L' := [.ref a0, .int x1, .int x2, .ref b_1, .int x4, am_un]) rfl rfl rfl rfl) ?_
    refine eA_c ?_ (fun b_11 => ?_)
    · exact rn_z rfl rfl
    · refine Eq.trans (rn_gA (L' := [.ref a0, .int x1, .int x2, .ref b_1, .int x4, am_un]) rfl rfl rfl rfl) ?_
      refine eA_c ?_ (fun b_12 => ?_)
      · exact rn_z rfl rfl
      · refine Eq.trans (rn_gI (L' := [.ref a0, .int x1, .int x2, .ref b_1, .int x4, am_un]) rfl rfl rfl rfl) ?_
        refine eI_c (fun x_13 => ?_)
        refine Eq.trans (rn_icge (L' := [.ref a0, .int x1, .int x2, .ref b_1, .int x4, am_un]) rfl rfl) ?_
        refine if_c ?_ ?_
        · refine Eq.trans (rn_go 3 (pc' := 85) (L' := [.ref a0, .int x1, .int x2, .ref b_1, .int x4, am_un]) (st' := [.ref b_1]) rfl) ?_
          refine Eq.trans (rn_gI (L' := [.ref a0, .int x1, .int x2, .ref b_1, .int x4, am_un]) rfl rfl rfl rfl) ?_
          refine eI_c (fun x_14 => ?_)
          exact rn_retI rfl rfl rfl
        · refine Eq.trans (rn_go 1 (pc' := 26) (L' := [.ref a0, .int x1, .int x2, .ref b_1, .int x4, am_un]) (st' := [.ref a0]) rfl) ?_
          refine Eq.trans (rn_gA (L' := [.ref a0, .int x1, .int x2, .ref b_1, .int x4, am_un]) rfl rfl rfl rfl) ?_
          refine eA_c ?_ (fun b_15 => ?_)
          · exact rn_z rfl rfl
          · refine Eq.trans (rn_gA (L' := [.ref a0, .int x1, .int x2, .ref b_1, .int x4, am_un]) rfl rfl rfl rfl) ?_
            refine eA_c ?_ (fun b_16 => ?_)
            · refine Eq.trans (rn_go 1 (pc' := 34) (L' := [.ref a0, .int x1, .int x2, .ref b_1, .int x4, am_un]) (st' := [.int x4, .null]) rfl) ?_
              exact rn_z rfl rfl
            · refine Eq.trans (rn_go 1 (pc' := 34) (L' := [.ref a0, .int x1, .int x2, .ref b_1, .int x4, am_un]) (st' := [.int x4, .ref b_16]) rfl) ?_
              refine Eq.trans (rn_vir (L' := [.ref a0, .int x1, .int x2, .ref b_1, .int x4, am_un]) (as := [.int x4]) (rest := []) rfl rfl rfl rfl rfl (Nat.le_of_ble_eq_true rfl) (by decide) (by decide)) ?_
              refine eC_c ?_
              refine Eq.trans (cW_A rfl rfl rfl) ?_
              refine cA_c (fun s_17 => ?_) (fun b_18 s_17 => ?_) (xh_nil rfl)
              · exact rn_go 3 (pc' := 70) (L' := [.ref a0, .int x1, .int x2, va_rf (some b_1), .int x4, va_rf none]) (st' := []) rfl
              · refine Eq.trans (rn_go 6 (pc' := 48) (L' := [.ref a0, .int x1, .int x2, .ref b_1, .int x4, .ref b_18]) (st' := [.int x2, .int x1, .ref b_18]) rfl) ?_
                refine Eq.trans (rn_vir (L' := [.ref a0, .int x1, .int x2, .ref b_1, .int x4, .ref b_18]) (as := [.int x1, .int x2]) (rest := []) rfl rfl rfl rfl rfl (Nat.le_of_ble_eq_true rfl) (by decide) (by decide)) ?_
                refine eC_c ?_
                refine Eq.trans (cW_I rfl rfl rfl) ?_
                refine cI_c (fun x_20 s_19 => ?_) (xh_nil rfl)
                refine Eq.trans (rn_ifeq (L' := [.ref a0, .int x1, .int x2, .ref b_1, .int x4, .ref b_18]) rfl rfl) ?_
                refine if_c ?_ ?_
                · rfl
                · refine Eq.trans (rn_go 4 (pc' := 61) (L' := [.ref a0, .int x1, .int x2, .ref b_1, .int x4, .ref b_18]) (st' := [.ref b_1, .ref b_18]) rfl) ?_
                  refine Eq.trans (rn_vir (L' := [.ref a0, .int x1, .int x2, .ref b_1, .int x4, .ref b_18]) (as := [.ref b_1]) (rest := []) rfl rfl rfl rfl rfl (Nat.le_of_ble_eq_true rfl) (by decide) (by decide)) ?_
                  refine eC_c ?_
                  refine Eq.trans (cW_I rfl rfl rfl) ?_
                  refine cI_c (fun x_22 s_21 => ?_) (xh_nil rfl)
                  refine Eq.trans (rn_ifeq (L' := [.ref a0, .int x1, .int x2, .ref b_1, .int x4, .ref b_18]) rfl rfl) ?_
                  refine if_c ?_ ?_
                  · rfl
                  · rfl
theorem dc_X12_leader_67 {B : Nat} (a0 : Nat) (x1 : Int32) (x2 : Int32) (w3 : Value) (x4 : Int32) (a5 : Nat) (s : am_S) : rn_ tb_ct tb_mt B mm_X12_leader 67 [.ref a0, .int x1, .int x2, w3, .int x4, .ref a5] [] s = rn_ tb_ct tb_mt B mm_X12_leader 70 [.ref a0, .int x1, .int x2, va_rf (some a5), .int x4, va_rf (some a5)] [] s := by
  exact rn_go 2 (pc' := 70) (L' := [.ref a0, .int x1, .int x2, va_rf (some a5), .int x4, va_rf (some a5)]) (st' := []) rfl
theorem dc_X12_leader_70 {B : Nat} (a0 : Nat) (x1 : Int32) (x2 : Int32) (r3 : Option Nat) (x4 : Int32) (w5 : Value) (s : am_S) : rn_ tb_ct tb_mt B mm_X12_leader 70 [.ref a0, .int x1, .int x2, va_rf r3, .int x4, w5] [] s = eA (some r3) (rn_ tb_ct tb_mt B mm_X12_leader 10 [.ref a0, .int x1, .int x2, va_rf none, .int (x4 + (1 : Int32)), am_un] [] s) (fun b_1 => rn_ tb_ct tb_mt B mm_X12_leader 10 [.ref a0, .int x1, .int x2, va_rf (some b_1), .int (x4 + (1 : Int32)), am_un] [] s) := by
  rcases r3 with _ | b_1
  · rw [eA_n]
    exact rn_go 2 (pc' := 10) (L' := [.ref a0, .int x1, .int x2, va_rf none, .int (x4 + (1 : Int32)), am_un]) (st' := []) rfl
  · rw [eA_s]
    exact rn_go 2 (pc' := 10) (L' := [.ref a0, .int x1, .int x2, va_rf (some b_1), .int (x4 + (1 : Int32)), am_un]) (st' := []) rfl
theorem in_X12_ahead {B : Nat} (a0 : Nat) (x1 : Int32) (x2 : Int32) (x3 : Int32) (s : am_S) : cl_ tb_ct tb_mt B K_X12_ahead [.ref a0, .int x1, .int x2, .int x3] s = rn_ tb_ct tb_mt B mm_X12_ahead 0 [.ref a0, .int x1, .int x2, .int x3, am_un, am_un, am_un, am_un] [] s := cl_in rfl rfl rfl rfl
theorem dc_X12_ahead_0 {B : Nat} (a0 : Nat) (x1 : Int32) (x2 : Int32) (x3 : Int32) (s : am_S) : rn_ tb_ct tb_mt B mm_X12_ahead 0 [.ref a0, .int x1, .int x2, .int x3, am_un, am_un, am_un, am_un] [] s = cV (cl_ tb_ct tb_mt B K_X12_needKey [.int x1] s) (fun s_1 => cV (cl_ tb_ct tb_mt B K_X12_needRange [.int x2, .int x3] s_1) (fun s_2 => eA (gA tb_ct s_2 a0 10 0) (none) (fun b_3 => eA (gA tb_ct s_2 b_3 7 0) (none) (fun b_4 => eC (am_cls s_2 b_4) 3 (cA (cl_ tb_ct tb_mt B K_X4_find [.ref b_4, .int x1] s_2) (fun s_5 => some (.inl (some (.int (-(1 : Int32)))), s_5)) (fun b_6 s_5 => eC (am_cls s_5 b_6) 2 (cI (cl_ tb_ct tb_mt B K_X3_isIn [.ref b_6, .int x2, .int x3] s_5) (fun x_8 s_7 => if x_8 = 0 then some (.inl (some (.int (-(1 : Int32)))), s_7) else rn_ tb_ct tb_mt B mm_X12_ahead 45 [.ref a0, .int x1, .int x2, .int x3, .ref b_6, va_rf none, .int (0 : Int32), am_un] [] s_7) xo)) xo)))) xo) xo := by
  refine Eq.trans (rn_go 1 (pc' := 1) (L' := [.ref a0, .int x1, .int x2, .int x3, am_un, am_un, am_un, am_un]) (st' := [.int x1]) rfl) ?_
  refine Eq.trans (rn_sta (L' := [.ref a0, .int x1, .int x2, .int x3, am_un, am_un, am_un, am_un]) (as := [.int x1]) (rest := []) rfl rfl rfl rfl rfl (Nat.le_of_ble_eq_true rfl) (by decide) rfl) ?_
  refine Eq.trans (cW_V rfl rfl) ?_
  refine cV_c (fun s_1 => ?_) (xh_nil rfl)
  refine Eq.trans (rn_go 2 (pc' := 6) (L' := [.ref a0, .int x1, .int x2, .int x3, am_un, am_un, am_un, am_un]) (st' := [.int x3, .int x2]) rfl) ?_
  refine Eq.trans (rn_sta (L' := [.ref a0, .int x1, .int x2, .int x3, am_un, am_un, am_un, am_un]) (as := [.int x2, .int x3]) (rest := []) rfl rfl rfl rfl rfl (Nat.le_of_ble_eq_true rfl) (by decide) rfl) ?_
  refine Eq.trans (cW_V rfl rfl) ?_
  refine cV_c (fun s_2 => ?_) (xh_nil rfl)
  refine Eq.trans (rn_go 1 (pc' := 10) (L' := [.ref a0, .int x1, .int x2, .int x3, am_un, am_un, am_un, am_un]) (st' := [.ref a0]) rfl) ?_
  refine Eq.trans (rn_gA (L' := [.ref a0, .int x1, .int x2, .int x3, am_un, am_un, am_un, am_un]) rfl rfl rfl rfl) ?_
  refine eA_c ?_ (fun b_3 => ?_)
  · exact rn_z rfl rfl
  · refine Eq.trans (rn_gA (L' := [.ref a0, .int x1, .int x2, .int x3, am_un, am_un, am_un, am_un]) rfl rfl rfl rfl) ?_
    refine eA_c ?_ (fun b_4 => ?_)
    · refine Eq.trans (rn_go 1 (pc' := 17) (L' := [.ref a0, .int x1, .int x2, .int x3, am_un, am_un, am_un, am_un]) (st' := [.int x1, .null]) rfl) ?_
      exact rn_z rfl rfl
    · refine Eq.trans (rn_go 1 (pc' := 17) (L' := [.ref a0, .int x1, .int x2, .int x3, am_un, am_un, am_un, am_un]) (st' := [.int x1, .ref b_4]) rfl) ?_
      refine Eq.trans (rn_vir (L' := [.ref a0, .int x1, .int x2, .int x3, am_un, am_un, am_un, am_un]) (as := [.int x1]) (rest := []) rfl rfl rfl rfl rfl (Nat.le_of_ble_eq_true rfl) (by decide) (by decide)) ?_
      refine eC_c ?_
      refine Eq.trans (cW_A rfl rfl rfl) ?_
      refine cA_c (fun s_5 => ?_) (fun b_6 s_5 => ?_) (xh_nil rfl)
      · refine Eq.trans (rn_go 4 (pc' := 38) (L' := [.ref a0, .int x1, .int x2, .int x3, .null, am_un, am_un, am_un]) (st' := [.int (-(1 : Int32))]) rfl) ?_
        exact rn_retI rfl rfl rfl
      · refine Eq.trans (rn_go 6 (pc' := 31) (L' := [.ref a0, .int x1, .int x2, .int x3, .ref b_6, am_un, am_un, am_un]) (st' := [.int x3, .int x2, .ref b_6]) rfl) ?_
        refine Eq.trans (rn_vir (L' := [.ref a0, .int x1, .int x2, .int x3, .ref b_6, am_un, am_un, am_un]) (as := [.int x2, .int x3]) (rest := []) rfl rfl rfl rfl rfl (Nat.le_of_ble_eq_true rfl) (by decide) (by decide)) ?_
        refine eC_c ?_
        refine Eq.trans (cW_I rfl rfl rfl) ?_
        refine cI_c (fun x_8 s_7 => ?_) (xh_nil rfl)
        refine Eq.trans (rn_ifne (L' := [.ref a0, .int x1, .int x2, .int x3, .ref b_6, am_un, am_un, am_un]) rfl rfl) ?_
        refine if_c ?_ ?_
        · refine Eq.trans (rn_go 1 (pc' := 38) (L' := [.ref a0, .int x1, .int x2, .int x3, .ref b_6, am_un, am_un, am_un]) (st' := [.int (-(1 : Int32))]) rfl) ?_
          exact rn_retI rfl rfl rfl
        · exact rn_go 4 (pc' := 45) (L' := [.ref a0, .int x1, .int x2, .int x3, .ref b_6, va_rf none, .int (0 : Int32), am_un]) (st' := []) rfl
theorem dc_X12_ahead_45 {B : Nat} (a0 : Nat) (w1 : Value) (x2 : Int32) (x3 : Int32) (a4 : Nat) (r5 : Option Nat) (x6 : Int32) (s : am_S) : rn_ tb_ct tb_mt B mm_X12_ahead 45 [.ref a0, w1, .int x2, .int x3, .ref a4, va_rf r5, .int x6, am_un] [] s = eA (some r5) (eA (gA tb_ct s a0 10 0) (none) (fun b_2 => eA (gA tb_ct s b_2 7 0) (none) (fun b_3 => eI (gI tb_ct s b_3 3 1) (fun x_4 => if x_4 ≤ x6 then some (.inl (some (.int (-(1 : Int32)))), s) else eA (gA tb_ct s a0 10 0) (none) (fun b_5 => eA (gA tb_ct s b_5 7 0) (none) (fun b_6 => eC (am_cls s b_6) 3 (cA (cl_ tb_ct tb_mt B K_X4_at [.ref b_6, .int x6] s) (fun s_7 => rn_ tb_ct tb_mt B mm_X12_ahead 118 [.ref a0, am_un, .int x2, .int x3, .ref a4, va_rf none, .int x6, va_rf none] [] s_7) (fun b_8 s_7 => eC (am_cls s_7 b_8) 2 (cI (cl_ tb_ct tb_mt B K_X3_isIn [.ref b_8, .int x2, .int x3] s_7) (fun x_10 s_9 => if x_10 = 0 then rn_ tb_ct tb_mt B mm_X12_ahead 118 [.ref a0, am_un, .int x2, .int x3, .ref a4, va_rf none, .int x6, va_rf (some b_8)] [] s_9 else eC (am_cls s_9 b_8) 2 (cI (cl_ tb_ct tb_mt B K_X3_cameBefore [.ref b_8, .ref a4] s_9) (fun x_12 s_11 => if x_12 = 0 then rn_ tb_ct tb_mt B mm_X12_ahead 118 [.ref a0, am_un, .int x2, .int x3, .ref a4, va_rf none, .int x6, va_rf (some b_8)] [] s_11 else rn_ tb_ct tb_mt B mm_X12_ahead 114 [.ref a0, am_un, .int x2, .int x3, .ref a4, va_rf none, .int x6, .ref b_8] [] s_11) xo)) xo)) xo))))))) (fun b_1 => eA (gA tb_ct s a0 10 0) (none) (fun b_13 => eA (gA tb_ct s b_13 7 0) (none) (fun b_14 => eI (gI tb_ct s b_14 3 1) (fun x_15 => if x_15 ≤ x6 then eI (gI tb_ct s b_1 2 0) (fun x_16 => some (.inl (some (.int x_16)), s)) else eA (gA tb_ct s a0 10 0) (none) (fun b_17 => eA (gA tb_ct s b_17 7 0) (none) (fun b_18 => eC (am_cls s b_18) 3 (cA (cl_ tb_ct tb_mt B K_X4_at [.ref b_18, .int x6] s) (fun s_19 => rn_ tb_ct tb_mt B mm_X12_ahead 118 [.ref a0, am_un, .int x2, .int x3, .ref a4, va_rf (some b_1), .int x6, va_rf none] [] s_19) (fun b_20 s_19 => eC (am_cls s_19 b_20) 2 (cI (cl_ tb_ct tb_mt B K_X3_isIn [.ref b_20, .int x2, .int x3] s_19) (fun x_22 s_21 => if x_22 = 0 then rn_ tb_ct tb_mt B mm_X12_ahead 118 [.ref a0, am_un, .int x2, .int x3, .ref a4, va_rf (some b_1), .int x6, va_rf (some b_20)] [] s_21 else eC (am_cls s_21 b_20) 2 (cI (cl_ tb_ct tb_mt B K_X3_cameBefore [.ref b_20, .ref a4] s_21) (fun x_24 s_23 => if x_24 = 0 then rn_ tb_ct tb_mt B mm_X12_ahead 118 [.ref a0, am_un, .int x2, .int x3, .ref a4, va_rf (some b_1), .int x6, va_rf (some b_20)] [] s_23 else eC (am_cls s_23 b_1) 2 (cI (cl_ tb_ct tb_mt B K_X3_cameBefore [.ref b_1, .ref b_20] s_23) (fun x_26 s_25 => if x_26 = 0 then rn_ tb_ct tb_mt B mm_X12_ahead 118 [.ref a0, am_un, .int x2, .int x3, .ref a4, va_rf (some b_1), .int x6, va_rf (some b_20)] [] s_25 else rn_ tb_ct tb_mt B mm_X12_ahead 114 [.ref a0, am_un, .int x2, .int x3, .ref a4, va_rf (some b_1), .int x6, .ref b_20] [] s_25) xo)) xo)) xo)) xo))))))) := by
  rcases r5 with _ | b_1
  · rw [eA_n]
    refine Eq.trans (rn_go 2 (pc' := 48) (L' := [.ref a0, am_un, .int x2, .int x3, .ref a4, .null, .int x6, am_un]) (st' := [.ref a0, .int x6]) rfl) ?_
    refine Eq.trans (rn_gA (L' := [.ref a0, am_un, .int x2, .int x3, .ref a4, .null, .int x6, am_un]) rfl rfl rfl rfl) ?_
    refine eA_c ?_ (fun b_2 => ?_)
    · exact rn_z rfl rfl
    · refine Eq.trans (rn_gA (L' := [.ref a0, am_un, .int x2, .int x3, .ref a4, .null, .int x6, am_un]) rfl rfl rfl rfl) ?_
      refine eA_c ?_ (fun b_3 => ?_)
      · exact rn_z rfl rfl
      · refine Eq.trans (rn_gI (L' := [.ref a0, am_un, .int x2, .int x3, .ref a4, .null, .int x6, am_un]) rfl rfl rfl rfl) ?_
        refine eI_c (fun x_4 => ?_)
        refine Eq.trans (rn_icge (L' := [.ref a0, am_un, .int x2, .int x3, .ref a4, .null, .int x6, am_un]) rfl rfl) ?_
        refine if_c ?_ ?_
        · refine Eq.trans (rn_go 4 (pc' := 138) (L' := [.ref a0, am_un, .int x2, .int x3, .ref a4, .null, .int x6, am_un]) (st' := [.int (-(1 : Int32))]) rfl) ?_
          exact rn_retI rfl rfl rfl
        · refine Eq.trans (rn_go 1 (pc' := 61) (L' := [.ref a0, am_un, .int x2, .int x3, .ref a4, .null, .int x6, am_un]) (st' := [.ref a0]) rfl) ?_
          refine Eq.trans (rn_gA (L' := [.ref a0, am_un, .int x2, .int x3, .ref a4, .null, .int x6, am_un]) rfl rfl rfl rfl) ?_
          refine eA_c ?_ (fun b_5 => ?_)
          · exact rn_z rfl rfl
          · refine Eq.trans (rn_gA (L' := [.ref a0, am_un, .int x2, .int x3, .ref a4, .null, .int x6, am_un]) rfl rfl rfl rfl) ?_
            refine eA_c ?_ (fun b_6 => ?_)
            · refine Eq.trans (rn_go 1 (pc' := 69) (L' := [.ref a0, am_un, .int x2, .int x3, .ref a4, .null, .int x6, am_un]) (st' := [.int x6, .null]) rfl) ?_
              exact rn_z rfl rfl
            · refine Eq.trans (rn_go 1 (pc' := 69) (L' := [.ref a0, am_un, .int x2, .int x3, .ref a4, .null, .int x6, am_un]) (st' := [.int x6, .ref b_6]) rfl) ?_
              refine Eq.trans (rn_vir (L' := [.ref a0, am_un, .int x2, .int x3, .ref a4, .null, .int x6, am_un]) (as := [.int x6]) (rest := []) rfl rfl rfl rfl rfl (Nat.le_of_ble_eq_true rfl) (by decide) (by decide)) ?_
              refine eC_c ?_
              refine Eq.trans (cW_A rfl rfl rfl) ?_
              refine cA_c (fun s_7 => ?_) (fun b_8 s_7 => ?_) (xh_nil rfl)
              · exact rn_go 3 (pc' := 118) (L' := [.ref a0, am_un, .int x2, .int x3, .ref a4, va_rf none, .int x6, va_rf none]) (st' := []) rfl
              · refine Eq.trans (rn_go 6 (pc' := 83) (L' := [.ref a0, am_un, .int x2, .int x3, .ref a4, .null, .int x6, .ref b_8]) (st' := [.int x3, .int x2, .ref b_8]) rfl) ?_
                refine Eq.trans (rn_vir (L' := [.ref a0, am_un, .int x2, .int x3, .ref a4, .null, .int x6, .ref b_8]) (as := [.int x2, .int x3]) (rest := []) rfl rfl rfl rfl rfl (Nat.le_of_ble_eq_true rfl) (by decide) (by decide)) ?_
                refine eC_c ?_
                refine Eq.trans (cW_I rfl rfl rfl) ?_
                refine cI_c (fun x_10 s_9 => ?_) (xh_nil rfl)
                refine Eq.trans (rn_ifeq (L' := [.ref a0, am_un, .int x2, .int x3, .ref a4, .null, .int x6, .ref b_8]) rfl rfl) ?_
                refine if_c ?_ ?_
                · rfl
                · refine Eq.trans (rn_go 2 (pc' := 93) (L' := [.ref a0, am_un, .int x2, .int x3, .ref a4, .null, .int x6, .ref b_8]) (st' := [.ref a4, .ref b_8]) rfl) ?_
                  refine Eq.trans (rn_vir (L' := [.ref a0, am_un, .int x2, .int x3, .ref a4, .null, .int x6, .ref b_8]) (as := [.ref a4]) (rest := []) rfl rfl rfl rfl rfl (Nat.le_of_ble_eq_true rfl) (by decide) (by decide)) ?_
                  refine eC_c ?_
                  refine Eq.trans (cW_I rfl rfl rfl) ?_
                  refine cI_c (fun x_12 s_11 => ?_) (xh_nil rfl)
                  refine Eq.trans (rn_ifeq (L' := [.ref a0, am_un, .int x2, .int x3, .ref a4, .null, .int x6, .ref b_8]) rfl rfl) ?_
                  refine if_c ?_ ?_
                  · rfl
                  · exact rn_go 2 (pc' := 114) (L' := [.ref a0, am_un, .int x2, .int x3, .ref a4, va_rf none, .int x6, .ref b_8]) (st' := []) rfl
  · rw [eA_s]
    refine Eq.trans (rn_go 2 (pc' := 48) (L' := [.ref a0, am_un, .int x2, .int x3, .ref a4, .ref b_1, .int x6, am_un]) (st' := [.ref a0, .int x6]) rfl) ?_
    refine Eq.trans (rn_gA (L' := [.ref a0, am_un, .int x2, .int x3, .ref a4, .ref b_1, .int x6, am_un]) rfl rfl rfl rfl) ?_
    refine eA_c ?_ (fun b_13 => ?_)
    · exact rn_z rfl rfl
    · refine Eq.trans (rn_gA (L' := [.ref a0, am_un, .int x2, .int x3, .ref a4, .ref b_1, .int x6, am_un]) rfl rfl rfl rfl) ?_
      refine eA_c ?_ (fun b_14 => ?_)
      · exact rn_z rfl rfl
      · refine Eq.trans (rn_gI (L' := [.ref a0, am_un, .int x2, .int x3, .ref a4, .ref b_1, .int x6, am_un]) rfl rfl rfl rfl) ?_
        refine eI_c (fun x_15 => ?_)
        refine Eq.trans (rn_icge (L' := [.ref a0, am_un, .int x2, .int x3, .ref a4, .ref b_1, .int x6, am_un]) rfl rfl) ?_
        refine if_c ?_ ?_
        · refine Eq.trans (rn_go 3 (pc' := 135) (L' := [.ref a0, am_un, .int x2, .int x3, .ref a4, .ref b_1, .int x6, am_un]) (st' := [.ref b_1]) rfl) ?_
          refine Eq.trans (rn_gI (L' := [.ref a0, am_un, .int x2, .int x3, .ref a4, .ref b_1, .int x6, am_un]) rfl rfl rfl rfl) ?_
          refine eI_c (fun x_16 => ?_)
          exact rn_retI rfl rfl rfl
        · refine Eq.trans (rn_go 1 (pc' := 61) (L' := [.ref a0, am_un, .int x2, .int x3, .ref a4, .ref b_1, .int x6, am_un]) (st' := [.ref a0]) rfl) ?_
          refine Eq.trans (rn_gA (L' := [.ref a0, am_un, .int x2, .int x3, .ref a4, .ref b_1, .int x6, am_un]) rfl rfl rfl rfl) ?_
          refine eA_c ?_ (fun b_17 => ?_)
          · exact rn_z rfl rfl
          · refine Eq.trans (rn_gA (L' := [.ref a0, am_un, .int x2, .int x3, .ref a4, .ref b_1, .int x6, am_un]) rfl rfl rfl rfl) ?_
            refine eA_c ?_ (fun b_18 => ?_)
            · refine Eq.trans (rn_go 1 (pc' := 69) (L' := [.ref a0, am_un, .int x2, .int x3, .ref a4, .ref b_1, .int x6, am_un]) (st' := [.int x6, .null]) rfl) ?_
              exact rn_z rfl rfl
            · refine Eq.trans (rn_go 1 (pc' := 69) (L' := [.ref a0, am_un, .int x2, .int x3, .ref a4, .ref b_1, .int x6, am_un]) (st' := [.int x6, .ref b_18]) rfl) ?_
              refine Eq.trans (rn_vir (L' := [.ref a0, am_un, .int x2, .int x3, .ref a4, .ref b_1, .int x6, am_un]) (as := [.int x6]) (rest := []) rfl rfl rfl rfl rfl (Nat.le_of_ble_eq_true rfl) (by decide) (by decide)) ?_
              refine eC_c ?_
              refine Eq.trans (cW_A rfl rfl rfl) ?_
              refine cA_c (fun s_19 => ?_) (fun b_20 s_19 => ?_) (xh_nil rfl)
              · exact rn_go 3 (pc' := 118) (L' := [.ref a0, am_un, .int x2, .int x3, .ref a4, va_rf (some b_1), .int x6, va_rf none]) (st' := []) rfl
              · refine Eq.trans (rn_go 6 (pc' := 83) (L' := [.ref a0, am_un, .int x2, .int x3, .ref a4, .ref b_1, .int x6, .ref b_20]) (st' := [.int x3, .int x2, .ref b_20]) rfl) ?_
                refine Eq.trans (rn_vir (L' := [.ref a0, am_un, .int x2, .int x3, .ref a4, .ref b_1, .int x6, .ref b_20]) (as := [.int x2, .int x3]) (rest := []) rfl rfl rfl rfl rfl (Nat.le_of_ble_eq_true rfl) (by decide) (by decide)) ?_
                refine eC_c ?_
                refine Eq.trans (cW_I rfl rfl rfl) ?_
                refine cI_c (fun x_22 s_21 => ?_) (xh_nil rfl)
                refine Eq.trans (rn_ifeq (L' := [.ref a0, am_un, .int x2, .int x3, .ref a4, .ref b_1, .int x6, .ref b_20]) rfl rfl) ?_
                refine if_c ?_ ?_
                · rfl
                · refine Eq.trans (rn_go 2 (pc' := 93) (L' := [.ref a0, am_un, .int x2, .int x3, .ref a4, .ref b_1, .int x6, .ref b_20]) (st' := [.ref a4, .ref b_20]) rfl) ?_
                  refine Eq.trans (rn_vir (L' := [.ref a0, am_un, .int x2, .int x3, .ref a4, .ref b_1, .int x6, .ref b_20]) (as := [.ref a4]) (rest := []) rfl rfl rfl rfl rfl (Nat.le_of_ble_eq_true rfl) (by decide) (by decide)) ?_
                  refine eC_c ?_
                  refine Eq.trans (cW_I rfl rfl rfl) ?_
                  refine cI_c (fun x_24 s_23 => ?_) (xh_nil rfl)
                  refine Eq.trans (rn_ifeq (L' := [.ref a0, am_un, .int x2, .int x3, .ref a4, .ref b_1, .int x6, .ref b_20]) rfl rfl) ?_
                  refine if_c ?_ ?_
                  · rfl
                  · refine Eq.trans (rn_go 4 (pc' := 108) (L' := [.ref a0, am_un, .int x2, .int x3, .ref a4, .ref b_1, .int x6, .ref b_20]) (st' := [.ref b_20, .ref b_1]) rfl) ?_
                    refine Eq.trans (rn_vir (L' := [.ref a0, am_un, .int x2, .int x3, .ref a4, .ref b_1, .int x6, .ref b_20]) (as := [.ref b_20]) (rest := []) rfl rfl rfl rfl rfl (Nat.le_of_ble_eq_true rfl) (by decide) (by decide)) ?_
                    refine eC_c ?_
                    refine Eq.trans (cW_I rfl rfl rfl) ?_
                    refine cI_c (fun x_26 s_25 => ?_) (xh_nil rfl)
                    refine Eq.trans (rn_ifeq (L' := [.ref a0, am_un, .int x2, .int x3, .ref a4, .ref b_1, .int x6, .ref b_20]) rfl rfl) ?_
                    refine if_c ?_ ?_
                    · rfl
                    · rfl
theorem dc_X12_ahead_114 {B : Nat} (a0 : Nat) (x2 : Int32) (x3 : Int32) (a4 : Nat) (w5 : Value) (x6 : Int32) (a7 : Nat) (s : am_S) : rn_ tb_ct tb_mt B mm_X12_ahead 114 [.ref a0, am_un, .int x2, .int x3, .ref a4, w5, .int x6, .ref a7] [] s = rn_ tb_ct tb_mt B mm_X12_ahead 118 [.ref a0, am_un, .int x2, .int x3, .ref a4, va_rf (some a7), .int x6, va_rf (some a7)] [] s := by
  exact rn_go 2 (pc' := 118) (L' := [.ref a0, am_un, .int x2, .int x3, .ref a4, va_rf (some a7), .int x6, va_rf (some a7)]) (st' := []) rfl
theorem dc_X12_ahead_118 {B : Nat} (a0 : Nat) (x2 : Int32) (x3 : Int32) (a4 : Nat) (r5 : Option Nat) (x6 : Int32) (w7 : Value) (s : am_S) : rn_ tb_ct tb_mt B mm_X12_ahead 118 [.ref a0, am_un, .int x2, .int x3, .ref a4, va_rf r5, .int x6, w7] [] s = eA (some r5) (rn_ tb_ct tb_mt B mm_X12_ahead 45 [.ref a0, am_un, .int x2, .int x3, .ref a4, va_rf none, .int (x6 + (1 : Int32)), am_un] [] s) (fun b_1 => rn_ tb_ct tb_mt B mm_X12_ahead 45 [.ref a0, am_un, .int x2, .int x3, .ref a4, va_rf (some b_1), .int (x6 + (1 : Int32)), am_un] [] s) := by
  rcases r5 with _ | b_1
  · rw [eA_n]
    exact rn_go 2 (pc' := 45) (L' := [.ref a0, am_un, .int x2, .int x3, .ref a4, va_rf none, .int (x6 + (1 : Int32)), am_un]) (st' := []) rfl
  · rw [eA_s]
    exact rn_go 2 (pc' := 45) (L' := [.ref a0, am_un, .int x2, .int x3, .ref a4, va_rf (some b_1), .int (x6 + (1 : Int32)), am_un]) (st' := []) rfl
theorem in_X12_place {B : Nat} (a0 : Nat) (x1 : Int32) (x2 : Int32) (x3 : Int32) (s : am_S) : cl_ tb_ct tb_mt B K_X12_place [.ref a0, .int x1, .int x2, .int x3] s = rn_ tb_ct tb_mt B mm_X12_place 0 [.ref a0, .int x1, .int x2, .int x3, am_un, am_un, am_un, am_un] [] s := cl_in rfl rfl rfl rfl
theorem dc_X12_place_0 {B : Nat} (a0 : Nat) (x1 : Int32) (x2 : Int32) (x3 : Int32) (s : am_S) : rn_ tb_ct tb_mt B mm_X12_place 0 [.ref a0, .int x1, .int x2, .int x3, am_un, am_un, am_un, am_un] [] s = cV (cl_ tb_ct tb_mt B K_X12_needKey [.int x1] s) (fun s_1 => cV (cl_ tb_ct tb_mt B K_X12_needRange [.int x2, .int x3] s_1) (fun s_2 => eA (gA tb_ct s_2 a0 10 0) (none) (fun b_3 => eA (gA tb_ct s_2 b_3 7 0) (none) (fun b_4 => eC (am_cls s_2 b_4) 3 (cA (cl_ tb_ct tb_mt B K_X4_find [.ref b_4, .int x1] s_2) (fun s_5 => some (.inl (some (.int (-(1 : Int32)))), s_5)) (fun b_6 s_5 => eC (am_cls s_5 b_6) 2 (cI (cl_ tb_ct tb_mt B K_X3_isIn [.ref b_6, .int x2, .int x3] s_5) (fun x_8 s_7 => if x_8 = 0 then some (.inl (some (.int (-(1 : Int32)))), s_7) else rn_ tb_ct tb_mt B mm_X12_place 45 [.ref a0, .int x1, .int x2, .int x3, .ref b_6, .int (0 : Int32), .int (0 : Int32), am_un] [] s_7) xo)) xo)))) xo) xo := by
  refine Eq.trans (rn_go 1 (pc' := 1) (L' := [.ref a0, .int x1, .int x2, .int x3, am_un, am_un, am_un, am_un]) (st' := [.int x1]) rfl) ?_
  refine Eq.trans (rn_sta (L' := [.ref a0, .int x1, .int x2, .int x3, am_un, am_un, am_un, am_un]) (as := [.int x1]) (rest := []) rfl rfl rfl rfl rfl (Nat.le_of_ble_eq_true rfl) (by decide) rfl) ?_
  refine Eq.trans (cW_V rfl rfl) ?_
  refine cV_c (fun s_1 => ?_) (xh_nil rfl)
  refine Eq.trans (rn_go 2 (pc' := 6) (L' := [.ref a0, .int x1, .int x2, .int x3, am_un, am_un, am_un, am_un]) (st' := [.int x3, .int x2]) rfl) ?_
  refine Eq.trans (rn_sta (L' := [.ref a0, .int x1, .int x2, .int x3, am_un, am_un, am_un, am_un]) (as := [.int x2, .int x3]) (rest := []) rfl rfl rfl rfl rfl (Nat.le_of_ble_eq_true rfl) (by decide) rfl) ?_
  refine Eq.trans (cW_V rfl rfl) ?_
  refine cV_c (fun s_2 => ?_) (xh_nil rfl)
  refine Eq.trans (rn_go 1 (pc' := 10) (L' := [.ref a0, .int x1, .int x2, .int x3, am_un, am_un, am_un, am_un]) (st' := [.ref a0]) rfl) ?_
  refine Eq.trans (rn_gA (L' := [.ref a0, .int x1, .int x2, .int x3, am_un, am_un, am_un, am_un]) rfl rfl rfl rfl) ?_
  refine eA_c ?_ (fun b_3 => ?_)
  · exact rn_z rfl rfl
  · refine Eq.trans (rn_gA (L' := [.ref a0, .int x1, .int x2, .int x3, am_un, am_un, am_un, am_un]) rfl rfl rfl rfl) ?_
    refine eA_c ?_ (fun b_4 => ?_)
    · refine Eq.trans (rn_go 1 (pc' := 17) (L' := [.ref a0, .int x1, .int x2, .int x3, am_un, am_un, am_un, am_un]) (st' := [.int x1, .null]) rfl) ?_
      exact rn_z rfl rfl
    · refine Eq.trans (rn_go 1 (pc' := 17) (L' := [.ref a0, .int x1, .int x2, .int x3, am_un, am_un, am_un, am_un]) (st' := [.int x1, .ref b_4]) rfl) ?_
      refine Eq.trans (rn_vir (L' := [.ref a0, .int x1, .int x2, .int x3, am_un, am_un, am_un, am_un]) (as := [.int x1]) (rest := []) rfl rfl rfl rfl rfl (Nat.le_of_ble_eq_true rfl) (by decide) (by decide)) ?_
      refine eC_c ?_
      refine Eq.trans (cW_A rfl rfl rfl) ?_
      refine cA_c (fun s_5 => ?_) (fun b_6 s_5 => ?_) (xh_nil rfl)
      · refine Eq.trans (rn_go 4 (pc' := 38) (L' := [.ref a0, .int x1, .int x2, .int x3, .null, am_un, am_un, am_un]) (st' := [.int (-(1 : Int32))]) rfl) ?_
        exact rn_retI rfl rfl rfl
      · refine Eq.trans (rn_go 6 (pc' := 31) (L' := [.ref a0, .int x1, .int x2, .int x3, .ref b_6, am_un, am_un, am_un]) (st' := [.int x3, .int x2, .ref b_6]) rfl) ?_
        refine Eq.trans (rn_vir (L' := [.ref a0, .int x1, .int x2, .int x3, .ref b_6, am_un, am_un, am_un]) (as := [.int x2, .int x3]) (rest := []) rfl rfl rfl rfl rfl (Nat.le_of_ble_eq_true rfl) (by decide) (by decide)) ?_
        refine eC_c ?_
        refine Eq.trans (cW_I rfl rfl rfl) ?_
        refine cI_c (fun x_8 s_7 => ?_) (xh_nil rfl)
        refine Eq.trans (rn_ifne (L' := [.ref a0, .int x1, .int x2, .int x3, .ref b_6, am_un, am_un, am_un]) rfl rfl) ?_
        refine if_c ?_ ?_
        · refine Eq.trans (rn_go 1 (pc' := 38) (L' := [.ref a0, .int x1, .int x2, .int x3, .ref b_6, am_un, am_un, am_un]) (st' := [.int (-(1 : Int32))]) rfl) ?_
          exact rn_retI rfl rfl rfl
        · exact rn_go 4 (pc' := 45) (L' := [.ref a0, .int x1, .int x2, .int x3, .ref b_6, .int (0 : Int32), .int (0 : Int32), am_un]) (st' := []) rfl
theorem dc_X12_place_45 {B : Nat} (a0 : Nat) (w1 : Value) (x2 : Int32) (x3 : Int32) (a4 : Nat) (x5 : Int32) (x6 : Int32) (s : am_S) : rn_ tb_ct tb_mt B mm_X12_place 45 [.ref a0, w1, .int x2, .int x3, .ref a4, .int x5, .int x6, am_un] [] s = eA (gA tb_ct s a0 10 0) (none) (fun b_1 => eA (gA tb_ct s b_1 7 0) (none) (fun b_2 => eI (gI tb_ct s b_2 3 1) (fun x_3 => if x_3 ≤ x6 then some (.inl (some (.int x5)), s) else eA (gA tb_ct s a0 10 0) (none) (fun b_4 => eA (gA tb_ct s b_4 7 0) (none) (fun b_5 => eC (am_cls s b_5) 3 (cA (cl_ tb_ct tb_mt B K_X4_at [.ref b_5, .int x6] s) (fun s_6 => rn_ tb_ct tb_mt B mm_X12_place 102 [.ref a0, am_un, .int x2, .int x3, .ref a4, .int x5, .int x6, va_rf none] [] s_6) (fun b_7 s_6 => eC (am_cls s_6 b_7) 2 (cI (cl_ tb_ct tb_mt B K_X3_isIn [.ref b_7, .int x2, .int x3] s_6) (fun x_9 s_8 => if x_9 = 0 then rn_ tb_ct tb_mt B mm_X12_place 102 [.ref a0, am_un, .int x2, .int x3, .ref a4, .int x5, .int x6, va_rf (some b_7)] [] s_8 else eC (am_cls s_8 b_7) 2 (cI (cl_ tb_ct tb_mt B K_X3_cameBefore [.ref b_7, .ref a4] s_8) (fun x_11 s_10 => if x_11 = 0 then rn_ tb_ct tb_mt B mm_X12_place 102 [.ref a0, am_un, .int x2, .int x3, .ref a4, .int x5, .int x6, va_rf (some b_7)] [] s_10 else rn_ tb_ct tb_mt B mm_X12_place 102 [.ref a0, am_un, .int x2, .int x3, .ref a4, .int (x5 + (1 : Int32)), .int x6, va_rf (some b_7)] [] s_10) xo)) xo)) xo)))))) := by
  refine Eq.trans (rn_go 2 (pc' := 48) (L' := [.ref a0, am_un, .int x2, .int x3, .ref a4, .int x5, .int x6, am_un]) (st' := [.ref a0, .int x6]) rfl) ?_
  refine Eq.trans (rn_gA (L' := [.ref a0, am_un, .int x2, .int x3, .ref a4, .int x5, .int x6, am_un]) rfl rfl rfl rfl) ?_
  refine eA_c ?_ (fun b_1 => ?_)
  · exact rn_z rfl rfl
  · refine Eq.trans (rn_gA (L' := [.ref a0, am_un, .int x2, .int x3, .ref a4, .int x5, .int x6, am_un]) rfl rfl rfl rfl) ?_
    refine eA_c ?_ (fun b_2 => ?_)
    · exact rn_z rfl rfl
    · refine Eq.trans (rn_gI (L' := [.ref a0, am_un, .int x2, .int x3, .ref a4, .int x5, .int x6, am_un]) rfl rfl rfl rfl) ?_
      refine eI_c (fun x_3 => ?_)
      refine Eq.trans (rn_icge (L' := [.ref a0, am_un, .int x2, .int x3, .ref a4, .int x5, .int x6, am_un]) rfl rfl) ?_
      refine if_c ?_ ?_
      · refine Eq.trans (rn_go 1 (pc' := 110) (L' := [.ref a0, am_un, .int x2, .int x3, .ref a4, .int x5, .int x6, am_un]) (st' := [.int x5]) rfl) ?_
        exact rn_retI rfl rfl rfl
      · refine Eq.trans (rn_go 1 (pc' := 61) (L' := [.ref a0, am_un, .int x2, .int x3, .ref a4, .int x5, .int x6, am_un]) (st' := [.ref a0]) rfl) ?_
        refine Eq.trans (rn_gA (L' := [.ref a0, am_un, .int x2, .int x3, .ref a4, .int x5, .int x6, am_un]) rfl rfl rfl rfl) ?_
        refine eA_c ?_ (fun b_4 => ?_)
        · exact rn_z rfl rfl
        · refine Eq.trans (rn_gA (L' := [.ref a0, am_un, .int x2, .int x3, .ref a4, .int x5, .int x6, am_un]) rfl rfl rfl rfl) ?_
          refine eA_c ?_ (fun b_5 => ?_)
          · refine Eq.trans (rn_go 1 (pc' := 69) (L' := [.ref a0, am_un, .int x2, .int x3, .ref a4, .int x5, .int x6, am_un]) (st' := [.int x6, .null]) rfl) ?_
            exact rn_z rfl rfl
          · refine Eq.trans (rn_go 1 (pc' := 69) (L' := [.ref a0, am_un, .int x2, .int x3, .ref a4, .int x5, .int x6, am_un]) (st' := [.int x6, .ref b_5]) rfl) ?_
            refine Eq.trans (rn_vir (L' := [.ref a0, am_un, .int x2, .int x3, .ref a4, .int x5, .int x6, am_un]) (as := [.int x6]) (rest := []) rfl rfl rfl rfl rfl (Nat.le_of_ble_eq_true rfl) (by decide) (by decide)) ?_
            refine eC_c ?_
            refine Eq.trans (cW_A rfl rfl rfl) ?_
            refine cA_c (fun s_6 => ?_) (fun b_7 s_6 => ?_) (xh_nil rfl)
            · exact rn_go 3 (pc' := 102) (L' := [.ref a0, am_un, .int x2, .int x3, .ref a4, .int x5, .int x6, va_rf none]) (st' := []) rfl
            · refine Eq.trans (rn_go 6 (pc' := 83) (L' := [.ref a0, am_un, .int x2, .int x3, .ref a4, .int x5, .int x6, .ref b_7]) (st' := [.int x3, .int x2, .ref b_7]) rfl) ?_
              refine Eq.trans (rn_vir (L' := [.ref a0, am_un, .int x2, .int x3, .ref a4, .int x5, .int x6, .ref b_7]) (as := [.int x2, .int x3]) (rest := []) rfl rfl rfl rfl rfl (Nat.le_of_ble_eq_true rfl) (by decide) (by decide)) ?_
              refine eC_c ?_
              refine Eq.trans (cW_I rfl rfl rfl) ?_
              refine cI_c (fun x_9 s_8 => ?_) (xh_nil rfl)
              refine Eq.trans (rn_ifeq (L' := [.ref a0, am_un, .int x2, .int x3, .ref a4, .int x5, .int x6, .ref b_7]) rfl rfl) ?_
              refine if_c ?_ ?_
              · rfl
              · refine Eq.trans (rn_go 2 (pc' := 93) (L' := [.ref a0, am_un, .int x2, .int x3, .ref a4, .int x5, .int x6, .ref b_7]) (st' := [.ref a4, .ref b_7]) rfl) ?_
                refine Eq.trans (rn_vir (L' := [.ref a0, am_un, .int x2, .int x3, .ref a4, .int x5, .int x6, .ref b_7]) (as := [.ref a4]) (rest := []) rfl rfl rfl rfl rfl (Nat.le_of_ble_eq_true rfl) (by decide) (by decide)) ?_
                refine eC_c ?_
                refine Eq.trans (cW_I rfl rfl rfl) ?_
                refine cI_c (fun x_11 s_10 => ?_) (xh_nil rfl)
                refine Eq.trans (rn_ifeq (L' := [.ref a0, am_un, .int x2, .int x3, .ref a4, .int x5, .int x6, .ref b_7]) rfl rfl) ?_
                refine if_c ?_ ?_
                · rfl
                · exact rn_go 1 (pc' := 102) (L' := [.ref a0, am_un, .int x2, .int x3, .ref a4, .int (x5 + (1 : Int32)), .int x6, va_rf (some b_7)]) (st' := []) rfl
theorem dc_X12_place_102 {B : Nat} (a0 : Nat) (x2 : Int32) (x3 : Int32) (a4 : Nat) (x5 : Int32) (x6 : Int32) (w7 : Value) (s : am_S) : rn_ tb_ct tb_mt B mm_X12_place 102 [.ref a0, am_un, .int x2, .int x3, .ref a4, .int x5, .int x6, w7] [] s = rn_ tb_ct tb_mt B mm_X12_place 45 [.ref a0, am_un, .int x2, .int x3, .ref a4, .int x5, .int (x6 + (1 : Int32)), am_un] [] s := by
  exact rn_go 2 (pc' := 45) (L' := [.ref a0, am_un, .int x2, .int x3, .ref a4, .int x5, .int (x6 + (1 : Int32)), am_un]) (st' := []) rfl
theorem in_X12_put {B : Nat} (a0 : Nat) (x1 : Int32) (x2 : Int32) (x3 : Int32) (s : am_S) : cl_ tb_ct tb_mt B K_X12_put [.ref a0, .int x1, .int x2, .int x3] s = rn_ tb_ct tb_mt B mm_X12_put 0 [.ref a0, .int x1, .int x2, .int x3] [] s := cl_in rfl rfl rfl rfl
theorem dc_X12_put_0 {B : Nat} (a0 : Nat) (x1 : Int32) (x2 : Int32) (x3 : Int32) (s : am_S) : rn_ tb_ct tb_mt B mm_X12_put 0 [.ref a0, .int x1, .int x2, .int x3] [] s = cV (cl_ tb_ct tb_mt B K_X12_needKey [.int x1] s) (fun s_1 => cI (cl_ tb_ct tb_mt B K_X12_isValue [.int x2] s_1) (fun x_3 s_2 => cV (cl_ tb_ct tb_mt B K_X12_need [.int x_3] s_2) (fun s_4 => if x3 < 0 then rn_ tb_ct tb_mt B mm_X12_put 20 [.ref a0, .int x1, .int x2, .int x3] [.int (0 : Int32)] s_4 else rn_ tb_ct tb_mt B mm_X12_put 20 [.ref a0, .int x1, .int x2, .int x3] [.int (1 : Int32)] s_4) xo) xo) xo := by
  refine Eq.trans (rn_go 1 (pc' := 1) (L' := [.ref a0, .int x1, .int x2, .int x3]) (st' := [.int x1]) rfl) ?_
  refine Eq.trans (rn_sta (L' := [.ref a0, .int x1, .int x2, .int x3]) (as := [.int x1]) (rest := []) rfl rfl rfl rfl rfl (Nat.le_of_ble_eq_true rfl) (by decide) rfl) ?_
  refine Eq.trans (cW_V rfl rfl) ?_
  refine cV_c (fun s_1 => ?_) (xh_nil rfl)
  refine Eq.trans (rn_go 1 (pc' := 5) (L' := [.ref a0, .int x1, .int x2, .int x3]) (st' := [.int x2]) rfl) ?_
  refine Eq.trans (rn_sta (L' := [.ref a0, .int x1, .int x2, .int x3]) (as := [.int x2]) (rest := []) rfl rfl rfl rfl rfl (Nat.le_of_ble_eq_true rfl) (by decide) rfl) ?_
  refine Eq.trans (cW_I rfl rfl rfl) ?_
  refine cI_c (fun x_3 s_2 => ?_) (xh_nil rfl)
  refine Eq.trans (rn_sta (L' := [.ref a0, .int x1, .int x2, .int x3]) (as := [.int x_3]) (rest := []) rfl rfl rfl rfl rfl (Nat.le_of_ble_eq_true rfl) (by decide) rfl) ?_
  refine Eq.trans (cW_V rfl rfl) ?_
  refine cV_c (fun s_4 => ?_) (xh_nil rfl)
  refine Eq.trans (rn_go 1 (pc' := 12) (L' := [.ref a0, .int x1, .int x2, .int x3]) (st' := [.int x3]) rfl) ?_
  refine Eq.trans (rn_iflt (L' := [.ref a0, .int x1, .int x2, .int x3]) rfl rfl) ?_
  refine if_c ?_ ?_
  · exact rn_go 1 (pc' := 20) (L' := [.ref a0, .int x1, .int x2, .int x3]) (st' := [.int (0 : Int32)]) rfl
  · exact rn_go 2 (pc' := 20) (L' := [.ref a0, .int x1, .int x2, .int x3]) (st' := [.int (1 : Int32)]) rfl
theorem dc_X12_put_20 {B : Nat} (a0 : Nat) (x1 : Int32) (x2 : Int32) (x3 : Int32) (xs0 : Int32) (s : am_S) : rn_ tb_ct tb_mt B mm_X12_put 20 [.ref a0, .int x1, .int x2, .int x3] [.int xs0] s = cV (cl_ tb_ct tb_mt B K_X12_need [.int xs0] s) (fun s_1 => eA (gA tb_ct s_1 a0 10 0) (none) (fun b_2 => eC (am_cls s_1 b_2) 7 (cI (cl_ tb_ct tb_mt B K_X8_putKey [.ref b_2, .int x1, .int x2, .int x3] s_1) (fun x_4 s_3 => some (.inl (some (.int x_4)), s_3)) xo))) xo := by
  refine Eq.trans (rn_sta (L' := [.ref a0, .int x1, .int x2, .int x3]) (as := [.int xs0]) (rest := []) rfl rfl rfl rfl rfl (Nat.le_of_ble_eq_true rfl) (by decide) rfl) ?_
  refine Eq.trans (cW_V rfl rfl) ?_
  refine cV_c (fun s_1 => ?_) (xh_nil rfl)
  refine Eq.trans (rn_go 1 (pc' := 24) (L' := [.ref a0, .int x1, .int x2, .int x3]) (st' := [.ref a0]) rfl) ?_
  refine Eq.trans (rn_gA (L' := [.ref a0, .int x1, .int x2, .int x3]) rfl rfl rfl rfl) ?_
  refine eA_c ?_ (fun b_2 => ?_)
  · refine Eq.trans (rn_go 3 (pc' := 30) (L' := [.ref a0, .int x1, .int x2, .int x3]) (st' := [.int x3, .int x2, .int x1, .null]) rfl) ?_
    exact rn_z rfl rfl
  · refine Eq.trans (rn_go 3 (pc' := 30) (L' := [.ref a0, .int x1, .int x2, .int x3]) (st' := [.int x3, .int x2, .int x1, .ref b_2]) rfl) ?_
    refine Eq.trans (rn_vir (L' := [.ref a0, .int x1, .int x2, .int x3]) (as := [.int x1, .int x2, .int x3]) (rest := []) rfl rfl rfl rfl rfl (Nat.le_of_ble_eq_true rfl) (by decide) (by decide)) ?_
    refine eC_c ?_
    refine Eq.trans (cW_I rfl rfl rfl) ?_
    refine cI_c (fun x_4 s_3 => ?_) (xh_nil rfl)
    exact rn_retI rfl rfl rfl
theorem in_X12_delete {B : Nat} (a0 : Nat) (x1 : Int32) (x2 : Int32) (s : am_S) : cl_ tb_ct tb_mt B K_X12_delete [.ref a0, .int x1, .int x2] s = rn_ tb_ct tb_mt B mm_X12_delete 0 [.ref a0, .int x1, .int x2] [] s := cl_in rfl rfl rfl rfl
theorem dc_X12_delete_0 {B : Nat} (a0 : Nat) (x1 : Int32) (x2 : Int32) (s : am_S) : rn_ tb_ct tb_mt B mm_X12_delete 0 [.ref a0, .int x1, .int x2] [] s = cV (cl_ tb_ct tb_mt B K_X12_needRange [.int x1, .int x2] s) (fun s_1 => eA (gA tb_ct s_1 a0 10 0) (none) (fun b_2 => eC (am_cls s_1 b_2) 7 (cI (cl_ tb_ct tb_mt B K_X8_deleteRange [.ref b_2, .int x1, .int x2] s_1) (fun x_4 s_3 => some (.inl (some (.int x_4)), s_3)) xo))) xo := by
  refine Eq.trans (rn_go 2 (pc' := 2) (L' := [.ref a0, .int x1, .int x2]) (st' := [.int x2, .int x1]) rfl) ?_
  refine Eq.trans (rn_sta (L' := [.ref a0, .int x1, .int x2]) (as := [.int x1, .int x2]) (rest := []) rfl rfl rfl rfl rfl (Nat.le_of_ble_eq_true rfl) (by decide) rfl) ?_
  refine Eq.trans (cW_V rfl rfl) ?_
  refine cV_c (fun s_1 => ?_) (xh_nil rfl)
  refine Eq.trans (rn_go 1 (pc' := 6) (L' := [.ref a0, .int x1, .int x2]) (st' := [.ref a0]) rfl) ?_
  refine Eq.trans (rn_gA (L' := [.ref a0, .int x1, .int x2]) rfl rfl rfl rfl) ?_
  refine eA_c ?_ (fun b_2 => ?_)
  · refine Eq.trans (rn_go 2 (pc' := 11) (L' := [.ref a0, .int x1, .int x2]) (st' := [.int x2, .int x1, .null]) rfl) ?_
    exact rn_z rfl rfl
  · refine Eq.trans (rn_go 2 (pc' := 11) (L' := [.ref a0, .int x1, .int x2]) (st' := [.int x2, .int x1, .ref b_2]) rfl) ?_
    refine Eq.trans (rn_vir (L' := [.ref a0, .int x1, .int x2]) (as := [.int x1, .int x2]) (rest := []) rfl rfl rfl rfl rfl (Nat.le_of_ble_eq_true rfl) (by decide) (by decide)) ?_
    refine eC_c ?_
    refine Eq.trans (cW_I rfl rfl rfl) ?_
    refine cI_c (fun x_4 s_3 => ?_) (xh_nil rfl)
    exact rn_retI rfl rfl rfl
theorem in_X12_compact {B : Nat} (a0 : Nat) (x1 : Int32) (s : am_S) : cl_ tb_ct tb_mt B K_X12_compact [.ref a0, .int x1] s = rn_ tb_ct tb_mt B mm_X12_compact 0 [.ref a0, .int x1] [] s := cl_in rfl rfl rfl rfl
theorem dc_X12_compact_0 {B : Nat} (a0 : Nat) (x1 : Int32) (s : am_S) : rn_ tb_ct tb_mt B mm_X12_compact 0 [.ref a0, .int x1] [] s = if x1 < (1 : Int32) then rn_ tb_ct tb_mt B mm_X12_compact 10 [.ref a0, .int x1] [.int (0 : Int32)] s else rn_ tb_ct tb_mt B mm_X12_compact 10 [.ref a0, .int x1] [.int (1 : Int32)] s := by
  refine Eq.trans (rn_go 2 (pc' := 2) (L' := [.ref a0, .int x1]) (st' := [.int (1 : Int32), .int x1]) rfl) ?_
  refine Eq.trans (rn_iclt (L' := [.ref a0, .int x1]) rfl rfl) ?_
  refine if_c ?_ ?_
  · exact rn_go 1 (pc' := 10) (L' := [.ref a0, .int x1]) (st' := [.int (0 : Int32)]) rfl
  · exact rn_go 2 (pc' := 10) (L' := [.ref a0, .int x1]) (st' := [.int (1 : Int32)]) rfl
theorem dc_X12_compact_10 {B : Nat} (a0 : Nat) (x1 : Int32) (xs0 : Int32) (s : am_S) : rn_ tb_ct tb_mt B mm_X12_compact 10 [.ref a0, .int x1] [.int xs0] s = cV (cl_ tb_ct tb_mt B K_X12_need [.int xs0] s) (fun s_1 => eA (gA tb_ct s_1 a0 10 0) (none) (fun b_2 => eC (am_cls s_1 b_2) 7 (cI (cl_ tb_ct tb_mt B K_X8_compactFor [.ref b_2, .int x1] s_1) (fun x_4 s_3 => some (.inl (some (.int x_4)), s_3)) xo))) xo := by
  refine Eq.trans (rn_sta (L' := [.ref a0, .int x1]) (as := [.int xs0]) (rest := []) rfl rfl rfl rfl rfl (Nat.le_of_ble_eq_true rfl) (by decide) rfl) ?_
  refine Eq.trans (cW_V rfl rfl) ?_
  refine cV_c (fun s_1 => ?_) (xh_nil rfl)
  refine Eq.trans (rn_go 1 (pc' := 14) (L' := [.ref a0, .int x1]) (st' := [.ref a0]) rfl) ?_
  refine Eq.trans (rn_gA (L' := [.ref a0, .int x1]) rfl rfl rfl rfl) ?_
  refine eA_c ?_ (fun b_2 => ?_)
  · refine Eq.trans (rn_go 1 (pc' := 18) (L' := [.ref a0, .int x1]) (st' := [.int x1, .null]) rfl) ?_
    exact rn_z rfl rfl
  · refine Eq.trans (rn_go 1 (pc' := 18) (L' := [.ref a0, .int x1]) (st' := [.int x1, .ref b_2]) rfl) ?_
    refine Eq.trans (rn_vir (L' := [.ref a0, .int x1]) (as := [.int x1]) (rest := []) rfl rfl rfl rfl rfl (Nat.le_of_ble_eq_true rfl) (by decide) (by decide)) ?_
    refine eC_c ?_
    refine Eq.trans (cW_I rfl rfl rfl) ?_
    refine cI_c (fun x_4 s_3 => ?_) (xh_nil rfl)
    exact rn_retI rfl rfl rfl
theorem in_X12_revert {B : Nat} (a0 : Nat) (x1 : Int32) (s : am_S) : cl_ tb_ct tb_mt B K_X12_revert [.ref a0, .int x1] s = rn_ tb_ct tb_mt B mm_X12_revert 0 [.ref a0, .int x1] [] s := cl_in rfl rfl rfl rfl
theorem dc_X12_revert_0 {B : Nat} (a0 : Nat) (x1 : Int32) (s : am_S) : rn_ tb_ct tb_mt B mm_X12_revert 0 [.ref a0, .int x1] [] s = if x1 < (1 : Int32) then rn_ tb_ct tb_mt B mm_X12_revert 10 [.ref a0, .int x1] [.int (0 : Int32)] s else rn_ tb_ct tb_mt B mm_X12_revert 10 [.ref a0, .int x1] [.int (1 : Int32)] s := by
  refine Eq.trans (rn_go 2 (pc' := 2) (L' := [.ref a0, .int x1]) (st' := [.int (1 : Int32), .int x1]) rfl) ?_
  refine Eq.trans (rn_iclt (L' := [.ref a0, .int x1]) rfl rfl) ?_
  refine if_c ?_ ?_
  · exact rn_go 1 (pc' := 10) (L' := [.ref a0, .int x1]) (st' := [.int (0 : Int32)]) rfl
  · exact rn_go 2 (pc' := 10) (L' := [.ref a0, .int x1]) (st' := [.int (1 : Int32)]) rfl
theorem dc_X12_revert_10 {B : Nat} (a0 : Nat) (x1 : Int32) (xs0 : Int32) (s : am_S) : rn_ tb_ct tb_mt B mm_X12_revert 10 [.ref a0, .int x1] [.int xs0] s = cV (cl_ tb_ct tb_mt B K_X12_need [.int xs0] s) (fun s_1 => eA (gA tb_ct s_1 a0 10 0) (eA (gA tb_ct s_1 a0 10 5) (none) (fun b_3 => none)) (fun b_2 => eA (gA tb_ct s_1 a0 10 5) (eC (am_cls s_1 b_2) 7 (cI (cl_ tb_ct tb_mt B K_X8_revertTo [.ref b_2, .int x1, .null] s_1) (fun x_6 s_5 => some (.inl (some (.int x_6)), s_5)) xo)) (fun b_4 => eC (am_cls s_1 b_2) 7 (cI (cl_ tb_ct tb_mt B K_X8_revertTo [.ref b_2, .int x1, .ref b_4] s_1) (fun x_8 s_7 => some (.inl (some (.int x_8)), s_7)) xo)))) xo := by
  refine Eq.trans (rn_sta (L' := [.ref a0, .int x1]) (as := [.int xs0]) (rest := []) rfl rfl rfl rfl rfl (Nat.le_of_ble_eq_true rfl) (by decide) rfl) ?_
  refine Eq.trans (cW_V rfl rfl) ?_
  refine cV_c (fun s_1 => ?_) (xh_nil rfl)
  refine Eq.trans (rn_go 1 (pc' := 14) (L' := [.ref a0, .int x1]) (st' := [.ref a0]) rfl) ?_
  refine Eq.trans (rn_gA (L' := [.ref a0, .int x1]) rfl rfl rfl rfl) ?_
  refine eA_c ?_ (fun b_2 => ?_)
  · refine Eq.trans (rn_go 2 (pc' := 19) (L' := [.ref a0, .int x1]) (st' := [.ref a0, .int x1, .null]) rfl) ?_
    refine Eq.trans (rn_gA (L' := [.ref a0, .int x1]) rfl rfl rfl rfl) ?_
    refine eA_c ?_ (fun b_3 => ?_)
    · exact rn_z rfl rfl
    · exact rn_z rfl rfl
  · refine Eq.trans (rn_go 2 (pc' := 19) (L' := [.ref a0, .int x1]) (st' := [.ref a0, .int x1, .ref b_2]) rfl) ?_
    refine Eq.trans (rn_gA (L' := [.ref a0, .int x1]) rfl rfl rfl rfl) ?_
    refine eA_c ?_ (fun b_4 => ?_)
    · refine Eq.trans (rn_vir (L' := [.ref a0, .int x1]) (as := [.int x1, .null]) (rest := []) rfl rfl rfl rfl rfl (Nat.le_of_ble_eq_true rfl) (by decide) (by decide)) ?_
      refine eC_c ?_
      refine Eq.trans (cW_I rfl rfl rfl) ?_
      refine cI_c (fun x_6 s_5 => ?_) (xh_nil rfl)
      exact rn_retI rfl rfl rfl
    · refine Eq.trans (rn_vir (L' := [.ref a0, .int x1]) (as := [.int x1, .ref b_4]) (rest := []) rfl rfl rfl rfl rfl (Nat.le_of_ble_eq_true rfl) (by decide) (by decide)) ?_
      refine eC_c ?_
      refine Eq.trans (cW_I rfl rfl rfl) ?_
      refine cI_c (fun x_8 s_7 => ?_) (xh_nil rfl)
      exact rn_retI rfl rfl rfl
theorem in_X12_attach {B : Nat} (a0 : Nat) (x1 : Int32) (x2 : Int32) (s : am_S) : cl_ tb_ct tb_mt B K_X12_attach [.ref a0, .int x1, .int x2] s = rn_ tb_ct tb_mt B mm_X12_attach 0 [.ref a0, .int x1, .int x2] [] s := cl_in rfl rfl rfl rfl
theorem dc_X12_attach_0 {B : Nat} (a0 : Nat) (x1 : Int32) (x2 : Int32) (s : am_S) : rn_ tb_ct tb_mt B mm_X12_attach 0 [.ref a0, .int x1, .int x2] [] s = cV (cl_ tb_ct tb_mt B K_X12_needKey [.int x1] s) (fun s_1 => if x2 < 0 then rn_ tb_ct tb_mt B mm_X12_attach 13 [.ref a0, .int x1, .int x2] [.int (0 : Int32)] s_1 else rn_ tb_ct tb_mt B mm_X12_attach 13 [.ref a0, .int x1, .int x2] [.int (1 : Int32)] s_1) xo := by
  refine Eq.trans (rn_go 1 (pc' := 1) (L' := [.ref a0, .int x1, .int x2]) (st' := [.int x1]) rfl) ?_
  refine Eq.trans (rn_sta (L' := [.ref a0, .int x1, .int x2]) (as := [.int x1]) (rest := []) rfl rfl rfl rfl rfl (Nat.le_of_ble_eq_true rfl) (by decide) rfl) ?_
  refine Eq.trans (cW_V rfl rfl) ?_
  refine cV_c (fun s_1 => ?_) (xh_nil rfl)
  refine Eq.trans (rn_go 1 (pc' := 5) (L' := [.ref a0, .int x1, .int x2]) (st' := [.int x2]) rfl) ?_
  refine Eq.trans (rn_iflt (L' := [.ref a0, .int x1, .int x2]) rfl rfl) ?_
  refine if_c ?_ ?_
  · exact rn_go 1 (pc' := 13) (L' := [.ref a0, .int x1, .int x2]) (st' := [.int (0 : Int32)]) rfl
  · exact rn_go 2 (pc' := 13) (L' := [.ref a0, .int x1, .int x2]) (st' := [.int (1 : Int32)]) rfl
theorem dc_X12_attach_13 {B : Nat} (a0 : Nat) (x1 : Int32) (x2 : Int32) (xs0 : Int32) (s : am_S) : rn_ tb_ct tb_mt B mm_X12_attach 13 [.ref a0, .int x1, .int x2] [.int xs0] s = cV (cl_ tb_ct tb_mt B K_X12_need [.int xs0] s) (fun s_1 => eA (gA tb_ct s_1 a0 10 0) (none) (fun b_2 => eC (am_cls s_1 b_2) 7 (cI (cl_ tb_ct tb_mt B K_X8_attachKey [.ref b_2, .int x1, .int x2] s_1) (fun x_4 s_3 => some (.inl (some (.int x_4)), s_3)) xo))) xo := by
  refine Eq.trans (rn_sta (L' := [.ref a0, .int x1, .int x2]) (as := [.int xs0]) (rest := []) rfl rfl rfl rfl rfl (Nat.le_of_ble_eq_true rfl) (by decide) rfl) ?_
  refine Eq.trans (cW_V rfl rfl) ?_
  refine cV_c (fun s_1 => ?_) (xh_nil rfl)
  refine Eq.trans (rn_go 1 (pc' := 17) (L' := [.ref a0, .int x1, .int x2]) (st' := [.ref a0]) rfl) ?_
  refine Eq.trans (rn_gA (L' := [.ref a0, .int x1, .int x2]) rfl rfl rfl rfl) ?_
  refine eA_c ?_ (fun b_2 => ?_)
  · refine Eq.trans (rn_go 2 (pc' := 22) (L' := [.ref a0, .int x1, .int x2]) (st' := [.int x2, .int x1, .null]) rfl) ?_
    exact rn_z rfl rfl
  · refine Eq.trans (rn_go 2 (pc' := 22) (L' := [.ref a0, .int x1, .int x2]) (st' := [.int x2, .int x1, .ref b_2]) rfl) ?_
    refine Eq.trans (rn_vir (L' := [.ref a0, .int x1, .int x2]) (as := [.int x1, .int x2]) (rest := []) rfl rfl rfl rfl rfl (Nat.le_of_ble_eq_true rfl) (by decide) (by decide)) ?_
    refine eC_c ?_
    refine Eq.trans (cW_I rfl rfl rfl) ?_
    refine cI_c (fun x_4 s_3 => ?_) (xh_nil rfl)
    exact rn_retI rfl rfl rfl
theorem in_X12_watch {B : Nat} (a0 : Nat) (x1 : Int32) (x2 : Int32) (x3 : Int32) (x4 : Int32) (s : am_S) : cl_ tb_ct tb_mt B K_X12_watch [.ref a0, .int x1, .int x2, .int x3, .int x4] s = rn_ tb_ct tb_mt B mm_X12_watch 0 [.ref a0, .int x1, .int x2, .int x3, .int x4] [] s := cl_in rfl rfl rfl rfl
theorem dc_X12_watch_0 {B : Nat} (a0 : Nat) (x1 : Int32) (x2 : Int32) (x3 : Int32) (x4 : Int32) (s : am_S) : rn_ tb_ct tb_mt B mm_X12_watch 0 [.ref a0, .int x1, .int x2, .int x3, .int x4] [] s = cV (cl_ tb_ct tb_mt B K_X12_needRange [.int x1, .int x2] s) (fun s_1 => if x3 < 0 then rn_ tb_ct tb_mt B mm_X12_watch 14 [.ref a0, .int x1, .int x2, .int x3, .int x4] [.int (0 : Int32)] s_1 else rn_ tb_ct tb_mt B mm_X12_watch 14 [.ref a0, .int x1, .int x2, .int x3, .int x4] [.int (1 : Int32)] s_1) xo := by
  refine Eq.trans (rn_go 2 (pc' := 2) (L' := [.ref a0, .int x1, .int x2, .int x3, .int x4]) (st' := [.int x2, .int x1]) rfl) ?_
  refine Eq.trans (rn_sta (L' := [.ref a0, .int x1, .int x2, .int x3, .int x4]) (as := [.int x1, .int x2]) (rest := []) rfl rfl rfl rfl rfl (Nat.le_of_ble_eq_true rfl) (by decide) rfl) ?_
  refine Eq.trans (cW_V rfl rfl) ?_
  refine cV_c (fun s_1 => ?_) (xh_nil rfl)
  refine Eq.trans (rn_go 1 (pc' := 6) (L' := [.ref a0, .int x1, .int x2, .int x3, .int x4]) (st' := [.int x3]) rfl) ?_
  refine Eq.trans (rn_iflt (L' := [.ref a0, .int x1, .int x2, .int x3, .int x4]) rfl rfl) ?_
  refine if_c ?_ ?_
  · exact rn_go 1 (pc' := 14) (L' := [.ref a0, .int x1, .int x2, .int x3, .int x4]) (st' := [.int (0 : Int32)]) rfl
  · exact rn_go 2 (pc' := 14) (L' := [.ref a0, .int x1, .int x2, .int x3, .int x4]) (st' := [.int (1 : Int32)]) rfl
theorem dc_X12_watch_14 {B : Nat} (a0 : Nat) (x1 : Int32) (x2 : Int32) (x3 : Int32) (x4 : Int32) (xs0 : Int32) (s : am_S) : rn_ tb_ct tb_mt B mm_X12_watch 14 [.ref a0, .int x1, .int x2, .int x3, .int x4] [.int xs0] s = cV (cl_ tb_ct tb_mt B K_X12_need [.int xs0] s) (fun s_1 => if x4 < 0 then rn_ tb_ct tb_mt B mm_X12_watch 32 [.ref a0, .int x1, .int x2, .int x3, .int x4] [] s_1 else if (2 : Int32) < x4 then rn_ tb_ct tb_mt B mm_X12_watch 32 [.ref a0, .int x1, .int x2, .int x3, .int x4] [] s_1 else rn_ tb_ct tb_mt B mm_X12_watch 33 [.ref a0, .int x1, .int x2, .int x3, .int x4] [.int (1 : Int32)] s_1) xo := by
  refine Eq.trans (rn_sta (L' := [.ref a0, .int x1, .int x2, .int x3, .int x4]) (as := [.int xs0]) (rest := []) rfl rfl rfl rfl rfl (Nat.le_of_ble_eq_true rfl) (by decide) rfl) ?_
  refine Eq.trans (cW_V rfl rfl) ?_
  refine cV_c (fun s_1 => ?_) (xh_nil rfl)
  refine Eq.trans (rn_go 1 (pc' := 19) (L' := [.ref a0, .int x1, .int x2, .int x3, .int x4]) (st' := [.int x4]) rfl) ?_
  refine Eq.trans (rn_iflt (L' := [.ref a0, .int x1, .int x2, .int x3, .int x4]) rfl rfl) ?_
  refine if_c ?_ ?_
  · rfl
  · refine Eq.trans (rn_go 2 (pc' := 25) (L' := [.ref a0, .int x1, .int x2, .int x3, .int x4]) (st' := [.int (2 : Int32), .int x4]) rfl) ?_
    refine Eq.trans (rn_icgt (L' := [.ref a0, .int x1, .int x2, .int x3, .int x4]) rfl rfl) ?_
    refine if_c ?_ ?_
    · rfl
    · exact rn_go 2 (pc' := 33) (L' := [.ref a0, .int x1, .int x2, .int x3, .int x4]) (st' := [.int (1 : Int32)]) rfl
theorem dc_X12_watch_32 {B : Nat} (a0 : Nat) (x1 : Int32) (x2 : Int32) (x3 : Int32) (x4 : Int32) (s : am_S) : rn_ tb_ct tb_mt B mm_X12_watch 32 [.ref a0, .int x1, .int x2, .int x3, .int x4] [] s = rn_ tb_ct tb_mt B mm_X12_watch 33 [.ref a0, .int x1, .int x2, .int x3, .int x4] [.int (0 : Int32)] s := by
  exact rn_go 1 (pc' := 33) (L' := [.ref a0, .int x1, .int x2, .int x3, .int x4]) (st' := [.int (0 : Int32)]) rfl
theorem dc_X12_watch_33 {B : Nat} (a0 : Nat) (x1 : Int32) (x2 : Int32) (x3 : Int32) (x4 : Int32) (xs0 : Int32) (s : am_S) : rn_ tb_ct tb_mt B mm_X12_watch 33 [.ref a0, .int x1, .int x2, .int x3, .int x4] [.int xs0] s = cV (cl_ tb_ct tb_mt B K_X12_need [.int xs0] s) (fun s_1 => eA (gA tb_ct s_1 a0 10 0) (none) (fun b_2 => eC (am_cls s_1 b_2) 7 (cI (cl_ tb_ct tb_mt B K_X8_addWatch [.ref b_2, .int x1, .int x2, .int x3, .int x4] s_1) (fun x_4 s_3 => some (.inl (some (.int x_4)), s_3)) xo))) xo := by
  refine Eq.trans (rn_sta (L' := [.ref a0, .int x1, .int x2, .int x3, .int x4]) (as := [.int xs0]) (rest := []) rfl rfl rfl rfl rfl (Nat.le_of_ble_eq_true rfl) (by decide) rfl) ?_
  refine Eq.trans (cW_V rfl rfl) ?_
  refine cV_c (fun s_1 => ?_) (xh_nil rfl)
  refine Eq.trans (rn_go 1 (pc' := 37) (L' := [.ref a0, .int x1, .int x2, .int x3, .int x4]) (st' := [.ref a0]) rfl) ?_
  refine Eq.trans (rn_gA (L' := [.ref a0, .int x1, .int x2, .int x3, .int x4]) rfl rfl rfl rfl) ?_
  refine eA_c ?_ (fun b_2 => ?_)
  · refine Eq.trans (rn_go 4 (pc' := 45) (L' := [.ref a0, .int x1, .int x2, .int x3, .int x4]) (st' := [.int x4, .int x3, .int x2, .int x1, .null]) rfl) ?_
    exact rn_z rfl rfl
  · refine Eq.trans (rn_go 4 (pc' := 45) (L' := [.ref a0, .int x1, .int x2, .int x3, .int x4]) (st' := [.int x4, .int x3, .int x2, .int x1, .ref b_2]) rfl) ?_
    refine Eq.trans (rn_vir (L' := [.ref a0, .int x1, .int x2, .int x3, .int x4]) (as := [.int x1, .int x2, .int x3, .int x4]) (rest := []) rfl rfl rfl rfl rfl (Nat.le_of_ble_eq_true rfl) (by decide) (by decide)) ?_
    refine eC_c ?_
    refine Eq.trans (cW_I rfl rfl rfl) ?_
    refine cI_c (fun x_4 s_3 => ?_) (xh_nil rfl)
    exact rn_retI rfl rfl rfl
theorem in_X12_watchValue {B : Nat} (a0 : Nat) (x1 : Int32) (x2 : Int32) (s : am_S) : cl_ tb_ct tb_mt B K_X12_watchValue [.ref a0, .int x1, .int x2] s = rn_ tb_ct tb_mt B mm_X12_watchValue 0 [.ref a0, .int x1, .int x2, am_un] [] s := cl_in rfl rfl rfl rfl
theorem dc_X12_watchValue_0 {B : Nat} (a0 : Nat) (x1 : Int32) (x2 : Int32) (s : am_S) : rn_ tb_ct tb_mt B mm_X12_watchValue 0 [.ref a0, .int x1, .int x2, am_un] [] s = eC (am_cls s a0) 10 (cA (cl_ tb_ct tb_mt B K_X12_needWatch [.ref a0, .int x1] s) (fun s_1 => if x2 < 0 then rn_ tb_ct tb_mt B mm_X12_watchValue 20 [.ref a0, .int x1, .int x2, va_rf none] [] s_1 else if (6 : Int32) < x2 then rn_ tb_ct tb_mt B mm_X12_watchValue 20 [.ref a0, .int x1, .int x2, va_rf none] [] s_1 else rn_ tb_ct tb_mt B mm_X12_watchValue 21 [.ref a0, .int x1, .int x2, va_rf none] [.int (1 : Int32)] s_1) (fun b_2 s_1 => if x2 < 0 then rn_ tb_ct tb_mt B mm_X12_watchValue 20 [.ref a0, .int x1, .int x2, va_rf (some b_2)] [] s_1 else if (6 : Int32) < x2 then rn_ tb_ct tb_mt B mm_X12_watchValue 20 [.ref a0, .int x1, .int x2, va_rf (some b_2)] [] s_1 else rn_ tb_ct tb_mt B mm_X12_watchValue 21 [.ref a0, .int x1, .int x2, va_rf (some b_2)] [.int (1 : Int32)] s_1) xo) := by
  refine Eq.trans (rn_go 2 (pc' := 2) (L' := [.ref a0, .int x1, .int x2, am_un]) (st' := [.int x1, .ref a0]) rfl) ?_
  refine Eq.trans (rn_vir (L' := [.ref a0, .int x1, .int x2, am_un]) (as := [.int x1]) (rest := []) rfl rfl rfl rfl rfl (Nat.le_of_ble_eq_true rfl) (by decide) (by decide)) ?_
  refine eC_c ?_
  refine Eq.trans (cW_A rfl rfl rfl) ?_
  refine cA_c (fun s_1 => ?_) (fun b_2 s_1 => ?_) (xh_nil rfl)
  · refine Eq.trans (rn_go 2 (pc' := 7) (L' := [.ref a0, .int x1, .int x2, .null]) (st' := [.int x2]) rfl) ?_
    refine Eq.trans (rn_iflt (L' := [.ref a0, .int x1, .int x2, .null]) rfl rfl) ?_
    refine if_c ?_ ?_
    · rfl
    · refine Eq.trans (rn_go 2 (pc' := 13) (L' := [.ref a0, .int x1, .int x2, .null]) (st' := [.int (6 : Int32), .int x2]) rfl) ?_
      refine Eq.trans (rn_icgt (L' := [.ref a0, .int x1, .int x2, .null]) rfl rfl) ?_
      refine if_c ?_ ?_
      · rfl
      · exact rn_go 2 (pc' := 21) (L' := [.ref a0, .int x1, .int x2, va_rf none]) (st' := [.int (1 : Int32)]) rfl
  · refine Eq.trans (rn_go 2 (pc' := 7) (L' := [.ref a0, .int x1, .int x2, .ref b_2]) (st' := [.int x2]) rfl) ?_
    refine Eq.trans (rn_iflt (L' := [.ref a0, .int x1, .int x2, .ref b_2]) rfl rfl) ?_
    refine if_c ?_ ?_
    · rfl
    · refine Eq.trans (rn_go 2 (pc' := 13) (L' := [.ref a0, .int x1, .int x2, .ref b_2]) (st' := [.int (6 : Int32), .int x2]) rfl) ?_
      refine Eq.trans (rn_icgt (L' := [.ref a0, .int x1, .int x2, .ref b_2]) rfl rfl) ?_
      refine if_c ?_ ?_
      · rfl
      · exact rn_go 2 (pc' := 21) (L' := [.ref a0, .int x1, .int x2, va_rf (some b_2)]) (st' := [.int (1 : Int32)]) rfl
theorem dc_X12_watchValue_20 {B : Nat} (a0 : Nat) (w1 : Value) (x2 : Int32) (r3 : Option Nat) (s : am_S) : rn_ tb_ct tb_mt B mm_X12_watchValue 20 [.ref a0, w1, .int x2, va_rf r3] [] s = eA (some r3) (rn_ tb_ct tb_mt B mm_X12_watchValue 21 [.ref a0, am_un, .int x2, va_rf none] [.int (0 : Int32)] s) (fun b_1 => rn_ tb_ct tb_mt B mm_X12_watchValue 21 [.ref a0, am_un, .int x2, va_rf (some b_1)] [.int (0 : Int32)] s) := by
  rcases r3 with _ | b_1
  · rw [eA_n]
    exact rn_go 1 (pc' := 21) (L' := [.ref a0, am_un, .int x2, va_rf none]) (st' := [.int (0 : Int32)]) rfl
  · rw [eA_s]
    exact rn_go 1 (pc' := 21) (L' := [.ref a0, am_un, .int x2, va_rf (some b_1)]) (st' := [.int (0 : Int32)]) rfl
theorem dc_X12_watchValue_21 {B : Nat} (a0 : Nat) (w1 : Value) (x2 : Int32) (r3 : Option Nat) (xs0 : Int32) (s : am_S) : rn_ tb_ct tb_mt B mm_X12_watchValue 21 [.ref a0, w1, .int x2, va_rf r3] [.int xs0] s = eA (some r3) (cV (cl_ tb_ct tb_mt B K_X12_need [.int xs0] s) (fun s_2 => eA (gA tb_ct s_2 a0 10 0) (none) (fun b_3 => eA (gA tb_ct s_2 b_3 7 1) (none) (fun b_4 => none))) xo) (fun b_1 => cV (cl_ tb_ct tb_mt B K_X12_need [.int xs0] s) (fun s_5 => eA (gA tb_ct s_5 a0 10 0) (none) (fun b_6 => eA (gA tb_ct s_5 b_6 7 1) (eC (am_cls s_5 b_1) 9 (cI (cl_ tb_ct tb_mt B K_X11_number [.ref b_1, .int x2, .null] s_5) (fun x_9 s_8 => some (.inl (some (.int x_9)), s_8)) xo)) (fun b_7 => eC (am_cls s_5 b_1) 9 (cI (cl_ tb_ct tb_mt B K_X11_number [.ref b_1, .int x2, .ref b_7] s_5) (fun x_11 s_10 => some (.inl (some (.int x_11)), s_10)) xo)))) xo) := by
  rcases r3 with _ | b_1
  · rw [eA_n]
    refine Eq.trans (rn_sta (L' := [.ref a0, am_un, .int x2, .null]) (as := [.int xs0]) (rest := []) rfl rfl rfl rfl rfl (Nat.le_of_ble_eq_true rfl) (by decide) rfl) ?_
    refine Eq.trans (cW_V rfl rfl) ?_
    refine cV_c (fun s_2 => ?_) (xh_nil rfl)
    refine Eq.trans (rn_go 3 (pc' := 27) (L' := [.ref a0, am_un, .int x2, .null]) (st' := [.ref a0, .int x2, .null]) rfl) ?_
    refine Eq.trans (rn_gA (L' := [.ref a0, am_un, .int x2, .null]) rfl rfl rfl rfl) ?_
    refine eA_c ?_ (fun b_3 => ?_)
    · exact rn_z rfl rfl
    · refine Eq.trans (rn_gA (L' := [.ref a0, am_un, .int x2, .null]) rfl rfl rfl rfl) ?_
      refine eA_c ?_ (fun b_4 => ?_)
      · exact rn_z rfl rfl
      · exact rn_z rfl rfl
  · rw [eA_s]
    refine Eq.trans (rn_sta (L' := [.ref a0, am_un, .int x2, .ref b_1]) (as := [.int xs0]) (rest := []) rfl rfl rfl rfl rfl (Nat.le_of_ble_eq_true rfl) (by decide) rfl) ?_
    refine Eq.trans (cW_V rfl rfl) ?_
    refine cV_c (fun s_5 => ?_) (xh_nil rfl)
    refine Eq.trans (rn_go 3 (pc' := 27) (L' := [.ref a0, am_un, .int x2, .ref b_1]) (st' := [.ref a0, .int x2, .ref b_1]) rfl) ?_
    refine Eq.trans (rn_gA (L' := [.ref a0, am_un, .int x2, .ref b_1]) rfl rfl rfl rfl) ?_
    refine eA_c ?_ (fun b_6 => ?_)
    · exact rn_z rfl rfl
    · refine Eq.trans (rn_gA (L' := [.ref a0, am_un, .int x2, .ref b_1]) rfl rfl rfl rfl) ?_
      refine eA_c ?_ (fun b_7 => ?_)
      · refine Eq.trans (rn_vir (L' := [.ref a0, am_un, .int x2, .ref b_1]) (as := [.int x2, .null]) (rest := []) rfl rfl rfl rfl rfl (Nat.le_of_ble_eq_true rfl) (by decide) (by decide)) ?_
        refine eC_c ?_
        refine Eq.trans (cW_I rfl rfl rfl) ?_
        refine cI_c (fun x_9 s_8 => ?_) (xh_nil rfl)
        exact rn_retI rfl rfl rfl
      · refine Eq.trans (rn_vir (L' := [.ref a0, am_un, .int x2, .ref b_1]) (as := [.int x2, .ref b_7]) (rest := []) rfl rfl rfl rfl rfl (Nat.le_of_ble_eq_true rfl) (by decide) (by decide)) ?_
        refine eC_c ?_
        refine Eq.trans (cW_I rfl rfl rfl) ?_
        refine cI_c (fun x_11 s_10 => ?_) (xh_nil rfl)
        exact rn_retI rfl rfl rfl
theorem in_X12_take {B : Nat} (a0 : Nat) (x1 : Int32) (s : am_S) : cl_ tb_ct tb_mt B K_X12_take [.ref a0, .int x1] s = rn_ tb_ct tb_mt B mm_X12_take 0 [.ref a0, .int x1] [] s := cl_in rfl rfl rfl rfl
theorem dc_X12_take_0 {B : Nat} (a0 : Nat) (x1 : Int32) (s : am_S) : rn_ tb_ct tb_mt B mm_X12_take 0 [.ref a0, .int x1] [] s = eC (am_cls s a0) 10 (cA (cl_ tb_ct tb_mt B K_X12_needWatch [.ref a0, .int x1] s) (fun s_1 => eA (gA tb_ct s_1 a0 10 0) (none) (fun b_3 => eA (gA tb_ct s_1 b_3 7 1) (none) (fun b_4 => none))) (fun b_2 s_1 => eA (gA tb_ct s_1 a0 10 0) (none) (fun b_5 => eA (gA tb_ct s_1 b_5 7 1) (eC (am_cls s_1 b_2) 9 (cI (cl_ tb_ct tb_mt B K_X11_takeFirst [.ref b_2, .null] s_1) (fun x_8 s_7 => some (.inl (some (.int x_8)), s_7)) xo)) (fun b_6 => eC (am_cls s_1 b_2) 9 (cI (cl_ tb_ct tb_mt B K_X11_takeFirst [.ref b_2, .ref b_6] s_1) (fun x_10 s_9 => some (.inl (some (.int x_10)), s_9)) xo)))) xo) := by
  refine Eq.trans (rn_go 2 (pc' := 2) (L' := [.ref a0, .int x1]) (st' := [.int x1, .ref a0]) rfl) ?_
  refine Eq.trans (rn_vir (L' := [.ref a0, .int x1]) (as := [.int x1]) (rest := []) rfl rfl rfl rfl rfl (Nat.le_of_ble_eq_true rfl) (by decide) (by decide)) ?_
  refine eC_c ?_
  refine Eq.trans (cW_A rfl rfl rfl) ?_
  refine cA_c (fun s_1 => ?_) (fun b_2 s_1 => ?_) (xh_nil rfl)
  · refine Eq.trans (rn_go 1 (pc' := 6) (L' := [.ref a0, .int x1]) (st' := [.ref a0, .null]) rfl) ?_
    refine Eq.trans (rn_gA (L' := [.ref a0, .int x1]) rfl rfl rfl rfl) ?_
    refine eA_c ?_ (fun b_3 => ?_)
    · exact rn_z rfl rfl
    · refine Eq.trans (rn_gA (L' := [.ref a0, .int x1]) rfl rfl rfl rfl) ?_
      refine eA_c ?_ (fun b_4 => ?_)
      · exact rn_z rfl rfl
      · exact rn_z rfl rfl
  · refine Eq.trans (rn_go 1 (pc' := 6) (L' := [.ref a0, .int x1]) (st' := [.ref a0, .ref b_2]) rfl) ?_
    refine Eq.trans (rn_gA (L' := [.ref a0, .int x1]) rfl rfl rfl rfl) ?_
    refine eA_c ?_ (fun b_5 => ?_)
    · exact rn_z rfl rfl
    · refine Eq.trans (rn_gA (L' := [.ref a0, .int x1]) rfl rfl rfl rfl) ?_
      refine eA_c ?_ (fun b_6 => ?_)
      · refine Eq.trans (rn_vir (L' := [.ref a0, .int x1]) (as := [.null]) (rest := []) rfl rfl rfl rfl rfl (Nat.le_of_ble_eq_true rfl) (by decide) (by decide)) ?_
        refine eC_c ?_
        refine Eq.trans (cW_I rfl rfl rfl) ?_
        refine cI_c (fun x_8 s_7 => ?_) (xh_nil rfl)
        exact rn_retI rfl rfl rfl
      · refine Eq.trans (rn_vir (L' := [.ref a0, .int x1]) (as := [.ref b_6]) (rest := []) rfl rfl rfl rfl rfl (Nat.le_of_ble_eq_true rfl) (by decide) (by decide)) ?_
        refine eC_c ?_
        refine Eq.trans (cW_I rfl rfl rfl) ?_
        refine cI_c (fun x_10 s_9 => ?_) (xh_nil rfl)
        exact rn_retI rfl rfl rfl
theorem in_X12_taken {B : Nat} (a0 : Nat) (x1 : Int32) (x2 : Int32) (s : am_S) : cl_ tb_ct tb_mt B K_X12_taken [.ref a0, .int x1, .int x2] s = rn_ tb_ct tb_mt B mm_X12_taken 0 [.ref a0, .int x1, .int x2, am_un] [] s := cl_in rfl rfl rfl rfl
theorem dc_X12_taken_0 {B : Nat} (a0 : Nat) (x1 : Int32) (x2 : Int32) (s : am_S) : rn_ tb_ct tb_mt B mm_X12_taken 0 [.ref a0, .int x1, .int x2, am_un] [] s = eC (am_cls s a0) 10 (cA (cl_ tb_ct tb_mt B K_X12_needWatch [.ref a0, .int x1] s) (fun s_1 => if x2 < 0 then rn_ tb_ct tb_mt B mm_X12_taken 19 [.ref a0, .int x1, .int x2, va_rf none] [] s_1 else if (5 : Int32) < x2 then rn_ tb_ct tb_mt B mm_X12_taken 19 [.ref a0, .int x1, .int x2, va_rf none] [] s_1 else rn_ tb_ct tb_mt B mm_X12_taken 20 [.ref a0, .int x1, .int x2, va_rf none] [.int (1 : Int32)] s_1) (fun b_2 s_1 => if x2 < 0 then rn_ tb_ct tb_mt B mm_X12_taken 19 [.ref a0, .int x1, .int x2, va_rf (some b_2)] [] s_1 else if (5 : Int32) < x2 then rn_ tb_ct tb_mt B mm_X12_taken 19 [.ref a0, .int x1, .int x2, va_rf (some b_2)] [] s_1 else rn_ tb_ct tb_mt B mm_X12_taken 20 [.ref a0, .int x1, .int x2, va_rf (some b_2)] [.int (1 : Int32)] s_1) xo) := by
  refine Eq.trans (rn_go 2 (pc' := 2) (L' := [.ref a0, .int x1, .int x2, am_un]) (st' := [.int x1, .ref a0]) rfl) ?_
  refine Eq.trans (rn_vir (L' := [.ref a0, .int x1, .int x2, am_un]) (as := [.int x1]) (rest := []) rfl rfl rfl rfl rfl (Nat.le_of_ble_eq_true rfl) (by decide) (by decide)) ?_
  refine eC_c ?_
  refine Eq.trans (cW_A rfl rfl rfl) ?_
  refine cA_c (fun s_1 => ?_) (fun b_2 s_1 => ?_) (xh_nil rfl)
  · refine Eq.trans (rn_go 2 (pc' := 7) (L' := [.ref a0, .int x1, .int x2, .null]) (st' := [.int x2]) rfl) ?_
    refine Eq.trans (rn_iflt (L' := [.ref a0, .int x1, .int x2, .null]) rfl rfl) ?_
    refine if_c ?_ ?_
    · rfl
    · refine Eq.trans (rn_go 2 (pc' := 12) (L' := [.ref a0, .int x1, .int x2, .null]) (st' := [.int (5 : Int32), .int x2]) rfl) ?_
      refine Eq.trans (rn_icgt (L' := [.ref a0, .int x1, .int x2, .null]) rfl rfl) ?_
      refine if_c ?_ ?_
      · rfl
      · exact rn_go 2 (pc' := 20) (L' := [.ref a0, .int x1, .int x2, va_rf none]) (st' := [.int (1 : Int32)]) rfl
  · refine Eq.trans (rn_go 2 (pc' := 7) (L' := [.ref a0, .int x1, .int x2, .ref b_2]) (st' := [.int x2]) rfl) ?_
    refine Eq.trans (rn_iflt (L' := [.ref a0, .int x1, .int x2, .ref b_2]) rfl rfl) ?_
    refine if_c ?_ ?_
    · rfl
    · refine Eq.trans (rn_go 2 (pc' := 12) (L' := [.ref a0, .int x1, .int x2, .ref b_2]) (st' := [.int (5 : Int32), .int x2]) rfl) ?_
      refine Eq.trans (rn_icgt (L' := [.ref a0, .int x1, .int x2, .ref b_2]) rfl rfl) ?_
      refine if_c ?_ ?_
      · rfl
      · exact rn_go 2 (pc' := 20) (L' := [.ref a0, .int x1, .int x2, va_rf (some b_2)]) (st' := [.int (1 : Int32)]) rfl
theorem dc_X12_taken_19 {B : Nat} (w0 : Value) (w1 : Value) (x2 : Int32) (r3 : Option Nat) (s : am_S) : rn_ tb_ct tb_mt B mm_X12_taken 19 [w0, w1, .int x2, va_rf r3] [] s = eA (some r3) (rn_ tb_ct tb_mt B mm_X12_taken 20 [am_un, am_un, .int x2, va_rf none] [.int (0 : Int32)] s) (fun b_1 => rn_ tb_ct tb_mt B mm_X12_taken 20 [am_un, am_un, .int x2, va_rf (some b_1)] [.int (0 : Int32)] s) := by
  rcases r3 with _ | b_1
  · rw [eA_n]
    exact rn_go 1 (pc' := 20) (L' := [am_un, am_un, .int x2, va_rf none]) (st' := [.int (0 : Int32)]) rfl
  · rw [eA_s]
    exact rn_go 1 (pc' := 20) (L' := [am_un, am_un, .int x2, va_rf (some b_1)]) (st' := [.int (0 : Int32)]) rfl
theorem dc_X12_taken_20 {B : Nat} (w0 : Value) (w1 : Value) (x2 : Int32) (r3 : Option Nat) (xs0 : Int32) (s : am_S) : rn_ tb_ct tb_mt B mm_X12_taken 20 [w0, w1, .int x2, va_rf r3] [.int xs0] s = eA (some r3) (cV (cl_ tb_ct tb_mt B K_X12_need [.int xs0] s) (fun s_2 => none) xo) (fun b_1 => cV (cl_ tb_ct tb_mt B K_X12_need [.int xs0] s) (fun s_3 => eI (gI tb_ct s_3 b_1 9 4) (fun x_4 => if x_4 = 0 then some (.inl (some (.int (-(2000000000 : Int32)))), s_3) else eA (gA tb_ct s_3 b_1 9 6) (none) (fun b_5 => eC (am_cls s_3 b_5) 0 (cI (cl_ tb_ct tb_mt B K_X1_number [.ref b_5, .int x2] s_3) (fun x_7 s_6 => some (.inl (some (.int x_7)), s_6)) xo)))) xo) := by
  rcases r3 with _ | b_1
  · rw [eA_n]
    refine Eq.trans (rn_sta (L' := [am_un, am_un, .int x2, .null]) (as := [.int xs0]) (rest := []) rfl rfl rfl rfl rfl (Nat.le_of_ble_eq_true rfl) (by decide) rfl) ?_
    refine Eq.trans (cW_V rfl rfl) ?_
    refine cV_c (fun s_2 => ?_) (xh_nil rfl)
    refine Eq.trans (rn_go 1 (pc' := 24) (L' := [am_un, am_un, .int x2, .null]) (st' := [.null]) rfl) ?_
    exact rn_z rfl rfl
  · rw [eA_s]
    refine Eq.trans (rn_sta (L' := [am_un, am_un, .int x2, .ref b_1]) (as := [.int xs0]) (rest := []) rfl rfl rfl rfl rfl (Nat.le_of_ble_eq_true rfl) (by decide) rfl) ?_
    refine Eq.trans (cW_V rfl rfl) ?_
    refine cV_c (fun s_3 => ?_) (xh_nil rfl)
    refine Eq.trans (rn_go 1 (pc' := 24) (L' := [am_un, am_un, .int x2, .ref b_1]) (st' := [.ref b_1]) rfl) ?_
    refine Eq.trans (rn_gI (L' := [am_un, am_un, .int x2, .ref b_1]) rfl rfl rfl rfl) ?_
    refine eI_c (fun x_4 => ?_)
    refine Eq.trans (rn_ifne (L' := [am_un, am_un, .int x2, .ref b_1]) rfl rfl) ?_
    refine if_c ?_ ?_
    · refine Eq.trans (rn_go 2 (pc' := 43) (L' := [am_un, am_un, .int x2, .ref b_1]) (st' := [.int (-(2000000000 : Int32))]) rfl) ?_
      exact rn_retI rfl rfl rfl
    · refine Eq.trans (rn_go 1 (pc' := 36) (L' := [am_un, am_un, .int x2, .ref b_1]) (st' := [.ref b_1]) rfl) ?_
      refine Eq.trans (rn_gA (L' := [am_un, am_un, .int x2, .ref b_1]) rfl rfl rfl rfl) ?_
      refine eA_c ?_ (fun b_5 => ?_)
      · refine Eq.trans (rn_go 1 (pc' := 40) (L' := [am_un, am_un, .int x2, .ref b_1]) (st' := [.int x2, .null]) rfl) ?_
        exact rn_z rfl rfl
      · refine Eq.trans (rn_go 1 (pc' := 40) (L' := [am_un, am_un, .int x2, .ref b_1]) (st' := [.int x2, .ref b_5]) rfl) ?_
        refine Eq.trans (rn_vir (L' := [am_un, am_un, .int x2, .ref b_1]) (as := [.int x2]) (rest := []) rfl rfl rfl rfl rfl (Nat.le_of_ble_eq_true rfl) (by decide) (by decide)) ?_
        refine eC_c ?_
        refine Eq.trans (cW_I rfl rfl rfl) ?_
        refine cI_c (fun x_7 s_6 => ?_) (xh_nil rfl)
        exact rn_retI rfl rfl rfl
theorem in_X12_admit {B : Nat} (a0 : Nat) (x1 : Int32) (s : am_S) : cl_ tb_ct tb_mt B K_X12_admit [.ref a0, .int x1] s = rn_ tb_ct tb_mt B mm_X12_admit 0 [.ref a0, .int x1] [] s := cl_in rfl rfl rfl rfl
theorem dc_X12_admit_0 {B : Nat} (a0 : Nat) (x1 : Int32) (s : am_S) : rn_ tb_ct tb_mt B mm_X12_admit 0 [.ref a0, .int x1] [] s = eC (am_cls s a0) 10 (cA (cl_ tb_ct tb_mt B K_X12_needWatch [.ref a0, .int x1] s) (fun s_1 => none) (fun b_2 s_1 => eC (am_cls s_1 b_2) 9 (cI (cl_ tb_ct tb_mt B K_X11_tellMissed [.ref b_2] s_1) (fun x_4 s_3 => some (.inl (some (.int x_4)), s_3)) xo)) xo) := by
  refine Eq.trans (rn_go 2 (pc' := 2) (L' := [.ref a0, .int x1]) (st' := [.int x1, .ref a0]) rfl) ?_
  refine Eq.trans (rn_vir (L' := [.ref a0, .int x1]) (as := [.int x1]) (rest := []) rfl rfl rfl rfl rfl (Nat.le_of_ble_eq_true rfl) (by decide) (by decide)) ?_
  refine eC_c ?_
  refine Eq.trans (cW_A rfl rfl rfl) ?_
  refine cA_c (fun s_1 => ?_) (fun b_2 s_1 => ?_) (xh_nil rfl)
  · exact rn_z rfl rfl
  · refine Eq.trans (rn_vir (L' := [.ref a0, .int x1]) (as := []) (rest := []) rfl rfl rfl rfl rfl (Nat.le_of_ble_eq_true rfl) (by decide) (by decide)) ?_
    refine eC_c ?_
    refine Eq.trans (cW_I rfl rfl rfl) ?_
    refine cI_c (fun x_4 s_3 => ?_) (xh_nil rfl)
    exact rn_retI rfl rfl rfl
theorem in_X12_rewatch {B : Nat} (a0 : Nat) (x1 : Int32) (x2 : Int32) (s : am_S) : cl_ tb_ct tb_mt B K_X12_rewatch [.ref a0, .int x1, .int x2] s = rn_ tb_ct tb_mt B mm_X12_rewatch 0 [.ref a0, .int x1, .int x2, am_un] [] s := cl_in rfl rfl rfl rfl
theorem dc_X12_rewatch_0 {B : Nat} (a0 : Nat) (x1 : Int32) (x2 : Int32) (s : am_S) : rn_ tb_ct tb_mt B mm_X12_rewatch 0 [.ref a0, .int x1, .int x2, am_un] [] s = eC (am_cls s a0) 10 (cA (cl_ tb_ct tb_mt B K_X12_needWatch [.ref a0, .int x1] s) (fun s_1 => if x2 < 0 then rn_ tb_ct tb_mt B mm_X12_rewatch 15 [.ref a0, .int x1, .int x2, va_rf none] [.int (0 : Int32)] s_1 else rn_ tb_ct tb_mt B mm_X12_rewatch 15 [.ref a0, .int x1, .int x2, va_rf none] [.int (1 : Int32)] s_1) (fun b_2 s_1 => if x2 < 0 then rn_ tb_ct tb_mt B mm_X12_rewatch 15 [.ref a0, .int x1, .int x2, va_rf (some b_2)] [.int (0 : Int32)] s_1 else rn_ tb_ct tb_mt B mm_X12_rewatch 15 [.ref a0, .int x1, .int x2, va_rf (some b_2)] [.int (1 : Int32)] s_1) xo) := by
  refine Eq.trans (rn_go 2 (pc' := 2) (L' := [.ref a0, .int x1, .int x2, am_un]) (st' := [.int x1, .ref a0]) rfl) ?_
  refine Eq.trans (rn_vir (L' := [.ref a0, .int x1, .int x2, am_un]) (as := [.int x1]) (rest := []) rfl rfl rfl rfl rfl (Nat.le_of_ble_eq_true rfl) (by decide) (by decide)) ?_
  refine eC_c ?_
  refine Eq.trans (cW_A rfl rfl rfl) ?_
  refine cA_c (fun s_1 => ?_) (fun b_2 s_1 => ?_) (xh_nil rfl)
  · refine Eq.trans (rn_go 2 (pc' := 7) (L' := [.ref a0, .int x1, .int x2, .null]) (st' := [.int x2]) rfl) ?_
    refine Eq.trans (rn_iflt (L' := [.ref a0, .int x1, .int x2, .null]) rfl rfl) ?_
    refine if_c ?_ ?_
    · exact rn_go 1 (pc' := 15) (L' := [.ref a0, .int x1, .int x2, va_rf none]) (st' := [.int (0 : Int32)]) rfl
    · exact rn_go 2 (pc' := 15) (L' := [.ref a0, .int x1, .int x2, va_rf none]) (st' := [.int (1 : Int32)]) rfl
  · refine Eq.trans (rn_go 2 (pc' := 7) (L' := [.ref a0, .int x1, .int x2, .ref b_2]) (st' := [.int x2]) rfl) ?_
    refine Eq.trans (rn_iflt (L' := [.ref a0, .int x1, .int x2, .ref b_2]) rfl rfl) ?_
    refine if_c ?_ ?_
    · exact rn_go 1 (pc' := 15) (L' := [.ref a0, .int x1, .int x2, va_rf (some b_2)]) (st' := [.int (0 : Int32)]) rfl
    · exact rn_go 2 (pc' := 15) (L' := [.ref a0, .int x1, .int x2, va_rf (some b_2)]) (st' := [.int (1 : Int32)]) rfl
theorem dc_X12_rewatch_15 {B : Nat} (a0 : Nat) (w1 : Value) (x2 : Int32) (r3 : Option Nat) (xs0 : Int32) (s : am_S) : rn_ tb_ct tb_mt B mm_X12_rewatch 15 [.ref a0, w1, .int x2, va_rf r3] [.int xs0] s = eA (some r3) (cV (cl_ tb_ct tb_mt B K_X12_need [.int xs0] s) (fun s_2 => eA (gA tb_ct s_2 a0 10 0) (none) (fun b_3 => eC (am_cls s_2 b_3) 7 (cI (cl_ tb_ct tb_mt B K_X8_startsTooLate [.ref b_3, .int x2] s_2) (fun x_5 s_4 => if x_5 = 0 then eA (gA tb_ct s_4 a0 10 0) (none) (fun b_6 => eC (am_cls s_4 b_6) 7 (cI (cl_ tb_ct tb_mt B K_X8_firstEventFor [.ref b_6, .int x2] s_4) (fun x_8 s_7 => none) xo)) else some (.inl (some (.int (-(2000000002 : Int32)))), s_4)) xo))) xo) (fun b_1 => cV (cl_ tb_ct tb_mt B K_X12_need [.int xs0] s) (fun s_9 => eA (gA tb_ct s_9 a0 10 0) (none) (fun b_10 => eC (am_cls s_9 b_10) 7 (cI (cl_ tb_ct tb_mt B K_X8_startsTooLate [.ref b_10, .int x2] s_9) (fun x_12 s_11 => if x_12 = 0 then eA (gA tb_ct s_11 a0 10 0) (none) (fun b_13 => eC (am_cls s_11 b_13) 7 (cI (cl_ tb_ct tb_mt B K_X8_firstEventFor [.ref b_13, .int x2] s_11) (fun x_15 s_14 => eC (am_cls s_14 b_1) 9 (cV (cl_ tb_ct tb_mt B K_X11_beginAt [.ref b_1, .int x_15] s_14) (fun s_16 => eA (gA tb_ct s_16 a0 10 0) (none) (fun b_17 => eA (gA tb_ct s_16 b_17 7 1) (eC (am_cls s_16 b_1) 9 (cI (cl_ tb_ct tb_mt B K_X11_waiting [.ref b_1, .null] s_16) (fun x_20 s_19 => some (.inl (some (.int x_20)), s_19)) xo)) (fun b_18 => eC (am_cls s_16 b_1) 9 (cI (cl_ tb_ct tb_mt B K_X11_waiting [.ref b_1, .ref b_18] s_16) (fun x_22 s_21 => some (.inl (some (.int x_22)), s_21)) xo)))) xo)) xo)) else some (.inl (some (.int (-(2000000002 : Int32)))), s_11)) xo))) xo) := by
  rcases r3 with _ | b_1
  · rw [eA_n]
    refine Eq.trans (rn_sta (L' := [.ref a0, am_un, .int x2, .null]) (as := [.int xs0]) (rest := []) rfl rfl rfl rfl rfl (Nat.le_of_ble_eq_true rfl) (by decide) rfl) ?_
    refine Eq.trans (cW_V rfl rfl) ?_
    refine cV_c (fun s_2 => ?_) (xh_nil rfl)
    refine Eq.trans (rn_go 1 (pc' := 19) (L' := [.ref a0, am_un, .int x2, .null]) (st' := [.ref a0]) rfl) ?_
    refine Eq.trans (rn_gA (L' := [.ref a0, am_un, .int x2, .null]) rfl rfl rfl rfl) ?_
    refine eA_c ?_ (fun b_3 => ?_)
    · refine Eq.trans (rn_go 1 (pc' := 23) (L' := [.ref a0, am_un, .int x2, .null]) (st' := [.int x2, .null]) rfl) ?_
      exact rn_z rfl rfl
    · refine Eq.trans (rn_go 1 (pc' := 23) (L' := [.ref a0, am_un, .int x2, .null]) (st' := [.int x2, .ref b_3]) rfl) ?_
      refine Eq.trans (rn_vir (L' := [.ref a0, am_un, .int x2, .null]) (as := [.int x2]) (rest := []) rfl rfl rfl rfl rfl (Nat.le_of_ble_eq_true rfl) (by decide) (by decide)) ?_
      refine eC_c ?_
      refine Eq.trans (cW_I rfl rfl rfl) ?_
      refine cI_c (fun x_5 s_4 => ?_) (xh_nil rfl)
      refine Eq.trans (rn_ifeq (L' := [.ref a0, am_un, .int x2, .null]) rfl rfl) ?_
      refine if_c ?_ ?_
      · refine Eq.trans (rn_go 2 (pc' := 35) (L' := [.ref a0, am_un, .int x2, .null]) (st' := [.ref a0, .null]) rfl) ?_
        refine Eq.trans (rn_gA (L' := [.ref a0, am_un, .int x2, .null]) rfl rfl rfl rfl) ?_
        refine eA_c ?_ (fun b_6 => ?_)
        · refine Eq.trans (rn_go 1 (pc' := 39) (L' := [.ref a0, am_un, .int x2, .null]) (st' := [.int x2, .null, .null]) rfl) ?_
          exact rn_z rfl rfl
        · refine Eq.trans (rn_go 1 (pc' := 39) (L' := [.ref a0, am_un, .int x2, .null]) (st' := [.int x2, .ref b_6, .null]) rfl) ?_
          refine Eq.trans (rn_vir (L' := [.ref a0, am_un, .int x2, .null]) (as := [.int x2]) (rest := [.null]) rfl rfl rfl rfl rfl (Nat.le_of_ble_eq_true rfl) (by decide) (by decide)) ?_
          refine eC_c ?_
          refine Eq.trans (cW_I rfl rfl rfl) ?_
          refine cI_c (fun x_8 s_7 => ?_) (xh_nil rfl)
          exact rn_z rfl rfl
      · refine Eq.trans (rn_go 1 (pc' := 32) (L' := [.ref a0, am_un, .int x2, .null]) (st' := [.int (-(2000000002 : Int32))]) rfl) ?_
        exact rn_retI rfl rfl rfl
  · rw [eA_s]
    refine Eq.trans (rn_sta (L' := [.ref a0, am_un, .int x2, .ref b_1]) (as := [.int xs0]) (rest := []) rfl rfl rfl rfl rfl (Nat.le_of_ble_eq_true rfl) (by decide) rfl) ?_
    refine Eq.trans (cW_V rfl rfl) ?_
    refine cV_c (fun s_9 => ?_) (xh_nil rfl)
    refine Eq.trans (rn_go 1 (pc' := 19) (L' := [.ref a0, am_un, .int x2, .ref b_1]) (st' := [.ref a0]) rfl) ?_
    refine Eq.trans (rn_gA (L' := [.ref a0, am_un, .int x2, .ref b_1]) rfl rfl rfl rfl) ?_
    refine eA_c ?_ (fun b_10 => ?_)
    · refine Eq.trans (rn_go 1 (pc' := 23) (L' := [.ref a0, am_un, .int x2, .ref b_1]) (st' := [.int x2, .null]) rfl) ?_
      exact rn_z rfl rfl
    · refine Eq.trans (rn_go 1 (pc' := 23) (L' := [.ref a0, am_un, .int x2, .ref b_1]) (st' := [.int x2, .ref b_10]) rfl) ?_
      refine Eq.trans (rn_vir (L' := [.ref a0, am_un, .int x2, .ref b_1]) (as := [.int x2]) (rest := []) rfl rfl rfl rfl rfl (Nat.le_of_ble_eq_true rfl) (by decide) (by decide)) ?_
      refine eC_c ?_
      refine Eq.trans (cW_I rfl rfl rfl) ?_
      refine cI_c (fun x_12 s_11 => ?_) (xh_nil rfl)
      refine Eq.trans (rn_ifeq (L' := [.ref a0, am_un, .int x2, .ref b_1]) rfl rfl) ?_
      refine if_c ?_ ?_
      · refine Eq.trans (rn_go 2 (pc' := 35) (L' := [.ref a0, am_un, .int x2, .ref b_1]) (st' := [.ref a0, .ref b_1]) rfl) ?_
        refine Eq.trans (rn_gA (L' := [.ref a0, am_un, .int x2, .ref b_1]) rfl rfl rfl rfl) ?_
        refine eA_c ?_ (fun b_13 => ?_)
        · refine Eq.trans (rn_go 1 (pc' := 39) (L' := [.ref a0, am_un, .int x2, .ref b_1]) (st' := [.int x2, .null, .ref b_1]) rfl) ?_
          exact rn_z rfl rfl
        · refine Eq.trans (rn_go 1 (pc' := 39) (L' := [.ref a0, am_un, .int x2, .ref b_1]) (st' := [.int x2, .ref b_13, .ref b_1]) rfl) ?_
          refine Eq.trans (rn_vir (L' := [.ref a0, am_un, .int x2, .ref b_1]) (as := [.int x2]) (rest := [.ref b_1]) rfl rfl rfl rfl rfl (Nat.le_of_ble_eq_true rfl) (by decide) (by decide)) ?_
          refine eC_c ?_
          refine Eq.trans (cW_I rfl rfl rfl) ?_
          refine cI_c (fun x_15 s_14 => ?_) (xh_nil rfl)
          refine Eq.trans (rn_vir (L' := [.ref a0, am_un, .int x2, .ref b_1]) (as := [.int x_15]) (rest := []) rfl rfl rfl rfl rfl (Nat.le_of_ble_eq_true rfl) (by decide) (by decide)) ?_
          refine eC_c ?_
          refine Eq.trans (cW_V rfl rfl) ?_
          refine cV_c (fun s_16 => ?_) (xh_nil rfl)
          refine Eq.trans (rn_go 2 (pc' := 47) (L' := [.ref a0, am_un, .int x2, .ref b_1]) (st' := [.ref a0, .ref b_1]) rfl) ?_
          refine Eq.trans (rn_gA (L' := [.ref a0, am_un, .int x2, .ref b_1]) rfl rfl rfl rfl) ?_
          refine eA_c ?_ (fun b_17 => ?_)
          · exact rn_z rfl rfl
          · refine Eq.trans (rn_gA (L' := [.ref a0, am_un, .int x2, .ref b_1]) rfl rfl rfl rfl) ?_
            refine eA_c ?_ (fun b_18 => ?_)
            · refine Eq.trans (rn_vir (L' := [.ref a0, am_un, .int x2, .ref b_1]) (as := [.null]) (rest := []) rfl rfl rfl rfl rfl (Nat.le_of_ble_eq_true rfl) (by decide) (by decide)) ?_
              refine eC_c ?_
              refine Eq.trans (cW_I rfl rfl rfl) ?_
              refine cI_c (fun x_20 s_19 => ?_) (xh_nil rfl)
              exact rn_retI rfl rfl rfl
            · refine Eq.trans (rn_vir (L' := [.ref a0, am_un, .int x2, .ref b_1]) (as := [.ref b_18]) (rest := []) rfl rfl rfl rfl rfl (Nat.le_of_ble_eq_true rfl) (by decide) (by decide)) ?_
              refine eC_c ?_
              refine Eq.trans (cW_I rfl rfl rfl) ?_
              refine cI_c (fun x_22 s_21 => ?_) (xh_nil rfl)
              exact rn_retI rfl rfl rfl
      · refine Eq.trans (rn_go 1 (pc' := 32) (L' := [.ref a0, am_un, .int x2, .ref b_1]) (st' := [.int (-(2000000002 : Int32))]) rfl) ?_
        exact rn_retI rfl rfl rfl
theorem in_X12_unwatch {B : Nat} (a0 : Nat) (x1 : Int32) (s : am_S) : cl_ tb_ct tb_mt B K_X12_unwatch [.ref a0, .int x1] s = rn_ tb_ct tb_mt B mm_X12_unwatch 0 [.ref a0, .int x1] [] s := cl_in rfl rfl rfl rfl
theorem dc_X12_unwatch_0 {B : Nat} (a0 : Nat) (x1 : Int32) (s : am_S) : rn_ tb_ct tb_mt B mm_X12_unwatch 0 [.ref a0, .int x1] [] s = eC (am_cls s a0) 10 (cA (cl_ tb_ct tb_mt B K_X12_needWatch [.ref a0, .int x1] s) (fun s_1 => eA (gA tb_ct s_1 a0 10 0) (none) (fun b_3 => eC (am_cls s_1 b_3) 7 (cV (cl_ tb_ct tb_mt B K_X8_removeWatch [.ref b_3, .int x1] s_1) (fun s_4 => eA (gA tb_ct s_4 a0 10 0) (none) (fun b_5 => eI (gI tb_ct s_4 b_5 7 8) (fun x_6 => some (.inl (some (.int x_6)), s_4)))) xo))) (fun b_2 s_1 => eA (gA tb_ct s_1 a0 10 0) (none) (fun b_7 => eC (am_cls s_1 b_7) 7 (cV (cl_ tb_ct tb_mt B K_X8_removeWatch [.ref b_7, .int x1] s_1) (fun s_8 => eA (gA tb_ct s_8 a0 10 0) (none) (fun b_9 => eI (gI tb_ct s_8 b_9 7 8) (fun x_10 => some (.inl (some (.int x_10)), s_8)))) xo))) xo) := by
  refine Eq.trans (rn_go 2 (pc' := 2) (L' := [.ref a0, .int x1]) (st' := [.int x1, .ref a0]) rfl) ?_
  refine Eq.trans (rn_vir (L' := [.ref a0, .int x1]) (as := [.int x1]) (rest := []) rfl rfl rfl rfl rfl (Nat.le_of_ble_eq_true rfl) (by decide) (by decide)) ?_
  refine eC_c ?_
  refine Eq.trans (cW_A rfl rfl rfl) ?_
  refine cA_c (fun s_1 => ?_) (fun b_2 s_1 => ?_) (xh_nil rfl)
  · refine Eq.trans (rn_go 2 (pc' := 7) (L' := [.ref a0, .int x1]) (st' := [.ref a0]) rfl) ?_
    refine Eq.trans (rn_gA (L' := [.ref a0, .int x1]) rfl rfl rfl rfl) ?_
    refine eA_c ?_ (fun b_3 => ?_)
    · refine Eq.trans (rn_go 1 (pc' := 11) (L' := [.ref a0, .int x1]) (st' := [.int x1, .null]) rfl) ?_
      exact rn_z rfl rfl
    · refine Eq.trans (rn_go 1 (pc' := 11) (L' := [.ref a0, .int x1]) (st' := [.int x1, .ref b_3]) rfl) ?_
      refine Eq.trans (rn_vir (L' := [.ref a0, .int x1]) (as := [.int x1]) (rest := []) rfl rfl rfl rfl rfl (Nat.le_of_ble_eq_true rfl) (by decide) (by decide)) ?_
      refine eC_c ?_
      refine Eq.trans (cW_V rfl rfl) ?_
      refine cV_c (fun s_4 => ?_) (xh_nil rfl)
      refine Eq.trans (rn_go 1 (pc' := 15) (L' := [.ref a0, .int x1]) (st' := [.ref a0]) rfl) ?_
      refine Eq.trans (rn_gA (L' := [.ref a0, .int x1]) rfl rfl rfl rfl) ?_
      refine eA_c ?_ (fun b_5 => ?_)
      · exact rn_z rfl rfl
      · refine Eq.trans (rn_gI (L' := [.ref a0, .int x1]) rfl rfl rfl rfl) ?_
        refine eI_c (fun x_6 => ?_)
        exact rn_retI rfl rfl rfl
  · refine Eq.trans (rn_go 2 (pc' := 7) (L' := [.ref a0, .int x1]) (st' := [.ref a0]) rfl) ?_
    refine Eq.trans (rn_gA (L' := [.ref a0, .int x1]) rfl rfl rfl rfl) ?_
    refine eA_c ?_ (fun b_7 => ?_)
    · refine Eq.trans (rn_go 1 (pc' := 11) (L' := [.ref a0, .int x1]) (st' := [.int x1, .null]) rfl) ?_
      exact rn_z rfl rfl
    · refine Eq.trans (rn_go 1 (pc' := 11) (L' := [.ref a0, .int x1]) (st' := [.int x1, .ref b_7]) rfl) ?_
      refine Eq.trans (rn_vir (L' := [.ref a0, .int x1]) (as := [.int x1]) (rest := []) rfl rfl rfl rfl rfl (Nat.le_of_ble_eq_true rfl) (by decide) (by decide)) ?_
      refine eC_c ?_
      refine Eq.trans (cW_V rfl rfl) ?_
      refine cV_c (fun s_8 => ?_) (xh_nil rfl)
      refine Eq.trans (rn_go 1 (pc' := 15) (L' := [.ref a0, .int x1]) (st' := [.ref a0]) rfl) ?_
      refine Eq.trans (rn_gA (L' := [.ref a0, .int x1]) rfl rfl rfl rfl) ?_
      refine eA_c ?_ (fun b_9 => ?_)
      · exact rn_z rfl rfl
      · refine Eq.trans (rn_gI (L' := [.ref a0, .int x1]) rfl rfl rfl rfl) ?_
        refine eI_c (fun x_10 => ?_)
        exact rn_retI rfl rfl rfl
theorem in_X12_safe {B : Nat} (a0 : Nat) (s : am_S) : cl_ tb_ct tb_mt B K_X12_safe [.ref a0] s = rn_ tb_ct tb_mt B mm_X12_safe 0 [.ref a0, am_un, am_un, am_un, am_un] [] s := cl_in rfl rfl rfl rfl
theorem dc_X12_safe_0 {B : Nat} (a0 : Nat) (s : am_S) : rn_ tb_ct tb_mt B mm_X12_safe 0 [.ref a0, am_un, am_un, am_un, am_un] [] s = eA (gA tb_ct s a0 10 0) (none) (fun b_1 => eI (gI tb_ct s b_1 7 5) (fun x_2 => rn_ tb_ct tb_mt B mm_X12_safe 12 [.ref a0, .int (x_2 + (1 : Int32)), .int (0 : Int32), am_un, am_un] [] s)) := by
  refine Eq.trans (rn_go 1 (pc' := 1) (L' := [.ref a0, am_un, am_un, am_un, am_un]) (st' := [.ref a0]) rfl) ?_
  refine Eq.trans (rn_gA (L' := [.ref a0, am_un, am_un, am_un, am_un]) rfl rfl rfl rfl) ?_
  refine eA_c ?_ (fun b_1 => ?_)
  · exact rn_z rfl rfl
  · refine Eq.trans (rn_gI (L' := [.ref a0, am_un, am_un, am_un, am_un]) rfl rfl rfl rfl) ?_
    refine eI_c (fun x_2 => ?_)
    exact rn_go 5 (pc' := 12) (L' := [.ref a0, .int (x_2 + (1 : Int32)), .int (0 : Int32), am_un, am_un]) (st' := []) rfl
theorem dc_X12_safe_12 {B : Nat} (a0 : Nat) (x1 : Int32) (x2 : Int32) (s : am_S) : rn_ tb_ct tb_mt B mm_X12_safe 12 [.ref a0, .int x1, .int x2, am_un, am_un] [] s = eA (gA tb_ct s a0 10 0) (none) (fun b_1 => eI (gI tb_ct s b_1 7 8) (fun x_2 => if x_2 ≤ x2 then some (.inl (some (.int (x1 - (1 : Int32)))), s) else eA (gA tb_ct s a0 10 0) (none) (fun b_3 => eC (am_cls s b_3) 7 (cA (cl_ tb_ct tb_mt B K_X8_watchAt [.ref b_3, .int x2] s) (fun s_4 => rn_ tb_ct tb_mt B mm_X12_safe 51 [.ref a0, .int x1, .int x2, va_rf none, am_un] [.int (-(1 : Int32))] s_4) (fun b_5 s_4 => eA (gA tb_ct s_4 a0 10 0) (none) (fun b_6 => eA (gA tb_ct s_4 b_6 7 1) (eC (am_cls s_4 b_5) 9 (cI (cl_ tb_ct tb_mt B K_X11_earliest [.ref b_5, .null] s_4) (fun x_9 s_8 => rn_ tb_ct tb_mt B mm_X12_safe 51 [.ref a0, .int x1, .int x2, va_rf (some b_5), am_un] [.int x_9] s_8) xo)) (fun b_7 => eC (am_cls s_4 b_5) 9 (cI (cl_ tb_ct tb_mt B K_X11_earliest [.ref b_5, .ref b_7] s_4) (fun x_11 s_10 => rn_ tb_ct tb_mt B mm_X12_safe 51 [.ref a0, .int x1, .int x2, va_rf (some b_5), am_un] [.int x_11] s_10) xo)))) xo)))) := by
  refine Eq.trans (rn_go 2 (pc' := 14) (L' := [.ref a0, .int x1, .int x2, am_un, am_un]) (st' := [.ref a0, .int x2]) rfl) ?_
  refine Eq.trans (rn_gA (L' := [.ref a0, .int x1, .int x2, am_un, am_un]) rfl rfl rfl rfl) ?_
  refine eA_c ?_ (fun b_1 => ?_)
  · exact rn_z rfl rfl
  · refine Eq.trans (rn_gI (L' := [.ref a0, .int x1, .int x2, am_un, am_un]) rfl rfl rfl rfl) ?_
    refine eI_c (fun x_2 => ?_)
    refine Eq.trans (rn_icge (L' := [.ref a0, .int x1, .int x2, am_un, am_un]) rfl rfl) ?_
    refine if_c ?_ ?_
    · refine Eq.trans (rn_go 3 (pc' := 75) (L' := [.ref a0, .int x1, .int x2, am_un, am_un]) (st' := [.int (x1 - (1 : Int32))]) rfl) ?_
      exact rn_retI rfl rfl rfl
    · refine Eq.trans (rn_go 1 (pc' := 24) (L' := [.ref a0, .int x1, .int x2, am_un, am_un]) (st' := [.ref a0]) rfl) ?_
      refine Eq.trans (rn_gA (L' := [.ref a0, .int x1, .int x2, am_un, am_un]) rfl rfl rfl rfl) ?_
      refine eA_c ?_ (fun b_3 => ?_)
      · refine Eq.trans (rn_go 1 (pc' := 28) (L' := [.ref a0, .int x1, .int x2, am_un, am_un]) (st' := [.int x2, .null]) rfl) ?_
        exact rn_z rfl rfl
      · refine Eq.trans (rn_go 1 (pc' := 28) (L' := [.ref a0, .int x1, .int x2, am_un, am_un]) (st' := [.int x2, .ref b_3]) rfl) ?_
        refine Eq.trans (rn_vir (L' := [.ref a0, .int x1, .int x2, am_un, am_un]) (as := [.int x2]) (rest := []) rfl rfl rfl rfl rfl (Nat.le_of_ble_eq_true rfl) (by decide) (by decide)) ?_
        refine eC_c ?_
        refine Eq.trans (cW_A rfl rfl rfl) ?_
        refine cA_c (fun s_4 => ?_) (fun b_5 s_4 => ?_) (xh_nil rfl)
        · exact rn_go 5 (pc' := 51) (L' := [.ref a0, .int x1, .int x2, va_rf none, am_un]) (st' := [.int (-(1 : Int32))]) rfl
        · refine Eq.trans (rn_go 5 (pc' := 42) (L' := [.ref a0, .int x1, .int x2, .ref b_5, am_un]) (st' := [.ref a0, .ref b_5]) rfl) ?_
          refine Eq.trans (rn_gA (L' := [.ref a0, .int x1, .int x2, .ref b_5, am_un]) rfl rfl rfl rfl) ?_
          refine eA_c ?_ (fun b_6 => ?_)
          · exact rn_z rfl rfl
          · refine Eq.trans (rn_gA (L' := [.ref a0, .int x1, .int x2, .ref b_5, am_un]) rfl rfl rfl rfl) ?_
            refine eA_c ?_ (fun b_7 => ?_)
            · refine Eq.trans (rn_vir (L' := [.ref a0, .int x1, .int x2, .ref b_5, am_un]) (as := [.null]) (rest := []) rfl rfl rfl rfl rfl (Nat.le_of_ble_eq_true rfl) (by decide) (by decide)) ?_
              refine eC_c ?_
              refine Eq.trans (cW_I rfl rfl rfl) ?_
              refine cI_c (fun x_9 s_8 => ?_) (xh_nil rfl)
              rfl
            · refine Eq.trans (rn_vir (L' := [.ref a0, .int x1, .int x2, .ref b_5, am_un]) (as := [.ref b_7]) (rest := []) rfl rfl rfl rfl rfl (Nat.le_of_ble_eq_true rfl) (by decide) (by decide)) ?_
              refine eC_c ?_
              refine Eq.trans (cW_I rfl rfl rfl) ?_
              refine cI_c (fun x_11 s_10 => ?_) (xh_nil rfl)
              rfl
theorem dc_X12_safe_51 {B : Nat} (a0 : Nat) (x1 : Int32) (x2 : Int32) (w3 : Value) (xs0 : Int32) (s : am_S) : rn_ tb_ct tb_mt B mm_X12_safe 51 [.ref a0, .int x1, .int x2, w3, am_un] [.int xs0] s = if xs0 = (-(1 : Int32)) then rn_ tb_ct tb_mt B mm_X12_safe 66 [.ref a0, .int x1, .int x2, am_un, .int xs0] [] s else rn_ tb_ct tb_mt B mm_X12_safe 66 [.ref a0, .int (if xs0 < x1 then xs0 else x1), .int x2, am_un, .int xs0] [] s := by
  refine Eq.trans (rn_go 3 (pc' := 56) (L' := [.ref a0, .int x1, .int x2, am_un, .int xs0]) (st' := [.int (-(1 : Int32)), .int xs0]) rfl) ?_
  refine Eq.trans (rn_iceq (L' := [.ref a0, .int x1, .int x2, am_un, .int xs0]) rfl rfl) ?_
  refine if_c ?_ ?_
  · rfl
  · refine Eq.trans (rn_go 2 (pc' := 62) (L' := [.ref a0, .int x1, .int x2, am_un, .int xs0]) (st' := [.int xs0, .int x1]) rfl) ?_
    refine Eq.trans (rn_min (L' := [.ref a0, .int x1, .int x2, am_un, .int xs0]) rfl rfl (Nat.le_of_ble_eq_true rfl)) ?_
    exact rn_go 1 (pc' := 66) (L' := [.ref a0, .int (if xs0 < x1 then xs0 else x1), .int x2, am_un, .int xs0]) (st' := []) rfl
theorem dc_X12_safe_66 {B : Nat} (a0 : Nat) (x1 : Int32) (x2 : Int32) (w4 : Value) (s : am_S) : rn_ tb_ct tb_mt B mm_X12_safe 66 [.ref a0, .int x1, .int x2, am_un, w4] [] s = rn_ tb_ct tb_mt B mm_X12_safe 12 [.ref a0, .int x1, .int (x2 + (1 : Int32)), am_un, am_un] [] s := by
  exact rn_go 2 (pc' := 12) (L' := [.ref a0, .int x1, .int (x2 + (1 : Int32)), am_un, am_un]) (st' := []) rfl
theorem in_X12_missing {B : Nat} (a0 : Nat) (x1 : Int32) (s : am_S) : cl_ tb_ct tb_mt B K_X12_missing [.ref a0, .int x1] s = rn_ tb_ct tb_mt B mm_X12_missing 0 [.ref a0, .int x1, am_un, am_un, am_un, am_un] [] s := cl_in rfl rfl rfl rfl
theorem dc_X12_missing_0 {B : Nat} (a0 : Nat) (x1 : Int32) (s : am_S) : rn_ tb_ct tb_mt B mm_X12_missing 0 [.ref a0, .int x1, am_un, am_un, am_un, am_un] [] s = if x1 < 0 then rn_ tb_ct tb_mt B mm_X12_missing 9 [.ref a0, .int x1, am_un, am_un, am_un, am_un] [.int (0 : Int32)] s else rn_ tb_ct tb_mt B mm_X12_missing 9 [.ref a0, .int x1, am_un, am_un, am_un, am_un] [.int (1 : Int32)] s := by
  refine Eq.trans (rn_go 1 (pc' := 1) (L' := [.ref a0, .int x1, am_un, am_un, am_un, am_un]) (st' := [.int x1]) rfl) ?_
  refine Eq.trans (rn_iflt (L' := [.ref a0, .int x1, am_un, am_un, am_un, am_un]) rfl rfl) ?_
  refine if_c ?_ ?_
  · exact rn_go 1 (pc' := 9) (L' := [.ref a0, .int x1, am_un, am_un, am_un, am_un]) (st' := [.int (0 : Int32)]) rfl
  · exact rn_go 2 (pc' := 9) (L' := [.ref a0, .int x1, am_un, am_un, am_un, am_un]) (st' := [.int (1 : Int32)]) rfl
theorem dc_X12_missing_9 {B : Nat} (a0 : Nat) (x1 : Int32) (xs0 : Int32) (s : am_S) : rn_ tb_ct tb_mt B mm_X12_missing 9 [.ref a0, .int x1, am_un, am_un, am_un, am_un] [.int xs0] s = cV (cl_ tb_ct tb_mt B K_X12_need [.int xs0] s) (fun s_1 => rn_ tb_ct tb_mt B mm_X12_missing 16 [.ref a0, .int x1, .int (0 : Int32), .int (0 : Int32), am_un, am_un] [] s_1) xo := by
  refine Eq.trans (rn_sta (L' := [.ref a0, .int x1, am_un, am_un, am_un, am_un]) (as := [.int xs0]) (rest := []) rfl rfl rfl rfl rfl (Nat.le_of_ble_eq_true rfl) (by decide) rfl) ?_
  refine Eq.trans (cW_V rfl rfl) ?_
  refine cV_c (fun s_1 => ?_) (xh_nil rfl)
  exact rn_go 4 (pc' := 16) (L' := [.ref a0, .int x1, .int (0 : Int32), .int (0 : Int32), am_un, am_un]) (st' := []) rfl
theorem dc_X12_missing_16 {B : Nat} (a0 : Nat) (x1 : Int32) (x2 : Int32) (x3 : Int32) (s : am_S) : rn_ tb_ct tb_mt B mm_X12_missing 16 [.ref a0, .int x1, .int x2, .int x3, am_un, am_un] [] s = eA (gA tb_ct s a0 10 0) (none) (fun b_1 => eI (gI tb_ct s b_1 7 8) (fun x_2 => if x_2 ≤ x3 then some (.inl (some (.int x2)), s) else eA (gA tb_ct s a0 10 0) (none) (fun b_3 => eC (am_cls s b_3) 7 (cA (cl_ tb_ct tb_mt B K_X8_watchAt [.ref b_3, .int x3] s) (fun s_4 => rn_ tb_ct tb_mt B mm_X12_missing 58 [.ref a0, .int x1, .int x2, .int x3, va_rf none, am_un] [.int (-(1 : Int32))] s_4) (fun b_5 s_4 => eA (gA tb_ct s_4 a0 10 0) (none) (fun b_6 => eA (gA tb_ct s_4 b_6 7 1) (eC (am_cls s_4 b_5) 9 (cI (cl_ tb_ct tb_mt B K_X11_earliest [.ref b_5, .null] s_4) (fun x_9 s_8 => rn_ tb_ct tb_mt B mm_X12_missing 58 [.ref a0, .int x1, .int x2, .int x3, va_rf (some b_5), am_un] [.int x_9] s_8) xo)) (fun b_7 => eC (am_cls s_4 b_5) 9 (cI (cl_ tb_ct tb_mt B K_X11_earliest [.ref b_5, .ref b_7] s_4) (fun x_11 s_10 => rn_ tb_ct tb_mt B mm_X12_missing 58 [.ref a0, .int x1, .int x2, .int x3, va_rf (some b_5), am_un] [.int x_11] s_10) xo)))) xo)))) := by
  refine Eq.trans (rn_go 2 (pc' := 18) (L' := [.ref a0, .int x1, .int x2, .int x3, am_un, am_un]) (st' := [.ref a0, .int x3]) rfl) ?_
  refine Eq.trans (rn_gA (L' := [.ref a0, .int x1, .int x2, .int x3, am_un, am_un]) rfl rfl rfl rfl) ?_
  refine eA_c ?_ (fun b_1 => ?_)
  · exact rn_z rfl rfl
  · refine Eq.trans (rn_gI (L' := [.ref a0, .int x1, .int x2, .int x3, am_un, am_un]) rfl rfl rfl rfl) ?_
    refine eI_c (fun x_2 => ?_)
    refine Eq.trans (rn_icge (L' := [.ref a0, .int x1, .int x2, .int x3, am_un, am_un]) rfl rfl) ?_
    refine if_c ?_ ?_
    · refine Eq.trans (rn_go 1 (pc' := 82) (L' := [.ref a0, .int x1, .int x2, .int x3, am_un, am_un]) (st' := [.int x2]) rfl) ?_
      exact rn_retI rfl rfl rfl
    · refine Eq.trans (rn_go 1 (pc' := 28) (L' := [.ref a0, .int x1, .int x2, .int x3, am_un, am_un]) (st' := [.ref a0]) rfl) ?_
      refine Eq.trans (rn_gA (L' := [.ref a0, .int x1, .int x2, .int x3, am_un, am_un]) rfl rfl rfl rfl) ?_
      refine eA_c ?_ (fun b_3 => ?_)
      · refine Eq.trans (rn_go 1 (pc' := 32) (L' := [.ref a0, .int x1, .int x2, .int x3, am_un, am_un]) (st' := [.int x3, .null]) rfl) ?_
        exact rn_z rfl rfl
      · refine Eq.trans (rn_go 1 (pc' := 32) (L' := [.ref a0, .int x1, .int x2, .int x3, am_un, am_un]) (st' := [.int x3, .ref b_3]) rfl) ?_
        refine Eq.trans (rn_vir (L' := [.ref a0, .int x1, .int x2, .int x3, am_un, am_un]) (as := [.int x3]) (rest := []) rfl rfl rfl rfl rfl (Nat.le_of_ble_eq_true rfl) (by decide) (by decide)) ?_
        refine eC_c ?_
        refine Eq.trans (cW_A rfl rfl rfl) ?_
        refine cA_c (fun s_4 => ?_) (fun b_5 s_4 => ?_) (xh_nil rfl)
        · exact rn_go 5 (pc' := 58) (L' := [.ref a0, .int x1, .int x2, .int x3, va_rf none, am_un]) (st' := [.int (-(1 : Int32))]) rfl
        · refine Eq.trans (rn_go 5 (pc' := 49) (L' := [.ref a0, .int x1, .int x2, .int x3, .ref b_5, am_un]) (st' := [.ref a0, .ref b_5]) rfl) ?_
          refine Eq.trans (rn_gA (L' := [.ref a0, .int x1, .int x2, .int x3, .ref b_5, am_un]) rfl rfl rfl rfl) ?_
          refine eA_c ?_ (fun b_6 => ?_)
          · exact rn_z rfl rfl
          · refine Eq.trans (rn_gA (L' := [.ref a0, .int x1, .int x2, .int x3, .ref b_5, am_un]) rfl rfl rfl rfl) ?_
            refine eA_c ?_ (fun b_7 => ?_)
            · refine Eq.trans (rn_vir (L' := [.ref a0, .int x1, .int x2, .int x3, .ref b_5, am_un]) (as := [.null]) (rest := []) rfl rfl rfl rfl rfl (Nat.le_of_ble_eq_true rfl) (by decide) (by decide)) ?_
              refine eC_c ?_
              refine Eq.trans (cW_I rfl rfl rfl) ?_
              refine cI_c (fun x_9 s_8 => ?_) (xh_nil rfl)
              rfl
            · refine Eq.trans (rn_vir (L' := [.ref a0, .int x1, .int x2, .int x3, .ref b_5, am_un]) (as := [.ref b_7]) (rest := []) rfl rfl rfl rfl rfl (Nat.le_of_ble_eq_true rfl) (by decide) (by decide)) ?_
              refine eC_c ?_
              refine Eq.trans (cW_I rfl rfl rfl) ?_
              refine cI_c (fun x_11 s_10 => ?_) (xh_nil rfl)
              rfl
theorem dc_X12_missing_58 {B : Nat} (a0 : Nat) (x1 : Int32) (x2 : Int32) (x3 : Int32) (w4 : Value) (xs0 : Int32) (s : am_S) : rn_ tb_ct tb_mt B mm_X12_missing 58 [.ref a0, .int x1, .int x2, .int x3, w4, am_un] [.int xs0] s = if xs0 = (-(1 : Int32)) then rn_ tb_ct tb_mt B mm_X12_missing 75 [.ref a0, .int x1, .int x2, .int x3, am_un, .int xs0] [] s else if x1 < xs0 then rn_ tb_ct tb_mt B mm_X12_missing 75 [.ref a0, .int x1, .int x2, .int x3, am_un, .int xs0] [] s else rn_ tb_ct tb_mt B mm_X12_missing 75 [.ref a0, .int x1, .int (x2 + (1 : Int32)), .int x3, am_un, .int xs0] [] s := by
  refine Eq.trans (rn_go 3 (pc' := 63) (L' := [.ref a0, .int x1, .int x2, .int x3, am_un, .int xs0]) (st' := [.int (-(1 : Int32)), .int xs0]) rfl) ?_
  refine Eq.trans (rn_iceq (L' := [.ref a0, .int x1, .int x2, .int x3, am_un, .int xs0]) rfl rfl) ?_
  refine if_c ?_ ?_
  · rfl
  · refine Eq.trans (rn_go 2 (pc' := 69) (L' := [.ref a0, .int x1, .int x2, .int x3, am_un, .int xs0]) (st' := [.int x1, .int xs0]) rfl) ?_
    refine Eq.trans (rn_icgt (L' := [.ref a0, .int x1, .int x2, .int x3, am_un, .int xs0]) rfl rfl) ?_
    refine if_c ?_ ?_
    · rfl
    · exact rn_go 1 (pc' := 75) (L' := [.ref a0, .int x1, .int (x2 + (1 : Int32)), .int x3, am_un, .int xs0]) (st' := []) rfl
theorem dc_X12_missing_75 {B : Nat} (a0 : Nat) (x1 : Int32) (x2 : Int32) (x3 : Int32) (w5 : Value) (s : am_S) : rn_ tb_ct tb_mt B mm_X12_missing 75 [.ref a0, .int x1, .int x2, .int x3, am_un, w5] [] s = rn_ tb_ct tb_mt B mm_X12_missing 16 [.ref a0, .int x1, .int x2, .int (x3 + (1 : Int32)), am_un, am_un] [] s := by
  exact rn_go 2 (pc' := 16) (L' := [.ref a0, .int x1, .int x2, .int (x3 + (1 : Int32)), am_un, am_un]) (st' := []) rfl
theorem in_X12_slowest {B : Nat} (a0 : Nat) (s : am_S) : cl_ tb_ct tb_mt B K_X12_slowest [.ref a0] s = rn_ tb_ct tb_mt B mm_X12_slowest 0 [.ref a0, am_un, am_un, am_un, am_un, am_un] [] s := cl_in rfl rfl rfl rfl
theorem dc_X12_slowest_0 {B : Nat} (a0 : Nat) (s : am_S) : rn_ tb_ct tb_mt B mm_X12_slowest 0 [.ref a0, am_un, am_un, am_un, am_un, am_un] [] s = rn_ tb_ct tb_mt B mm_X12_slowest 6 [.ref a0, .int (-(1 : Int32)), .int (0 : Int32), .int (0 : Int32), am_un, am_un] [] s := by
  exact rn_go 6 (pc' := 6) (L' := [.ref a0, .int (-(1 : Int32)), .int (0 : Int32), .int (0 : Int32), am_un, am_un]) (st' := []) rfl
theorem dc_X12_slowest_6 {B : Nat} (a0 : Nat) (x1 : Int32) (x2 : Int32) (x3 : Int32) (s : am_S) : rn_ tb_ct tb_mt B mm_X12_slowest 6 [.ref a0, .int x1, .int x2, .int x3, am_un, am_un] [] s = eA (gA tb_ct s a0 10 0) (none) (fun b_1 => eI (gI tb_ct s b_1 7 8) (fun x_2 => if x_2 ≤ x3 then some (.inl (some (.int x1)), s) else eA (gA tb_ct s a0 10 0) (none) (fun b_3 => eC (am_cls s b_3) 7 (cA (cl_ tb_ct tb_mt B K_X8_watchAt [.ref b_3, .int x3] s) (fun s_4 => rn_ tb_ct tb_mt B mm_X12_slowest 48 [.ref a0, .int x1, .int x2, .int x3, va_rf none, am_un] [.int (0 : Int32)] s_4) (fun b_5 s_4 => eA (gA tb_ct s_4 a0 10 0) (none) (fun b_6 => eA (gA tb_ct s_4 b_6 7 1) (eC (am_cls s_4 b_5) 9 (cI (cl_ tb_ct tb_mt B K_X11_waiting [.ref b_5, .null] s_4) (fun x_9 s_8 => rn_ tb_ct tb_mt B mm_X12_slowest 48 [.ref a0, .int x1, .int x2, .int x3, va_rf (some b_5), am_un] [.int x_9] s_8) xo)) (fun b_7 => eC (am_cls s_4 b_5) 9 (cI (cl_ tb_ct tb_mt B K_X11_waiting [.ref b_5, .ref b_7] s_4) (fun x_11 s_10 => rn_ tb_ct tb_mt B mm_X12_slowest 48 [.ref a0, .int x1, .int x2, .int x3, va_rf (some b_5), am_un] [.int x_11] s_10) xo)))) xo)))) := by
  refine Eq.trans (rn_go 2 (pc' := 8) (L' := [.ref a0, .int x1, .int x2, .int x3, am_un, am_un]) (st' := [.ref a0, .int x3]) rfl) ?_
  refine Eq.trans (rn_gA (L' := [.ref a0, .int x1, .int x2, .int x3, am_un, am_un]) rfl rfl rfl rfl) ?_
  refine eA_c ?_ (fun b_1 => ?_)
  · exact rn_z rfl rfl
  · refine Eq.trans (rn_gI (L' := [.ref a0, .int x1, .int x2, .int x3, am_un, am_un]) rfl rfl rfl rfl) ?_
    refine eI_c (fun x_2 => ?_)
    refine Eq.trans (rn_icge (L' := [.ref a0, .int x1, .int x2, .int x3, am_un, am_un]) rfl rfl) ?_
    refine if_c ?_ ?_
    · refine Eq.trans (rn_go 1 (pc' := 68) (L' := [.ref a0, .int x1, .int x2, .int x3, am_un, am_un]) (st' := [.int x1]) rfl) ?_
      exact rn_retI rfl rfl rfl
    · refine Eq.trans (rn_go 1 (pc' := 18) (L' := [.ref a0, .int x1, .int x2, .int x3, am_un, am_un]) (st' := [.ref a0]) rfl) ?_
      refine Eq.trans (rn_gA (L' := [.ref a0, .int x1, .int x2, .int x3, am_un, am_un]) rfl rfl rfl rfl) ?_
      refine eA_c ?_ (fun b_3 => ?_)
      · refine Eq.trans (rn_go 1 (pc' := 22) (L' := [.ref a0, .int x1, .int x2, .int x3, am_un, am_un]) (st' := [.int x3, .null]) rfl) ?_
        exact rn_z rfl rfl
      · refine Eq.trans (rn_go 1 (pc' := 22) (L' := [.ref a0, .int x1, .int x2, .int x3, am_un, am_un]) (st' := [.int x3, .ref b_3]) rfl) ?_
        refine Eq.trans (rn_vir (L' := [.ref a0, .int x1, .int x2, .int x3, am_un, am_un]) (as := [.int x3]) (rest := []) rfl rfl rfl rfl rfl (Nat.le_of_ble_eq_true rfl) (by decide) (by decide)) ?_
        refine eC_c ?_
        refine Eq.trans (cW_A rfl rfl rfl) ?_
        refine cA_c (fun s_4 => ?_) (fun b_5 s_4 => ?_) (xh_nil rfl)
        · exact rn_go 5 (pc' := 48) (L' := [.ref a0, .int x1, .int x2, .int x3, va_rf none, am_un]) (st' := [.int (0 : Int32)]) rfl
        · refine Eq.trans (rn_go 5 (pc' := 39) (L' := [.ref a0, .int x1, .int x2, .int x3, .ref b_5, am_un]) (st' := [.ref a0, .ref b_5]) rfl) ?_
          refine Eq.trans (rn_gA (L' := [.ref a0, .int x1, .int x2, .int x3, .ref b_5, am_un]) rfl rfl rfl rfl) ?_
          refine eA_c ?_ (fun b_6 => ?_)
          · exact rn_z rfl rfl
          · refine Eq.trans (rn_gA (L' := [.ref a0, .int x1, .int x2, .int x3, .ref b_5, am_un]) rfl rfl rfl rfl) ?_
            refine eA_c ?_ (fun b_7 => ?_)
            · refine Eq.trans (rn_vir (L' := [.ref a0, .int x1, .int x2, .int x3, .ref b_5, am_un]) (as := [.null]) (rest := []) rfl rfl rfl rfl rfl (Nat.le_of_ble_eq_true rfl) (by decide) (by decide)) ?_
              refine eC_c ?_
              refine Eq.trans (cW_I rfl rfl rfl) ?_
              refine cI_c (fun x_9 s_8 => ?_) (xh_nil rfl)
              rfl
            · refine Eq.trans (rn_vir (L' := [.ref a0, .int x1, .int x2, .int x3, .ref b_5, am_un]) (as := [.ref b_7]) (rest := []) rfl rfl rfl rfl rfl (Nat.le_of_ble_eq_true rfl) (by decide) (by decide)) ?_
              refine eC_c ?_
              refine Eq.trans (cW_I rfl rfl rfl) ?_
              refine cI_c (fun x_11 s_10 => ?_) (xh_nil rfl)
              rfl
theorem dc_X12_slowest_48 {B : Nat} (a0 : Nat) (x1 : Int32) (x2 : Int32) (x3 : Int32) (w4 : Value) (xs0 : Int32) (s : am_S) : rn_ tb_ct tb_mt B mm_X12_slowest 48 [.ref a0, .int x1, .int x2, .int x3, w4, am_un] [.int xs0] s = if xs0 ≤ x2 then rn_ tb_ct tb_mt B mm_X12_slowest 61 [.ref a0, .int x1, .int x2, .int x3, am_un, .int xs0] [] s else rn_ tb_ct tb_mt B mm_X12_slowest 61 [.ref a0, .int x3, .int xs0, .int x3, am_un, .int xs0] [] s := by
  refine Eq.trans (rn_go 3 (pc' := 53) (L' := [.ref a0, .int x1, .int x2, .int x3, am_un, .int xs0]) (st' := [.int x2, .int xs0]) rfl) ?_
  refine Eq.trans (rn_icle (L' := [.ref a0, .int x1, .int x2, .int x3, am_un, .int xs0]) rfl rfl) ?_
  refine if_c ?_ ?_
  · rfl
  · exact rn_go 4 (pc' := 61) (L' := [.ref a0, .int x3, .int xs0, .int x3, am_un, .int xs0]) (st' := []) rfl
theorem dc_X12_slowest_61 {B : Nat} (a0 : Nat) (x1 : Int32) (x2 : Int32) (x3 : Int32) (w5 : Value) (s : am_S) : rn_ tb_ct tb_mt B mm_X12_slowest 61 [.ref a0, .int x1, .int x2, .int x3, am_un, w5] [] s = rn_ tb_ct tb_mt B mm_X12_slowest 6 [.ref a0, .int x1, .int x2, .int (x3 + (1 : Int32)), am_un, am_un] [] s := by
  exact rn_go 2 (pc' := 6) (L' := [.ref a0, .int x1, .int x2, .int (x3 + (1 : Int32)), am_un, am_un]) (st' := []) rfl
theorem in_X12_behind {B : Nat} (a0 : Nat) (x1 : Int32) (s : am_S) : cl_ tb_ct tb_mt B K_X12_behind [.ref a0, .int x1] s = rn_ tb_ct tb_mt B mm_X12_behind 0 [.ref a0, .int x1, am_un] [] s := cl_in rfl rfl rfl rfl
theorem dc_X12_behind_0 {B : Nat} (a0 : Nat) (x1 : Int32) (s : am_S) : rn_ tb_ct tb_mt B mm_X12_behind 0 [.ref a0, .int x1, am_un] [] s = eC (am_cls s a0) 10 (cA (cl_ tb_ct tb_mt B K_X12_needWatch [.ref a0, .int x1] s) (fun s_1 => eA (gA tb_ct s_1 a0 10 0) (none) (fun b_3 => eA (gA tb_ct s_1 b_3 7 1) (none) (fun b_4 => none))) (fun b_2 s_1 => eA (gA tb_ct s_1 a0 10 0) (none) (fun b_5 => eA (gA tb_ct s_1 b_5 7 1) (eC (am_cls s_1 b_2) 9 (cI (cl_ tb_ct tb_mt B K_X11_earliest [.ref b_2, .null] s_1) (fun x_8 s_7 => if x_8 = (-(1 : Int32)) then some (.inl (some (.int (0 : Int32))), s_7) else eA (gA tb_ct s_7 a0 10 0) (none) (fun b_9 => eI (gI tb_ct s_7 b_9 7 5) (fun x_10 => some (.inl (some (.int ((x_10 - x_8) + (1 : Int32)))), s_7)))) xo)) (fun b_6 => eC (am_cls s_1 b_2) 9 (cI (cl_ tb_ct tb_mt B K_X11_earliest [.ref b_2, .ref b_6] s_1) (fun x_12 s_11 => if x_12 = (-(1 : Int32)) then some (.inl (some (.int (0 : Int32))), s_11) else eA (gA tb_ct s_11 a0 10 0) (none) (fun b_13 => eI (gI tb_ct s_11 b_13 7 5) (fun x_14 => some (.inl (some (.int ((x_14 - x_12) + (1 : Int32)))), s_11)))) xo)))) xo) := by
  refine Eq.trans (rn_go 2 (pc' := 2) (L' := [.ref a0, .int x1, am_un]) (st' := [.int x1, .ref a0]) rfl) ?_
  refine Eq.trans (rn_vir (L' := [.ref a0, .int x1, am_un]) (as := [.int x1]) (rest := []) rfl rfl rfl rfl rfl (Nat.le_of_ble_eq_true rfl) (by decide) (by decide)) ?_
  refine eC_c ?_
  refine Eq.trans (cW_A rfl rfl rfl) ?_
  refine cA_c (fun s_1 => ?_) (fun b_2 s_1 => ?_) (xh_nil rfl)
  · refine Eq.trans (rn_go 1 (pc' := 6) (L' := [.ref a0, .int x1, am_un]) (st' := [.ref a0, .null]) rfl) ?_
    refine Eq.trans (rn_gA (L' := [.ref a0, .int x1, am_un]) rfl rfl rfl rfl) ?_
    refine eA_c ?_ (fun b_3 => ?_)
    · exact rn_z rfl rfl
    · refine Eq.trans (rn_gA (L' := [.ref a0, .int x1, am_un]) rfl rfl rfl rfl) ?_
      refine eA_c ?_ (fun b_4 => ?_)
      · exact rn_z rfl rfl
      · exact rn_z rfl rfl
  · refine Eq.trans (rn_go 1 (pc' := 6) (L' := [.ref a0, .int x1, am_un]) (st' := [.ref a0, .ref b_2]) rfl) ?_
    refine Eq.trans (rn_gA (L' := [.ref a0, .int x1, am_un]) rfl rfl rfl rfl) ?_
    refine eA_c ?_ (fun b_5 => ?_)
    · exact rn_z rfl rfl
    · refine Eq.trans (rn_gA (L' := [.ref a0, .int x1, am_un]) rfl rfl rfl rfl) ?_
      refine eA_c ?_ (fun b_6 => ?_)
      · refine Eq.trans (rn_vir (L' := [.ref a0, .int x1, am_un]) (as := [.null]) (rest := []) rfl rfl rfl rfl rfl (Nat.le_of_ble_eq_true rfl) (by decide) (by decide)) ?_
        refine eC_c ?_
        refine Eq.trans (cW_I rfl rfl rfl) ?_
        refine cI_c (fun x_8 s_7 => ?_) (xh_nil rfl)
        refine Eq.trans (rn_go 3 (pc' := 18) (L' := [.ref a0, .int x1, .int x_8]) (st' := [.int (-(1 : Int32)), .int x_8]) rfl) ?_
        refine Eq.trans (rn_icne (L' := [.ref a0, .int x1, .int x_8]) rfl rfl) ?_
        refine if_c ?_ ?_
        · refine Eq.trans (rn_go 2 (pc' := 36) (L' := [.ref a0, .int x1, .int x_8]) (st' := [.int (0 : Int32)]) rfl) ?_
          exact rn_retI rfl rfl rfl
        · refine Eq.trans (rn_go 1 (pc' := 26) (L' := [.ref a0, .int x1, .int x_8]) (st' := [.ref a0]) rfl) ?_
          refine Eq.trans (rn_gA (L' := [.ref a0, .int x1, .int x_8]) rfl rfl rfl rfl) ?_
          refine eA_c ?_ (fun b_9 => ?_)
          · exact rn_z rfl rfl
          · refine Eq.trans (rn_gI (L' := [.ref a0, .int x1, .int x_8]) rfl rfl rfl rfl) ?_
            refine eI_c (fun x_10 => ?_)
            refine Eq.trans (rn_go 4 (pc' := 36) (L' := [.ref a0, .int x1, .int x_8]) (st' := [.int ((x_10 - x_8) + (1 : Int32))]) rfl) ?_
            exact rn_retI rfl rfl rfl
      · refine Eq.trans (rn_vir (L' := [.ref a0, .int x1, am_un]) (as := [.ref b_6]) (rest := []) rfl rfl rfl rfl rfl (Nat.le_of_ble_eq_true rfl) (by decide) (by decide)) ?_
        refine eC_c ?_
        refine Eq.trans (cW_I rfl rfl rfl) ?_
        refine cI_c (fun x_12 s_11 => ?_) (xh_nil rfl)
        refine Eq.trans (rn_go 3 (pc' := 18) (L' := [.ref a0, .int x1, .int x_12]) (st' := [.int (-(1 : Int32)), .int x_12]) rfl) ?_
        refine Eq.trans (rn_icne (L' := [.ref a0, .int x1, .int x_12]) rfl rfl) ?_
        refine if_c ?_ ?_
        · refine Eq.trans (rn_go 2 (pc' := 36) (L' := [.ref a0, .int x1, .int x_12]) (st' := [.int (0 : Int32)]) rfl) ?_
          exact rn_retI rfl rfl rfl
        · refine Eq.trans (rn_go 1 (pc' := 26) (L' := [.ref a0, .int x1, .int x_12]) (st' := [.ref a0]) rfl) ?_
          refine Eq.trans (rn_gA (L' := [.ref a0, .int x1, .int x_12]) rfl rfl rfl rfl) ?_
          refine eA_c ?_ (fun b_13 => ?_)
          · exact rn_z rfl rfl
          · refine Eq.trans (rn_gI (L' := [.ref a0, .int x1, .int x_12]) rfl rfl rfl rfl) ?_
            refine eI_c (fun x_14 => ?_)
            refine Eq.trans (rn_go 4 (pc' := 36) (L' := [.ref a0, .int x1, .int x_12]) (st' := [.int ((x_14 - x_12) + (1 : Int32))]) rfl) ?_
            exact rn_retI rfl rfl rfl
theorem in_X12_meanLag {B : Nat} (a0 : Nat) (s : am_S) : cl_ tb_ct tb_mt B K_X12_meanLag [.ref a0] s = rn_ tb_ct tb_mt B mm_X12_meanLag 0 [.ref a0, am_un, am_un, am_un, am_un] [] s := cl_in rfl rfl rfl rfl
theorem dc_X12_meanLag_0 {B : Nat} (a0 : Nat) (s : am_S) : rn_ tb_ct tb_mt B mm_X12_meanLag 0 [.ref a0, am_un, am_un, am_un, am_un] [] s = eA (gA tb_ct s a0 10 0) (none) (fun b_1 => eI (gI tb_ct s b_1 7 8) (fun x_2 => if x_2 = 0 then some (.inl (some (.float FP.fconst0)), s) else rn_ tb_ct tb_mt B mm_X12_meanLag 18 [.ref a0, .int x_2, .int (0 : Int32), .int (0 : Int32), am_un] [] s)) := by
  refine Eq.trans (rn_go 1 (pc' := 1) (L' := [.ref a0, am_un, am_un, am_un, am_un]) (st' := [.ref a0]) rfl) ?_
  refine Eq.trans (rn_gA (L' := [.ref a0, am_un, am_un, am_un, am_un]) rfl rfl rfl rfl) ?_
  refine eA_c ?_ (fun b_1 => ?_)
  · exact rn_z rfl rfl
  · refine Eq.trans (rn_gI (L' := [.ref a0, am_un, am_un, am_un, am_un]) rfl rfl rfl rfl) ?_
    refine eI_c (fun x_2 => ?_)
    refine Eq.trans (rn_go 2 (pc' := 9) (L' := [.ref a0, .int x_2, am_un, am_un, am_un]) (st' := [.int x_2]) rfl) ?_
    refine Eq.trans (rn_ifne (L' := [.ref a0, .int x_2, am_un, am_un, am_un]) rfl rfl) ?_
    refine if_c ?_ ?_
    · refine Eq.trans (rn_go 1 (pc' := 13) (L' := [.ref a0, .int x_2, am_un, am_un, am_un]) (st' := [.float FP.fconst0]) rfl) ?_
      exact rn_retF rfl rfl
    · exact rn_go 4 (pc' := 18) (L' := [.ref a0, .int x_2, .int (0 : Int32), .int (0 : Int32), am_un]) (st' := []) rfl
theorem dc_X12_meanLag_18 {B : Nat} (a0 : Nat) (x1 : Int32) (x2 : Int32) (x3 : Int32) (s : am_S) : rn_ tb_ct tb_mt B mm_X12_meanLag 18 [.ref a0, .int x1, .int x2, .int x3, am_un] [] s = if x1 ≤ x3 then if (FP.fdiv (FP.i2f x2) (FP.i2f x1)) &&& 0x7fffffff ≤ 0x7f800000 then some (.inl (some (.float (FP.fdiv (FP.i2f x2) (FP.i2f x1)))), s) else none else eA (gA tb_ct s a0 10 0) (none) (fun b_1 => eC (am_cls s b_1) 7 (cA (cl_ tb_ct tb_mt B K_X8_watchAt [.ref b_1, .int x3] s) (fun s_2 => rn_ tb_ct tb_mt B mm_X12_meanLag 55 [.ref a0, .int x1, .int x2, .int x3, va_rf none] [.int (0 : Int32), .int x2] s_2) (fun b_3 s_2 => eA (gA tb_ct s_2 a0 10 0) (none) (fun b_4 => eA (gA tb_ct s_2 b_4 7 1) (eC (am_cls s_2 b_3) 9 (cI (cl_ tb_ct tb_mt B K_X11_waiting [.ref b_3, .null] s_2) (fun x_7 s_6 => rn_ tb_ct tb_mt B mm_X12_meanLag 55 [.ref a0, .int x1, .int x2, .int x3, va_rf (some b_3)] [.int x_7, .int x2] s_6) xo)) (fun b_5 => eC (am_cls s_2 b_3) 9 (cI (cl_ tb_ct tb_mt B K_X11_waiting [.ref b_3, .ref b_5] s_2) (fun x_9 s_8 => rn_ tb_ct tb_mt B mm_X12_meanLag 55 [.ref a0, .int x1, .int x2, .int x3, va_rf (some b_3)] [.int x_9, .int x2] s_8) xo)))) xo)) := by
  refine Eq.trans (rn_go 2 (pc' := 20) (L' := [.ref a0, .int x1, .int x2, .int x3, am_un]) (st' := [.int x1, .int x3]) rfl) ?_
  refine Eq.trans (rn_icge (L' := [.ref a0, .int x1, .int x2, .int x3, am_un]) rfl rfl) ?_
  refine if_c ?_ ?_
  · refine Eq.trans (rn_go 4 (pc' := 67) (L' := [.ref a0, .int x1, .int x2, .int x3, am_un]) (st' := [.float (FP.i2f x1), .float (FP.i2f x2)]) rfl) ?_
    refine Eq.trans (rn_fdiv (L' := [.ref a0, .int x1, .int x2, .int x3, am_un]) rfl rfl) ?_
    refine if_c ?_ rfl
    exact rn_retF rfl rfl
  · refine Eq.trans (rn_go 1 (pc' := 24) (L' := [.ref a0, .int x1, .int x2, .int x3, am_un]) (st' := [.ref a0]) rfl) ?_
    refine Eq.trans (rn_gA (L' := [.ref a0, .int x1, .int x2, .int x3, am_un]) rfl rfl rfl rfl) ?_
    refine eA_c ?_ (fun b_1 => ?_)
    · refine Eq.trans (rn_go 1 (pc' := 28) (L' := [.ref a0, .int x1, .int x2, .int x3, am_un]) (st' := [.int x3, .null]) rfl) ?_
      exact rn_z rfl rfl
    · refine Eq.trans (rn_go 1 (pc' := 28) (L' := [.ref a0, .int x1, .int x2, .int x3, am_un]) (st' := [.int x3, .ref b_1]) rfl) ?_
      refine Eq.trans (rn_vir (L' := [.ref a0, .int x1, .int x2, .int x3, am_un]) (as := [.int x3]) (rest := []) rfl rfl rfl rfl rfl (Nat.le_of_ble_eq_true rfl) (by decide) (by decide)) ?_
      refine eC_c ?_
      refine Eq.trans (cW_A rfl rfl rfl) ?_
      refine cA_c (fun s_2 => ?_) (fun b_3 s_2 => ?_) (xh_nil rfl)
      · exact rn_go 6 (pc' := 55) (L' := [.ref a0, .int x1, .int x2, .int x3, va_rf none]) (st' := [.int (0 : Int32), .int x2]) rfl
      · refine Eq.trans (rn_go 6 (pc' := 46) (L' := [.ref a0, .int x1, .int x2, .int x3, .ref b_3]) (st' := [.ref a0, .ref b_3, .int x2]) rfl) ?_
        refine Eq.trans (rn_gA (L' := [.ref a0, .int x1, .int x2, .int x3, .ref b_3]) rfl rfl rfl rfl) ?_
        refine eA_c ?_ (fun b_4 => ?_)
        · exact rn_z rfl rfl
        · refine Eq.trans (rn_gA (L' := [.ref a0, .int x1, .int x2, .int x3, .ref b_3]) rfl rfl rfl rfl) ?_
          refine eA_c ?_ (fun b_5 => ?_)
          · refine Eq.trans (rn_vir (L' := [.ref a0, .int x1, .int x2, .int x3, .ref b_3]) (as := [.null]) (rest := [.int x2]) rfl rfl rfl rfl rfl (Nat.le_of_ble_eq_true rfl) (by decide) (by decide)) ?_
            refine eC_c ?_
            refine Eq.trans (cW_I rfl rfl rfl) ?_
            refine cI_c (fun x_7 s_6 => ?_) (xh_nil rfl)
            rfl
          · refine Eq.trans (rn_vir (L' := [.ref a0, .int x1, .int x2, .int x3, .ref b_3]) (as := [.ref b_5]) (rest := [.int x2]) rfl rfl rfl rfl rfl (Nat.le_of_ble_eq_true rfl) (by decide) (by decide)) ?_
            refine eC_c ?_
            refine Eq.trans (cW_I rfl rfl rfl) ?_
            refine cI_c (fun x_9 s_8 => ?_) (xh_nil rfl)
            rfl
theorem dc_X12_meanLag_55 {B : Nat} (a0 : Nat) (x1 : Int32) (w2 : Value) (x3 : Int32) (w4 : Value) (xs0 : Int32) (xs1 : Int32) (s : am_S) : rn_ tb_ct tb_mt B mm_X12_meanLag 55 [.ref a0, .int x1, w2, .int x3, w4] [.int xs0, .int xs1] s = rn_ tb_ct tb_mt B mm_X12_meanLag 18 [.ref a0, .int x1, .int (xs1 + xs0), .int (x3 + (1 : Int32)), am_un] [] s := by
  exact rn_go 4 (pc' := 18) (L' := [.ref a0, .int x1, .int (xs1 + xs0), .int (x3 + (1 : Int32)), am_un]) (st' := []) rfl
theorem in_X12_grant {B : Nat} (a0 : Nat) (x1 : Int32) (s : am_S) : cl_ tb_ct tb_mt B K_X12_grant [.ref a0, .int x1] s = rn_ tb_ct tb_mt B mm_X12_grant 0 [.ref a0, .int x1] [] s := cl_in rfl rfl rfl rfl
theorem dc_X12_grant_0 {B : Nat} (a0 : Nat) (x1 : Int32) (s : am_S) : rn_ tb_ct tb_mt B mm_X12_grant 0 [.ref a0, .int x1] [] s = cI (cl_ tb_ct tb_mt B K_X12_isTicks [.int x1] s) (fun x_2 s_1 => cV (cl_ tb_ct tb_mt B K_X12_need [.int x_2] s_1) (fun s_3 => eA (gA tb_ct s_3 a0 10 0) (none) (fun b_4 => eC (am_cls s_3 b_4) 7 (cI (cl_ tb_ct tb_mt B K_X8_addLease [.ref b_4, .int x1] s_3) (fun x_6 s_5 => some (.inl (some (.int x_6)), s_5)) xo))) xo) xo := by
  refine Eq.trans (rn_go 1 (pc' := 1) (L' := [.ref a0, .int x1]) (st' := [.int x1]) rfl) ?_
  refine Eq.trans (rn_sta (L' := [.ref a0, .int x1]) (as := [.int x1]) (rest := []) rfl rfl rfl rfl rfl (Nat.le_of_ble_eq_true rfl) (by decide) rfl) ?_
  refine Eq.trans (cW_I rfl rfl rfl) ?_
  refine cI_c (fun x_2 s_1 => ?_) (xh_nil rfl)
  refine Eq.trans (rn_sta (L' := [.ref a0, .int x1]) (as := [.int x_2]) (rest := []) rfl rfl rfl rfl rfl (Nat.le_of_ble_eq_true rfl) (by decide) rfl) ?_
  refine Eq.trans (cW_V rfl rfl) ?_
  refine cV_c (fun s_3 => ?_) (xh_nil rfl)
  refine Eq.trans (rn_go 1 (pc' := 8) (L' := [.ref a0, .int x1]) (st' := [.ref a0]) rfl) ?_
  refine Eq.trans (rn_gA (L' := [.ref a0, .int x1]) rfl rfl rfl rfl) ?_
  refine eA_c ?_ (fun b_4 => ?_)
  · refine Eq.trans (rn_go 1 (pc' := 12) (L' := [.ref a0, .int x1]) (st' := [.int x1, .null]) rfl) ?_
    exact rn_z rfl rfl
  · refine Eq.trans (rn_go 1 (pc' := 12) (L' := [.ref a0, .int x1]) (st' := [.int x1, .ref b_4]) rfl) ?_
    refine Eq.trans (rn_vir (L' := [.ref a0, .int x1]) (as := [.int x1]) (rest := []) rfl rfl rfl rfl rfl (Nat.le_of_ble_eq_true rfl) (by decide) (by decide)) ?_
    refine eC_c ?_
    refine Eq.trans (cW_I rfl rfl rfl) ?_
    refine cI_c (fun x_6 s_5 => ?_) (xh_nil rfl)
    exact rn_retI rfl rfl rfl
theorem in_X12_lease {B : Nat} (a0 : Nat) (x1 : Int32) (x2 : Int32) (s : am_S) : cl_ tb_ct tb_mt B K_X12_lease [.ref a0, .int x1, .int x2] s = rn_ tb_ct tb_mt B mm_X12_lease 0 [.ref a0, .int x1, .int x2, am_un] [] s := cl_in rfl rfl rfl rfl
theorem dc_X12_lease_0 {B : Nat} (a0 : Nat) (x1 : Int32) (x2 : Int32) (s : am_S) : rn_ tb_ct tb_mt B mm_X12_lease 0 [.ref a0, .int x1, .int x2, am_un] [] s = if x2 < 0 then rn_ tb_ct tb_mt B mm_X12_lease 13 [.ref a0, .int x1, .int x2, am_un] [] s else if (2 : Int32) < x2 then rn_ tb_ct tb_mt B mm_X12_lease 13 [.ref a0, .int x1, .int x2, am_un] [] s else rn_ tb_ct tb_mt B mm_X12_lease 14 [.ref a0, .int x1, .int x2, am_un] [.int (1 : Int32)] s := by
  refine Eq.trans (rn_go 1 (pc' := 1) (L' := [.ref a0, .int x1, .int x2, am_un]) (st' := [.int x2]) rfl) ?_
  refine Eq.trans (rn_iflt (L' := [.ref a0, .int x1, .int x2, am_un]) rfl rfl) ?_
  refine if_c ?_ ?_
  · rfl
  · refine Eq.trans (rn_go 2 (pc' := 6) (L' := [.ref a0, .int x1, .int x2, am_un]) (st' := [.int (2 : Int32), .int x2]) rfl) ?_
    refine Eq.trans (rn_icgt (L' := [.ref a0, .int x1, .int x2, am_un]) rfl rfl) ?_
    refine if_c ?_ ?_
    · rfl
    · exact rn_go 2 (pc' := 14) (L' := [.ref a0, .int x1, .int x2, am_un]) (st' := [.int (1 : Int32)]) rfl
theorem dc_X12_lease_13 {B : Nat} (a0 : Nat) (x1 : Int32) (x2 : Int32) (s : am_S) : rn_ tb_ct tb_mt B mm_X12_lease 13 [.ref a0, .int x1, .int x2, am_un] [] s = rn_ tb_ct tb_mt B mm_X12_lease 14 [.ref a0, .int x1, .int x2, am_un] [.int (0 : Int32)] s := by
  exact rn_go 1 (pc' := 14) (L' := [.ref a0, .int x1, .int x2, am_un]) (st' := [.int (0 : Int32)]) rfl
theorem dc_X12_lease_14 {B : Nat} (a0 : Nat) (x1 : Int32) (x2 : Int32) (xs0 : Int32) (s : am_S) : rn_ tb_ct tb_mt B mm_X12_lease 14 [.ref a0, .int x1, .int x2, am_un] [.int xs0] s = cV (cl_ tb_ct tb_mt B K_X12_need [.int xs0] s) (fun s_1 => eA (gA tb_ct s_1 a0 10 0) (eA (gA tb_ct s_1 a0 10 0) (none) (fun b_3 => eC (am_cls s_1 b_3) 7 (cI (cl_ tb_ct tb_mt B K_X8_findLease [.ref b_3, .int x1] s_1) (fun x_5 s_4 => none) xo))) (fun b_2 => eA (gA tb_ct s_1 a0 10 0) (none) (fun b_6 => eC (am_cls s_1 b_6) 7 (cI (cl_ tb_ct tb_mt B K_X8_findLease [.ref b_6, .int x1] s_1) (fun x_8 s_7 => eC (am_cls s_7 b_2) 7 (cA (cl_ tb_ct tb_mt B K_X8_leaseAt [.ref b_2, .int x_8] s_7) (fun s_9 => some (.inl (some (.int (-(3 : Int32)))), s_9)) (fun b_10 s_9 => if (0 : Int) = x2.toInt then eI (gI tb_ct s_9 b_10 4 1) (fun x_11 => some (.inl (some (.int x_11)), s_9)) else if (1 : Int) = x2.toInt then eI (gI tb_ct s_9 b_10 4 2) (fun x_12 => some (.inl (some (.int x_12)), s_9)) else eA (gA tb_ct s_9 a0 10 0) (none) (fun b_13 => eA (gA tb_ct s_9 b_13 7 0) (none) (fun b_14 => eC (am_cls s_9 b_14) 3 (cI (cl_ tb_ct tb_mt B K_X4_countWith [.ref b_14, .int x1] s_9) (fun x_16 s_15 => some (.inl (some (.int x_16)), s_15)) xo)))) xo)) xo)))) xo := by
  refine Eq.trans (rn_sta (L' := [.ref a0, .int x1, .int x2, am_un]) (as := [.int xs0]) (rest := []) rfl rfl rfl rfl rfl (Nat.le_of_ble_eq_true rfl) (by decide) rfl) ?_
  refine Eq.trans (cW_V rfl rfl) ?_
  refine cV_c (fun s_1 => ?_) (xh_nil rfl)
  refine Eq.trans (rn_go 1 (pc' := 18) (L' := [.ref a0, .int x1, .int x2, am_un]) (st' := [.ref a0]) rfl) ?_
  refine Eq.trans (rn_gA (L' := [.ref a0, .int x1, .int x2, am_un]) rfl rfl rfl rfl) ?_
  refine eA_c ?_ (fun b_2 => ?_)
  · refine Eq.trans (rn_go 1 (pc' := 22) (L' := [.ref a0, .int x1, .int x2, am_un]) (st' := [.ref a0, .null]) rfl) ?_
    refine Eq.trans (rn_gA (L' := [.ref a0, .int x1, .int x2, am_un]) rfl rfl rfl rfl) ?_
    refine eA_c ?_ (fun b_3 => ?_)
    · refine Eq.trans (rn_go 1 (pc' := 26) (L' := [.ref a0, .int x1, .int x2, am_un]) (st' := [.int x1, .null, .null]) rfl) ?_
      exact rn_z rfl rfl
    · refine Eq.trans (rn_go 1 (pc' := 26) (L' := [.ref a0, .int x1, .int x2, am_un]) (st' := [.int x1, .ref b_3, .null]) rfl) ?_
      refine Eq.trans (rn_vir (L' := [.ref a0, .int x1, .int x2, am_un]) (as := [.int x1]) (rest := [.null]) rfl rfl rfl rfl rfl (Nat.le_of_ble_eq_true rfl) (by decide) (by decide)) ?_
      refine eC_c ?_
      refine Eq.trans (cW_I rfl rfl rfl) ?_
      refine cI_c (fun x_5 s_4 => ?_) (xh_nil rfl)
      exact rn_z rfl rfl
  · refine Eq.trans (rn_go 1 (pc' := 22) (L' := [.ref a0, .int x1, .int x2, am_un]) (st' := [.ref a0, .ref b_2]) rfl) ?_
    refine Eq.trans (rn_gA (L' := [.ref a0, .int x1, .int x2, am_un]) rfl rfl rfl rfl) ?_
    refine eA_c ?_ (fun b_6 => ?_)
    · refine Eq.trans (rn_go 1 (pc' := 26) (L' := [.ref a0, .int x1, .int x2, am_un]) (st' := [.int x1, .null, .ref b_2]) rfl) ?_
      exact rn_z rfl rfl
    · refine Eq.trans (rn_go 1 (pc' := 26) (L' := [.ref a0, .int x1, .int x2, am_un]) (st' := [.int x1, .ref b_6, .ref b_2]) rfl) ?_
      refine Eq.trans (rn_vir (L' := [.ref a0, .int x1, .int x2, am_un]) (as := [.int x1]) (rest := [.ref b_2]) rfl rfl rfl rfl rfl (Nat.le_of_ble_eq_true rfl) (by decide) (by decide)) ?_
      refine eC_c ?_
      refine Eq.trans (cW_I rfl rfl rfl) ?_
      refine cI_c (fun x_8 s_7 => ?_) (xh_nil rfl)
      refine Eq.trans (rn_vir (L' := [.ref a0, .int x1, .int x2, am_un]) (as := [.int x_8]) (rest := []) rfl rfl rfl rfl rfl (Nat.le_of_ble_eq_true rfl) (by decide) (by decide)) ?_
      refine eC_c ?_
      refine Eq.trans (cW_A rfl rfl rfl) ?_
      refine cA_c (fun s_9 => ?_) (fun b_10 s_9 => ?_) (xh_nil rfl)
      · refine Eq.trans (rn_go 4 (pc' := 39) (L' := [.ref a0, .int x1, .int x2, .null]) (st' := [.int (-(3 : Int32))]) rfl) ?_
        exact rn_retI rfl rfl rfl
      · refine Eq.trans (rn_go 4 (pc' := 41) (L' := [.ref a0, .int x1, .int x2, .ref b_10]) (st' := [.int x2]) rfl) ?_
        refine Eq.trans (rn_lsw2 (L' := [.ref a0, .int x1, .int x2, .ref b_10]) (ta := 68) (tb := 73) (td := 78) rfl rfl rfl rfl rfl) ?_
        refine if_c ?_ ?_
        · refine Eq.trans (rn_go 1 (pc' := 69) (L' := [.ref a0, .int x1, .int x2, .ref b_10]) (st' := [.ref b_10]) rfl) ?_
          refine Eq.trans (rn_gI (L' := [.ref a0, .int x1, .int x2, .ref b_10]) rfl rfl rfl rfl) ?_
          refine eI_c (fun x_11 => ?_)
          exact rn_retI rfl rfl rfl
        · refine if_c ?_ ?_
          · refine Eq.trans (rn_go 1 (pc' := 74) (L' := [.ref a0, .int x1, .int x2, .ref b_10]) (st' := [.ref b_10]) rfl) ?_
            refine Eq.trans (rn_gI (L' := [.ref a0, .int x1, .int x2, .ref b_10]) rfl rfl rfl rfl) ?_
            refine eI_c (fun x_12 => ?_)
            exact rn_retI rfl rfl rfl
          · refine Eq.trans (rn_go 1 (pc' := 79) (L' := [.ref a0, .int x1, .int x2, .ref b_10]) (st' := [.ref a0]) rfl) ?_
            refine Eq.trans (rn_gA (L' := [.ref a0, .int x1, .int x2, .ref b_10]) rfl rfl rfl rfl) ?_
            refine eA_c ?_ (fun b_13 => ?_)
            · exact rn_z rfl rfl
            · refine Eq.trans (rn_gA (L' := [.ref a0, .int x1, .int x2, .ref b_10]) rfl rfl rfl rfl) ?_
              refine eA_c ?_ (fun b_14 => ?_)
              · refine Eq.trans (rn_go 1 (pc' := 86) (L' := [.ref a0, .int x1, .int x2, .ref b_10]) (st' := [.int x1, .null]) rfl) ?_
                exact rn_z rfl rfl
              · refine Eq.trans (rn_go 1 (pc' := 86) (L' := [.ref a0, .int x1, .int x2, .ref b_10]) (st' := [.int x1, .ref b_14]) rfl) ?_
                refine Eq.trans (rn_vir (L' := [.ref a0, .int x1, .int x2, .ref b_10]) (as := [.int x1]) (rest := []) rfl rfl rfl rfl rfl (Nat.le_of_ble_eq_true rfl) (by decide) (by decide)) ?_
                refine eC_c ?_
                refine Eq.trans (cW_I rfl rfl rfl) ?_
                refine cI_c (fun x_16 s_15 => ?_) (xh_nil rfl)
                exact rn_retI rfl rfl rfl
theorem in_X12_keepAlive {B : Nat} (a0 : Nat) (x1 : Int32) (s : am_S) : cl_ tb_ct tb_mt B K_X12_keepAlive [.ref a0, .int x1] s = rn_ tb_ct tb_mt B mm_X12_keepAlive 0 [.ref a0, .int x1] [] s := cl_in rfl rfl rfl rfl
theorem dc_X12_keepAlive_0 {B : Nat} (a0 : Nat) (x1 : Int32) (s : am_S) : rn_ tb_ct tb_mt B mm_X12_keepAlive 0 [.ref a0, .int x1] [] s = eA (gA tb_ct s a0 10 0) (none) (fun b_1 => eC (am_cls s b_1) 7 (cI (cl_ tb_ct tb_mt B K_X8_renew [.ref b_1, .int x1] s) (fun x_3 s_2 => some (.inl (some (.int x_3)), s_2)) xo)) := by
  refine Eq.trans (rn_go 1 (pc' := 1) (L' := [.ref a0, .int x1]) (st' := [.ref a0]) rfl) ?_
  refine Eq.trans (rn_gA (L' := [.ref a0, .int x1]) rfl rfl rfl rfl) ?_
  refine eA_c ?_ (fun b_1 => ?_)
  · refine Eq.trans (rn_go 1 (pc' := 5) (L' := [.ref a0, .int x1]) (st' := [.int x1, .null]) rfl) ?_
    exact rn_z rfl rfl
  · refine Eq.trans (rn_go 1 (pc' := 5) (L' := [.ref a0, .int x1]) (st' := [.int x1, .ref b_1]) rfl) ?_
    refine Eq.trans (rn_vir (L' := [.ref a0, .int x1]) (as := [.int x1]) (rest := []) rfl rfl rfl rfl rfl (Nat.le_of_ble_eq_true rfl) (by decide) (by decide)) ?_
    refine eC_c ?_
    refine Eq.trans (cW_I rfl rfl rfl) ?_
    refine cI_c (fun x_3 s_2 => ?_) (xh_nil rfl)
    exact rn_retI rfl rfl rfl
theorem in_X12_revoke {B : Nat} (a0 : Nat) (x1 : Int32) (s : am_S) : cl_ tb_ct tb_mt B K_X12_revoke [.ref a0, .int x1] s = rn_ tb_ct tb_mt B mm_X12_revoke 0 [.ref a0, .int x1] [] s := cl_in rfl rfl rfl rfl
theorem dc_X12_revoke_0 {B : Nat} (a0 : Nat) (x1 : Int32) (s : am_S) : rn_ tb_ct tb_mt B mm_X12_revoke 0 [.ref a0, .int x1] [] s = eA (gA tb_ct s a0 10 0) (none) (fun b_1 => eC (am_cls s b_1) 7 (cI (cl_ tb_ct tb_mt B K_X8_endLease [.ref b_1, .int x1] s) (fun x_3 s_2 => some (.inl (some (.int x_3)), s_2)) xo)) := by
  refine Eq.trans (rn_go 1 (pc' := 1) (L' := [.ref a0, .int x1]) (st' := [.ref a0]) rfl) ?_
  refine Eq.trans (rn_gA (L' := [.ref a0, .int x1]) rfl rfl rfl rfl) ?_
  refine eA_c ?_ (fun b_1 => ?_)
  · refine Eq.trans (rn_go 1 (pc' := 5) (L' := [.ref a0, .int x1]) (st' := [.int x1, .null]) rfl) ?_
    exact rn_z rfl rfl
  · refine Eq.trans (rn_go 1 (pc' := 5) (L' := [.ref a0, .int x1]) (st' := [.int x1, .ref b_1]) rfl) ?_
    refine Eq.trans (rn_vir (L' := [.ref a0, .int x1]) (as := [.int x1]) (rest := []) rfl rfl rfl rfl rfl (Nat.le_of_ble_eq_true rfl) (by decide) (by decide)) ?_
    refine eC_c ?_
    refine Eq.trans (cW_I rfl rfl rfl) ?_
    refine cI_c (fun x_3 s_2 => ?_) (xh_nil rfl)
    exact rn_retI rfl rfl rfl
theorem in_X12_tick {B : Nat} (a0 : Nat) (x1 : Int32) (s : am_S) : cl_ tb_ct tb_mt B K_X12_tick [.ref a0, .int x1] s = rn_ tb_ct tb_mt B mm_X12_tick 0 [.ref a0, .int x1] [] s := cl_in rfl rfl rfl rfl
theorem dc_X12_tick_0 {B : Nat} (a0 : Nat) (x1 : Int32) (s : am_S) : rn_ tb_ct tb_mt B mm_X12_tick 0 [.ref a0, .int x1] [] s = cI (cl_ tb_ct tb_mt B K_X12_isTicks [.int x1] s) (fun x_2 s_1 => cV (cl_ tb_ct tb_mt B K_X12_need [.int x_2] s_1) (fun s_3 => eA (gA tb_ct s_3 a0 10 0) (none) (fun b_4 => eC (am_cls s_3 b_4) 7 (cI (cl_ tb_ct tb_mt B K_X8_letPass [.ref b_4, .int x1] s_3) (fun x_6 s_5 => some (.inl (some (.int x_6)), s_5)) xo))) xo) xo := by
  refine Eq.trans (rn_go 1 (pc' := 1) (L' := [.ref a0, .int x1]) (st' := [.int x1]) rfl) ?_
  refine Eq.trans (rn_sta (L' := [.ref a0, .int x1]) (as := [.int x1]) (rest := []) rfl rfl rfl rfl rfl (Nat.le_of_ble_eq_true rfl) (by decide) rfl) ?_
  refine Eq.trans (cW_I rfl rfl rfl) ?_
  refine cI_c (fun x_2 s_1 => ?_) (xh_nil rfl)
  refine Eq.trans (rn_sta (L' := [.ref a0, .int x1]) (as := [.int x_2]) (rest := []) rfl rfl rfl rfl rfl (Nat.le_of_ble_eq_true rfl) (by decide) rfl) ?_
  refine Eq.trans (cW_V rfl rfl) ?_
  refine cV_c (fun s_3 => ?_) (xh_nil rfl)
  refine Eq.trans (rn_go 1 (pc' := 8) (L' := [.ref a0, .int x1]) (st' := [.ref a0]) rfl) ?_
  refine Eq.trans (rn_gA (L' := [.ref a0, .int x1]) rfl rfl rfl rfl) ?_
  refine eA_c ?_ (fun b_4 => ?_)
  · refine Eq.trans (rn_go 1 (pc' := 12) (L' := [.ref a0, .int x1]) (st' := [.int x1, .null]) rfl) ?_
    exact rn_z rfl rfl
  · refine Eq.trans (rn_go 1 (pc' := 12) (L' := [.ref a0, .int x1]) (st' := [.int x1, .ref b_4]) rfl) ?_
    refine Eq.trans (rn_vir (L' := [.ref a0, .int x1]) (as := [.int x1]) (rest := []) rfl rfl rfl rfl rfl (Nat.le_of_ble_eq_true rfl) (by decide) (by decide)) ?_
    refine eC_c ?_
    refine Eq.trans (cW_I rfl rfl rfl) ?_
    refine cI_c (fun x_6 s_5 => ?_) (xh_nil rfl)
    exact rn_retI rfl rfl rfl
theorem in_X12_expiry {B : Nat} (a0 : Nat) (x1 : Int32) (s : am_S) : cl_ tb_ct tb_mt B K_X12_expiry [.ref a0, .int x1] s = rn_ tb_ct tb_mt B mm_X12_expiry 0 [.ref a0, .int x1, am_un] [] s := cl_in rfl rfl rfl rfl
theorem dc_X12_expiry_0 {B : Nat} (a0 : Nat) (x1 : Int32) (s : am_S) : rn_ tb_ct tb_mt B mm_X12_expiry 0 [.ref a0, .int x1, am_un] [] s = if x1 = 0 then rn_ tb_ct tb_mt B mm_X12_expiry 9 [.ref a0, .int x1, am_un] [] s else if x1 = (1 : Int32) then rn_ tb_ct tb_mt B mm_X12_expiry 9 [.ref a0, .int x1, am_un] [] s else rn_ tb_ct tb_mt B mm_X12_expiry 14 [.ref a0, .int x1, am_un] [.int (0 : Int32)] s := by
  refine Eq.trans (rn_go 1 (pc' := 1) (L' := [.ref a0, .int x1, am_un]) (st' := [.int x1]) rfl) ?_
  refine Eq.trans (rn_ifeq (L' := [.ref a0, .int x1, am_un]) rfl rfl) ?_
  refine if_c ?_ ?_
  · rfl
  · refine Eq.trans (rn_go 2 (pc' := 6) (L' := [.ref a0, .int x1, am_un]) (st' := [.int (1 : Int32), .int x1]) rfl) ?_
    refine Eq.trans (rn_icne (L' := [.ref a0, .int x1, am_un]) rfl rfl) ?_
    refine if_c ?_ ?_
    · rfl
    · exact rn_go 1 (pc' := 14) (L' := [.ref a0, .int x1, am_un]) (st' := [.int (0 : Int32)]) rfl
theorem dc_X12_expiry_9 {B : Nat} (a0 : Nat) (x1 : Int32) (s : am_S) : rn_ tb_ct tb_mt B mm_X12_expiry 9 [.ref a0, .int x1, am_un] [] s = rn_ tb_ct tb_mt B mm_X12_expiry 14 [.ref a0, .int x1, am_un] [.int (1 : Int32)] s := by
  exact rn_go 2 (pc' := 14) (L' := [.ref a0, .int x1, am_un]) (st' := [.int (1 : Int32)]) rfl
theorem dc_X12_expiry_14 {B : Nat} (a0 : Nat) (x1 : Int32) (xs0 : Int32) (s : am_S) : rn_ tb_ct tb_mt B mm_X12_expiry 14 [.ref a0, .int x1, am_un] [.int xs0] s = cV (cl_ tb_ct tb_mt B K_X12_need [.int xs0] s) (fun s_1 => eA (gA tb_ct s_1 a0 10 0) (eA (gA tb_ct s_1 a0 10 0) (none) (fun b_3 => eC (am_cls s_1 b_3) 7 (cI (cl_ tb_ct tb_mt B K_X8_firstToEnd [.ref b_3] s_1) (fun x_5 s_4 => none) xo))) (fun b_2 => eA (gA tb_ct s_1 a0 10 0) (none) (fun b_6 => eC (am_cls s_1 b_6) 7 (cI (cl_ tb_ct tb_mt B K_X8_firstToEnd [.ref b_6] s_1) (fun x_8 s_7 => eC (am_cls s_7 b_2) 7 (cA (cl_ tb_ct tb_mt B K_X8_leaseAt [.ref b_2, .int x_8] s_7) (fun s_9 => some (.inl (some (.int (-(1 : Int32)))), s_9)) (fun b_10 s_9 => if x1 = 0 then eI (gI tb_ct s_9 b_10 4 0) (fun x_11 => some (.inl (some (.int x_11)), s_9)) else eI (gI tb_ct s_9 b_10 4 2) (fun x_12 => some (.inl (some (.int x_12)), s_9))) xo)) xo)))) xo := by
  refine Eq.trans (rn_sta (L' := [.ref a0, .int x1, am_un]) (as := [.int xs0]) (rest := []) rfl rfl rfl rfl rfl (Nat.le_of_ble_eq_true rfl) (by decide) rfl) ?_
  refine Eq.trans (cW_V rfl rfl) ?_
  refine cV_c (fun s_1 => ?_) (xh_nil rfl)
  refine Eq.trans (rn_go 1 (pc' := 18) (L' := [.ref a0, .int x1, am_un]) (st' := [.ref a0]) rfl) ?_
  refine Eq.trans (rn_gA (L' := [.ref a0, .int x1, am_un]) rfl rfl rfl rfl) ?_
  refine eA_c ?_ (fun b_2 => ?_)
  · refine Eq.trans (rn_go 1 (pc' := 22) (L' := [.ref a0, .int x1, am_un]) (st' := [.ref a0, .null]) rfl) ?_
    refine Eq.trans (rn_gA (L' := [.ref a0, .int x1, am_un]) rfl rfl rfl rfl) ?_
    refine eA_c ?_ (fun b_3 => ?_)
    · exact rn_z rfl rfl
    · refine Eq.trans (rn_vir (L' := [.ref a0, .int x1, am_un]) (as := []) (rest := [.null]) rfl rfl rfl rfl rfl (Nat.le_of_ble_eq_true rfl) (by decide) (by decide)) ?_
      refine eC_c ?_
      refine Eq.trans (cW_I rfl rfl rfl) ?_
      refine cI_c (fun x_5 s_4 => ?_) (xh_nil rfl)
      exact rn_z rfl rfl
  · refine Eq.trans (rn_go 1 (pc' := 22) (L' := [.ref a0, .int x1, am_un]) (st' := [.ref a0, .ref b_2]) rfl) ?_
    refine Eq.trans (rn_gA (L' := [.ref a0, .int x1, am_un]) rfl rfl rfl rfl) ?_
    refine eA_c ?_ (fun b_6 => ?_)
    · exact rn_z rfl rfl
    · refine Eq.trans (rn_vir (L' := [.ref a0, .int x1, am_un]) (as := []) (rest := [.ref b_2]) rfl rfl rfl rfl rfl (Nat.le_of_ble_eq_true rfl) (by decide) (by decide)) ?_
      refine eC_c ?_
      refine Eq.trans (cW_I rfl rfl rfl) ?_
      refine cI_c (fun x_8 s_7 => ?_) (xh_nil rfl)
      refine Eq.trans (rn_vir (L' := [.ref a0, .int x1, am_un]) (as := [.int x_8]) (rest := []) rfl rfl rfl rfl rfl (Nat.le_of_ble_eq_true rfl) (by decide) (by decide)) ?_
      refine eC_c ?_
      refine Eq.trans (cW_A rfl rfl rfl) ?_
      refine cA_c (fun s_9 => ?_) (fun b_10 s_9 => ?_) (xh_nil rfl)
      · refine Eq.trans (rn_go 4 (pc' := 37) (L' := [.ref a0, .int x1, .null]) (st' := [.int (-(1 : Int32))]) rfl) ?_
        exact rn_retI rfl rfl rfl
      · refine Eq.trans (rn_go 4 (pc' := 39) (L' := [.ref a0, .int x1, .ref b_10]) (st' := [.int x1]) rfl) ?_
        refine Eq.trans (rn_ifne (L' := [.ref a0, .int x1, .ref b_10]) rfl rfl) ?_
        refine if_c ?_ ?_
        · refine Eq.trans (rn_go 1 (pc' := 43) (L' := [.ref a0, .int x1, .ref b_10]) (st' := [.ref b_10]) rfl) ?_
          refine Eq.trans (rn_gI (L' := [.ref a0, .int x1, .ref b_10]) rfl rfl rfl rfl) ?_
          refine eI_c (fun x_11 => ?_)
          refine Eq.trans (rn_go 1 (pc' := 53) (L' := [.ref a0, .int x1, .ref b_10]) (st' := [.int x_11]) rfl) ?_
          exact rn_retI rfl rfl rfl
        · refine Eq.trans (rn_go 1 (pc' := 50) (L' := [.ref a0, .int x1, .ref b_10]) (st' := [.ref b_10]) rfl) ?_
          refine Eq.trans (rn_gI (L' := [.ref a0, .int x1, .ref b_10]) rfl rfl rfl rfl) ?_
          refine eI_c (fun x_12 => ?_)
          exact rn_retI rfl rfl rfl
theorem in_X12_keysIn {B : Nat} (a0 : Nat) (x1 : Int32) (s : am_S) : cl_ tb_ct tb_mt B K_X12_keysIn [.ref a0, .int x1] s = rn_ tb_ct tb_mt B mm_X12_keysIn 0 [.ref a0, .int x1, am_un, am_un, am_un] [] s := cl_in rfl rfl rfl rfl
theorem dc_X12_keysIn_0 {B : Nat} (a0 : Nat) (x1 : Int32) (s : am_S) : rn_ tb_ct tb_mt B mm_X12_keysIn 0 [.ref a0, .int x1, am_un, am_un, am_un] [] s = cI (cl_ tb_ct tb_mt B K_X12_isTicks [.int x1] s) (fun x_2 s_1 => cV (cl_ tb_ct tb_mt B K_X12_need [.int x_2] s_1) (fun s_3 => eA (gA tb_ct s_3 a0 10 0) (none) (fun b_4 => eA (gA tb_ct s_3 b_4 7 0) (none) (fun b_5 => eI (gI tb_ct s_3 b_5 3 1) (fun x_6 => rn_ tb_ct tb_mt B mm_X12_keysIn 20 [.ref a0, .int x1, .int x_6, .int (0 : Int32), am_un] [] s_3)))) xo) xo := by
  refine Eq.trans (rn_go 1 (pc' := 1) (L' := [.ref a0, .int x1, am_un, am_un, am_un]) (st' := [.int x1]) rfl) ?_
  refine Eq.trans (rn_sta (L' := [.ref a0, .int x1, am_un, am_un, am_un]) (as := [.int x1]) (rest := []) rfl rfl rfl rfl rfl (Nat.le_of_ble_eq_true rfl) (by decide) rfl) ?_
  refine Eq.trans (cW_I rfl rfl rfl) ?_
  refine cI_c (fun x_2 s_1 => ?_) (xh_nil rfl)
  refine Eq.trans (rn_sta (L' := [.ref a0, .int x1, am_un, am_un, am_un]) (as := [.int x_2]) (rest := []) rfl rfl rfl rfl rfl (Nat.le_of_ble_eq_true rfl) (by decide) rfl) ?_
  refine Eq.trans (cW_V rfl rfl) ?_
  refine cV_c (fun s_3 => ?_) (xh_nil rfl)
  refine Eq.trans (rn_go 1 (pc' := 8) (L' := [.ref a0, .int x1, am_un, am_un, am_un]) (st' := [.ref a0]) rfl) ?_
  refine Eq.trans (rn_gA (L' := [.ref a0, .int x1, am_un, am_un, am_un]) rfl rfl rfl rfl) ?_
  refine eA_c ?_ (fun b_4 => ?_)
  · exact rn_z rfl rfl
  · refine Eq.trans (rn_gA (L' := [.ref a0, .int x1, am_un, am_un, am_un]) rfl rfl rfl rfl) ?_
    refine eA_c ?_ (fun b_5 => ?_)
    · exact rn_z rfl rfl
    · refine Eq.trans (rn_gI (L' := [.ref a0, .int x1, am_un, am_un, am_un]) rfl rfl rfl rfl) ?_
      refine eI_c (fun x_6 => ?_)
      exact rn_go 3 (pc' := 20) (L' := [.ref a0, .int x1, .int x_6, .int (0 : Int32), am_un]) (st' := []) rfl
theorem dc_X12_keysIn_20 {B : Nat} (a0 : Nat) (x1 : Int32) (x2 : Int32) (x3 : Int32) (s : am_S) : rn_ tb_ct tb_mt B mm_X12_keysIn 20 [.ref a0, .int x1, .int x2, .int x3, am_un] [] s = eA (gA tb_ct s a0 10 0) (none) (fun b_1 => eI (gI tb_ct s b_1 7 9) (fun x_2 => if x_2 ≤ x3 then some (.inl (some (.int x2)), s) else eA (gA tb_ct s a0 10 0) (none) (fun b_3 => eC (am_cls s b_3) 7 (cA (cl_ tb_ct tb_mt B K_X8_leaseAt [.ref b_3, .int x3] s) (fun s_4 => rn_ tb_ct tb_mt B mm_X12_keysIn 73 [.ref a0, .int x1, .int x2, .int x3, va_rf none] [] s_4) (fun b_5 s_4 => eI (gI tb_ct s_4 b_5 4 2) (fun x_6 => if x1 < x_6 then rn_ tb_ct tb_mt B mm_X12_keysIn 73 [.ref a0, .int x1, .int x2, .int x3, va_rf (some b_5)] [] s_4 else eA (gA tb_ct s_4 a0 10 0) (none) (fun b_7 => eA (gA tb_ct s_4 b_7 7 0) (eI (gI tb_ct s_4 b_5 4 0) (fun x_9 => none)) (fun b_8 => eI (gI tb_ct s_4 b_5 4 0) (fun x_10 => eC (am_cls s_4 b_8) 3 (cI (cl_ tb_ct tb_mt B K_X4_countWith [.ref b_8, .int x_10] s_4) (fun x_12 s_11 => rn_ tb_ct tb_mt B mm_X12_keysIn 73 [.ref a0, .int x1, .int (x2 - x_12), .int x3, va_rf (some b_5)] [] s_11) xo)))))) xo)))) := by
  refine Eq.trans (rn_go 2 (pc' := 22) (L' := [.ref a0, .int x1, .int x2, .int x3, am_un]) (st' := [.ref a0, .int x3]) rfl) ?_
  refine Eq.trans (rn_gA (L' := [.ref a0, .int x1, .int x2, .int x3, am_un]) rfl rfl rfl rfl) ?_
  refine eA_c ?_ (fun b_1 => ?_)
  · exact rn_z rfl rfl
  · refine Eq.trans (rn_gI (L' := [.ref a0, .int x1, .int x2, .int x3, am_un]) rfl rfl rfl rfl) ?_
    refine eI_c (fun x_2 => ?_)
    refine Eq.trans (rn_icge (L' := [.ref a0, .int x1, .int x2, .int x3, am_un]) rfl rfl) ?_
    refine if_c ?_ ?_
    · refine Eq.trans (rn_go 1 (pc' := 80) (L' := [.ref a0, .int x1, .int x2, .int x3, am_un]) (st' := [.int x2]) rfl) ?_
      exact rn_retI rfl rfl rfl
    · refine Eq.trans (rn_go 1 (pc' := 32) (L' := [.ref a0, .int x1, .int x2, .int x3, am_un]) (st' := [.ref a0]) rfl) ?_
      refine Eq.trans (rn_gA (L' := [.ref a0, .int x1, .int x2, .int x3, am_un]) rfl rfl rfl rfl) ?_
      refine eA_c ?_ (fun b_3 => ?_)
      · refine Eq.trans (rn_go 1 (pc' := 36) (L' := [.ref a0, .int x1, .int x2, .int x3, am_un]) (st' := [.int x3, .null]) rfl) ?_
        exact rn_z rfl rfl
      · refine Eq.trans (rn_go 1 (pc' := 36) (L' := [.ref a0, .int x1, .int x2, .int x3, am_un]) (st' := [.int x3, .ref b_3]) rfl) ?_
        refine Eq.trans (rn_vir (L' := [.ref a0, .int x1, .int x2, .int x3, am_un]) (as := [.int x3]) (rest := []) rfl rfl rfl rfl rfl (Nat.le_of_ble_eq_true rfl) (by decide) (by decide)) ?_
        refine eC_c ?_
        refine Eq.trans (cW_A rfl rfl rfl) ?_
        refine cA_c (fun s_4 => ?_) (fun b_5 s_4 => ?_) (xh_nil rfl)
        · exact rn_go 3 (pc' := 73) (L' := [.ref a0, .int x1, .int x2, .int x3, va_rf none]) (st' := []) rfl
        · refine Eq.trans (rn_go 4 (pc' := 48) (L' := [.ref a0, .int x1, .int x2, .int x3, .ref b_5]) (st' := [.ref b_5]) rfl) ?_
          refine Eq.trans (rn_gI (L' := [.ref a0, .int x1, .int x2, .int x3, .ref b_5]) rfl rfl rfl rfl) ?_
          refine eI_c (fun x_6 => ?_)
          refine Eq.trans (rn_go 1 (pc' := 52) (L' := [.ref a0, .int x1, .int x2, .int x3, .ref b_5]) (st' := [.int x1, .int x_6]) rfl) ?_
          refine Eq.trans (rn_icgt (L' := [.ref a0, .int x1, .int x2, .int x3, .ref b_5]) rfl rfl) ?_
          refine if_c ?_ ?_
          · rfl
          · refine Eq.trans (rn_go 2 (pc' := 57) (L' := [.ref a0, .int x1, .int x2, .int x3, .ref b_5]) (st' := [.ref a0, .int x2]) rfl) ?_
            refine Eq.trans (rn_gA (L' := [.ref a0, .int x1, .int x2, .int x3, .ref b_5]) rfl rfl rfl rfl) ?_
            refine eA_c ?_ (fun b_7 => ?_)
            · exact rn_z rfl rfl
            · refine Eq.trans (rn_gA (L' := [.ref a0, .int x1, .int x2, .int x3, .ref b_5]) rfl rfl rfl rfl) ?_
              refine eA_c ?_ (fun b_8 => ?_)
              · refine Eq.trans (rn_go 1 (pc' := 65) (L' := [.ref a0, .int x1, .int x2, .int x3, .ref b_5]) (st' := [.ref b_5, .null, .int x2]) rfl) ?_
                refine Eq.trans (rn_gI (L' := [.ref a0, .int x1, .int x2, .int x3, .ref b_5]) rfl rfl rfl rfl) ?_
                refine eI_c (fun x_9 => ?_)
                exact rn_z rfl rfl
              · refine Eq.trans (rn_go 1 (pc' := 65) (L' := [.ref a0, .int x1, .int x2, .int x3, .ref b_5]) (st' := [.ref b_5, .ref b_8, .int x2]) rfl) ?_
                refine Eq.trans (rn_gI (L' := [.ref a0, .int x1, .int x2, .int x3, .ref b_5]) rfl rfl rfl rfl) ?_
                refine eI_c (fun x_10 => ?_)
                refine Eq.trans (rn_vir (L' := [.ref a0, .int x1, .int x2, .int x3, .ref b_5]) (as := [.int x_10]) (rest := [.int x2]) rfl rfl rfl rfl rfl (Nat.le_of_ble_eq_true rfl) (by decide) (by decide)) ?_
                refine eC_c ?_
                refine Eq.trans (cW_I rfl rfl rfl) ?_
                refine cI_c (fun x_12 s_11 => ?_) (xh_nil rfl)
                exact rn_go 2 (pc' := 73) (L' := [.ref a0, .int x1, .int (x2 - x_12), .int x3, va_rf (some b_5)]) (st' := []) rfl
theorem dc_X12_keysIn_73 {B : Nat} (a0 : Nat) (x1 : Int32) (x2 : Int32) (x3 : Int32) (w4 : Value) (s : am_S) : rn_ tb_ct tb_mt B mm_X12_keysIn 73 [.ref a0, .int x1, .int x2, .int x3, w4] [] s = rn_ tb_ct tb_mt B mm_X12_keysIn 20 [.ref a0, .int x1, .int x2, .int (x3 + (1 : Int32)), am_un] [] s := by
  exact rn_go 2 (pc' := 20) (L' := [.ref a0, .int x1, .int x2, .int (x3 + (1 : Int32)), am_un]) (st' := []) rfl
theorem in_X12_when {B : Nat} (a0 : Nat) (x1 : Int32) (x2 : Int32) (x3 : Int32) (x4 : Int32) (s : am_S) : cl_ tb_ct tb_mt B K_X12_when [.ref a0, .int x1, .int x2, .int x3, .int x4] s = rn_ tb_ct tb_mt B mm_X12_when 0 [.ref a0, .int x1, .int x2, .int x3, .int x4] [] s := cl_in rfl rfl rfl rfl
theorem dc_X12_when_0 {B : Nat} (a0 : Nat) (x1 : Int32) (x2 : Int32) (x3 : Int32) (x4 : Int32) (s : am_S) : rn_ tb_ct tb_mt B mm_X12_when 0 [.ref a0, .int x1, .int x2, .int x3, .int x4] [] s = cV (cl_ tb_ct tb_mt B K_X12_needKey [.int x1] s) (fun s_1 => if x2 < 0 then rn_ tb_ct tb_mt B mm_X12_when 17 [.ref a0, .int x1, .int x2, .int x3, .int x4] [] s_1 else if (3 : Int32) < x2 then rn_ tb_ct tb_mt B mm_X12_when 17 [.ref a0, .int x1, .int x2, .int x3, .int x4] [] s_1 else rn_ tb_ct tb_mt B mm_X12_when 18 [.ref a0, .int x1, .int x2, .int x3, .int x4] [.int (1 : Int32)] s_1) xo := by
  refine Eq.trans (rn_go 1 (pc' := 1) (L' := [.ref a0, .int x1, .int x2, .int x3, .int x4]) (st' := [.int x1]) rfl) ?_
  refine Eq.trans (rn_sta (L' := [.ref a0, .int x1, .int x2, .int x3, .int x4]) (as := [.int x1]) (rest := []) rfl rfl rfl rfl rfl (Nat.le_of_ble_eq_true rfl) (by decide) rfl) ?_
  refine Eq.trans (cW_V rfl rfl) ?_
  refine cV_c (fun s_1 => ?_) (xh_nil rfl)
  refine Eq.trans (rn_go 1 (pc' := 5) (L' := [.ref a0, .int x1, .int x2, .int x3, .int x4]) (st' := [.int x2]) rfl) ?_
  refine Eq.trans (rn_iflt (L' := [.ref a0, .int x1, .int x2, .int x3, .int x4]) rfl rfl) ?_
  refine if_c ?_ ?_
  · rfl
  · refine Eq.trans (rn_go 2 (pc' := 10) (L' := [.ref a0, .int x1, .int x2, .int x3, .int x4]) (st' := [.int (3 : Int32), .int x2]) rfl) ?_
    refine Eq.trans (rn_icgt (L' := [.ref a0, .int x1, .int x2, .int x3, .int x4]) rfl rfl) ?_
    refine if_c ?_ ?_
    · rfl
    · exact rn_go 2 (pc' := 18) (L' := [.ref a0, .int x1, .int x2, .int x3, .int x4]) (st' := [.int (1 : Int32)]) rfl
theorem dc_X12_when_17 {B : Nat} (a0 : Nat) (x1 : Int32) (x2 : Int32) (x3 : Int32) (x4 : Int32) (s : am_S) : rn_ tb_ct tb_mt B mm_X12_when 17 [.ref a0, .int x1, .int x2, .int x3, .int x4] [] s = rn_ tb_ct tb_mt B mm_X12_when 18 [.ref a0, .int x1, .int x2, .int x3, .int x4] [.int (0 : Int32)] s := by
  exact rn_go 1 (pc' := 18) (L' := [.ref a0, .int x1, .int x2, .int x3, .int x4]) (st' := [.int (0 : Int32)]) rfl
theorem dc_X12_when_18 {B : Nat} (a0 : Nat) (x1 : Int32) (x2 : Int32) (x3 : Int32) (x4 : Int32) (xs0 : Int32) (s : am_S) : rn_ tb_ct tb_mt B mm_X12_when 18 [.ref a0, .int x1, .int x2, .int x3, .int x4] [.int xs0] s = cV (cl_ tb_ct tb_mt B K_X12_need [.int xs0] s) (fun s_1 => if x3 < 0 then rn_ tb_ct tb_mt B mm_X12_when 34 [.ref a0, .int x1, .int x2, .int x3, .int x4] [] s_1 else if (3 : Int32) < x3 then rn_ tb_ct tb_mt B mm_X12_when 34 [.ref a0, .int x1, .int x2, .int x3, .int x4] [] s_1 else rn_ tb_ct tb_mt B mm_X12_when 35 [.ref a0, .int x1, .int x2, .int x3, .int x4] [.int (1 : Int32)] s_1) xo := by
  refine Eq.trans (rn_sta (L' := [.ref a0, .int x1, .int x2, .int x3, .int x4]) (as := [.int xs0]) (rest := []) rfl rfl rfl rfl rfl (Nat.le_of_ble_eq_true rfl) (by decide) rfl) ?_
  refine Eq.trans (cW_V rfl rfl) ?_
  refine cV_c (fun s_1 => ?_) (xh_nil rfl)
  refine Eq.trans (rn_go 1 (pc' := 22) (L' := [.ref a0, .int x1, .int x2, .int x3, .int x4]) (st' := [.int x3]) rfl) ?_
  refine Eq.trans (rn_iflt (L' := [.ref a0, .int x1, .int x2, .int x3, .int x4]) rfl rfl) ?_
  refine if_c ?_ ?_
  · rfl
  · refine Eq.trans (rn_go 2 (pc' := 27) (L' := [.ref a0, .int x1, .int x2, .int x3, .int x4]) (st' := [.int (3 : Int32), .int x3]) rfl) ?_
    refine Eq.trans (rn_icgt (L' := [.ref a0, .int x1, .int x2, .int x3, .int x4]) rfl rfl) ?_
    refine if_c ?_ ?_
    · rfl
    · exact rn_go 2 (pc' := 35) (L' := [.ref a0, .int x1, .int x2, .int x3, .int x4]) (st' := [.int (1 : Int32)]) rfl
theorem dc_X12_when_34 {B : Nat} (a0 : Nat) (x1 : Int32) (x2 : Int32) (x3 : Int32) (x4 : Int32) (s : am_S) : rn_ tb_ct tb_mt B mm_X12_when 34 [.ref a0, .int x1, .int x2, .int x3, .int x4] [] s = rn_ tb_ct tb_mt B mm_X12_when 35 [.ref a0, .int x1, .int x2, .int x3, .int x4] [.int (0 : Int32)] s := by
  exact rn_go 1 (pc' := 35) (L' := [.ref a0, .int x1, .int x2, .int x3, .int x4]) (st' := [.int (0 : Int32)]) rfl
theorem dc_X12_when_35 {B : Nat} (a0 : Nat) (x1 : Int32) (x2 : Int32) (x3 : Int32) (x4 : Int32) (xs0 : Int32) (s : am_S) : rn_ tb_ct tb_mt B mm_X12_when 35 [.ref a0, .int x1, .int x2, .int x3, .int x4] [.int xs0] s = cV (cl_ tb_ct tb_mt B K_X12_need [.int xs0] s) (fun s_1 => eA (gA tb_ct s_1 a0 10 0) (none) (fun b_2 => eA (gA tb_ct s_1 b_2 7 4) (none) (fun b_3 => eC (am_cls s_1 b_3) 8 (cI (cl_ tb_ct tb_mt B K_X9_addCondition [.ref b_3, .int x1, .int x2, .int x3, .int x4] s_1) (fun x_5 s_4 => some (.inl (some (.int x_5)), s_4)) xo)))) xo := by
  refine Eq.trans (rn_sta (L' := [.ref a0, .int x1, .int x2, .int x3, .int x4]) (as := [.int xs0]) (rest := []) rfl rfl rfl rfl rfl (Nat.le_of_ble_eq_true rfl) (by decide) rfl) ?_
  refine Eq.trans (cW_V rfl rfl) ?_
  refine cV_c (fun s_1 => ?_) (xh_nil rfl)
  refine Eq.trans (rn_go 1 (pc' := 39) (L' := [.ref a0, .int x1, .int x2, .int x3, .int x4]) (st' := [.ref a0]) rfl) ?_
  refine Eq.trans (rn_gA (L' := [.ref a0, .int x1, .int x2, .int x3, .int x4]) rfl rfl rfl rfl) ?_
  refine eA_c ?_ (fun b_2 => ?_)
  · exact rn_z rfl rfl
  · refine Eq.trans (rn_gA (L' := [.ref a0, .int x1, .int x2, .int x3, .int x4]) rfl rfl rfl rfl) ?_
    refine eA_c ?_ (fun b_3 => ?_)
    · refine Eq.trans (rn_go 4 (pc' := 50) (L' := [.ref a0, .int x1, .int x2, .int x3, .int x4]) (st' := [.int x4, .int x3, .int x2, .int x1, .null]) rfl) ?_
      exact rn_z rfl rfl
    · refine Eq.trans (rn_go 4 (pc' := 50) (L' := [.ref a0, .int x1, .int x2, .int x3, .int x4]) (st' := [.int x4, .int x3, .int x2, .int x1, .ref b_3]) rfl) ?_
      refine Eq.trans (rn_vir (L' := [.ref a0, .int x1, .int x2, .int x3, .int x4]) (as := [.int x1, .int x2, .int x3, .int x4]) (rest := []) rfl rfl rfl rfl rfl (Nat.le_of_ble_eq_true rfl) (by decide) (by decide)) ?_
      refine eC_c ?_
      refine Eq.trans (cW_I rfl rfl rfl) ?_
      refine cI_c (fun x_5 s_4 => ?_) (xh_nil rfl)
      exact rn_retI rfl rfl rfl
theorem in_X12_then {B : Nat} (a0 : Nat) (x1 : Int32) (x2 : Int32) (x3 : Int32) (s : am_S) : cl_ tb_ct tb_mt B K_X12_then [.ref a0, .int x1, .int x2, .int x3] s = rn_ tb_ct tb_mt B mm_X12_then 0 [.ref a0, .int x1, .int x2, .int x3] [] s := cl_in rfl rfl rfl rfl
theorem dc_X12_then_0 {B : Nat} (a0 : Nat) (x1 : Int32) (x2 : Int32) (x3 : Int32) (s : am_S) : rn_ tb_ct tb_mt B mm_X12_then 0 [.ref a0, .int x1, .int x2, .int x3] [] s = cV (cl_ tb_ct tb_mt B K_X12_needStep [.int x1, .int x2, .int x3] s) (fun s_1 => eA (gA tb_ct s_1 a0 10 0) (none) (fun b_2 => eA (gA tb_ct s_1 b_2 7 4) (none) (fun b_3 => eA (gA tb_ct s_1 b_3 8 5) (none) (fun b_4 => eC (am_cls s_1 b_4) 6 (cI (cl_ tb_ct tb_mt B K_X7_add [.ref b_4, .int x1, .int x2, .int x3] s_1) (fun x_6 s_5 => some (.inl (some (.int x_6)), s_5)) xo))))) xo := by
  refine Eq.trans (rn_go 3 (pc' := 3) (L' := [.ref a0, .int x1, .int x2, .int x3]) (st' := [.int x3, .int x2, .int x1]) rfl) ?_
  refine Eq.trans (rn_sta (L' := [.ref a0, .int x1, .int x2, .int x3]) (as := [.int x1, .int x2, .int x3]) (rest := []) rfl rfl rfl rfl rfl (Nat.le_of_ble_eq_true rfl) (by decide) rfl) ?_
  refine Eq.trans (cW_V rfl rfl) ?_
  refine cV_c (fun s_1 => ?_) (xh_nil rfl)
  refine Eq.trans (rn_go 1 (pc' := 7) (L' := [.ref a0, .int x1, .int x2, .int x3]) (st' := [.ref a0]) rfl) ?_
  refine Eq.trans (rn_gA (L' := [.ref a0, .int x1, .int x2, .int x3]) rfl rfl rfl rfl) ?_
  refine eA_c ?_ (fun b_2 => ?_)
  · exact rn_z rfl rfl
  · refine Eq.trans (rn_gA (L' := [.ref a0, .int x1, .int x2, .int x3]) rfl rfl rfl rfl) ?_
    refine eA_c ?_ (fun b_3 => ?_)
    · exact rn_z rfl rfl
    · refine Eq.trans (rn_gA (L' := [.ref a0, .int x1, .int x2, .int x3]) rfl rfl rfl rfl) ?_
      refine eA_c ?_ (fun b_4 => ?_)
      · refine Eq.trans (rn_go 3 (pc' := 19) (L' := [.ref a0, .int x1, .int x2, .int x3]) (st' := [.int x3, .int x2, .int x1, .null]) rfl) ?_
        exact rn_z rfl rfl
      · refine Eq.trans (rn_go 3 (pc' := 19) (L' := [.ref a0, .int x1, .int x2, .int x3]) (st' := [.int x3, .int x2, .int x1, .ref b_4]) rfl) ?_
        refine Eq.trans (rn_vir (L' := [.ref a0, .int x1, .int x2, .int x3]) (as := [.int x1, .int x2, .int x3]) (rest := []) rfl rfl rfl rfl rfl (Nat.le_of_ble_eq_true rfl) (by decide) (by decide)) ?_
        refine eC_c ?_
        refine Eq.trans (cW_I rfl rfl rfl) ?_
        refine cI_c (fun x_6 s_5 => ?_) (xh_nil rfl)
        exact rn_retI rfl rfl rfl
theorem in_X12_otherwise {B : Nat} (a0 : Nat) (x1 : Int32) (x2 : Int32) (x3 : Int32) (s : am_S) : cl_ tb_ct tb_mt B K_X12_otherwise [.ref a0, .int x1, .int x2, .int x3] s = rn_ tb_ct tb_mt B mm_X12_otherwise 0 [.ref a0, .int x1, .int x2, .int x3] [] s := cl_in rfl rfl rfl rfl
theorem dc_X12_otherwise_0 {B : Nat} (a0 : Nat) (x1 : Int32) (x2 : Int32) (x3 : Int32) (s : am_S) : rn_ tb_ct tb_mt B mm_X12_otherwise 0 [.ref a0, .int x1, .int x2, .int x3] [] s = cV (cl_ tb_ct tb_mt B K_X12_needStep [.int x1, .int x2, .int x3] s) (fun s_1 => eA (gA tb_ct s_1 a0 10 0) (none) (fun b_2 => eA (gA tb_ct s_1 b_2 7 4) (none) (fun b_3 => eA (gA tb_ct s_1 b_3 8 6) (none) (fun b_4 => eC (am_cls s_1 b_4) 6 (cI (cl_ tb_ct tb_mt B K_X7_add [.ref b_4, .int x1, .int x2, .int x3] s_1) (fun x_6 s_5 => some (.inl (some (.int x_6)), s_5)) xo))))) xo := by
  refine Eq.trans (rn_go 3 (pc' := 3) (L' := [.ref a0, .int x1, .int x2, .int x3]) (st' := [.int x3, .int x2, .int x1]) rfl) ?_
  refine Eq.trans (rn_sta (L' := [.ref a0, .int x1, .int x2, .int x3]) (as := [.int x1, .int x2, .int x3]) (rest := []) rfl rfl rfl rfl rfl (Nat.le_of_ble_eq_true rfl) (by decide) rfl) ?_
  refine Eq.trans (cW_V rfl rfl) ?_
  refine cV_c (fun s_1 => ?_) (xh_nil rfl)
  refine Eq.trans (rn_go 1 (pc' := 7) (L' := [.ref a0, .int x1, .int x2, .int x3]) (st' := [.ref a0]) rfl) ?_
  refine Eq.trans (rn_gA (L' := [.ref a0, .int x1, .int x2, .int x3]) rfl rfl rfl rfl) ?_
  refine eA_c ?_ (fun b_2 => ?_)
  · exact rn_z rfl rfl
  · refine Eq.trans (rn_gA (L' := [.ref a0, .int x1, .int x2, .int x3]) rfl rfl rfl rfl) ?_
    refine eA_c ?_ (fun b_3 => ?_)
    · exact rn_z rfl rfl
    · refine Eq.trans (rn_gA (L' := [.ref a0, .int x1, .int x2, .int x3]) rfl rfl rfl rfl) ?_
      refine eA_c ?_ (fun b_4 => ?_)
      · refine Eq.trans (rn_go 3 (pc' := 19) (L' := [.ref a0, .int x1, .int x2, .int x3]) (st' := [.int x3, .int x2, .int x1, .null]) rfl) ?_
        exact rn_z rfl rfl
      · refine Eq.trans (rn_go 3 (pc' := 19) (L' := [.ref a0, .int x1, .int x2, .int x3]) (st' := [.int x3, .int x2, .int x1, .ref b_4]) rfl) ?_
        refine Eq.trans (rn_vir (L' := [.ref a0, .int x1, .int x2, .int x3]) (as := [.int x1, .int x2, .int x3]) (rest := []) rfl rfl rfl rfl rfl (Nat.le_of_ble_eq_true rfl) (by decide) (by decide)) ?_
        refine eC_c ?_
        refine Eq.trans (cW_I rfl rfl rfl) ?_
        refine cI_c (fun x_6 s_5 => ?_) (xh_nil rfl)
        exact rn_retI rfl rfl rfl
theorem in_X12_holds {B : Nat} (a0 : Nat) (s : am_S) : cl_ tb_ct tb_mt B K_X12_holds [.ref a0] s = rn_ tb_ct tb_mt B mm_X12_holds 0 [.ref a0] [] s := cl_in rfl rfl rfl rfl
theorem dc_X12_holds_0 {B : Nat} (a0 : Nat) (s : am_S) : rn_ tb_ct tb_mt B mm_X12_holds 0 [.ref a0] [] s = eA (gA tb_ct s a0 10 0) (none) (fun b_1 => eA (gA tb_ct s b_1 7 4) (eA (gA tb_ct s a0 10 0) (none) (fun b_3 => eA (gA tb_ct s b_3 7 0) (none) (fun b_4 => none))) (fun b_2 => eA (gA tb_ct s a0 10 0) (none) (fun b_5 => eA (gA tb_ct s b_5 7 0) (eC (am_cls s b_2) 8 (cI (cl_ tb_ct tb_mt B K_X9_firstFailing [.ref b_2, .null] s) (fun x_8 s_7 => some (.inl (some (.int x_8)), s_7)) xo)) (fun b_6 => eC (am_cls s b_2) 8 (cI (cl_ tb_ct tb_mt B K_X9_firstFailing [.ref b_2, .ref b_6] s) (fun x_10 s_9 => some (.inl (some (.int x_10)), s_9)) xo))))) := by
  refine Eq.trans (rn_go 1 (pc' := 1) (L' := [.ref a0]) (st' := [.ref a0]) rfl) ?_
  refine Eq.trans (rn_gA (L' := [.ref a0]) rfl rfl rfl rfl) ?_
  refine eA_c ?_ (fun b_1 => ?_)
  · exact rn_z rfl rfl
  · refine Eq.trans (rn_gA (L' := [.ref a0]) rfl rfl rfl rfl) ?_
    refine eA_c ?_ (fun b_2 => ?_)
    · refine Eq.trans (rn_go 1 (pc' := 8) (L' := [.ref a0]) (st' := [.ref a0, .null]) rfl) ?_
      refine Eq.trans (rn_gA (L' := [.ref a0]) rfl rfl rfl rfl) ?_
      refine eA_c ?_ (fun b_3 => ?_)
      · exact rn_z rfl rfl
      · refine Eq.trans (rn_gA (L' := [.ref a0]) rfl rfl rfl rfl) ?_
        refine eA_c ?_ (fun b_4 => ?_)
        · exact rn_z rfl rfl
        · exact rn_z rfl rfl
    · refine Eq.trans (rn_go 1 (pc' := 8) (L' := [.ref a0]) (st' := [.ref a0, .ref b_2]) rfl) ?_
      refine Eq.trans (rn_gA (L' := [.ref a0]) rfl rfl rfl rfl) ?_
      refine eA_c ?_ (fun b_5 => ?_)
      · exact rn_z rfl rfl
      · refine Eq.trans (rn_gA (L' := [.ref a0]) rfl rfl rfl rfl) ?_
        refine eA_c ?_ (fun b_6 => ?_)
        · refine Eq.trans (rn_vir (L' := [.ref a0]) (as := [.null]) (rest := []) rfl rfl rfl rfl rfl (Nat.le_of_ble_eq_true rfl) (by decide) (by decide)) ?_
          refine eC_c ?_
          refine Eq.trans (cW_I rfl rfl rfl) ?_
          refine cI_c (fun x_8 s_7 => ?_) (xh_nil rfl)
          exact rn_retI rfl rfl rfl
        · refine Eq.trans (rn_vir (L' := [.ref a0]) (as := [.ref b_6]) (rest := []) rfl rfl rfl rfl rfl (Nat.le_of_ble_eq_true rfl) (by decide) (by decide)) ?_
          refine eC_c ?_
          refine Eq.trans (cW_I rfl rfl rfl) ?_
          refine cI_c (fun x_10 s_9 => ?_) (xh_nil rfl)
          exact rn_retI rfl rfl rfl
theorem in_X12_wouldWrite {B : Nat} (a0 : Nat) (s : am_S) : cl_ tb_ct tb_mt B K_X12_wouldWrite [.ref a0] s = rn_ tb_ct tb_mt B mm_X12_wouldWrite 0 [.ref a0] [] s := cl_in rfl rfl rfl rfl
theorem dc_X12_wouldWrite_0 {B : Nat} (a0 : Nat) (s : am_S) : rn_ tb_ct tb_mt B mm_X12_wouldWrite 0 [.ref a0] [] s = eA (gA tb_ct s a0 10 0) (none) (fun b_1 => eA (gA tb_ct s b_1 7 4) (eA (gA tb_ct s a0 10 0) (none) (fun b_3 => eA (gA tb_ct s b_3 7 0) (none) (fun b_4 => none))) (fun b_2 => eA (gA tb_ct s a0 10 0) (none) (fun b_5 => eA (gA tb_ct s b_5 7 0) (eC (am_cls s b_2) 8 (cA (cl_ tb_ct tb_mt B K_X9_stepsFor [.ref b_2, .null] s) (fun s_7 => eA (gA tb_ct s_7 a0 10 0) (none) (fun b_9 => eA (gA tb_ct s_7 b_9 7 0) (none) (fun b_10 => none))) (fun b_8 s_7 => eA (gA tb_ct s_7 a0 10 0) (none) (fun b_11 => eA (gA tb_ct s_7 b_11 7 0) (eC (am_cls s_7 b_8) 6 (cI (cl_ tb_ct tb_mt B K_X7_eventsOn [.ref b_8, .null] s_7) (fun x_14 s_13 => some (.inl (some (.int x_14)), s_13)) xo)) (fun b_12 => eC (am_cls s_7 b_8) 6 (cI (cl_ tb_ct tb_mt B K_X7_eventsOn [.ref b_8, .ref b_12] s_7) (fun x_16 s_15 => some (.inl (some (.int x_16)), s_15)) xo)))) xo)) (fun b_6 => eC (am_cls s b_2) 8 (cA (cl_ tb_ct tb_mt B K_X9_stepsFor [.ref b_2, .ref b_6] s) (fun s_17 => eA (gA tb_ct s_17 a0 10 0) (none) (fun b_19 => eA (gA tb_ct s_17 b_19 7 0) (none) (fun b_20 => none))) (fun b_18 s_17 => eA (gA tb_ct s_17 a0 10 0) (none) (fun b_21 => eA (gA tb_ct s_17 b_21 7 0) (eC (am_cls s_17 b_18) 6 (cI (cl_ tb_ct tb_mt B K_X7_eventsOn [.ref b_18, .null] s_17) (fun x_24 s_23 => some (.inl (some (.int x_24)), s_23)) xo)) (fun b_22 => eC (am_cls s_17 b_18) 6 (cI (cl_ tb_ct tb_mt B K_X7_eventsOn [.ref b_18, .ref b_22] s_17) (fun x_26 s_25 => some (.inl (some (.int x_26)), s_25)) xo)))) xo))))) := by
  refine Eq.trans (rn_go 1 (pc' := 1) (L' := [.ref a0]) (st' := [.ref a0]) rfl) ?_
  refine Eq.trans (rn_gA (L' := [.ref a0]) rfl rfl rfl rfl) ?_
  refine eA_c ?_ (fun b_1 => ?_)
  · exact rn_z rfl rfl
  · refine Eq.trans (rn_gA (L' := [.ref a0]) rfl rfl rfl rfl) ?_
    refine eA_c ?_ (fun b_2 => ?_)
    · refine Eq.trans (rn_go 1 (pc' := 8) (L' := [.ref a0]) (st' := [.ref a0, .null]) rfl) ?_
      refine Eq.trans (rn_gA (L' := [.ref a0]) rfl rfl rfl rfl) ?_
      refine eA_c ?_ (fun b_3 => ?_)
      · exact rn_z rfl rfl
      · refine Eq.trans (rn_gA (L' := [.ref a0]) rfl rfl rfl rfl) ?_
        refine eA_c ?_ (fun b_4 => ?_)
        · exact rn_z rfl rfl
        · exact rn_z rfl rfl
    · refine Eq.trans (rn_go 1 (pc' := 8) (L' := [.ref a0]) (st' := [.ref a0, .ref b_2]) rfl) ?_
      refine Eq.trans (rn_gA (L' := [.ref a0]) rfl rfl rfl rfl) ?_
      refine eA_c ?_ (fun b_5 => ?_)
      · exact rn_z rfl rfl
      · refine Eq.trans (rn_gA (L' := [.ref a0]) rfl rfl rfl rfl) ?_
        refine eA_c ?_ (fun b_6 => ?_)
        · refine Eq.trans (rn_vir (L' := [.ref a0]) (as := [.null]) (rest := []) rfl rfl rfl rfl rfl (Nat.le_of_ble_eq_true rfl) (by decide) (by decide)) ?_
          refine eC_c ?_
          refine Eq.trans (cW_A rfl rfl rfl) ?_
          refine cA_c (fun s_7 => ?_) (fun b_8 s_7 => ?_) (xh_nil rfl)
          · refine Eq.trans (rn_go 1 (pc' := 18) (L' := [.ref a0]) (st' := [.ref a0, .null]) rfl) ?_
            refine Eq.trans (rn_gA (L' := [.ref a0]) rfl rfl rfl rfl) ?_
            refine eA_c ?_ (fun b_9 => ?_)
            · exact rn_z rfl rfl
            · refine Eq.trans (rn_gA (L' := [.ref a0]) rfl rfl rfl rfl) ?_
              refine eA_c ?_ (fun b_10 => ?_)
              · exact rn_z rfl rfl
              · exact rn_z rfl rfl
          · refine Eq.trans (rn_go 1 (pc' := 18) (L' := [.ref a0]) (st' := [.ref a0, .ref b_8]) rfl) ?_
            refine Eq.trans (rn_gA (L' := [.ref a0]) rfl rfl rfl rfl) ?_
            refine eA_c ?_ (fun b_11 => ?_)
            · exact rn_z rfl rfl
            · refine Eq.trans (rn_gA (L' := [.ref a0]) rfl rfl rfl rfl) ?_
              refine eA_c ?_ (fun b_12 => ?_)
              · refine Eq.trans (rn_vir (L' := [.ref a0]) (as := [.null]) (rest := []) rfl rfl rfl rfl rfl (Nat.le_of_ble_eq_true rfl) (by decide) (by decide)) ?_
                refine eC_c ?_
                refine Eq.trans (cW_I rfl rfl rfl) ?_
                refine cI_c (fun x_14 s_13 => ?_) (xh_nil rfl)
                exact rn_retI rfl rfl rfl
              · refine Eq.trans (rn_vir (L' := [.ref a0]) (as := [.ref b_12]) (rest := []) rfl rfl rfl rfl rfl (Nat.le_of_ble_eq_true rfl) (by decide) (by decide)) ?_
                refine eC_c ?_
                refine Eq.trans (cW_I rfl rfl rfl) ?_
                refine cI_c (fun x_16 s_15 => ?_) (xh_nil rfl)
                exact rn_retI rfl rfl rfl
        · refine Eq.trans (rn_vir (L' := [.ref a0]) (as := [.ref b_6]) (rest := []) rfl rfl rfl rfl rfl (Nat.le_of_ble_eq_true rfl) (by decide) (by decide)) ?_
          refine eC_c ?_
          refine Eq.trans (cW_A rfl rfl rfl) ?_
          refine cA_c (fun s_17 => ?_) (fun b_18 s_17 => ?_) (xh_nil rfl)
          · refine Eq.trans (rn_go 1 (pc' := 18) (L' := [.ref a0]) (st' := [.ref a0, .null]) rfl) ?_
            refine Eq.trans (rn_gA (L' := [.ref a0]) rfl rfl rfl rfl) ?_
            refine eA_c ?_ (fun b_19 => ?_)
            · exact rn_z rfl rfl
            · refine Eq.trans (rn_gA (L' := [.ref a0]) rfl rfl rfl rfl) ?_
              refine eA_c ?_ (fun b_20 => ?_)
              · exact rn_z rfl rfl
              · exact rn_z rfl rfl
          · refine Eq.trans (rn_go 1 (pc' := 18) (L' := [.ref a0]) (st' := [.ref a0, .ref b_18]) rfl) ?_
            refine Eq.trans (rn_gA (L' := [.ref a0]) rfl rfl rfl rfl) ?_
            refine eA_c ?_ (fun b_21 => ?_)
            · exact rn_z rfl rfl
            · refine Eq.trans (rn_gA (L' := [.ref a0]) rfl rfl rfl rfl) ?_
              refine eA_c ?_ (fun b_22 => ?_)
              · refine Eq.trans (rn_vir (L' := [.ref a0]) (as := [.null]) (rest := []) rfl rfl rfl rfl rfl (Nat.le_of_ble_eq_true rfl) (by decide) (by decide)) ?_
                refine eC_c ?_
                refine Eq.trans (cW_I rfl rfl rfl) ?_
                refine cI_c (fun x_24 s_23 => ?_) (xh_nil rfl)
                exact rn_retI rfl rfl rfl
              · refine Eq.trans (rn_vir (L' := [.ref a0]) (as := [.ref b_22]) (rest := []) rfl rfl rfl rfl rfl (Nat.le_of_ble_eq_true rfl) (by decide) (by decide)) ?_
                refine eC_c ?_
                refine Eq.trans (cW_I rfl rfl rfl) ?_
                refine cI_c (fun x_26 s_25 => ?_) (xh_nil rfl)
                exact rn_retI rfl rfl rfl
theorem in_X12_commit {B : Nat} (a0 : Nat) (s : am_S) : cl_ tb_ct tb_mt B K_X12_commit [.ref a0] s = rn_ tb_ct tb_mt B mm_X12_commit 0 [.ref a0] [] s := cl_in rfl rfl rfl rfl
theorem dc_X12_commit_0 {B : Nat} (a0 : Nat) (s : am_S) : rn_ tb_ct tb_mt B mm_X12_commit 0 [.ref a0] [] s = eA (gA tb_ct s a0 10 0) (none) (fun b_1 => eC (am_cls s b_1) 7 (cI (cl_ tb_ct tb_mt B K_X8_doTransaction [.ref b_1] s) (fun x_3 s_2 => some (.inl (some (.int x_3)), s_2)) xo)) := by
  refine Eq.trans (rn_go 1 (pc' := 1) (L' := [.ref a0]) (st' := [.ref a0]) rfl) ?_
  refine Eq.trans (rn_gA (L' := [.ref a0]) rfl rfl rfl rfl) ?_
  refine eA_c ?_ (fun b_1 => ?_)
  · exact rn_z rfl rfl
  · refine Eq.trans (rn_vir (L' := [.ref a0]) (as := []) (rest := []) rfl rfl rfl rfl rfl (Nat.le_of_ble_eq_true rfl) (by decide) (by decide)) ?_
    refine eC_c ?_
    refine Eq.trans (cW_I rfl rfl rfl) ?_
    refine cI_c (fun x_3 s_2 => ?_) (xh_nil rfl)
    exact rn_retI rfl rfl rfl
theorem in_X12_drop {B : Nat} (a0 : Nat) (s : am_S) : cl_ tb_ct tb_mt B K_X12_drop [.ref a0] s = rn_ tb_ct tb_mt B mm_X12_drop 0 [.ref a0] [] s := cl_in rfl rfl rfl rfl
theorem dc_X12_drop_0 {B : Nat} (a0 : Nat) (s : am_S) : rn_ tb_ct tb_mt B mm_X12_drop 0 [.ref a0] [] s = eA (gA tb_ct s a0 10 0) (none) (fun b_1 => eA (gA tb_ct s b_1 7 4) (none) (fun b_2 => eC (am_cls s b_2) 8 (cI (cl_ tb_ct tb_mt B K_X9_clear [.ref b_2] s) (fun x_4 s_3 => some (.inl (some (.int x_4)), s_3)) xo))) := by
  refine Eq.trans (rn_go 1 (pc' := 1) (L' := [.ref a0]) (st' := [.ref a0]) rfl) ?_
  refine Eq.trans (rn_gA (L' := [.ref a0]) rfl rfl rfl rfl) ?_
  refine eA_c ?_ (fun b_1 => ?_)
  · exact rn_z rfl rfl
  · refine Eq.trans (rn_gA (L' := [.ref a0]) rfl rfl rfl rfl) ?_
    refine eA_c ?_ (fun b_2 => ?_)
    · exact rn_z rfl rfl
    · refine Eq.trans (rn_vir (L' := [.ref a0]) (as := []) (rest := []) rfl rfl rfl rfl rfl (Nat.le_of_ble_eq_true rfl) (by decide) (by decide)) ?_
      refine eC_c ?_
      refine Eq.trans (cW_I rfl rfl rfl) ?_
      refine cI_c (fun x_4 s_3 => ?_) (xh_nil rfl)
      exact rn_retI rfl rfl rfl
theorem in_X12_writeKey {B : Nat} (a0 : Nat) (x1 : Int32) (s : am_S) : cl_ tb_ct tb_mt B K_X12_writeKey [.ref a0, .int x1] s = rn_ tb_ct tb_mt B mm_X12_writeKey 0 [.ref a0, .int x1, am_un] [] s := cl_in rfl rfl rfl rfl
theorem dc_X12_writeKey_0 {B : Nat} (a0 : Nat) (x1 : Int32) (s : am_S) : rn_ tb_ct tb_mt B mm_X12_writeKey 0 [.ref a0, .int x1, am_un] [] s = cV (cl_ tb_ct tb_mt B K_X12_needKey [.int x1] s) (fun s_1 => eA (gA tb_ct s_1 a0 10 4) (none) (fun b_2 => eC (am_cls s_1 b_2) 12 (cV (cl_ tb_ct tb_mt B K_J4_setLength_d00df [.ref b_2, .int (0 : Int32)] s_1) (fun s_3 => eA (gA tb_ct s_3 a0 10 0) (none) (fun b_4 => eA (gA tb_ct s_3 b_4 7 0) (none) (fun b_5 => eC (am_cls s_3 b_5) 3 (cA (cl_ tb_ct tb_mt B K_X4_find [.ref b_5, .int x1] s_3) (fun s_6 => some (.inl (some (.int (0 : Int32))), s_6)) (fun b_7 s_6 => eA (gA tb_ct s_6 a0 10 4) (eI (gI tb_ct s_6 b_7 2 0) (fun x_9 => none)) (fun b_8 => eI (gI tb_ct s_6 b_7 2 0) (fun x_10 => eC (am_cls s_6 b_8) 12 (cA (cl_ tb_ct tb_mt B K_J4_append_bf812 [.ref b_8, .int x_10] s_6) (fun s_11 => none) (fun b_12 s_11 => eC (am_cls s_11 b_12) 12 (cA (cl_ tb_ct tb_mt B K_J4_append_cf468 [.ref b_12, .int (58 : Int32)] s_11) (fun s_13 => eI (gI tb_ct s_13 b_7 2 1) (fun x_15 => none)) (fun b_14 s_13 => eI (gI tb_ct s_13 b_7 2 1) (fun x_16 => eC (am_cls s_13 b_14) 12 (cA (cl_ tb_ct tb_mt B K_J4_append_bf812 [.ref b_14, .int x_16] s_13) (fun s_17 => eA (gA tb_ct s_17 a0 10 4) (eK (stR s_17 100) (fun b_20 => none)) (fun b_19 => eK (stR s_17 100) (fun b_21 => eC (am_cls s_17 b_19) 12 (cA (cl_ tb_ct tb_mt B K_J4_append_15ec4 [.ref b_19, .ref b_21] s_17) (fun s_22 => eI (gI tb_ct s_22 b_7 2 4) (fun x_24 => none)) (fun b_23 s_22 => eI (gI tb_ct s_22 b_7 2 4) (fun x_25 => eC (am_cls s_22 b_23) 12 (cA (cl_ tb_ct tb_mt B K_J4_append_bf812 [.ref b_23, .int x_25] s_22) (fun s_26 => eI (gI tb_ct s_26 b_7 2 5) (fun x_28 => if x_28 = 0 then rn_ tb_ct tb_mt B mm_X12_writeKey 97 [.ref a0, .int x1, .ref b_7] [] s_26 else eA (gA tb_ct s_26 a0 10 4) (eK (stR s_26 101) (fun b_30 => none)) (fun b_29 => eK (stR s_26 101) (fun b_31 => eC (am_cls s_26 b_29) 12 (cA (cl_ tb_ct tb_mt B K_J4_append_15ec4 [.ref b_29, .ref b_31] s_26) (fun s_32 => eI (gI tb_ct s_32 b_7 2 5) (fun x_34 => none)) (fun b_33 s_32 => eI (gI tb_ct s_32 b_7 2 5) (fun x_35 => eC (am_cls s_32 b_33) 12 (cA (cl_ tb_ct tb_mt B K_J4_append_bf812 [.ref b_33, .int x_35] s_32) (fun s_36 => rn_ tb_ct tb_mt B mm_X12_writeKey 97 [.ref a0, .int x1, .ref b_7] [] s_36) (fun b_37 s_36 => rn_ tb_ct tb_mt B mm_X12_writeKey 97 [.ref a0, .int x1, .ref b_7] [] s_36) xo))) xo))))) (fun b_27 s_26 => eI (gI tb_ct s_26 b_7 2 5) (fun x_38 => if x_38 = 0 then rn_ tb_ct tb_mt B mm_X12_writeKey 97 [.ref a0, .int x1, .ref b_7] [] s_26 else eA (gA tb_ct s_26 a0 10 4) (eK (stR s_26 101) (fun b_40 => none)) (fun b_39 => eK (stR s_26 101) (fun b_41 => eC (am_cls s_26 b_39) 12 (cA (cl_ tb_ct tb_mt B K_J4_append_15ec4 [.ref b_39, .ref b_41] s_26) (fun s_42 => eI (gI tb_ct s_42 b_7 2 5) (fun x_44 => none)) (fun b_43 s_42 => eI (gI tb_ct s_42 b_7 2 5) (fun x_45 => eC (am_cls s_42 b_43) 12 (cA (cl_ tb_ct tb_mt B K_J4_append_bf812 [.ref b_43, .int x_45] s_42) (fun s_46 => rn_ tb_ct tb_mt B mm_X12_writeKey 97 [.ref a0, .int x1, .ref b_7] [] s_46) (fun b_47 s_46 => rn_ tb_ct tb_mt B mm_X12_writeKey 97 [.ref a0, .int x1, .ref b_7] [] s_46) xo))) xo))))) xo))) xo)))) (fun b_18 s_17 => eA (gA tb_ct s_17 a0 10 4) (eK (stR s_17 100) (fun b_49 => none)) (fun b_48 => eK (stR s_17 100) (fun b_50 => eC (am_cls s_17 b_48) 12 (cA (cl_ tb_ct tb_mt B K_J4_append_15ec4 [.ref b_48, .ref b_50] s_17) (fun s_51 => eI (gI tb_ct s_51 b_7 2 4) (fun x_53 => none)) (fun b_52 s_51 => eI (gI tb_ct s_51 b_7 2 4) (fun x_54 => eC (am_cls s_51 b_52) 12 (cA (cl_ tb_ct tb_mt B K_J4_append_bf812 [.ref b_52, .int x_54] s_51) (fun s_55 => eI (gI tb_ct s_55 b_7 2 5) (fun x_57 => if x_57 = 0 then rn_ tb_ct tb_mt B mm_X12_writeKey 97 [.ref a0, .int x1, .ref b_7] [] s_55 else eA (gA tb_ct s_55 a0 10 4) (eK (stR s_55 101) (fun b_59 => none)) (fun b_58 => eK (stR s_55 101) (fun b_60 => eC (am_cls s_55 b_58) 12 (cA (cl_ tb_ct tb_mt B K_J4_append_15ec4 [.ref b_58, .ref b_60] s_55) (fun s_61 => eI (gI tb_ct s_61 b_7 2 5) (fun x_63 => none)) (fun b_62 s_61 => eI (gI tb_ct s_61 b_7 2 5) (fun x_64 => eC (am_cls s_61 b_62) 12 (cA (cl_ tb_ct tb_mt B K_J4_append_bf812 [.ref b_62, .int x_64] s_61) (fun s_65 => rn_ tb_ct tb_mt B mm_X12_writeKey 97 [.ref a0, .int x1, .ref b_7] [] s_65) (fun b_66 s_65 => rn_ tb_ct tb_mt B mm_X12_writeKey 97 [.ref a0, .int x1, .ref b_7] [] s_65) xo))) xo))))) (fun b_56 s_55 => eI (gI tb_ct s_55 b_7 2 5) (fun x_67 => if x_67 = 0 then rn_ tb_ct tb_mt B mm_X12_writeKey 97 [.ref a0, .int x1, .ref b_7] [] s_55 else eA (gA tb_ct s_55 a0 10 4) (eK (stR s_55 101) (fun b_69 => none)) (fun b_68 => eK (stR s_55 101) (fun b_70 => eC (am_cls s_55 b_68) 12 (cA (cl_ tb_ct tb_mt B K_J4_append_15ec4 [.ref b_68, .ref b_70] s_55) (fun s_71 => eI (gI tb_ct s_71 b_7 2 5) (fun x_73 => none)) (fun b_72 s_71 => eI (gI tb_ct s_71 b_7 2 5) (fun x_74 => eC (am_cls s_71 b_72) 12 (cA (cl_ tb_ct tb_mt B K_J4_append_bf812 [.ref b_72, .int x_74] s_71) (fun s_75 => rn_ tb_ct tb_mt B mm_X12_writeKey 97 [.ref a0, .int x1, .ref b_7] [] s_75) (fun b_76 s_75 => rn_ tb_ct tb_mt B mm_X12_writeKey 97 [.ref a0, .int x1, .ref b_7] [] s_75) xo))) xo))))) xo))) xo)))) xo))) xo)) xo)))) xo)))) xo))) xo := by
  refine Eq.trans (rn_go 1 (pc' := 1) (L' := [.ref a0, .int x1, am_un]) (st' := [.int x1]) rfl) ?_
  refine Eq.trans (rn_sta (L' := [.ref a0, .int x1, am_un]) (as := [.int x1]) (rest := []) rfl rfl rfl rfl rfl (Nat.le_of_ble_eq_true rfl) (by decide) rfl) ?_
  refine Eq.trans (cW_V rfl rfl) ?_
  refine cV_c (fun s_1 => ?_) (xh_nil rfl)
  refine Eq.trans (rn_go 1 (pc' := 5) (L' := [.ref a0, .int x1, am_un]) (st' := [.ref a0]) rfl) ?_
  refine Eq.trans (rn_gA (L' := [.ref a0, .int x1, am_un]) rfl rfl rfl rfl) ?_
  refine eA_c ?_ (fun b_2 => ?_)
  · refine Eq.trans (rn_go 1 (pc' := 9) (L' := [.ref a0, .int x1, am_un]) (st' := [.int (0 : Int32), .null]) rfl) ?_
    exact rn_z rfl rfl
  · refine Eq.trans (rn_go 1 (pc' := 9) (L' := [.ref a0, .int x1, am_un]) (st' := [.int (0 : Int32), .ref b_2]) rfl) ?_
    refine Eq.trans (rn_vir (L' := [.ref a0, .int x1, am_un]) (as := [.int (0 : Int32)]) (rest := []) rfl rfl rfl rfl rfl (Nat.le_of_ble_eq_true rfl) (by decide) (by decide)) ?_
    refine eC_c ?_
    refine Eq.trans (cW_V rfl rfl) ?_
    refine cV_c (fun s_3 => ?_) (xh_nil rfl)
    refine Eq.trans (rn_go 1 (pc' := 13) (L' := [.ref a0, .int x1, am_un]) (st' := [.ref a0]) rfl) ?_
    refine Eq.trans (rn_gA (L' := [.ref a0, .int x1, am_un]) rfl rfl rfl rfl) ?_
    refine eA_c ?_ (fun b_4 => ?_)
    · exact rn_z rfl rfl
    · refine Eq.trans (rn_gA (L' := [.ref a0, .int x1, am_un]) rfl rfl rfl rfl) ?_
      refine eA_c ?_ (fun b_5 => ?_)
      · refine Eq.trans (rn_go 1 (pc' := 20) (L' := [.ref a0, .int x1, am_un]) (st' := [.int x1, .null]) rfl) ?_
        exact rn_z rfl rfl
      · refine Eq.trans (rn_go 1 (pc' := 20) (L' := [.ref a0, .int x1, am_un]) (st' := [.int x1, .ref b_5]) rfl) ?_
        refine Eq.trans (rn_vir (L' := [.ref a0, .int x1, am_un]) (as := [.int x1]) (rest := []) rfl rfl rfl rfl rfl (Nat.le_of_ble_eq_true rfl) (by decide) (by decide)) ?_
        refine eC_c ?_
        refine Eq.trans (cW_A rfl rfl rfl) ?_
        refine cA_c (fun s_6 => ?_) (fun b_7 s_6 => ?_) (xh_nil rfl)
        · refine Eq.trans (rn_go 4 (pc' := 29) (L' := [.ref a0, .int x1, .null]) (st' := [.int (0 : Int32)]) rfl) ?_
          exact rn_retI rfl rfl rfl
        · refine Eq.trans (rn_go 4 (pc' := 31) (L' := [.ref a0, .int x1, .ref b_7]) (st' := [.ref a0]) rfl) ?_
          refine Eq.trans (rn_gA (L' := [.ref a0, .int x1, .ref b_7]) rfl rfl rfl rfl) ?_
          refine eA_c ?_ (fun b_8 => ?_)
          · refine Eq.trans (rn_go 1 (pc' := 35) (L' := [.ref a0, .int x1, .ref b_7]) (st' := [.ref b_7, .null]) rfl) ?_
            refine Eq.trans (rn_gI (L' := [.ref a0, .int x1, .ref b_7]) rfl rfl rfl rfl) ?_
            refine eI_c (fun x_9 => ?_)
            exact rn_z rfl rfl
          · refine Eq.trans (rn_go 1 (pc' := 35) (L' := [.ref a0, .int x1, .ref b_7]) (st' := [.ref b_7, .ref b_8]) rfl) ?_
            refine Eq.trans (rn_gI (L' := [.ref a0, .int x1, .ref b_7]) rfl rfl rfl rfl) ?_
            refine eI_c (fun x_10 => ?_)
            refine Eq.trans (rn_vir (L' := [.ref a0, .int x1, .ref b_7]) (as := [.int x_10]) (rest := []) rfl rfl rfl rfl rfl (Nat.le_of_ble_eq_true rfl) (by decide) (by decide)) ?_
            refine eC_c ?_
            refine Eq.trans (cW_A rfl rfl rfl) ?_
            refine cA_c (fun s_11 => ?_) (fun b_12 s_11 => ?_) (xh_nil rfl)
            · refine Eq.trans (rn_go 1 (pc' := 43) (L' := [.ref a0, .int x1, .ref b_7]) (st' := [.int (58 : Int32), .null]) rfl) ?_
              exact rn_z rfl rfl
            · refine Eq.trans (rn_go 1 (pc' := 43) (L' := [.ref a0, .int x1, .ref b_7]) (st' := [.int (58 : Int32), .ref b_12]) rfl) ?_
              refine Eq.trans (rn_vir (L' := [.ref a0, .int x1, .ref b_7]) (as := [.int (58 : Int32)]) (rest := []) rfl rfl rfl rfl rfl (Nat.le_of_ble_eq_true rfl) (by decide) (by decide)) ?_
              refine eC_c ?_
              refine Eq.trans (cW_A rfl rfl rfl) ?_
              refine cA_c (fun s_13 => ?_) (fun b_14 s_13 => ?_) (xh_nil rfl)
              · refine Eq.trans (rn_go 1 (pc' := 47) (L' := [.ref a0, .int x1, .ref b_7]) (st' := [.ref b_7, .null]) rfl) ?_
                refine Eq.trans (rn_gI (L' := [.ref a0, .int x1, .ref b_7]) rfl rfl rfl rfl) ?_
                refine eI_c (fun x_15 => ?_)
                exact rn_z rfl rfl
              · refine Eq.trans (rn_go 1 (pc' := 47) (L' := [.ref a0, .int x1, .ref b_7]) (st' := [.ref b_7, .ref b_14]) rfl) ?_
                refine Eq.trans (rn_gI (L' := [.ref a0, .int x1, .ref b_7]) rfl rfl rfl rfl) ?_
                refine eI_c (fun x_16 => ?_)
                refine Eq.trans (rn_vir (L' := [.ref a0, .int x1, .ref b_7]) (as := [.int x_16]) (rest := []) rfl rfl rfl rfl rfl (Nat.le_of_ble_eq_true rfl) (by decide) (by decide)) ?_
                refine eC_c ?_
                refine Eq.trans (cW_A rfl rfl rfl) ?_
                refine cA_c (fun s_17 => ?_) (fun b_18 s_17 => ?_) (xh_nil rfl)
                · refine Eq.trans (rn_go 2 (pc' := 55) (L' := [.ref a0, .int x1, .ref b_7]) (st' := [.ref a0]) rfl) ?_
                  refine Eq.trans (rn_gA (L' := [.ref a0, .int x1, .ref b_7]) rfl rfl rfl rfl) ?_
                  refine eA_c ?_ (fun b_19 => ?_)
                  · refine Eq.trans (rn_ldSw (L' := [.ref a0, .int x1, .ref b_7]) rfl rfl) ?_
                    refine eK_c (fun b_20 => ?_)
                    exact rn_z rfl rfl
                  · refine Eq.trans (rn_ldSw (L' := [.ref a0, .int x1, .ref b_7]) rfl rfl) ?_
                    refine eK_c (fun b_21 => ?_)
                    refine Eq.trans (rn_vir (L' := [.ref a0, .int x1, .ref b_7]) (as := [.ref b_21]) (rest := []) rfl rfl rfl rfl rfl (Nat.le_of_ble_eq_true rfl) (by decide) (by decide)) ?_
                    refine eC_c ?_
                    refine Eq.trans (cW_A rfl rfl rfl) ?_
                    refine cA_c (fun s_22 => ?_) (fun b_23 s_22 => ?_) (xh_nil rfl)
                    · refine Eq.trans (rn_go 1 (pc' := 65) (L' := [.ref a0, .int x1, .ref b_7]) (st' := [.ref b_7, .null]) rfl) ?_
                      refine Eq.trans (rn_gI (L' := [.ref a0, .int x1, .ref b_7]) rfl rfl rfl rfl) ?_
                      refine eI_c (fun x_24 => ?_)
                      exact rn_z rfl rfl
                    · refine Eq.trans (rn_go 1 (pc' := 65) (L' := [.ref a0, .int x1, .ref b_7]) (st' := [.ref b_7, .ref b_23]) rfl) ?_
                      refine Eq.trans (rn_gI (L' := [.ref a0, .int x1, .ref b_7]) rfl rfl rfl rfl) ?_
                      refine eI_c (fun x_25 => ?_)
                      refine Eq.trans (rn_vir (L' := [.ref a0, .int x1, .ref b_7]) (as := [.int x_25]) (rest := []) rfl rfl rfl rfl rfl (Nat.le_of_ble_eq_true rfl) (by decide) (by decide)) ?_
                      refine eC_c ?_
                      refine Eq.trans (cW_A rfl rfl rfl) ?_
                      refine cA_c (fun s_26 => ?_) (fun b_27 s_26 => ?_) (xh_nil rfl)
                      · refine Eq.trans (rn_go 2 (pc' := 73) (L' := [.ref a0, .int x1, .ref b_7]) (st' := [.ref b_7]) rfl) ?_
                        refine Eq.trans (rn_gI (L' := [.ref a0, .int x1, .ref b_7]) rfl rfl rfl rfl) ?_
                        refine eI_c (fun x_28 => ?_)
                        refine Eq.trans (rn_ifeq (L' := [.ref a0, .int x1, .ref b_7]) rfl rfl) ?_
                        refine if_c ?_ ?_
                        · rfl
                        · refine Eq.trans (rn_go 1 (pc' := 80) (L' := [.ref a0, .int x1, .ref b_7]) (st' := [.ref a0]) rfl) ?_
                          refine Eq.trans (rn_gA (L' := [.ref a0, .int x1, .ref b_7]) rfl rfl rfl rfl) ?_
                          refine eA_c ?_ (fun b_29 => ?_)
                          · refine Eq.trans (rn_ldSw (L' := [.ref a0, .int x1, .ref b_7]) rfl rfl) ?_
                            refine eK_c (fun b_30 => ?_)
                            exact rn_z rfl rfl
                          · refine Eq.trans (rn_ldSw (L' := [.ref a0, .int x1, .ref b_7]) rfl rfl) ?_
                            refine eK_c (fun b_31 => ?_)
                            refine Eq.trans (rn_vir (L' := [.ref a0, .int x1, .ref b_7]) (as := [.ref b_31]) (rest := []) rfl rfl rfl rfl rfl (Nat.le_of_ble_eq_true rfl) (by decide) (by decide)) ?_
                            refine eC_c ?_
                            refine Eq.trans (cW_A rfl rfl rfl) ?_
                            refine cA_c (fun s_32 => ?_) (fun b_33 s_32 => ?_) (xh_nil rfl)
                            · refine Eq.trans (rn_go 1 (pc' := 90) (L' := [.ref a0, .int x1, .ref b_7]) (st' := [.ref b_7, .null]) rfl) ?_
                              refine Eq.trans (rn_gI (L' := [.ref a0, .int x1, .ref b_7]) rfl rfl rfl rfl) ?_
                              refine eI_c (fun x_34 => ?_)
                              exact rn_z rfl rfl
                            · refine Eq.trans (rn_go 1 (pc' := 90) (L' := [.ref a0, .int x1, .ref b_7]) (st' := [.ref b_7, .ref b_33]) rfl) ?_
                              refine Eq.trans (rn_gI (L' := [.ref a0, .int x1, .ref b_7]) rfl rfl rfl rfl) ?_
                              refine eI_c (fun x_35 => ?_)
                              refine Eq.trans (rn_vir (L' := [.ref a0, .int x1, .ref b_7]) (as := [.int x_35]) (rest := []) rfl rfl rfl rfl rfl (Nat.le_of_ble_eq_true rfl) (by decide) (by decide)) ?_
                              refine eC_c ?_
                              refine Eq.trans (cW_A rfl rfl rfl) ?_
                              refine cA_c (fun s_36 => ?_) (fun b_37 s_36 => ?_) (xh_nil rfl)
                              · exact rn_go 1 (pc' := 97) (L' := [.ref a0, .int x1, .ref b_7]) (st' := []) rfl
                              · exact rn_go 1 (pc' := 97) (L' := [.ref a0, .int x1, .ref b_7]) (st' := []) rfl
                      · refine Eq.trans (rn_go 2 (pc' := 73) (L' := [.ref a0, .int x1, .ref b_7]) (st' := [.ref b_7]) rfl) ?_
                        refine Eq.trans (rn_gI (L' := [.ref a0, .int x1, .ref b_7]) rfl rfl rfl rfl) ?_
                        refine eI_c (fun x_38 => ?_)
                        refine Eq.trans (rn_ifeq (L' := [.ref a0, .int x1, .ref b_7]) rfl rfl) ?_
                        refine if_c ?_ ?_
                        · rfl
                        · refine Eq.trans (rn_go 1 (pc' := 80) (L' := [.ref a0, .int x1, .ref b_7]) (st' := [.ref a0]) rfl) ?_
                          refine Eq.trans (rn_gA (L' := [.ref a0, .int x1, .ref b_7]) rfl rfl rfl rfl) ?_
                          refine eA_c ?_ (fun b_39 => ?_)
                          · refine Eq.trans (rn_ldSw (L' := [.ref a0, .int x1, .ref b_7]) rfl rfl) ?_
                            refine eK_c (fun b_40 => ?_)
                            exact rn_z rfl rfl
                          · refine Eq.trans (rn_ldSw (L' := [.ref a0, .int x1, .ref b_7]) rfl rfl) ?_
                            refine eK_c (fun b_41 => ?_)
                            refine Eq.trans (rn_vir (L' := [.ref a0, .int x1, .ref b_7]) (as := [.ref b_41]) (rest := []) rfl rfl rfl rfl rfl (Nat.le_of_ble_eq_true rfl) (by decide) (by decide)) ?_
                            refine eC_c ?_
                            refine Eq.trans (cW_A rfl rfl rfl) ?_
                            refine cA_c (fun s_42 => ?_) (fun b_43 s_42 => ?_) (xh_nil rfl)
                            · refine Eq.trans (rn_go 1 (pc' := 90) (L' := [.ref a0, .int x1, .ref b_7]) (st' := [.ref b_7, .null]) rfl) ?_
                              refine Eq.trans (rn_gI (L' := [.ref a0, .int x1, .ref b_7]) rfl rfl rfl rfl) ?_
                              refine eI_c (fun x_44 => ?_)
                              exact rn_z rfl rfl
                            · refine Eq.trans (rn_go 1 (pc' := 90) (L' := [.ref a0, .int x1, .ref b_7]) (st' := [.ref b_7, .ref b_43]) rfl) ?_
                              refine Eq.trans (rn_gI (L' := [.ref a0, .int x1, .ref b_7]) rfl rfl rfl rfl) ?_
                              refine eI_c (fun x_45 => ?_)
                              refine Eq.trans (rn_vir (L' := [.ref a0, .int x1, .ref b_7]) (as := [.int x_45]) (rest := []) rfl rfl rfl rfl rfl (Nat.le_of_ble_eq_true rfl) (by decide) (by decide)) ?_
                              refine eC_c ?_
                              refine Eq.trans (cW_A rfl rfl rfl) ?_
                              refine cA_c (fun s_46 => ?_) (fun b_47 s_46 => ?_) (xh_nil rfl)
                              · exact rn_go 1 (pc' := 97) (L' := [.ref a0, .int x1, .ref b_7]) (st' := []) rfl
                              · exact rn_go 1 (pc' := 97) (L' := [.ref a0, .int x1, .ref b_7]) (st' := []) rfl
                · refine Eq.trans (rn_go 2 (pc' := 55) (L' := [.ref a0, .int x1, .ref b_7]) (st' := [.ref a0]) rfl) ?_
                  refine Eq.trans (rn_gA (L' := [.ref a0, .int x1, .ref b_7]) rfl rfl rfl rfl) ?_
                  refine eA_c ?_ (fun b_48 => ?_)
                  · refine Eq.trans (rn_ldSw (L' := [.ref a0, .int x1, .ref b_7]) rfl rfl) ?_
                    refine eK_c (fun b_49 => ?_)
                    exact rn_z rfl rfl
                  · refine Eq.trans (rn_ldSw (L' := [.ref a0, .int x1, .ref b_7]) rfl rfl) ?_
                    refine eK_c (fun b_50 => ?_)
                    refine Eq.trans (rn_vir (L' := [.ref a0, .int x1, .ref b_7]) (as := [.ref b_50]) (rest := []) rfl rfl rfl rfl rfl (Nat.le_of_ble_eq_true rfl) (by decide) (by decide)) ?_
                    refine eC_c ?_
                    refine Eq.trans (cW_A rfl rfl rfl) ?_
                    refine cA_c (fun s_51 => ?_) (fun b_52 s_51 => ?_) (xh_nil rfl)
                    · refine Eq.trans (rn_go 1 (pc' := 65) (L' := [.ref a0, .int x1, .ref b_7]) (st' := [.ref b_7, .null]) rfl) ?_
                      refine Eq.trans (rn_gI (L' := [.ref a0, .int x1, .ref b_7]) rfl rfl rfl rfl) ?_
                      refine eI_c (fun x_53 => ?_)
                      exact rn_z rfl rfl
                    · refine Eq.trans (rn_go 1 (pc' := 65) (L' := [.ref a0, .int x1, .ref b_7]) (st' := [.ref b_7, .ref b_52]) rfl) ?_
                      refine Eq.trans (rn_gI (L' := [.ref a0, .int x1, .ref b_7]) rfl rfl rfl rfl) ?_
                      refine eI_c (fun x_54 => ?_)
                      refine Eq.trans (rn_vir (L' := [.ref a0, .int x1, .ref b_7]) (as := [.int x_54]) (rest := []) rfl rfl rfl rfl rfl (Nat.le_of_ble_eq_true rfl) (by decide) (by decide)) ?_
                      refine eC_c ?_
                      refine Eq.trans (cW_A rfl rfl rfl) ?_
                      refine cA_c (fun s_55 => ?_) (fun b_56 s_55 => ?_) (xh_nil rfl)
                      · refine Eq.trans (rn_go 2 (pc' := 73) (L' := [.ref a0, .int x1, .ref b_7]) (st' := [.ref b_7]) rfl) ?_
                        refine Eq.trans (rn_gI (L' := [.ref a0, .int x1, .ref b_7]) rfl rfl rfl rfl) ?_
                        refine eI_c (fun x_57 => ?_)
                        refine Eq.trans (rn_ifeq (L' := [.ref a0, .int x1, .ref b_7]) rfl rfl) ?_
                        refine if_c ?_ ?_
                        · rfl
                        · refine Eq.trans (rn_go 1 (pc' := 80) (L' := [.ref a0, .int x1, .ref b_7]) (st' := [.ref a0]) rfl) ?_
                          refine Eq.trans (rn_gA (L' := [.ref a0, .int x1, .ref b_7]) rfl rfl rfl rfl) ?_
                          refine eA_c ?_ (fun b_58 => ?_)
                          · refine Eq.trans (rn_ldSw (L' := [.ref a0, .int x1, .ref b_7]) rfl rfl) ?_
                            refine eK_c (fun b_59 => ?_)
                            exact rn_z rfl rfl
                          · refine Eq.trans (rn_ldSw (L' := [.ref a0, .int x1, .ref b_7]) rfl rfl) ?_
                            refine eK_c (fun b_60 => ?_)
                            refine Eq.trans (rn_vir (L' := [.ref a0, .int x1, .ref b_7]) (as := [.ref b_60]) (rest := []) rfl rfl rfl rfl rfl (Nat.le_of_ble_eq_true rfl) (by decide) (by decide)) ?_
                            refine eC_c ?_
                            refine Eq.trans (cW_A rfl rfl rfl) ?_
                            refine cA_c (fun s_61 => ?_) (fun b_62 s_61 => ?_) (xh_nil rfl)
                            · refine Eq.trans (rn_go 1 (pc' := 90) (L' := [.ref a0, .int x1, .ref b_7]) (st' := [.ref b_7, .null]) rfl) ?_
                              refine Eq.trans (rn_gI (L' := [.ref a0, .int x1, .ref b_7]) rfl rfl rfl rfl) ?_
                              refine eI_c (fun x_63 => ?_)
                              exact rn_z rfl rfl
                            · refine Eq.trans (rn_go 1 (pc' := 90) (L' := [.ref a0, .int x1, .ref b_7]) (st' := [.ref b_7, .ref b_62]) rfl) ?_
                              refine Eq.trans (rn_gI (L' := [.ref a0, .int x1, .ref b_7]) rfl rfl rfl rfl) ?_
                              refine eI_c (fun x_64 => ?_)
                              refine Eq.trans (rn_vir (L' := [.ref a0, .int x1, .ref b_7]) (as := [.int x_64]) (rest := []) rfl rfl rfl rfl rfl (Nat.le_of_ble_eq_true rfl) (by decide) (by decide)) ?_
                              refine eC_c ?_
                              refine Eq.trans (cW_A rfl rfl rfl) ?_
                              refine cA_c (fun s_65 => ?_) (fun b_66 s_65 => ?_) (xh_nil rfl)
                              · exact rn_go 1 (pc' := 97) (L' := [.ref a0, .int x1, .ref b_7]) (st' := []) rfl
                              · exact rn_go 1 (pc' := 97) (L' := [.ref a0, .int x1, .ref b_7]) (st' := []) rfl
                      · refine Eq.trans (rn_go 2 (pc' := 73) (L' := [.ref a0, .int x1, .ref b_7]) (st' := [.ref b_7]) rfl) ?_
                        refine Eq.trans (rn_gI (L' := [.ref a0, .int x1, .ref b_7]) rfl rfl rfl rfl) ?_
                        refine eI_c (fun x_67 => ?_)
                        refine Eq.trans (rn_ifeq (L' := [.ref a0, .int x1, .ref b_7]) rfl rfl) ?_
                        refine if_c ?_ ?_
                        · rfl
                        · refine Eq.trans (rn_go 1 (pc' := 80) (L' := [.ref a0, .int x1, .ref b_7]) (st' := [.ref a0]) rfl) ?_
                          refine Eq.trans (rn_gA (L' := [.ref a0, .int x1, .ref b_7]) rfl rfl rfl rfl) ?_
                          refine eA_c ?_ (fun b_68 => ?_)
                          · refine Eq.trans (rn_ldSw (L' := [.ref a0, .int x1, .ref b_7]) rfl rfl) ?_
                            refine eK_c (fun b_69 => ?_)
                            exact rn_z rfl rfl
                          · refine Eq.trans (rn_ldSw (L' := [.ref a0, .int x1, .ref b_7]) rfl rfl) ?_
                            refine eK_c (fun b_70 => ?_)
                            refine Eq.trans (rn_vir (L' := [.ref a0, .int x1, .ref b_7]) (as := [.ref b_70]) (rest := []) rfl rfl rfl rfl rfl (Nat.le_of_ble_eq_true rfl) (by decide) (by decide)) ?_
                            refine eC_c ?_
                            refine Eq.trans (cW_A rfl rfl rfl) ?_
                            refine cA_c (fun s_71 => ?_) (fun b_72 s_71 => ?_) (xh_nil rfl)
                            · refine Eq.trans (rn_go 1 (pc' := 90) (L' := [.ref a0, .int x1, .ref b_7]) (st' := [.ref b_7, .null]) rfl) ?_
                              refine Eq.trans (rn_gI (L' := [.ref a0, .int x1, .ref b_7]) rfl rfl rfl rfl) ?_
                              refine eI_c (fun x_73 => ?_)
                              exact rn_z rfl rfl
                            · refine Eq.trans (rn_go 1 (pc' := 90) (L' := [.ref a0, .int x1, .ref b_7]) (st' := [.ref b_7, .ref b_72]) rfl) ?_
                              refine Eq.trans (rn_gI (L' := [.ref a0, .int x1, .ref b_7]) rfl rfl rfl rfl) ?_
                              refine eI_c (fun x_74 => ?_)
                              refine Eq.trans (rn_vir (L' := [.ref a0, .int x1, .ref b_7]) (as := [.int x_74]) (rest := []) rfl rfl rfl rfl rfl (Nat.le_of_ble_eq_true rfl) (by decide) (by decide)) ?_
                              refine eC_c ?_
                              refine Eq.trans (cW_A rfl rfl rfl) ?_
                              refine cA_c (fun s_75 => ?_) (fun b_76 s_75 => ?_) (xh_nil rfl)
                              · exact rn_go 1 (pc' := 97) (L' := [.ref a0, .int x1, .ref b_7]) (st' := []) rfl
                              · exact rn_go 1 (pc' := 97) (L' := [.ref a0, .int x1, .ref b_7]) (st' := []) rfl
theorem dc_X12_writeKey_97 {B : Nat} (a0 : Nat) (w1 : Value) (w2 : Value) (s : am_S) : rn_ tb_ct tb_mt B mm_X12_writeKey 97 [.ref a0, w1, w2] [] s = eA (gA tb_ct s a0 10 4) (none) (fun b_1 => eC (am_cls s b_1) 12 (cI (cl_ tb_ct tb_mt B K_J4_length_8abf5 [.ref b_1] s) (fun x_3 s_2 => some (.inl (some (.int x_3)), s_2)) xo)) := by
  refine Eq.trans (rn_go 1 (pc' := 98) (L' := [.ref a0, am_un, am_un]) (st' := [.ref a0]) rfl) ?_
  refine Eq.trans (rn_gA (L' := [.ref a0, am_un, am_un]) rfl rfl rfl rfl) ?_
  refine eA_c ?_ (fun b_1 => ?_)
  · exact rn_z rfl rfl
  · refine Eq.trans (rn_vir (L' := [.ref a0, am_un, am_un]) (as := []) (rest := []) rfl rfl rfl rfl rfl (Nat.le_of_ble_eq_true rfl) (by decide) (by decide)) ?_
    refine eC_c ?_
    refine Eq.trans (cW_I rfl rfl rfl) ?_
    refine cI_c (fun x_3 s_2 => ?_) (xh_nil rfl)
    exact rn_retI rfl rfl rfl
theorem in_X12_outputByte {B : Nat} (a0 : Nat) (x1 : Int32) (s : am_S) : cl_ tb_ct tb_mt B K_X12_outputByte [.ref a0, .int x1] s = rn_ tb_ct tb_mt B mm_X12_outputByte 0 [.ref a0, .int x1] [] s := cl_in rfl rfl rfl rfl
theorem dc_X12_outputByte_0 {B : Nat} (a0 : Nat) (x1 : Int32) (s : am_S) : rn_ tb_ct tb_mt B mm_X12_outputByte 0 [.ref a0, .int x1] [] s = if x1 < 0 then some (.inl (some (.int (-(1 : Int32)))), s) else eA (gA tb_ct s a0 10 4) (none) (fun b_1 => eC (am_cls s b_1) 12 (cI (cl_ tb_ct tb_mt B K_J4_length_8abf5 [.ref b_1] s) (fun x_3 s_2 => if x_3 ≤ x1 then some (.inl (some (.int (-(1 : Int32)))), s_2) else eA (gA tb_ct s_2 a0 10 4) (none) (fun b_4 => eC (am_cls s_2 b_4) 12 (cI (cl_ tb_ct tb_mt B K_J4_charAt_5068e [.ref b_4, .int x1] s_2) (fun x_6 s_5 => some (.inl (some (.int x_6)), s_5)) xo))) xo)) := by
  refine Eq.trans (rn_go 1 (pc' := 1) (L' := [.ref a0, .int x1]) (st' := [.int x1]) rfl) ?_
  refine Eq.trans (rn_iflt (L' := [.ref a0, .int x1]) rfl rfl) ?_
  refine if_c ?_ ?_
  · refine Eq.trans (rn_go 1 (pc' := 27) (L' := [.ref a0, .int x1]) (st' := [.int (-(1 : Int32))]) rfl) ?_
    exact rn_retI rfl rfl rfl
  · refine Eq.trans (rn_go 2 (pc' := 6) (L' := [.ref a0, .int x1]) (st' := [.ref a0, .int x1]) rfl) ?_
    refine Eq.trans (rn_gA (L' := [.ref a0, .int x1]) rfl rfl rfl rfl) ?_
    refine eA_c ?_ (fun b_1 => ?_)
    · exact rn_z rfl rfl
    · refine Eq.trans (rn_vir (L' := [.ref a0, .int x1]) (as := []) (rest := [.int x1]) rfl rfl rfl rfl rfl (Nat.le_of_ble_eq_true rfl) (by decide) (by decide)) ?_
      refine eC_c ?_
      refine Eq.trans (cW_I rfl rfl rfl) ?_
      refine cI_c (fun x_3 s_2 => ?_) (xh_nil rfl)
      refine Eq.trans (rn_icge (L' := [.ref a0, .int x1]) rfl rfl) ?_
      refine if_c ?_ ?_
      · refine Eq.trans (rn_go 1 (pc' := 27) (L' := [.ref a0, .int x1]) (st' := [.int (-(1 : Int32))]) rfl) ?_
        exact rn_retI rfl rfl rfl
      · refine Eq.trans (rn_go 1 (pc' := 16) (L' := [.ref a0, .int x1]) (st' := [.ref a0]) rfl) ?_
        refine Eq.trans (rn_gA (L' := [.ref a0, .int x1]) rfl rfl rfl rfl) ?_
        refine eA_c ?_ (fun b_4 => ?_)
        · refine Eq.trans (rn_go 1 (pc' := 20) (L' := [.ref a0, .int x1]) (st' := [.int x1, .null]) rfl) ?_
          exact rn_z rfl rfl
        · refine Eq.trans (rn_go 1 (pc' := 20) (L' := [.ref a0, .int x1]) (st' := [.int x1, .ref b_4]) rfl) ?_
          refine Eq.trans (rn_vir (L' := [.ref a0, .int x1]) (as := [.int x1]) (rest := []) rfl rfl rfl rfl rfl (Nat.le_of_ble_eq_true rfl) (by decide) (by decide)) ?_
          refine eC_c ?_
          refine Eq.trans (cW_I rfl rfl rfl) ?_
          refine cI_c (fun x_6 s_5 => ?_) (xh_nil rfl)
          refine Eq.trans (rn_go 1 (pc' := 27) (L' := [.ref a0, .int x1]) (st' := [.int x_6]) rfl) ?_
          exact rn_retI rfl rfl rfl
theorem in_X12_saveSnapshot {B : Nat} (a0 : Nat) (x1 : Int32) (s : am_S) : cl_ tb_ct tb_mt B K_X12_saveSnapshot [.ref a0, .int x1] s = rn_ tb_ct tb_mt B mm_X12_saveSnapshot 0 [.ref a0, .int x1, am_un] [] s := cl_in rfl rfl rfl rfl
theorem dc_X12_saveSnapshot_0 {B : Nat} (a0 : Nat) (x1 : Int32) (s : am_S) : rn_ tb_ct tb_mt B mm_X12_saveSnapshot 0 [.ref a0, .int x1, am_un] [] s = if x1 < 0 then rn_ tb_ct tb_mt B mm_X12_saveSnapshot 13 [.ref a0, .int x1, am_un] [] s else eA (gA tb_ct s a0 10 2) (none) (fun b_1 => eK (am_len s b_1) (fun n_2 => if x1 < (Int32.ofNat n_2) then eA (gA tb_ct s a0 10 2) (none) (fun b_3 => eA (aA s b_3 x1) (nwO tb_ct s 7 (fun b_5 s_6 => eC (am_cls s_6 b_5) 7 (cV (cl_ tb_ct tb_mt B K_X8_init [.ref b_5] s_6) (fun s_7 => eA (gA tb_ct s_7 a0 10 2) (none) (fun b_8 => eS (wA tb_ct B s_7 b_8 x1 b_5) (fun s_9 => rn_ tb_ct tb_mt B mm_X12_saveSnapshot 47 [.ref a0, .int x1, .ref b_5] [] s_9))) xo))) (fun b_4 => rn_ tb_ct tb_mt B mm_X12_saveSnapshot 47 [.ref a0, .int x1, .ref b_4] [] s)) else rn_ tb_ct tb_mt B mm_X12_saveSnapshot 13 [.ref a0, .int x1, am_un] [] s)) := by
  refine Eq.trans (rn_go 1 (pc' := 1) (L' := [.ref a0, .int x1, am_un]) (st' := [.int x1]) rfl) ?_
  refine Eq.trans (rn_iflt (L' := [.ref a0, .int x1, am_un]) rfl rfl) ?_
  refine if_c ?_ ?_
  · rfl
  · refine Eq.trans (rn_go 2 (pc' := 6) (L' := [.ref a0, .int x1, am_un]) (st' := [.ref a0, .int x1]) rfl) ?_
    refine Eq.trans (rn_gA (L' := [.ref a0, .int x1, am_un]) rfl rfl rfl rfl) ?_
    refine eA_c ?_ (fun b_1 => ?_)
    · exact rn_z rfl rfl
    · refine Eq.trans (rn_al (L' := [.ref a0, .int x1, am_un]) rfl rfl) ?_
      refine eK_c (fun n_2 => ?_)
      refine Eq.trans (rn_iclt (L' := [.ref a0, .int x1, am_un]) rfl rfl) ?_
      refine if_c ?_ ?_
      · refine Eq.trans (rn_go 1 (pc' := 22) (L' := [.ref a0, .int x1, am_un]) (st' := [.ref a0]) rfl) ?_
        refine Eq.trans (rn_gA (L' := [.ref a0, .int x1, am_un]) rfl rfl rfl rfl) ?_
        refine eA_c ?_ (fun b_3 => ?_)
        · refine Eq.trans (rn_go 1 (pc' := 26) (L' := [.ref a0, .int x1, am_un]) (st' := [.int x1, .null]) rfl) ?_
          exact rn_z rfl rfl
        · refine Eq.trans (rn_go 1 (pc' := 26) (L' := [.ref a0, .int x1, am_un]) (st' := [.int x1, .ref b_3]) rfl) ?_
          refine Eq.trans (rn_aA (L' := [.ref a0, .int x1, am_un]) rfl rfl) ?_
          refine eA_c ?_ (fun b_4 => ?_)
          · refine Eq.trans (rn_go 3 (pc' := 32) (L' := [.ref a0, .int x1, .null]) (st' := []) rfl) ?_
            refine Eq.trans (rn_new (L' := [.ref a0, .int x1, .null]) rfl rfl) ?_
            refine nwO_c (fun b_5 s_6 => ?_)
            refine Eq.trans (rn_go 1 (pc' := 36) (L' := [.ref a0, .int x1, .null]) (st' := [.ref b_5, .ref b_5]) rfl) ?_
            refine Eq.trans (rn_spe (L' := [.ref a0, .int x1, .null]) (as := []) (rest := [.ref b_5]) rfl rfl (by decide) rfl rfl rfl (Nat.le_of_ble_eq_true rfl) (by decide) (by decide)) ?_
            refine eC_c ?_
            refine Eq.trans (cW_V rfl rfl) ?_
            refine cV_c (fun s_7 => ?_) (xh_nil rfl)
            refine Eq.trans (rn_go 2 (pc' := 41) (L' := [.ref a0, .int x1, .ref b_5]) (st' := [.ref a0]) rfl) ?_
            refine Eq.trans (rn_gA (L' := [.ref a0, .int x1, .ref b_5]) rfl rfl rfl rfl) ?_
            refine eA_c ?_ (fun b_8 => ?_)
            · refine Eq.trans (rn_go 2 (pc' := 46) (L' := [.ref a0, .int x1, .ref b_5]) (st' := [.ref b_5, .int x1, .null]) rfl) ?_
              exact rn_z rfl rfl
            · refine Eq.trans (rn_go 2 (pc' := 46) (L' := [.ref a0, .int x1, .ref b_5]) (st' := [.ref b_5, .int x1, .ref b_8]) rfl) ?_
              refine Eq.trans (rn_wA (L' := [.ref a0, .int x1, .ref b_5]) rfl rfl) ?_
              refine eS_c (fun s_9 => ?_)
              rfl
          · exact rn_go 3 (pc' := 47) (L' := [.ref a0, .int x1, .ref b_4]) (st' := []) rfl
      · rfl
theorem dc_X12_saveSnapshot_13 {B : Nat} (w0 : Value) (w1 : Value) (s : am_S) : rn_ tb_ct tb_mt B mm_X12_saveSnapshot 13 [w0, w1, am_un] [] s = xo 0 (am_bump s) := by
  exact rn_thr rfl rfl
theorem dc_X12_saveSnapshot_47 {B : Nat} (a0 : Nat) (w1 : Value) (a2 : Nat) (s : am_S) : rn_ tb_ct tb_mt B mm_X12_saveSnapshot 47 [.ref a0, w1, .ref a2] [] s = eA (gA tb_ct s a0 10 0) (eC (am_cls s a2) 7 (cV (cl_ tb_ct tb_mt B K_X8_copyFrom [.ref a2, .null] s) (fun s_2 => eA (gA tb_ct s_2 a0 10 0) (none) (fun b_3 => eI (gI tb_ct s_2 b_3 7 5) (fun x_4 => some (.inl (some (.int x_4)), s_2)))) xo)) (fun b_1 => eC (am_cls s a2) 7 (cV (cl_ tb_ct tb_mt B K_X8_copyFrom [.ref a2, .ref b_1] s) (fun s_5 => eA (gA tb_ct s_5 a0 10 0) (none) (fun b_6 => eI (gI tb_ct s_5 b_6 7 5) (fun x_7 => some (.inl (some (.int x_7)), s_5)))) xo)) := by
  refine Eq.trans (rn_go 2 (pc' := 49) (L' := [.ref a0, am_un, .ref a2]) (st' := [.ref a0, .ref a2]) rfl) ?_
  refine Eq.trans (rn_gA (L' := [.ref a0, am_un, .ref a2]) rfl rfl rfl rfl) ?_
  refine eA_c ?_ (fun b_1 => ?_)
  · refine Eq.trans (rn_vir (L' := [.ref a0, am_un, .ref a2]) (as := [.null]) (rest := []) rfl rfl rfl rfl rfl (Nat.le_of_ble_eq_true rfl) (by decide) (by decide)) ?_
    refine eC_c ?_
    refine Eq.trans (cW_V rfl rfl) ?_
    refine cV_c (fun s_2 => ?_) (xh_nil rfl)
    refine Eq.trans (rn_go 1 (pc' := 56) (L' := [.ref a0, am_un, .ref a2]) (st' := [.ref a0]) rfl) ?_
    refine Eq.trans (rn_gA (L' := [.ref a0, am_un, .ref a2]) rfl rfl rfl rfl) ?_
    refine eA_c ?_ (fun b_3 => ?_)
    · exact rn_z rfl rfl
    · refine Eq.trans (rn_gI (L' := [.ref a0, am_un, .ref a2]) rfl rfl rfl rfl) ?_
      refine eI_c (fun x_4 => ?_)
      exact rn_retI rfl rfl rfl
  · refine Eq.trans (rn_vir (L' := [.ref a0, am_un, .ref a2]) (as := [.ref b_1]) (rest := []) rfl rfl rfl rfl rfl (Nat.le_of_ble_eq_true rfl) (by decide) (by decide)) ?_
    refine eC_c ?_
    refine Eq.trans (cW_V rfl rfl) ?_
    refine cV_c (fun s_5 => ?_) (xh_nil rfl)
    refine Eq.trans (rn_go 1 (pc' := 56) (L' := [.ref a0, am_un, .ref a2]) (st' := [.ref a0]) rfl) ?_
    refine Eq.trans (rn_gA (L' := [.ref a0, am_un, .ref a2]) rfl rfl rfl rfl) ?_
    refine eA_c ?_ (fun b_6 => ?_)
    · exact rn_z rfl rfl
    · refine Eq.trans (rn_gI (L' := [.ref a0, am_un, .ref a2]) rfl rfl rfl rfl) ?_
      refine eI_c (fun x_7 => ?_)
      exact rn_retI rfl rfl rfl
theorem in_X12_restoreSnapshot {B : Nat} (a0 : Nat) (x1 : Int32) (s : am_S) : cl_ tb_ct tb_mt B K_X12_restoreSnapshot [.ref a0, .int x1] s = rn_ tb_ct tb_mt B mm_X12_restoreSnapshot 0 [.ref a0, .int x1, am_un] [] s := cl_in rfl rfl rfl rfl
theorem dc_X12_restoreSnapshot_0 {B : Nat} (a0 : Nat) (x1 : Int32) (s : am_S) : rn_ tb_ct tb_mt B mm_X12_restoreSnapshot 0 [.ref a0, .int x1, am_un] [] s = if x1 < 0 then rn_ tb_ct tb_mt B mm_X12_restoreSnapshot 13 [.ref a0, .int x1, am_un] [] s else eA (gA tb_ct s a0 10 2) (none) (fun b_1 => eK (am_len s b_1) (fun n_2 => if x1 < (Int32.ofNat n_2) then eA (gA tb_ct s a0 10 2) (none) (fun b_3 => eA (aA s b_3 x1) (some (.inl (some (.int (-(1 : Int32)))), s)) (fun b_4 => eA (gA tb_ct s a0 10 0) (none) (fun b_5 => eC (am_cls s b_5) 7 (cV (cl_ tb_ct tb_mt B K_X8_copyFrom [.ref b_5, .ref b_4] s) (fun s_6 => eA (gA tb_ct s_6 a0 10 0) (none) (fun b_7 => eI (gI tb_ct s_6 b_7 7 5) (fun x_8 => some (.inl (some (.int x_8)), s_6)))) xo)))) else rn_ tb_ct tb_mt B mm_X12_restoreSnapshot 13 [.ref a0, .int x1, am_un] [] s)) := by
  refine Eq.trans (rn_go 1 (pc' := 1) (L' := [.ref a0, .int x1, am_un]) (st' := [.int x1]) rfl) ?_
  refine Eq.trans (rn_iflt (L' := [.ref a0, .int x1, am_un]) rfl rfl) ?_
  refine if_c ?_ ?_
  · rfl
  · refine Eq.trans (rn_go 2 (pc' := 6) (L' := [.ref a0, .int x1, am_un]) (st' := [.ref a0, .int x1]) rfl) ?_
    refine Eq.trans (rn_gA (L' := [.ref a0, .int x1, am_un]) rfl rfl rfl rfl) ?_
    refine eA_c ?_ (fun b_1 => ?_)
    · exact rn_z rfl rfl
    · refine Eq.trans (rn_al (L' := [.ref a0, .int x1, am_un]) rfl rfl) ?_
      refine eK_c (fun n_2 => ?_)
      refine Eq.trans (rn_iclt (L' := [.ref a0, .int x1, am_un]) rfl rfl) ?_
      refine if_c ?_ ?_
      · refine Eq.trans (rn_go 1 (pc' := 22) (L' := [.ref a0, .int x1, am_un]) (st' := [.ref a0]) rfl) ?_
        refine Eq.trans (rn_gA (L' := [.ref a0, .int x1, am_un]) rfl rfl rfl rfl) ?_
        refine eA_c ?_ (fun b_3 => ?_)
        · refine Eq.trans (rn_go 1 (pc' := 26) (L' := [.ref a0, .int x1, am_un]) (st' := [.int x1, .null]) rfl) ?_
          exact rn_z rfl rfl
        · refine Eq.trans (rn_go 1 (pc' := 26) (L' := [.ref a0, .int x1, am_un]) (st' := [.int x1, .ref b_3]) rfl) ?_
          refine Eq.trans (rn_aA (L' := [.ref a0, .int x1, am_un]) rfl rfl) ?_
          refine eA_c ?_ (fun b_4 => ?_)
          · refine Eq.trans (rn_go 4 (pc' := 33) (L' := [.ref a0, .int x1, .null]) (st' := [.int (-(1 : Int32))]) rfl) ?_
            exact rn_retI rfl rfl rfl
          · refine Eq.trans (rn_go 4 (pc' := 35) (L' := [.ref a0, .int x1, .ref b_4]) (st' := [.ref a0]) rfl) ?_
            refine Eq.trans (rn_gA (L' := [.ref a0, .int x1, .ref b_4]) rfl rfl rfl rfl) ?_
            refine eA_c ?_ (fun b_5 => ?_)
            · refine Eq.trans (rn_go 1 (pc' := 39) (L' := [.ref a0, .int x1, .ref b_4]) (st' := [.ref b_4, .null]) rfl) ?_
              exact rn_z rfl rfl
            · refine Eq.trans (rn_go 1 (pc' := 39) (L' := [.ref a0, .int x1, .ref b_4]) (st' := [.ref b_4, .ref b_5]) rfl) ?_
              refine Eq.trans (rn_vir (L' := [.ref a0, .int x1, .ref b_4]) (as := [.ref b_4]) (rest := []) rfl rfl rfl rfl rfl (Nat.le_of_ble_eq_true rfl) (by decide) (by decide)) ?_
              refine eC_c ?_
              refine Eq.trans (cW_V rfl rfl) ?_
              refine cV_c (fun s_6 => ?_) (xh_nil rfl)
              refine Eq.trans (rn_go 1 (pc' := 43) (L' := [.ref a0, .int x1, .ref b_4]) (st' := [.ref a0]) rfl) ?_
              refine Eq.trans (rn_gA (L' := [.ref a0, .int x1, .ref b_4]) rfl rfl rfl rfl) ?_
              refine eA_c ?_ (fun b_7 => ?_)
              · exact rn_z rfl rfl
              · refine Eq.trans (rn_gI (L' := [.ref a0, .int x1, .ref b_4]) rfl rfl rfl rfl) ?_
                refine eI_c (fun x_8 => ?_)
                exact rn_retI rfl rfl rfl
      · rfl
theorem dc_X12_restoreSnapshot_13 {B : Nat} (w0 : Value) (w1 : Value) (s : am_S) : rn_ tb_ct tb_mt B mm_X12_restoreSnapshot 13 [w0, w1, am_un] [] s = xo 0 (am_bump s) := by
  exact rn_thr rfl rfl
theorem in_X12_need {B : Nat} (x0 : Int32) (s : am_S) : cl_ tb_ct tb_mt B K_X12_need [.int x0] s = rn_ tb_ct tb_mt B mm_X12_need 0 [.int x0] [] s := cl_in rfl rfl rfl rfl
theorem dc_X12_need_0 {B : Nat} (x0 : Int32) (s : am_S) : rn_ tb_ct tb_mt B mm_X12_need 0 [.int x0] [] s = if x0 = 0 then xo 0 (am_bump s) else some (.inl none, s) := by
  refine Eq.trans (rn_go 1 (pc' := 1) (L' := [.int x0]) (st' := [.int x0]) rfl) ?_
  refine Eq.trans (rn_ifne (L' := [.int x0]) rfl rfl) ?_
  refine if_c ?_ ?_
  · exact rn_thr rfl rfl
  · exact rn_retV rfl rfl
theorem in_X12_needKey {B : Nat} (x0 : Int32) (s : am_S) : cl_ tb_ct tb_mt B K_X12_needKey [.int x0] s = rn_ tb_ct tb_mt B mm_X12_needKey 0 [.int x0] [] s := cl_in rfl rfl rfl rfl
theorem dc_X12_needKey_0 {B : Nat} (x0 : Int32) (s : am_S) : rn_ tb_ct tb_mt B mm_X12_needKey 0 [.int x0] [] s = if x0 < 0 then rn_ tb_ct tb_mt B mm_X12_needKey 15 [.int x0] [] s else if (999 : Int32) < x0 then rn_ tb_ct tb_mt B mm_X12_needKey 15 [.int x0] [] s else rn_ tb_ct tb_mt B mm_X12_needKey 16 [.int x0] [.int (1 : Int32)] s := by
  refine Eq.trans (rn_go 1 (pc' := 1) (L' := [.int x0]) (st' := [.int x0]) rfl) ?_
  refine Eq.trans (rn_iflt (L' := [.int x0]) rfl rfl) ?_
  refine if_c ?_ ?_
  · rfl
  · refine Eq.trans (rn_go 2 (pc' := 8) (L' := [.int x0]) (st' := [.int (999 : Int32), .int x0]) rfl) ?_
    refine Eq.trans (rn_icgt (L' := [.int x0]) rfl rfl) ?_
    refine if_c ?_ ?_
    · rfl
    · exact rn_go 2 (pc' := 16) (L' := [.int x0]) (st' := [.int (1 : Int32)]) rfl
theorem dc_X12_needKey_15 {B : Nat} (w0 : Value) (s : am_S) : rn_ tb_ct tb_mt B mm_X12_needKey 15 [w0] [] s = rn_ tb_ct tb_mt B mm_X12_needKey 16 [am_un] [.int (0 : Int32)] s := by
  exact rn_go 1 (pc' := 16) (L' := [am_un]) (st' := [.int (0 : Int32)]) rfl
theorem dc_X12_needKey_16 {B : Nat} (w0 : Value) (xs0 : Int32) (s : am_S) : rn_ tb_ct tb_mt B mm_X12_needKey 16 [w0] [.int xs0] s = cV (cl_ tb_ct tb_mt B K_X12_need [.int xs0] s) (fun s_1 => some (.inl none, s_1)) xo := by
  refine Eq.trans (rn_sta (L' := [am_un]) (as := [.int xs0]) (rest := []) rfl rfl rfl rfl rfl (Nat.le_of_ble_eq_true rfl) (by decide) rfl) ?_
  refine Eq.trans (cW_V rfl rfl) ?_
  refine cV_c (fun s_1 => ?_) (xh_nil rfl)
  exact rn_retV rfl rfl
theorem in_X12_needRange {B : Nat} (x0 : Int32) (x1 : Int32) (s : am_S) : cl_ tb_ct tb_mt B K_X12_needRange [.int x0, .int x1] s = rn_ tb_ct tb_mt B mm_X12_needRange 0 [.int x0, .int x1] [] s := cl_in rfl rfl rfl rfl
theorem dc_X12_needRange_0 {B : Nat} (x0 : Int32) (x1 : Int32) (s : am_S) : rn_ tb_ct tb_mt B mm_X12_needRange 0 [.int x0, .int x1] [] s = if x1 < 0 then rn_ tb_ct tb_mt B mm_X12_needRange 24 [.int x0, .int x1] [] s else if (999 : Int32) < x1 then rn_ tb_ct tb_mt B mm_X12_needRange 24 [.int x0, .int x1] [] s else if x0 < 0 then rn_ tb_ct tb_mt B mm_X12_needRange 24 [.int x0, .int x1] [] s else if x1 < x0 then rn_ tb_ct tb_mt B mm_X12_needRange 24 [.int x0, .int x1] [] s else rn_ tb_ct tb_mt B mm_X12_needRange 25 [.int x0, .int x1] [.int (1 : Int32)] s := by
  refine Eq.trans (rn_go 1 (pc' := 1) (L' := [.int x0, .int x1]) (st' := [.int x1]) rfl) ?_
  refine Eq.trans (rn_iflt (L' := [.int x0, .int x1]) rfl rfl) ?_
  refine if_c ?_ ?_
  · rfl
  · refine Eq.trans (rn_go 2 (pc' := 8) (L' := [.int x0, .int x1]) (st' := [.int (999 : Int32), .int x1]) rfl) ?_
    refine Eq.trans (rn_icgt (L' := [.int x0, .int x1]) rfl rfl) ?_
    refine if_c ?_ ?_
    · rfl
    · refine Eq.trans (rn_go 1 (pc' := 12) (L' := [.int x0, .int x1]) (st' := [.int x0]) rfl) ?_
      refine Eq.trans (rn_iflt (L' := [.int x0, .int x1]) rfl rfl) ?_
      refine if_c ?_ ?_
      · rfl
      · refine Eq.trans (rn_go 2 (pc' := 17) (L' := [.int x0, .int x1]) (st' := [.int x1, .int x0]) rfl) ?_
        refine Eq.trans (rn_icgt (L' := [.int x0, .int x1]) rfl rfl) ?_
        refine if_c ?_ ?_
        · rfl
        · exact rn_go 2 (pc' := 25) (L' := [.int x0, .int x1]) (st' := [.int (1 : Int32)]) rfl
theorem dc_X12_needRange_24 {B : Nat} (w0 : Value) (w1 : Value) (s : am_S) : rn_ tb_ct tb_mt B mm_X12_needRange 24 [w0, w1] [] s = rn_ tb_ct tb_mt B mm_X12_needRange 25 [am_un, am_un] [.int (0 : Int32)] s := by
  exact rn_go 1 (pc' := 25) (L' := [am_un, am_un]) (st' := [.int (0 : Int32)]) rfl
theorem dc_X12_needRange_25 {B : Nat} (w0 : Value) (w1 : Value) (xs0 : Int32) (s : am_S) : rn_ tb_ct tb_mt B mm_X12_needRange 25 [w0, w1] [.int xs0] s = cV (cl_ tb_ct tb_mt B K_X12_need [.int xs0] s) (fun s_1 => some (.inl none, s_1)) xo := by
  refine Eq.trans (rn_sta (L' := [am_un, am_un]) (as := [.int xs0]) (rest := []) rfl rfl rfl rfl rfl (Nat.le_of_ble_eq_true rfl) (by decide) rfl) ?_
  refine Eq.trans (cW_V rfl rfl) ?_
  refine cV_c (fun s_1 => ?_) (xh_nil rfl)
  exact rn_retV rfl rfl
theorem in_X12_needStep {B : Nat} (x0 : Int32) (x1 : Int32) (x2 : Int32) (s : am_S) : cl_ tb_ct tb_mt B K_X12_needStep [.int x0, .int x1, .int x2] s = rn_ tb_ct tb_mt B mm_X12_needStep 0 [.int x0, .int x1, .int x2] [] s := cl_in rfl rfl rfl rfl
theorem dc_X12_needStep_0 {B : Nat} (x0 : Int32) (x1 : Int32) (x2 : Int32) (s : am_S) : rn_ tb_ct tb_mt B mm_X12_needStep 0 [.int x0, .int x1, .int x2] [] s = if x0 = 0 then rn_ tb_ct tb_mt B mm_X12_needStep 9 [.int x0, .int x1, .int x2] [] s else if x0 = (1 : Int32) then rn_ tb_ct tb_mt B mm_X12_needStep 9 [.int x0, .int x1, .int x2] [] s else rn_ tb_ct tb_mt B mm_X12_needStep 14 [.int x0, .int x1, .int x2] [.int (0 : Int32)] s := by
  refine Eq.trans (rn_go 1 (pc' := 1) (L' := [.int x0, .int x1, .int x2]) (st' := [.int x0]) rfl) ?_
  refine Eq.trans (rn_ifeq (L' := [.int x0, .int x1, .int x2]) rfl rfl) ?_
  refine if_c ?_ ?_
  · rfl
  · refine Eq.trans (rn_go 2 (pc' := 6) (L' := [.int x0, .int x1, .int x2]) (st' := [.int (1 : Int32), .int x0]) rfl) ?_
    refine Eq.trans (rn_icne (L' := [.int x0, .int x1, .int x2]) rfl rfl) ?_
    refine if_c ?_ ?_
    · rfl
    · exact rn_go 1 (pc' := 14) (L' := [.int x0, .int x1, .int x2]) (st' := [.int (0 : Int32)]) rfl
theorem dc_X12_needStep_9 {B : Nat} (x0 : Int32) (x1 : Int32) (x2 : Int32) (s : am_S) : rn_ tb_ct tb_mt B mm_X12_needStep 9 [.int x0, .int x1, .int x2] [] s = rn_ tb_ct tb_mt B mm_X12_needStep 14 [.int x0, .int x1, .int x2] [.int (1 : Int32)] s := by
  exact rn_go 2 (pc' := 14) (L' := [.int x0, .int x1, .int x2]) (st' := [.int (1 : Int32)]) rfl
theorem dc_X12_needStep_14 {B : Nat} (x0 : Int32) (x1 : Int32) (x2 : Int32) (xs0 : Int32) (s : am_S) : rn_ tb_ct tb_mt B mm_X12_needStep 14 [.int x0, .int x1, .int x2] [.int xs0] s = cV (cl_ tb_ct tb_mt B K_X12_need [.int xs0] s) (fun s_1 => cV (cl_ tb_ct tb_mt B K_X12_needKey [.int x1] s_1) (fun s_2 => if x0 = (1 : Int32) then rn_ tb_ct tb_mt B mm_X12_needStep 33 [.int x0, .int x1, .int x2] [] s_2 else cI (cl_ tb_ct tb_mt B K_X12_isValue [.int x2] s_2) (fun x_4 s_3 => if x_4 = 0 then rn_ tb_ct tb_mt B mm_X12_needStep 38 [.int x0, .int x1, .int x2] [.int (0 : Int32)] s_3 else rn_ tb_ct tb_mt B mm_X12_needStep 33 [.int x0, .int x1, .int x2] [] s_3) xo) xo) xo := by
  refine Eq.trans (rn_sta (L' := [.int x0, .int x1, .int x2]) (as := [.int xs0]) (rest := []) rfl rfl rfl rfl rfl (Nat.le_of_ble_eq_true rfl) (by decide) rfl) ?_
  refine Eq.trans (cW_V rfl rfl) ?_
  refine cV_c (fun s_1 => ?_) (xh_nil rfl)
  refine Eq.trans (rn_go 1 (pc' := 18) (L' := [.int x0, .int x1, .int x2]) (st' := [.int x1]) rfl) ?_
  refine Eq.trans (rn_sta (L' := [.int x0, .int x1, .int x2]) (as := [.int x1]) (rest := []) rfl rfl rfl rfl rfl (Nat.le_of_ble_eq_true rfl) (by decide) rfl) ?_
  refine Eq.trans (cW_V rfl rfl) ?_
  refine cV_c (fun s_2 => ?_) (xh_nil rfl)
  refine Eq.trans (rn_go 2 (pc' := 23) (L' := [.int x0, .int x1, .int x2]) (st' := [.int (1 : Int32), .int x0]) rfl) ?_
  refine Eq.trans (rn_iceq (L' := [.int x0, .int x1, .int x2]) rfl rfl) ?_
  refine if_c ?_ ?_
  · rfl
  · refine Eq.trans (rn_go 1 (pc' := 27) (L' := [.int x0, .int x1, .int x2]) (st' := [.int x2]) rfl) ?_
    refine Eq.trans (rn_sta (L' := [.int x0, .int x1, .int x2]) (as := [.int x2]) (rest := []) rfl rfl rfl rfl rfl (Nat.le_of_ble_eq_true rfl) (by decide) rfl) ?_
    refine Eq.trans (cW_I rfl rfl rfl) ?_
    refine cI_c (fun x_4 s_3 => ?_) (xh_nil rfl)
    refine Eq.trans (rn_ifeq (L' := [.int x0, .int x1, .int x2]) rfl rfl) ?_
    refine if_c ?_ ?_
    · exact rn_go 1 (pc' := 38) (L' := [.int x0, .int x1, .int x2]) (st' := [.int (0 : Int32)]) rfl
    · rfl
theorem dc_X12_needStep_33 {B : Nat} (w0 : Value) (w1 : Value) (w2 : Value) (s : am_S) : rn_ tb_ct tb_mt B mm_X12_needStep 33 [w0, w1, w2] [] s = rn_ tb_ct tb_mt B mm_X12_needStep 38 [am_un, am_un, am_un] [.int (1 : Int32)] s := by
  exact rn_go 2 (pc' := 38) (L' := [am_un, am_un, am_un]) (st' := [.int (1 : Int32)]) rfl
theorem dc_X12_needStep_38 {B : Nat} (w0 : Value) (w1 : Value) (w2 : Value) (xs0 : Int32) (s : am_S) : rn_ tb_ct tb_mt B mm_X12_needStep 38 [w0, w1, w2] [.int xs0] s = cV (cl_ tb_ct tb_mt B K_X12_need [.int xs0] s) (fun s_1 => some (.inl none, s_1)) xo := by
  refine Eq.trans (rn_sta (L' := [am_un, am_un, am_un]) (as := [.int xs0]) (rest := []) rfl rfl rfl rfl rfl (Nat.le_of_ble_eq_true rfl) (by decide) rfl) ?_
  refine Eq.trans (cW_V rfl rfl) ?_
  refine cV_c (fun s_1 => ?_) (xh_nil rfl)
  exact rn_retV rfl rfl
theorem in_X12_isValue {B : Nat} (x0 : Int32) (s : am_S) : cl_ tb_ct tb_mt B K_X12_isValue [.int x0] s = rn_ tb_ct tb_mt B mm_X12_isValue 0 [.int x0] [] s := cl_in rfl rfl rfl rfl
theorem dc_X12_isValue_0 {B : Nat} (x0 : Int32) (s : am_S) : rn_ tb_ct tb_mt B mm_X12_isValue 0 [.int x0] [] s = if x0 < (-(1000000 : Int32)) then some (.inl (some (.int (0 : Int32))), s) else if (1000000 : Int32) < x0 then some (.inl (some (.int (0 : Int32))), s) else some (.inl (some (.int (1 : Int32))), s) := by
  refine Eq.trans (rn_go 2 (pc' := 4) (L' := [.int x0]) (st' := [.int (-(1000000 : Int32)), .int x0]) rfl) ?_
  refine Eq.trans (rn_iclt (L' := [.int x0]) rfl rfl) ?_
  refine if_c ?_ ?_
  · refine Eq.trans (rn_go 1 (pc' := 19) (L' := [.int x0]) (st' := [.int (0 : Int32)]) rfl) ?_
    exact rn_retI rfl rfl rfl
  · refine Eq.trans (rn_go 2 (pc' := 11) (L' := [.int x0]) (st' := [.int (1000000 : Int32), .int x0]) rfl) ?_
    refine Eq.trans (rn_icgt (L' := [.int x0]) rfl rfl) ?_
    refine if_c ?_ ?_
    · refine Eq.trans (rn_go 1 (pc' := 19) (L' := [.int x0]) (st' := [.int (0 : Int32)]) rfl) ?_
      exact rn_retI rfl rfl rfl
    · refine Eq.trans (rn_go 2 (pc' := 19) (L' := [.int x0]) (st' := [.int (1 : Int32)]) rfl) ?_
      exact rn_retI rfl rfl rfl
theorem in_X12_isTicks {B : Nat} (x0 : Int32) (s : am_S) : cl_ tb_ct tb_mt B K_X12_isTicks [.int x0] s = rn_ tb_ct tb_mt B mm_X12_isTicks 0 [.int x0] [] s := cl_in rfl rfl rfl rfl
theorem dc_X12_isTicks_0 {B : Nat} (x0 : Int32) (s : am_S) : rn_ tb_ct tb_mt B mm_X12_isTicks 0 [.int x0] [] s = if x0 < (1 : Int32) then some (.inl (some (.int (0 : Int32))), s) else if (1000 : Int32) < x0 then some (.inl (some (.int (0 : Int32))), s) else some (.inl (some (.int (1 : Int32))), s) := by
  refine Eq.trans (rn_go 2 (pc' := 2) (L' := [.int x0]) (st' := [.int (1 : Int32), .int x0]) rfl) ?_
  refine Eq.trans (rn_iclt (L' := [.int x0]) rfl rfl) ?_
  refine if_c ?_ ?_
  · refine Eq.trans (rn_go 1 (pc' := 17) (L' := [.int x0]) (st' := [.int (0 : Int32)]) rfl) ?_
    exact rn_retI rfl rfl rfl
  · refine Eq.trans (rn_go 2 (pc' := 9) (L' := [.int x0]) (st' := [.int (1000 : Int32), .int x0]) rfl) ?_
    refine Eq.trans (rn_icgt (L' := [.int x0]) rfl rfl) ?_
    refine if_c ?_ ?_
    · refine Eq.trans (rn_go 1 (pc' := 17) (L' := [.int x0]) (st' := [.int (0 : Int32)]) rfl) ?_
      exact rn_retI rfl rfl rfl
    · refine Eq.trans (rn_go 2 (pc' := 17) (L' := [.int x0]) (st' := [.int (1 : Int32)]) rfl) ?_
      exact rn_retI rfl rfl rfl
theorem in_X12_needWatch {B : Nat} (a0 : Nat) (x1 : Int32) (s : am_S) : cl_ tb_ct tb_mt B K_X12_needWatch [.ref a0, .int x1] s = rn_ tb_ct tb_mt B mm_X12_needWatch 0 [.ref a0, .int x1, am_un] [] s := cl_in rfl rfl rfl rfl
theorem dc_X12_needWatch_0 {B : Nat} (a0 : Nat) (x1 : Int32) (s : am_S) : rn_ tb_ct tb_mt B mm_X12_needWatch 0 [.ref a0, .int x1, am_un] [] s = eA (gA tb_ct s a0 10 0) (none) (fun b_1 => eC (am_cls s b_1) 7 (cA (cl_ tb_ct tb_mt B K_X8_watchAt [.ref b_1, .int x1] s) (fun s_2 => xo 1 (am_bump s_2)) (fun b_3 s_2 => some (.inl (some (.ref b_3)), s_2)) xo)) := by
  refine Eq.trans (rn_go 1 (pc' := 1) (L' := [.ref a0, .int x1, am_un]) (st' := [.ref a0]) rfl) ?_
  refine Eq.trans (rn_gA (L' := [.ref a0, .int x1, am_un]) rfl rfl rfl rfl) ?_
  refine eA_c ?_ (fun b_1 => ?_)
  · refine Eq.trans (rn_go 1 (pc' := 5) (L' := [.ref a0, .int x1, am_un]) (st' := [.int x1, .null]) rfl) ?_
    exact rn_z rfl rfl
  · refine Eq.trans (rn_go 1 (pc' := 5) (L' := [.ref a0, .int x1, am_un]) (st' := [.int x1, .ref b_1]) rfl) ?_
    refine Eq.trans (rn_vir (L' := [.ref a0, .int x1, am_un]) (as := [.int x1]) (rest := []) rfl rfl rfl rfl rfl (Nat.le_of_ble_eq_true rfl) (by decide) (by decide)) ?_
    refine eC_c ?_
    refine Eq.trans (cW_A rfl rfl rfl) ?_
    refine cA_c (fun s_2 => ?_) (fun b_3 s_2 => ?_) (xh_nil rfl)
    · refine Eq.trans (rn_go 3 (pc' := 13) (L' := [.ref a0, .int x1, .null]) (st' := []) rfl) ?_
      exact rn_thr rfl rfl
    · refine Eq.trans (rn_go 4 (pc' := 22) (L' := [.ref a0, .int x1, .ref b_3]) (st' := [.ref b_3]) rfl) ?_
      exact rn_retA rfl rfl rfl rfl
theorem in_X12_perform {B : Nat} (a0 : Nat) (a1 : Nat) (a2 : Nat) (s : am_S) : cl_ tb_ct tb_mt B K_X12_perform [.ref a0, .ref a1, .ref a2] s = rn_ tb_ct tb_mt B mm_X12_perform 0 [.ref a0, .ref a1, .ref a2, am_un, am_un, am_un] [] s := cl_in rfl rfl rfl rfl
theorem dc_X12_perform_0 {B : Nat} (a0 : Nat) (a1 : Nat) (a2 : Nat) (s : am_S) : rn_ tb_ct tb_mt B mm_X12_perform 0 [.ref a0, .ref a1, .ref a2, am_un, am_un, am_un] [] s = eA (gA tb_ct s a0 10 3) (none) (fun b_1 => eC (am_cls s b_1) 5 (cI (cl_ tb_ct tb_mt B K_X6_numberAt [.ref b_1, .int (0 : Int32)] s) (fun x_3 s_2 => eA (gA tb_ct s_2 a0 10 3) (none) (fun b_4 => eC (am_cls s_2 b_4) 5 (cI (cl_ tb_ct tb_mt B K_X6_numberAt [.ref b_4, .int (1 : Int32)] s_2) (fun x_6 s_5 => eA (gA tb_ct s_5 a0 10 3) (none) (fun b_7 => eC (am_cls s_5 b_7) 5 (cI (cl_ tb_ct tb_mt B K_X6_numberAt [.ref b_7, .int (2 : Int32)] s_5) (fun x_9 s_8 => eK (stR s_8 2) (fun b_10 => eC (am_cls s_8 a1) 14 (cI (cl_ tb_ct tb_mt B K_Jx29ce0_ordinal_8abf5 [.ref a1] s_8) (fun x_12 s_11 => eI (aI s_11 b_10 x_12) (fun x_13 => sw x_13.toInt (1) [eC (am_cls s_11 a2) 7 (cI (cl_ tb_ct tb_mt B K_X8_putKey [.ref a2, .int x_3, .int x_6, .int x_9] s_11) (fun x_15 s_14 => some (.inl (some (.int x_15)), s_14)) xo), eA (gA tb_ct s_11 a0 10 3) (none) (fun b_16 => eI (gI tb_ct s_11 b_16 5 4) (fun x_17 => if x_17 ≤ (1 : Int32) then rn_ tb_ct tb_mt B mm_X12_perform 117 [.ref a0, .ref a1, .ref a2, .int x_3, .int x_6, .int x_9] [.int x_3, .int x_3, .ref a2] s_11 else rn_ tb_ct tb_mt B mm_X12_perform 117 [.ref a0, .ref a1, .ref a2, .int x_3, .int x_6, .int x_9] [.int x_6, .int x_3, .ref a2] s_11)), eC (am_cls s_11 a2) 7 (cI (cl_ tb_ct tb_mt B K_X8_addLease [.ref a2, .int x_3] s_11) (fun x_19 s_18 => some (.inl (some (.int x_19)), s_18)) xo), eC (am_cls s_11 a2) 7 (cI (cl_ tb_ct tb_mt B K_X8_renew [.ref a2, .int x_3] s_11) (fun x_21 s_20 => some (.inl (some (.int x_21)), s_20)) xo), eC (am_cls s_11 a2) 7 (cI (cl_ tb_ct tb_mt B K_X8_endLease [.ref a2, .int x_3] s_11) (fun x_23 s_22 => some (.inl (some (.int x_23)), s_22)) xo), eC (am_cls s_11 a2) 7 (cI (cl_ tb_ct tb_mt B K_X8_addWatch [.ref a2, .int x_3, .int x_6, .int x_9, .int (0 : Int32)] s_11) (fun x_25 s_24 => some (.inl (some (.int x_25)), s_24)) xo), eC (am_cls s_11 a2) 7 (cI (cl_ tb_ct tb_mt B K_X8_compactFor [.ref a2, .int x_3] s_11) (fun x_27 s_26 => some (.inl (some (.int x_27)), s_26)) xo), eA (gA tb_ct s_11 a0 10 5) (eC (am_cls s_11 a2) 7 (cI (cl_ tb_ct tb_mt B K_X8_revertTo [.ref a2, .int x_3, .null] s_11) (fun x_30 s_29 => some (.inl (some (.int x_30)), s_29)) xo)) (fun b_28 => eC (am_cls s_11 a2) 7 (cI (cl_ tb_ct tb_mt B K_X8_revertTo [.ref a2, .int x_3, .ref b_28] s_11) (fun x_32 s_31 => some (.inl (some (.int x_32)), s_31)) xo)), eC (am_cls s_11 a2) 7 (cI (cl_ tb_ct tb_mt B K_X8_letPass [.ref a2, .int x_3] s_11) (fun x_34 s_33 => some (.inl (some (.int x_34)), s_33)) xo)] (eC (am_cls s_11 a2) 7 (cI (cl_ tb_ct tb_mt B K_X8_attachKey [.ref a2, .int x_3, .int x_6] s_11) (fun x_36 s_35 => some (.inl (some (.int x_36)), s_35)) xo)))) xo))) xo))) xo))) xo)) := by
  refine Eq.trans (rn_go 1 (pc' := 1) (L' := [.ref a0, .ref a1, .ref a2, am_un, am_un, am_un]) (st' := [.ref a0]) rfl) ?_
  refine Eq.trans (rn_gA (L' := [.ref a0, .ref a1, .ref a2, am_un, am_un, am_un]) rfl rfl rfl rfl) ?_
  refine eA_c ?_ (fun b_1 => ?_)
  · refine Eq.trans (rn_go 1 (pc' := 5) (L' := [.ref a0, .ref a1, .ref a2, am_un, am_un, am_un]) (st' := [.int (0 : Int32), .null]) rfl) ?_
    exact rn_z rfl rfl
  · refine Eq.trans (rn_go 1 (pc' := 5) (L' := [.ref a0, .ref a1, .ref a2, am_un, am_un, am_un]) (st' := [.int (0 : Int32), .ref b_1]) rfl) ?_
    refine Eq.trans (rn_vir (L' := [.ref a0, .ref a1, .ref a2, am_un, am_un, am_un]) (as := [.int (0 : Int32)]) (rest := []) rfl rfl rfl rfl rfl (Nat.le_of_ble_eq_true rfl) (by decide) (by decide)) ?_
    refine eC_c ?_
    refine Eq.trans (cW_I rfl rfl rfl) ?_
    refine cI_c (fun x_3 s_2 => ?_) (xh_nil rfl)
    refine Eq.trans (rn_go 2 (pc' := 10) (L' := [.ref a0, .ref a1, .ref a2, .int x_3, am_un, am_un]) (st' := [.ref a0]) rfl) ?_
    refine Eq.trans (rn_gA (L' := [.ref a0, .ref a1, .ref a2, .int x_3, am_un, am_un]) rfl rfl rfl rfl) ?_
    refine eA_c ?_ (fun b_4 => ?_)
    · refine Eq.trans (rn_go 1 (pc' := 14) (L' := [.ref a0, .ref a1, .ref a2, .int x_3, am_un, am_un]) (st' := [.int (1 : Int32), .null]) rfl) ?_
      exact rn_z rfl rfl
    · refine Eq.trans (rn_go 1 (pc' := 14) (L' := [.ref a0, .ref a1, .ref a2, .int x_3, am_un, am_un]) (st' := [.int (1 : Int32), .ref b_4]) rfl) ?_
      refine Eq.trans (rn_vir (L' := [.ref a0, .ref a1, .ref a2, .int x_3, am_un, am_un]) (as := [.int (1 : Int32)]) (rest := []) rfl rfl rfl rfl rfl (Nat.le_of_ble_eq_true rfl) (by decide) (by decide)) ?_
      refine eC_c ?_
      refine Eq.trans (cW_I rfl rfl rfl) ?_
      refine cI_c (fun x_6 s_5 => ?_) (xh_nil rfl)
      refine Eq.trans (rn_go 2 (pc' := 20) (L' := [.ref a0, .ref a1, .ref a2, .int x_3, .int x_6, am_un]) (st' := [.ref a0]) rfl) ?_
      refine Eq.trans (rn_gA (L' := [.ref a0, .ref a1, .ref a2, .int x_3, .int x_6, am_un]) rfl rfl rfl rfl) ?_
      refine eA_c ?_ (fun b_7 => ?_)
      · refine Eq.trans (rn_go 1 (pc' := 24) (L' := [.ref a0, .ref a1, .ref a2, .int x_3, .int x_6, am_un]) (st' := [.int (2 : Int32), .null]) rfl) ?_
        exact rn_z rfl rfl
      · refine Eq.trans (rn_go 1 (pc' := 24) (L' := [.ref a0, .ref a1, .ref a2, .int x_3, .int x_6, am_un]) (st' := [.int (2 : Int32), .ref b_7]) rfl) ?_
        refine Eq.trans (rn_vir (L' := [.ref a0, .ref a1, .ref a2, .int x_3, .int x_6, am_un]) (as := [.int (2 : Int32)]) (rest := []) rfl rfl rfl rfl rfl (Nat.le_of_ble_eq_true rfl) (by decide) (by decide)) ?_
        refine eC_c ?_
        refine Eq.trans (cW_I rfl rfl rfl) ?_
        refine cI_c (fun x_9 s_8 => ?_) (xh_nil rfl)
        refine Eq.trans (rn_go 1 (pc' := 29) (L' := [.ref a0, .ref a1, .ref a2, .int x_3, .int x_6, .int x_9]) (st' := []) rfl) ?_
        refine Eq.trans (rn_gsR (L' := [.ref a0, .ref a1, .ref a2, .int x_3, .int x_6, .int x_9]) rfl rfl) ?_
        refine eK_c (fun b_10 => ?_)
        refine Eq.trans (rn_go 1 (pc' := 33) (L' := [.ref a0, .ref a1, .ref a2, .int x_3, .int x_6, .int x_9]) (st' := [.ref a1, .ref b_10]) rfl) ?_
        refine Eq.trans (rn_vir (L' := [.ref a0, .ref a1, .ref a2, .int x_3, .int x_6, .int x_9]) (as := []) (rest := [.ref b_10]) rfl rfl rfl rfl rfl (Nat.le_of_ble_eq_true rfl) (by decide) (by decide)) ?_
        refine eC_c ?_
        refine Eq.trans (cW_I rfl rfl rfl) ?_
        refine cI_c (fun x_12 s_11 => ?_) (xh_nil rfl)
        refine Eq.trans (rn_aI (L' := [.ref a0, .ref a1, .ref a2, .int x_3, .int x_6, .int x_9]) rfl rfl) ?_
        refine eI_c (fun x_13 => ?_)
        refine Eq.trans (rn_tsw (L' := [.ref a0, .ref a1, .ref a2, .int x_3, .int x_6, .int x_9]) (ts := [88, 98, 121, 127, 133, 139, 150, 156, 166]) (td := 172) rfl rfl (by decide) rfl rfl) ?_
        refine sw_c ?_ ?_
        · refine cons_c ?_ ?_
          · refine Eq.trans (rn_go 4 (pc' := 94) (L' := [.ref a0, .ref a1, .ref a2, .int x_3, .int x_6, .int x_9]) (st' := [.int x_9, .int x_6, .int x_3, .ref a2]) rfl) ?_
            refine Eq.trans (rn_vir (L' := [.ref a0, .ref a1, .ref a2, .int x_3, .int x_6, .int x_9]) (as := [.int x_3, .int x_6, .int x_9]) (rest := []) rfl rfl rfl rfl rfl (Nat.le_of_ble_eq_true rfl) (by decide) (by decide)) ?_
            refine eC_c ?_
            refine Eq.trans (cW_I rfl rfl rfl) ?_
            refine cI_c (fun x_15 s_14 => ?_) (xh_nil rfl)
            exact rn_retI rfl rfl rfl
          refine cons_c ?_ ?_
          · refine Eq.trans (rn_go 3 (pc' := 101) (L' := [.ref a0, .ref a1, .ref a2, .int x_3, .int x_6, .int x_9]) (st' := [.ref a0, .int x_3, .ref a2]) rfl) ?_
            refine Eq.trans (rn_gA (L' := [.ref a0, .ref a1, .ref a2, .int x_3, .int x_6, .int x_9]) rfl rfl rfl rfl) ?_
            refine eA_c ?_ (fun b_16 => ?_)
            · exact rn_z rfl rfl
            · refine Eq.trans (rn_gI (L' := [.ref a0, .ref a1, .ref a2, .int x_3, .int x_6, .int x_9]) rfl rfl rfl rfl) ?_
              refine eI_c (fun x_17 => ?_)
              refine Eq.trans (rn_go 1 (pc' := 108) (L' := [.ref a0, .ref a1, .ref a2, .int x_3, .int x_6, .int x_9]) (st' := [.int (1 : Int32), .int x_17, .int x_3, .ref a2]) rfl) ?_
              refine Eq.trans (rn_icle (L' := [.ref a0, .ref a1, .ref a2, .int x_3, .int x_6, .int x_9]) rfl rfl) ?_
              refine if_c ?_ ?_
              · exact rn_go 1 (pc' := 117) (L' := [.ref a0, .ref a1, .ref a2, .int x_3, .int x_6, .int x_9]) (st' := [.int x_3, .int x_3, .ref a2]) rfl
              · exact rn_go 2 (pc' := 117) (L' := [.ref a0, .ref a1, .ref a2, .int x_3, .int x_6, .int x_9]) (st' := [.int x_6, .int x_3, .ref a2]) rfl
          refine cons_c ?_ ?_
          · refine Eq.trans (rn_go 2 (pc' := 123) (L' := [.ref a0, .ref a1, .ref a2, .int x_3, .int x_6, .int x_9]) (st' := [.int x_3, .ref a2]) rfl) ?_
            refine Eq.trans (rn_vir (L' := [.ref a0, .ref a1, .ref a2, .int x_3, .int x_6, .int x_9]) (as := [.int x_3]) (rest := []) rfl rfl rfl rfl rfl (Nat.le_of_ble_eq_true rfl) (by decide) (by decide)) ?_
            refine eC_c ?_
            refine Eq.trans (cW_I rfl rfl rfl) ?_
            refine cI_c (fun x_19 s_18 => ?_) (xh_nil rfl)
            exact rn_retI rfl rfl rfl
          refine cons_c ?_ ?_
          · refine Eq.trans (rn_go 2 (pc' := 129) (L' := [.ref a0, .ref a1, .ref a2, .int x_3, .int x_6, .int x_9]) (st' := [.int x_3, .ref a2]) rfl) ?_
            refine Eq.trans (rn_vir (L' := [.ref a0, .ref a1, .ref a2, .int x_3, .int x_6, .int x_9]) (as := [.int x_3]) (rest := []) rfl rfl rfl rfl rfl (Nat.le_of_ble_eq_true rfl) (by decide) (by decide)) ?_
            refine eC_c ?_
            refine Eq.trans (cW_I rfl rfl rfl) ?_
            refine cI_c (fun x_21 s_20 => ?_) (xh_nil rfl)
            exact rn_retI rfl rfl rfl
          refine cons_c ?_ ?_
          · refine Eq.trans (rn_go 2 (pc' := 135) (L' := [.ref a0, .ref a1, .ref a2, .int x_3, .int x_6, .int x_9]) (st' := [.int x_3, .ref a2]) rfl) ?_
            refine Eq.trans (rn_vir (L' := [.ref a0, .ref a1, .ref a2, .int x_3, .int x_6, .int x_9]) (as := [.int x_3]) (rest := []) rfl rfl rfl rfl rfl (Nat.le_of_ble_eq_true rfl) (by decide) (by decide)) ?_
            refine eC_c ?_
            refine Eq.trans (cW_I rfl rfl rfl) ?_
            refine cI_c (fun x_23 s_22 => ?_) (xh_nil rfl)
            exact rn_retI rfl rfl rfl
          refine cons_c ?_ ?_
          · refine Eq.trans (rn_go 5 (pc' := 146) (L' := [.ref a0, .ref a1, .ref a2, .int x_3, .int x_6, .int x_9]) (st' := [.int (0 : Int32), .int x_9, .int x_6, .int x_3, .ref a2]) rfl) ?_
            refine Eq.trans (rn_vir (L' := [.ref a0, .ref a1, .ref a2, .int x_3, .int x_6, .int x_9]) (as := [.int x_3, .int x_6, .int x_9, .int (0 : Int32)]) (rest := []) rfl rfl rfl rfl rfl (Nat.le_of_ble_eq_true rfl) (by decide) (by decide)) ?_
            refine eC_c ?_
            refine Eq.trans (cW_I rfl rfl rfl) ?_
            refine cI_c (fun x_25 s_24 => ?_) (xh_nil rfl)
            exact rn_retI rfl rfl rfl
          refine cons_c ?_ ?_
          · refine Eq.trans (rn_go 2 (pc' := 152) (L' := [.ref a0, .ref a1, .ref a2, .int x_3, .int x_6, .int x_9]) (st' := [.int x_3, .ref a2]) rfl) ?_
            refine Eq.trans (rn_vir (L' := [.ref a0, .ref a1, .ref a2, .int x_3, .int x_6, .int x_9]) (as := [.int x_3]) (rest := []) rfl rfl rfl rfl rfl (Nat.le_of_ble_eq_true rfl) (by decide) (by decide)) ?_
            refine eC_c ?_
            refine Eq.trans (cW_I rfl rfl rfl) ?_
            refine cI_c (fun x_27 s_26 => ?_) (xh_nil rfl)
            exact rn_retI rfl rfl rfl
          refine cons_c ?_ ?_
          · refine Eq.trans (rn_go 3 (pc' := 159) (L' := [.ref a0, .ref a1, .ref a2, .int x_3, .int x_6, .int x_9]) (st' := [.ref a0, .int x_3, .ref a2]) rfl) ?_
            refine Eq.trans (rn_gA (L' := [.ref a0, .ref a1, .ref a2, .int x_3, .int x_6, .int x_9]) rfl rfl rfl rfl) ?_
            refine eA_c ?_ (fun b_28 => ?_)
            · refine Eq.trans (rn_vir (L' := [.ref a0, .ref a1, .ref a2, .int x_3, .int x_6, .int x_9]) (as := [.int x_3, .null]) (rest := []) rfl rfl rfl rfl rfl (Nat.le_of_ble_eq_true rfl) (by decide) (by decide)) ?_
              refine eC_c ?_
              refine Eq.trans (cW_I rfl rfl rfl) ?_
              refine cI_c (fun x_30 s_29 => ?_) (xh_nil rfl)
              exact rn_retI rfl rfl rfl
            · refine Eq.trans (rn_vir (L' := [.ref a0, .ref a1, .ref a2, .int x_3, .int x_6, .int x_9]) (as := [.int x_3, .ref b_28]) (rest := []) rfl rfl rfl rfl rfl (Nat.le_of_ble_eq_true rfl) (by decide) (by decide)) ?_
              refine eC_c ?_
              refine Eq.trans (cW_I rfl rfl rfl) ?_
              refine cI_c (fun x_32 s_31 => ?_) (xh_nil rfl)
              exact rn_retI rfl rfl rfl
          refine cons_c ?_ ?_
          · refine Eq.trans (rn_go 2 (pc' := 168) (L' := [.ref a0, .ref a1, .ref a2, .int x_3, .int x_6, .int x_9]) (st' := [.int x_3, .ref a2]) rfl) ?_
            refine Eq.trans (rn_vir (L' := [.ref a0, .ref a1, .ref a2, .int x_3, .int x_6, .int x_9]) (as := [.int x_3]) (rest := []) rfl rfl rfl rfl rfl (Nat.le_of_ble_eq_true rfl) (by decide) (by decide)) ?_
            refine eC_c ?_
            refine Eq.trans (cW_I rfl rfl rfl) ?_
            refine cI_c (fun x_34 s_33 => ?_) (xh_nil rfl)
            exact rn_retI rfl rfl rfl
          rfl
        · refine Eq.trans (rn_go 3 (pc' := 176) (L' := [.ref a0, .ref a1, .ref a2, .int x_3, .int x_6, .int x_9]) (st' := [.int x_6, .int x_3, .ref a2]) rfl) ?_
          refine Eq.trans (rn_vir (L' := [.ref a0, .ref a1, .ref a2, .int x_3, .int x_6, .int x_9]) (as := [.int x_3, .int x_6]) (rest := []) rfl rfl rfl rfl rfl (Nat.le_of_ble_eq_true rfl) (by decide) (by decide)) ?_
          refine eC_c ?_
          refine Eq.trans (cW_I rfl rfl rfl) ?_
          refine cI_c (fun x_36 s_35 => ?_) (xh_nil rfl)
          exact rn_retI rfl rfl rfl
theorem dc_X12_perform_117 {B : Nat} (w0 : Value) (w1 : Value) (w2 : Value) (w3 : Value) (w4 : Value) (w5 : Value) (xs0 : Int32) (xs1 : Int32) (as2 : Nat) (s : am_S) : rn_ tb_ct tb_mt B mm_X12_perform 117 [w0, w1, w2, w3, w4, w5] [.int xs0, .int xs1, .ref as2] s = eC (am_cls s as2) 7 (cI (cl_ tb_ct tb_mt B K_X8_deleteRange [.ref as2, .int xs1, .int xs0] s) (fun x_2 s_1 => some (.inl (some (.int x_2)), s_1)) xo) := by
  refine Eq.trans (rn_vir (L' := [am_un, am_un, am_un, am_un, am_un, am_un]) (as := [.int xs1, .int xs0]) (rest := []) rfl rfl rfl rfl rfl (Nat.le_of_ble_eq_true rfl) (by decide) (by decide)) ?_
  refine eC_c ?_
  refine Eq.trans (cW_I rfl rfl rfl) ?_
  refine cI_c (fun x_2 s_1 => ?_) (xh_nil rfl)
  exact rn_retI rfl rfl rfl
