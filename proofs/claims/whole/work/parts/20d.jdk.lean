theorem in_J4_init_da8c8 {B : Nat} (a0 : Nat) (s : am_S) : cl_ tb_ct tb_mt B K_J4_init_da8c8 [.ref a0] s = rn_ tb_ct tb_mt B mm_J4_init_da8c8 0 [.ref a0] [] s := cl_in rfl rfl rfl rfl
theorem dc_J4_init_da8c8_0 {B : Nat} (a0 : Nat) (s : am_S) : rn_ tb_ct tb_mt B mm_J4_init_da8c8 0 [.ref a0] [] s = eC (am_cls s a0) 12 (cV (cl_ tb_ct tb_mt B K_J5_init_d00df [.ref a0, .int (16 : Int32)] s) (fun s_1 => some (.inl none, s_1)) xo) := by
  refine Eq.trans (rn_go 2 (pc' := 3) (L' := [.ref a0]) (st' := [.int (16 : Int32), .ref a0]) rfl) ?_
  refine Eq.trans (rn_spe (L' := [.ref a0]) (as := [.int (16 : Int32)]) (rest := []) rfl rfl (by decide) rfl rfl rfl (Nat.le_of_ble_eq_true rfl) (by decide) (by decide)) ?_
  refine eC_c ?_
  refine Eq.trans (cW_V rfl rfl) ?_
  refine cV_c (fun s_1 => ?_) (xh_nil rfl)
  exact rn_retV rfl rfl
theorem in_J4_append_15ec4 {B : Nat} (a0 : Nat) (a1 : Nat) (s : am_S) : cl_ tb_ct tb_mt B K_J4_append_15ec4 [.ref a0, .ref a1] s = rn_ tb_ct tb_mt B mm_J4_append_15ec4 0 [.ref a0, .ref a1] [] s := cl_in rfl rfl rfl rfl
theorem dc_J4_append_15ec4_0 {B : Nat} (a0 : Nat) (a1 : Nat) (s : am_S) : rn_ tb_ct tb_mt B mm_J4_append_15ec4 0 [.ref a0, .ref a1] [] s = eC (am_cls s a0) 12 (cA (cl_ tb_ct tb_mt B K_J5_append_cf1ce [.ref a0, .ref a1] s) (fun s_1 => some (.inl (some (.ref a0)), s_1)) (fun b_2 s_1 => some (.inl (some (.ref a0)), s_1)) xo) := by
  refine Eq.trans (rn_go 2 (pc' := 2) (L' := [.ref a0, .ref a1]) (st' := [.ref a1, .ref a0]) rfl) ?_
  refine Eq.trans (rn_spe (L' := [.ref a0, .ref a1]) (as := [.ref a1]) (rest := []) rfl rfl (by decide) rfl rfl rfl (Nat.le_of_ble_eq_true rfl) (by decide) (by decide)) ?_
  refine eC_c ?_
  refine Eq.trans (cW_A rfl rfl rfl) ?_
  refine cA_c (fun s_1 => ?_) (fun b_2 s_1 => ?_) (xh_nil rfl)
  · refine Eq.trans (rn_go 2 (pc' := 7) (L' := [.ref a0, .ref a1]) (st' := [.ref a0]) rfl) ?_
    exact rn_retA rfl rfl rfl rfl
  · refine Eq.trans (rn_go 2 (pc' := 7) (L' := [.ref a0, .ref a1]) (st' := [.ref a0]) rfl) ?_
    exact rn_retA rfl rfl rfl rfl
theorem in_J4_append_cf468 {B : Nat} (a0 : Nat) (x1 : Int32) (s : am_S) : cl_ tb_ct tb_mt B K_J4_append_cf468 [.ref a0, .int x1] s = rn_ tb_ct tb_mt B mm_J4_append_cf468 0 [.ref a0, .int x1] [] s := cl_in rfl rfl rfl rfl
theorem dc_J4_append_cf468_0 {B : Nat} (a0 : Nat) (x1 : Int32) (s : am_S) : rn_ tb_ct tb_mt B mm_J4_append_cf468 0 [.ref a0, .int x1] [] s = eC (am_cls s a0) 12 (cA (cl_ tb_ct tb_mt B K_J5_append_3fe6f [.ref a0, .int x1] s) (fun s_1 => some (.inl (some (.ref a0)), s_1)) (fun b_2 s_1 => some (.inl (some (.ref a0)), s_1)) xo) := by
  refine Eq.trans (rn_go 2 (pc' := 2) (L' := [.ref a0, .int x1]) (st' := [.int x1, .ref a0]) rfl) ?_
  refine Eq.trans (rn_spe (L' := [.ref a0, .int x1]) (as := [.int x1]) (rest := []) rfl rfl (by decide) rfl rfl rfl (Nat.le_of_ble_eq_true rfl) (by decide) (by decide)) ?_
  refine eC_c ?_
  refine Eq.trans (cW_A rfl rfl rfl) ?_
  refine cA_c (fun s_1 => ?_) (fun b_2 s_1 => ?_) (xh_nil rfl)
  · refine Eq.trans (rn_go 2 (pc' := 7) (L' := [.ref a0, .int x1]) (st' := [.ref a0]) rfl) ?_
    exact rn_retA rfl rfl rfl rfl
  · refine Eq.trans (rn_go 2 (pc' := 7) (L' := [.ref a0, .int x1]) (st' := [.ref a0]) rfl) ?_
    exact rn_retA rfl rfl rfl rfl
theorem in_J4_append_bf812 {B : Nat} (a0 : Nat) (x1 : Int32) (s : am_S) : cl_ tb_ct tb_mt B K_J4_append_bf812 [.ref a0, .int x1] s = rn_ tb_ct tb_mt B mm_J4_append_bf812 0 [.ref a0, .int x1] [] s := cl_in rfl rfl rfl rfl
theorem dc_J4_append_bf812_0 {B : Nat} (a0 : Nat) (x1 : Int32) (s : am_S) : rn_ tb_ct tb_mt B mm_J4_append_bf812 0 [.ref a0, .int x1] [] s = eC (am_cls s a0) 12 (cA (cl_ tb_ct tb_mt B K_J5_append_c97b9 [.ref a0, .int x1] s) (fun s_1 => some (.inl (some (.ref a0)), s_1)) (fun b_2 s_1 => some (.inl (some (.ref a0)), s_1)) xo) := by
  refine Eq.trans (rn_go 2 (pc' := 2) (L' := [.ref a0, .int x1]) (st' := [.int x1, .ref a0]) rfl) ?_
  refine Eq.trans (rn_spe (L' := [.ref a0, .int x1]) (as := [.int x1]) (rest := []) rfl rfl (by decide) rfl rfl rfl (Nat.le_of_ble_eq_true rfl) (by decide) (by decide)) ?_
  refine eC_c ?_
  refine Eq.trans (cW_A rfl rfl rfl) ?_
  refine cA_c (fun s_1 => ?_) (fun b_2 s_1 => ?_) (xh_nil rfl)
  · refine Eq.trans (rn_go 2 (pc' := 7) (L' := [.ref a0, .int x1]) (st' := [.ref a0]) rfl) ?_
    exact rn_retA rfl rfl rfl rfl
  · refine Eq.trans (rn_go 2 (pc' := 7) (L' := [.ref a0, .int x1]) (st' := [.ref a0]) rfl) ?_
    exact rn_retA rfl rfl rfl rfl
theorem in_J4_charAt_5068e {B : Nat} (a0 : Nat) (x1 : Int32) (s : am_S) : cl_ tb_ct tb_mt B K_J4_charAt_5068e [.ref a0, .int x1] s = rn_ tb_ct tb_mt B mm_J4_charAt_5068e 0 [.ref a0, .int x1] [] s := cl_in rfl rfl rfl rfl
theorem dc_J4_charAt_5068e_0 {B : Nat} (a0 : Nat) (x1 : Int32) (s : am_S) : rn_ tb_ct tb_mt B mm_J4_charAt_5068e 0 [.ref a0, .int x1] [] s = eC (am_cls s a0) 12 (cI (cl_ tb_ct tb_mt B K_J5_charAt_5068e [.ref a0, .int x1] s) (fun x_2 s_1 => rtI .char x_2 s_1) xo) := by
  refine Eq.trans (rn_go 2 (pc' := 2) (L' := [.ref a0, .int x1]) (st' := [.int x1, .ref a0]) rfl) ?_
  refine Eq.trans (rn_spe (L' := [.ref a0, .int x1]) (as := [.int x1]) (rest := []) rfl rfl (by decide) rfl rfl rfl (Nat.le_of_ble_eq_true rfl) (by decide) (by decide)) ?_
  refine eC_c ?_
  refine Eq.trans (cW_I rfl rfl rfl) ?_
  refine cI_c (fun x_2 s_1 => ?_) (xh_nil rfl)
  exact rn_rtI rfl rfl
theorem in_J4_setLength_d00df {B : Nat} (a0 : Nat) (x1 : Int32) (s : am_S) : cl_ tb_ct tb_mt B K_J4_setLength_d00df [.ref a0, .int x1] s = rn_ tb_ct tb_mt B mm_J4_setLength_d00df 0 [.ref a0, .int x1] [] s := cl_in rfl rfl rfl rfl
theorem dc_J4_setLength_d00df_0 {B : Nat} (a0 : Nat) (x1 : Int32) (s : am_S) : rn_ tb_ct tb_mt B mm_J4_setLength_d00df 0 [.ref a0, .int x1] [] s = eC (am_cls s a0) 12 (cV (cl_ tb_ct tb_mt B K_J5_setLength_d00df [.ref a0, .int x1] s) (fun s_1 => some (.inl none, s_1)) xo) := by
  refine Eq.trans (rn_go 2 (pc' := 2) (L' := [.ref a0, .int x1]) (st' := [.int x1, .ref a0]) rfl) ?_
  refine Eq.trans (rn_spe (L' := [.ref a0, .int x1]) (as := [.int x1]) (rest := []) rfl rfl (by decide) rfl rfl rfl (Nat.le_of_ble_eq_true rfl) (by decide) (by decide)) ?_
  refine eC_c ?_
  refine Eq.trans (cW_V rfl rfl) ?_
  refine cV_c (fun s_1 => ?_) (xh_nil rfl)
  exact rn_retV rfl rfl
theorem in_J4_length_8abf5 {B : Nat} (a0 : Nat) (s : am_S) : cl_ tb_ct tb_mt B K_J4_length_8abf5 [.ref a0] s = rn_ tb_ct tb_mt B mm_J4_length_8abf5 0 [.ref a0] [] s := cl_in rfl rfl rfl rfl
theorem dc_J4_length_8abf5_0 {B : Nat} (a0 : Nat) (s : am_S) : rn_ tb_ct tb_mt B mm_J4_length_8abf5 0 [.ref a0] [] s = eC (am_cls s a0) 12 (cI (cl_ tb_ct tb_mt B K_J5_length_8abf5 [.ref a0] s) (fun x_2 s_1 => some (.inl (some (.int x_2)), s_1)) xo) := by
  refine Eq.trans (rn_go 1 (pc' := 1) (L' := [.ref a0]) (st' := [.ref a0]) rfl) ?_
  refine Eq.trans (rn_spe (L' := [.ref a0]) (as := []) (rest := []) rfl rfl (by decide) rfl rfl rfl (Nat.le_of_ble_eq_true rfl) (by decide) (by decide)) ?_
  refine eC_c ?_
  refine Eq.trans (cW_I rfl rfl rfl) ?_
  refine cI_c (fun x_2 s_1 => ?_) (xh_nil rfl)
  exact rn_retI rfl rfl rfl
theorem in_J5_init_d00df {B : Nat} (a0 : Nat) (x1 : Int32) (s : am_S) : cl_ tb_ct tb_mt B K_J5_init_d00df [.ref a0, .int x1] s = rn_ tb_ct tb_mt B mm_J5_init_d00df 0 [.ref a0, .int x1] [] s := cl_in rfl rfl rfl rfl
theorem dc_J5_init_d00df_0 {B : Nat} (a0 : Nat) (x1 : Int32) (s : am_S) : rn_ tb_ct tb_mt B mm_J5_init_d00df 0 [.ref a0, .int x1] [] s = eI (stI s 3) (fun x_1 => if x_1 = 0 then none else nwI .byte s x1 (fun b_2 s_3 => eS (am_put tb_ct mm_J5_init_d00df B s_3 (.ref b_2) a0 12 0) (fun s_4 => eS (am_put tb_ct mm_J5_init_d00df B s_4 (.int (0 : Int32)) a0 12 1) (fun s_5 => some (.inl none, s_5))))) := by
  refine Eq.trans (rn_go 1 (pc' := 1) (L' := [.ref a0, .int x1]) (st' := [.ref a0]) rfl) ?_
  refine Eq.trans (rn_obj (L' := [.ref a0, .int x1]) rfl rfl (Nat.le_of_ble_eq_true rfl)) ?_
  refine Eq.trans (rn_gsI (L' := [.ref a0, .int x1]) rfl rfl) ?_
  refine eI_c (fun x_1 => ?_)
  refine Eq.trans (rn_ifeq (L' := [.ref a0, .int x1]) rfl rfl) ?_
  refine if_c ?_ ?_
  · refine Eq.trans (rn_go 2 (pc' := 27) (L' := [.ref a0, .int x1]) (st' := [.int x1, .ref a0]) rfl) ?_
    exact rn_nolk rfl
  · refine Eq.trans (rn_go 2 (pc' := 12) (L' := [.ref a0, .int x1]) (st' := [.int x1, .ref a0]) rfl) ?_
    refine Eq.trans (rn_nwI (L' := [.ref a0, .int x1]) rfl rfl) ?_
    refine nwI_c (fun b_2 s_3 => ?_)
    refine Eq.trans (rn_pF (L' := [.ref a0, .int x1]) rfl rfl) ?_
    refine eS_c (fun s_4 => ?_)
    refine Eq.trans (rn_go 2 (pc' := 19) (L' := [.ref a0, .int x1]) (st' := [.int (0 : Int32), .ref a0]) rfl) ?_
    refine Eq.trans (rn_pF (L' := [.ref a0, .int x1]) rfl rfl) ?_
    refine eS_c (fun s_5 => ?_)
    refine Eq.trans (rn_go 1 (pc' := 38) (L' := [.ref a0, .int x1]) (st' := []) rfl) ?_
    exact rn_retV rfl rfl
theorem in_J5_length_8abf5 {B : Nat} (a0 : Nat) (s : am_S) : cl_ tb_ct tb_mt B K_J5_length_8abf5 [.ref a0] s = rn_ tb_ct tb_mt B mm_J5_length_8abf5 0 [.ref a0] [] s := cl_in rfl rfl rfl rfl
theorem dc_J5_length_8abf5_0 {B : Nat} (a0 : Nat) (s : am_S) : rn_ tb_ct tb_mt B mm_J5_length_8abf5 0 [.ref a0] [] s = eI (gI tb_ct s a0 12 3) (fun x_1 => some (.inl (some (.int x_1)), s)) := by
  refine Eq.trans (rn_go 1 (pc' := 1) (L' := [.ref a0]) (st' := [.ref a0]) rfl) ?_
  refine Eq.trans (rn_gI (L' := [.ref a0]) rfl rfl rfl rfl) ?_
  refine eI_c (fun x_1 => ?_)
  exact rn_retI rfl rfl rfl
theorem in_J5_ensureCapacityInternal_d00df {B : Nat} (a0 : Nat) (x1 : Int32) (s : am_S) : cl_ tb_ct tb_mt B K_J5_ensureCapacityInternal_d00df [.ref a0, .int x1] s = rn_ tb_ct tb_mt B mm_J5_ensureCapacityInternal_d00df 0 [.ref a0, .int x1, am_un] [] s := cl_in rfl rfl rfl rfl
theorem dc_J5_ensureCapacityInternal_d00df_0 {B : Nat} (a0 : Nat) (x1 : Int32) (s : am_S) : rn_ tb_ct tb_mt B mm_J5_ensureCapacityInternal_d00df 0 [.ref a0, .int x1, am_un] [] s = eA (gA tb_ct s a0 12 0) (none) (fun b_1 => eK (am_len s b_1) (fun n_2 => eI (gI tb_ct s a0 12 1) (fun x_3 => if (x1 - ((Int32.ofNat n_2) >>> (x_3 &&& 31))) ≤ 0 then some (.inl none, s) else eA (gA tb_ct s a0 12 0) (eC (am_cls s a0) 12 (cI (cl_ tb_ct tb_mt B K_J5_newCapacity_0f7a4 [.ref a0, .int x1] s) (fun x_6 s_5 => eI (gI tb_ct s_5 a0 12 1) (fun x_7 => cA (cl_ tb_ct tb_mt B K_J7_copyOf_9075b [.null, .int (x_6 <<< (x_7 &&& 31))] s_5) (fun s_8 => eS (am_put tb_ct mm_J5_ensureCapacityInternal_d00df B s_8 (.null) a0 12 0) (fun s_10 => some (.inl none, s_10))) (fun b_9 s_8 => eS (am_put tb_ct mm_J5_ensureCapacityInternal_d00df B s_8 (.ref b_9) a0 12 0) (fun s_11 => some (.inl none, s_11))) xo)) xo)) (fun b_4 => eC (am_cls s a0) 12 (cI (cl_ tb_ct tb_mt B K_J5_newCapacity_0f7a4 [.ref a0, .int x1] s) (fun x_13 s_12 => eI (gI tb_ct s_12 a0 12 1) (fun x_14 => cA (cl_ tb_ct tb_mt B K_J7_copyOf_9075b [.ref b_4, .int (x_13 <<< (x_14 &&& 31))] s_12) (fun s_15 => eS (am_put tb_ct mm_J5_ensureCapacityInternal_d00df B s_15 (.null) a0 12 0) (fun s_17 => some (.inl none, s_17))) (fun b_16 s_15 => eS (am_put tb_ct mm_J5_ensureCapacityInternal_d00df B s_15 (.ref b_16) a0 12 0) (fun s_18 => some (.inl none, s_18))) xo)) xo))))) := by
  refine Eq.trans (rn_go 1 (pc' := 1) (L' := [.ref a0, .int x1, am_un]) (st' := [.ref a0]) rfl) ?_
  refine Eq.trans (rn_gA (L' := [.ref a0, .int x1, am_un]) rfl rfl rfl rfl) ?_
  refine eA_c ?_ (fun b_1 => ?_)
  · exact rn_z rfl rfl
  · refine Eq.trans (rn_al (L' := [.ref a0, .int x1, am_un]) rfl rfl) ?_
    refine eK_c (fun n_2 => ?_)
    refine Eq.trans (rn_go 1 (pc' := 6) (L' := [.ref a0, .int x1, am_un]) (st' := [.ref a0, .int (Int32.ofNat n_2)]) rfl) ?_
    refine Eq.trans (rn_gI (L' := [.ref a0, .int x1, am_un]) rfl rfl rfl rfl) ?_
    refine eI_c (fun x_3 => ?_)
    refine Eq.trans (rn_go 5 (pc' := 14) (L' := [.ref a0, .int x1, .int ((Int32.ofNat n_2) >>> (x_3 &&& 31))]) (st' := [.int (x1 - ((Int32.ofNat n_2) >>> (x_3 &&& 31)))]) rfl) ?_
    refine Eq.trans (rn_ifle (L' := [.ref a0, .int x1, .int ((Int32.ofNat n_2) >>> (x_3 &&& 31))]) rfl rfl) ?_
    refine if_c ?_ ?_
    · exact rn_retV rfl rfl
    · refine Eq.trans (rn_go 2 (pc' := 19) (L' := [.ref a0, .int x1, .int ((Int32.ofNat n_2) >>> (x_3 &&& 31))]) (st' := [.ref a0, .ref a0]) rfl) ?_
      refine Eq.trans (rn_gA (L' := [.ref a0, .int x1, .int ((Int32.ofNat n_2) >>> (x_3 &&& 31))]) rfl rfl rfl rfl) ?_
      refine eA_c ?_ (fun b_4 => ?_)
      · refine Eq.trans (rn_go 2 (pc' := 24) (L' := [.ref a0, .int x1, .int ((Int32.ofNat n_2) >>> (x_3 &&& 31))]) (st' := [.int x1, .ref a0, .null, .ref a0]) rfl) ?_
        refine Eq.trans (rn_vir (L' := [.ref a0, .int x1, .int ((Int32.ofNat n_2) >>> (x_3 &&& 31))]) (as := [.int x1]) (rest := [.null, .ref a0]) rfl rfl rfl rfl rfl (Nat.le_of_ble_eq_true rfl) (by decide) (by decide)) ?_
        refine eC_c ?_
        refine Eq.trans (cW_I rfl rfl rfl) ?_
        refine cI_c (fun x_6 s_5 => ?_) (xh_nil rfl)
        refine Eq.trans (rn_go 1 (pc' := 28) (L' := [.ref a0, .int x1, .int ((Int32.ofNat n_2) >>> (x_3 &&& 31))]) (st' := [.ref a0, .int x_6, .null, .ref a0]) rfl) ?_
        refine Eq.trans (rn_gI (L' := [.ref a0, .int x1, .int ((Int32.ofNat n_2) >>> (x_3 &&& 31))]) rfl rfl rfl rfl) ?_
        refine eI_c (fun x_7 => ?_)
        refine Eq.trans (rn_go 1 (pc' := 32) (L' := [.ref a0, .int x1, .int ((Int32.ofNat n_2) >>> (x_3 &&& 31))]) (st' := [.int (x_6 <<< (x_7 &&& 31)), .null, .ref a0]) rfl) ?_
        refine Eq.trans (rn_sta (L' := [.ref a0, .int x1, .int ((Int32.ofNat n_2) >>> (x_3 &&& 31))]) (as := [.null, .int (x_6 <<< (x_7 &&& 31))]) (rest := [.ref a0]) rfl rfl rfl rfl rfl (Nat.le_of_ble_eq_true rfl) (by decide) rfl) ?_
        refine Eq.trans (cW_A rfl rfl rfl) ?_
        refine cA_c (fun s_8 => ?_) (fun b_9 s_8 => ?_) (xh_nil rfl)
        · refine Eq.trans (rn_pF (L' := [.ref a0, .int x1, .int ((Int32.ofNat n_2) >>> (x_3 &&& 31))]) rfl rfl) ?_
          refine eS_c (fun s_10 => ?_)
          exact rn_retV rfl rfl
        · refine Eq.trans (rn_pF (L' := [.ref a0, .int x1, .int ((Int32.ofNat n_2) >>> (x_3 &&& 31))]) rfl rfl) ?_
          refine eS_c (fun s_11 => ?_)
          exact rn_retV rfl rfl
      · refine Eq.trans (rn_go 2 (pc' := 24) (L' := [.ref a0, .int x1, .int ((Int32.ofNat n_2) >>> (x_3 &&& 31))]) (st' := [.int x1, .ref a0, .ref b_4, .ref a0]) rfl) ?_
        refine Eq.trans (rn_vir (L' := [.ref a0, .int x1, .int ((Int32.ofNat n_2) >>> (x_3 &&& 31))]) (as := [.int x1]) (rest := [.ref b_4, .ref a0]) rfl rfl rfl rfl rfl (Nat.le_of_ble_eq_true rfl) (by decide) (by decide)) ?_
        refine eC_c ?_
        refine Eq.trans (cW_I rfl rfl rfl) ?_
        refine cI_c (fun x_13 s_12 => ?_) (xh_nil rfl)
        refine Eq.trans (rn_go 1 (pc' := 28) (L' := [.ref a0, .int x1, .int ((Int32.ofNat n_2) >>> (x_3 &&& 31))]) (st' := [.ref a0, .int x_13, .ref b_4, .ref a0]) rfl) ?_
        refine Eq.trans (rn_gI (L' := [.ref a0, .int x1, .int ((Int32.ofNat n_2) >>> (x_3 &&& 31))]) rfl rfl rfl rfl) ?_
        refine eI_c (fun x_14 => ?_)
        refine Eq.trans (rn_go 1 (pc' := 32) (L' := [.ref a0, .int x1, .int ((Int32.ofNat n_2) >>> (x_3 &&& 31))]) (st' := [.int (x_13 <<< (x_14 &&& 31)), .ref b_4, .ref a0]) rfl) ?_
        refine Eq.trans (rn_sta (L' := [.ref a0, .int x1, .int ((Int32.ofNat n_2) >>> (x_3 &&& 31))]) (as := [.ref b_4, .int (x_13 <<< (x_14 &&& 31))]) (rest := [.ref a0]) rfl rfl rfl rfl rfl (Nat.le_of_ble_eq_true rfl) (by decide) rfl) ?_
        refine Eq.trans (cW_A rfl rfl rfl) ?_
        refine cA_c (fun s_15 => ?_) (fun b_16 s_15 => ?_) (xh_nil rfl)
        · refine Eq.trans (rn_pF (L' := [.ref a0, .int x1, .int ((Int32.ofNat n_2) >>> (x_3 &&& 31))]) rfl rfl) ?_
          refine eS_c (fun s_17 => ?_)
          exact rn_retV rfl rfl
        · refine Eq.trans (rn_pF (L' := [.ref a0, .int x1, .int ((Int32.ofNat n_2) >>> (x_3 &&& 31))]) rfl rfl) ?_
          refine eS_c (fun s_18 => ?_)
          exact rn_retV rfl rfl
theorem in_J5_newCapacity_0f7a4 {B : Nat} (a0 : Nat) (x1 : Int32) (s : am_S) : cl_ tb_ct tb_mt B K_J5_newCapacity_0f7a4 [.ref a0, .int x1] s = rn_ tb_ct tb_mt B mm_J5_newCapacity_0f7a4 0 [.ref a0, .int x1, am_un, am_un, am_un, am_un] [] s := cl_in rfl rfl rfl rfl
theorem dc_J5_newCapacity_0f7a4_0 {B : Nat} (a0 : Nat) (x1 : Int32) (s : am_S) : rn_ tb_ct tb_mt B mm_J5_newCapacity_0f7a4 0 [.ref a0, .int x1, am_un, am_un, am_un, am_un] [] s = eA (gA tb_ct s a0 12 0) (none) (fun b_1 => eK (am_len s b_1) (fun n_2 => eI (gI tb_ct s a0 12 1) (fun x_3 => eI (gI tb_ct s a0 12 1) (fun x_4 => cI (cl_ tb_ct tb_mt B K_J8_newLength_cabcc [.int (Int32.ofNat n_2), .int ((x1 <<< (x_3 &&& 31)) - (Int32.ofNat n_2)), .int ((Int32.ofNat n_2) + ((2 : Int32) <<< (x_4 &&& 31)))] s) (fun x_6 s_5 => if x_6 = (2147483647 : Int32) then none else eI (gI tb_ct s_5 a0 12 1) (fun x_7 => some (.inl (some (.int (x_6 >>> (x_7 &&& 31)))), s_5))) xo)))) := by
  refine Eq.trans (rn_go 1 (pc' := 1) (L' := [.ref a0, .int x1, am_un, am_un, am_un, am_un]) (st' := [.ref a0]) rfl) ?_
  refine Eq.trans (rn_gA (L' := [.ref a0, .int x1, am_un, am_un, am_un, am_un]) rfl rfl rfl rfl) ?_
  refine eA_c ?_ (fun b_1 => ?_)
  · exact rn_z rfl rfl
  · refine Eq.trans (rn_al (L' := [.ref a0, .int x1, am_un, am_un, am_un, am_un]) rfl rfl) ?_
    refine eK_c (fun n_2 => ?_)
    refine Eq.trans (rn_go 3 (pc' := 8) (L' := [.ref a0, .int x1, .int (Int32.ofNat n_2), am_un, am_un, am_un]) (st' := [.ref a0, .int x1]) rfl) ?_
    refine Eq.trans (rn_gI (L' := [.ref a0, .int x1, .int (Int32.ofNat n_2), am_un, am_un, am_un]) rfl rfl rfl rfl) ?_
    refine eI_c (fun x_3 => ?_)
    refine Eq.trans (rn_go 11 (pc' := 24) (L' := [.ref a0, .int x1, .int (Int32.ofNat n_2), .int (x1 <<< (x_3 &&& 31)), .int ((x1 <<< (x_3 &&& 31)) - (Int32.ofNat n_2)), am_un]) (st' := [.ref a0, .int (2 : Int32), .int (Int32.ofNat n_2), .int ((x1 <<< (x_3 &&& 31)) - (Int32.ofNat n_2)), .int (Int32.ofNat n_2)]) rfl) ?_
    refine Eq.trans (rn_gI (L' := [.ref a0, .int x1, .int (Int32.ofNat n_2), .int (x1 <<< (x_3 &&& 31)), .int ((x1 <<< (x_3 &&& 31)) - (Int32.ofNat n_2)), am_un]) rfl rfl rfl rfl) ?_
    refine eI_c (fun x_4 => ?_)
    refine Eq.trans (rn_go 2 (pc' := 29) (L' := [.ref a0, .int x1, .int (Int32.ofNat n_2), .int (x1 <<< (x_3 &&& 31)), .int ((x1 <<< (x_3 &&& 31)) - (Int32.ofNat n_2)), am_un]) (st' := [.int ((Int32.ofNat n_2) + ((2 : Int32) <<< (x_4 &&& 31))), .int ((x1 <<< (x_3 &&& 31)) - (Int32.ofNat n_2)), .int (Int32.ofNat n_2)]) rfl) ?_
    refine Eq.trans (rn_sta (L' := [.ref a0, .int x1, .int (Int32.ofNat n_2), .int (x1 <<< (x_3 &&& 31)), .int ((x1 <<< (x_3 &&& 31)) - (Int32.ofNat n_2)), am_un]) (as := [.int (Int32.ofNat n_2), .int ((x1 <<< (x_3 &&& 31)) - (Int32.ofNat n_2)), .int ((Int32.ofNat n_2) + ((2 : Int32) <<< (x_4 &&& 31)))]) (rest := []) rfl rfl rfl rfl rfl (Nat.le_of_ble_eq_true rfl) (by decide) rfl) ?_
    refine Eq.trans (cW_I rfl rfl rfl) ?_
    refine cI_c (fun x_6 s_5 => ?_) (xh_nil rfl)
    refine Eq.trans (rn_go 3 (pc' := 38) (L' := [.ref a0, .int x1, .int (Int32.ofNat n_2), .int (x1 <<< (x_3 &&& 31)), .int ((x1 <<< (x_3 &&& 31)) - (Int32.ofNat n_2)), .int x_6]) (st' := [.int (2147483647 : Int32), .int x_6]) rfl) ?_
    refine Eq.trans (rn_icne (L' := [.ref a0, .int x1, .int (Int32.ofNat n_2), .int (x1 <<< (x_3 &&& 31)), .int ((x1 <<< (x_3 &&& 31)) - (Int32.ofNat n_2)), .int x_6]) rfl rfl) ?_
    refine if_c ?_ ?_
    · exact rn_nolk rfl
    · refine Eq.trans (rn_go 2 (pc' := 54) (L' := [.ref a0, .int x1, .int (Int32.ofNat n_2), .int (x1 <<< (x_3 &&& 31)), .int ((x1 <<< (x_3 &&& 31)) - (Int32.ofNat n_2)), .int x_6]) (st' := [.ref a0, .int x_6]) rfl) ?_
      refine Eq.trans (rn_gI (L' := [.ref a0, .int x1, .int (Int32.ofNat n_2), .int (x1 <<< (x_3 &&& 31)), .int ((x1 <<< (x_3 &&& 31)) - (Int32.ofNat n_2)), .int x_6]) rfl rfl rfl rfl) ?_
      refine eI_c (fun x_7 => ?_)
      refine Eq.trans (rn_go 1 (pc' := 58) (L' := [.ref a0, .int x1, .int (Int32.ofNat n_2), .int (x1 <<< (x_3 &&& 31)), .int ((x1 <<< (x_3 &&& 31)) - (Int32.ofNat n_2)), .int x_6]) (st' := [.int (x_6 >>> (x_7 &&& 31))]) rfl) ?_
      exact rn_retI rfl rfl rfl
theorem in_J5_setLength_d00df {B : Nat} (a0 : Nat) (x1 : Int32) (s : am_S) : cl_ tb_ct tb_mt B K_J5_setLength_d00df [.ref a0, .int x1] s = rn_ tb_ct tb_mt B mm_J5_setLength_d00df 0 [.ref a0, .int x1] [] s := cl_in rfl rfl rfl rfl
theorem dc_J5_setLength_d00df_0 {B : Nat} (a0 : Nat) (x1 : Int32) (s : am_S) : rn_ tb_ct tb_mt B mm_J5_setLength_d00df 0 [.ref a0, .int x1] [] s = if 0 ≤ x1 then eC (am_cls s a0) 12 (cV (cl_ tb_ct tb_mt B K_J5_ensureCapacityInternal_d00df [.ref a0, .int x1] s) (fun s_1 => eI (gI tb_ct s_1 a0 12 3) (fun x_2 => if x1 ≤ x_2 then eI (gI tb_ct s_1 a0 12 3) (fun x_3 => if x_3 ≤ x1 then rn_ tb_ct tb_mt B mm_J5_setLength_d00df 76 [.ref a0, .int x1] [] s_1 else eS (am_put tb_ct mm_J5_setLength_d00df B s_1 (.int (1 : Int32)) a0 12 2) (fun s_4 => rn_ tb_ct tb_mt B mm_J5_setLength_d00df 76 [.ref a0, .int x1] [] s_4)) else eC (am_cls s_1 a0) 12 (cI (cl_ tb_ct tb_mt B K_J5_isLatin1_aae02 [.ref a0] s_1) (fun x_6 s_5 => if x_6 = 0 then eA (gA tb_ct s_5 a0 12 0) (eI (gI tb_ct s_5 a0 12 3) (fun x_8 => none)) (fun b_7 => eI (gI tb_ct s_5 a0 12 3) (fun x_9 => none)) else eA (gA tb_ct s_5 a0 12 0) (eI (gI tb_ct s_5 a0 12 3) (fun x_11 => none)) (fun b_10 => eI (gI tb_ct s_5 a0 12 3) (fun x_12 => none))) xo))) xo) else none := by
  refine Eq.trans (rn_go 1 (pc' := 1) (L' := [.ref a0, .int x1]) (st' := [.int x1]) rfl) ?_
  refine Eq.trans (rn_ifge (L' := [.ref a0, .int x1]) rfl rfl) ?_
  refine if_c ?_ ?_
  · refine Eq.trans (rn_go 2 (pc' := 15) (L' := [.ref a0, .int x1]) (st' := [.int x1, .ref a0]) rfl) ?_
    refine Eq.trans (rn_vir (L' := [.ref a0, .int x1]) (as := [.int x1]) (rest := []) rfl rfl rfl rfl rfl (Nat.le_of_ble_eq_true rfl) (by decide) (by decide)) ?_
    refine eC_c ?_
    refine Eq.trans (cW_V rfl rfl) ?_
    refine cV_c (fun s_1 => ?_) (xh_nil rfl)
    refine Eq.trans (rn_go 1 (pc' := 19) (L' := [.ref a0, .int x1]) (st' := [.ref a0]) rfl) ?_
    refine Eq.trans (rn_gI (L' := [.ref a0, .int x1]) rfl rfl rfl rfl) ?_
    refine eI_c (fun x_2 => ?_)
    refine Eq.trans (rn_go 1 (pc' := 23) (L' := [.ref a0, .int x1]) (st' := [.int x1, .int x_2]) rfl) ?_
    refine Eq.trans (rn_icge (L' := [.ref a0, .int x1]) rfl rfl) ?_
    refine if_c ?_ ?_
    · refine Eq.trans (rn_go 1 (pc' := 64) (L' := [.ref a0, .int x1]) (st' := [.ref a0]) rfl) ?_
      refine Eq.trans (rn_gI (L' := [.ref a0, .int x1]) rfl rfl rfl rfl) ?_
      refine eI_c (fun x_3 => ?_)
      refine Eq.trans (rn_go 1 (pc' := 68) (L' := [.ref a0, .int x1]) (st' := [.int x1, .int x_3]) rfl) ?_
      refine Eq.trans (rn_icle (L' := [.ref a0, .int x1]) rfl rfl) ?_
      refine if_c ?_ ?_
      · rfl
      · refine Eq.trans (rn_go 2 (pc' := 73) (L' := [.ref a0, .int x1]) (st' := [.int (1 : Int32), .ref a0]) rfl) ?_
        refine Eq.trans (rn_pF (L' := [.ref a0, .int x1]) rfl rfl) ?_
        refine eS_c (fun s_4 => ?_)
        rfl
    · refine Eq.trans (rn_go 1 (pc' := 27) (L' := [.ref a0, .int x1]) (st' := [.ref a0]) rfl) ?_
      refine Eq.trans (rn_vir (L' := [.ref a0, .int x1]) (as := []) (rest := []) rfl rfl rfl rfl rfl (Nat.le_of_ble_eq_true rfl) (by decide) (by decide)) ?_
      refine eC_c ?_
      refine Eq.trans (cW_I rfl rfl rfl) ?_
      refine cI_c (fun x_6 s_5 => ?_) (xh_nil rfl)
      refine Eq.trans (rn_ifeq (L' := [.ref a0, .int x1]) rfl rfl) ?_
      refine if_c ?_ ?_
      · refine Eq.trans (rn_go 1 (pc' := 49) (L' := [.ref a0, .int x1]) (st' := [.ref a0]) rfl) ?_
        refine Eq.trans (rn_gA (L' := [.ref a0, .int x1]) rfl rfl rfl rfl) ?_
        refine eA_c ?_ (fun b_7 => ?_)
        · refine Eq.trans (rn_go 1 (pc' := 53) (L' := [.ref a0, .int x1]) (st' := [.ref a0, .null]) rfl) ?_
          refine Eq.trans (rn_gI (L' := [.ref a0, .int x1]) rfl rfl rfl rfl) ?_
          refine eI_c (fun x_8 => ?_)
          refine Eq.trans (rn_go 1 (pc' := 57) (L' := [.ref a0, .int x1]) (st' := [.int x1, .int x_8, .null]) rfl) ?_
          exact rn_nolk rfl
        · refine Eq.trans (rn_go 1 (pc' := 53) (L' := [.ref a0, .int x1]) (st' := [.ref a0, .ref b_7]) rfl) ?_
          refine Eq.trans (rn_gI (L' := [.ref a0, .int x1]) rfl rfl rfl rfl) ?_
          refine eI_c (fun x_9 => ?_)
          refine Eq.trans (rn_go 1 (pc' := 57) (L' := [.ref a0, .int x1]) (st' := [.int x1, .int x_9, .ref b_7]) rfl) ?_
          exact rn_nolk rfl
      · refine Eq.trans (rn_go 1 (pc' := 34) (L' := [.ref a0, .int x1]) (st' := [.ref a0]) rfl) ?_
        refine Eq.trans (rn_gA (L' := [.ref a0, .int x1]) rfl rfl rfl rfl) ?_
        refine eA_c ?_ (fun b_10 => ?_)
        · refine Eq.trans (rn_go 1 (pc' := 38) (L' := [.ref a0, .int x1]) (st' := [.ref a0, .null]) rfl) ?_
          refine Eq.trans (rn_gI (L' := [.ref a0, .int x1]) rfl rfl rfl rfl) ?_
          refine eI_c (fun x_11 => ?_)
          refine Eq.trans (rn_go 1 (pc' := 42) (L' := [.ref a0, .int x1]) (st' := [.int x1, .int x_11, .null]) rfl) ?_
          exact rn_nolk rfl
        · refine Eq.trans (rn_go 1 (pc' := 38) (L' := [.ref a0, .int x1]) (st' := [.ref a0, .ref b_10]) rfl) ?_
          refine Eq.trans (rn_gI (L' := [.ref a0, .int x1]) rfl rfl rfl rfl) ?_
          refine eI_c (fun x_12 => ?_)
          refine Eq.trans (rn_go 1 (pc' := 42) (L' := [.ref a0, .int x1]) (st' := [.int x1, .int x_12, .ref b_10]) rfl) ?_
          exact rn_nolk rfl
  · exact rn_nolk rfl
theorem dc_J5_setLength_d00df_76 {B : Nat} (a0 : Nat) (x1 : Int32) (s : am_S) : rn_ tb_ct tb_mt B mm_J5_setLength_d00df 76 [.ref a0, .int x1] [] s = eS (am_put tb_ct mm_J5_setLength_d00df B s (.int x1) a0 12 3) (fun s_1 => some (.inl none, s_1)) := by
  refine Eq.trans (rn_go 2 (pc' := 78) (L' := [.ref a0, .int x1]) (st' := [.int x1, .ref a0]) rfl) ?_
  refine Eq.trans (rn_pF (L' := [.ref a0, .int x1]) rfl rfl) ?_
  refine eS_c (fun s_1 => ?_)
  exact rn_retV rfl rfl
theorem in_J5_charAt_5068e {B : Nat} (a0 : Nat) (x1 : Int32) (s : am_S) : cl_ tb_ct tb_mt B K_J5_charAt_5068e [.ref a0, .int x1] s = rn_ tb_ct tb_mt B mm_J5_charAt_5068e 0 [.ref a0, .int x1, am_un, am_un, am_un] [] s := cl_in rfl rfl rfl rfl
theorem dc_J5_charAt_5068e_0 {B : Nat} (a0 : Nat) (x1 : Int32) (s : am_S) : rn_ tb_ct tb_mt B mm_J5_charAt_5068e 0 [.ref a0, .int x1, am_un, am_un, am_un] [] s = eI (gI tb_ct s a0 12 1) (fun x_1 => eA (gA tb_ct s a0 12 0) (eI (gI tb_ct s a0 12 3) (fun x_3 => none)) (fun b_2 => eI (gI tb_ct s a0 12 3) (fun x_4 => eK (am_len s b_2) (fun n_5 => cV (cl_ tb_ct tb_mt B K_J0_checkIndex_df160 [.int x1, .int (if ((Int32.ofNat n_5) >>> (x_1 &&& 31)) < x_4 then ((Int32.ofNat n_5) >>> (x_1 &&& 31)) else x_4)] s) (fun s_6 => if x_1 = 0 then eI (aB s_6 b_2 x1) (fun x_7 => rtI .char (((x_7 &&& (255 : Int32)).toUInt32 % 65536).toInt32) s_6) else none) xo)))) := by
  refine Eq.trans (rn_go 1 (pc' := 1) (L' := [.ref a0, .int x1, am_un, am_un, am_un]) (st' := [.ref a0]) rfl) ?_
  refine Eq.trans (rn_gI (L' := [.ref a0, .int x1, am_un, am_un, am_un]) rfl rfl rfl rfl) ?_
  refine eI_c (fun x_1 => ?_)
  refine Eq.trans (rn_go 2 (pc' := 6) (L' := [.ref a0, .int x1, .int x_1, am_un, am_un]) (st' := [.ref a0]) rfl) ?_
  refine Eq.trans (rn_gA (L' := [.ref a0, .int x1, .int x_1, am_un, am_un]) rfl rfl rfl rfl) ?_
  refine eA_c ?_ (fun b_2 => ?_)
  · refine Eq.trans (rn_go 2 (pc' := 11) (L' := [.ref a0, .int x1, .int x_1, .null, am_un]) (st' := [.ref a0]) rfl) ?_
    refine Eq.trans (rn_gI (L' := [.ref a0, .int x1, .int x_1, .null, am_un]) rfl rfl rfl rfl) ?_
    refine eI_c (fun x_3 => ?_)
    refine Eq.trans (rn_go 1 (pc' := 15) (L' := [.ref a0, .int x1, .int x_1, .null, am_un]) (st' := [.null, .int x_3]) rfl) ?_
    exact rn_z rfl rfl
  · refine Eq.trans (rn_go 2 (pc' := 11) (L' := [.ref a0, .int x1, .int x_1, .ref b_2, am_un]) (st' := [.ref a0]) rfl) ?_
    refine Eq.trans (rn_gI (L' := [.ref a0, .int x1, .int x_1, .ref b_2, am_un]) rfl rfl rfl rfl) ?_
    refine eI_c (fun x_4 => ?_)
    refine Eq.trans (rn_go 1 (pc' := 15) (L' := [.ref a0, .int x1, .int x_1, .ref b_2, am_un]) (st' := [.ref b_2, .int x_4]) rfl) ?_
    refine Eq.trans (rn_al (L' := [.ref a0, .int x1, .int x_1, .ref b_2, am_un]) rfl rfl) ?_
    refine eK_c (fun n_5 => ?_)
    refine Eq.trans (rn_go 2 (pc' := 18) (L' := [.ref a0, .int x1, .int x_1, .ref b_2, am_un]) (st' := [.int ((Int32.ofNat n_5) >>> (x_1 &&& 31)), .int x_4]) rfl) ?_
    refine Eq.trans (rn_min (L' := [.ref a0, .int x1, .int x_1, .ref b_2, am_un]) rfl rfl (Nat.le_of_ble_eq_true rfl)) ?_
    refine Eq.trans (rn_go 3 (pc' := 26) (L' := [.ref a0, .int x1, .int x_1, .ref b_2, .int (if ((Int32.ofNat n_5) >>> (x_1 &&& 31)) < x_4 then ((Int32.ofNat n_5) >>> (x_1 &&& 31)) else x_4)]) (st' := [.int (if ((Int32.ofNat n_5) >>> (x_1 &&& 31)) < x_4 then ((Int32.ofNat n_5) >>> (x_1 &&& 31)) else x_4), .int x1]) rfl) ?_
    refine Eq.trans (rn_sta (L' := [.ref a0, .int x1, .int x_1, .ref b_2, .int (if ((Int32.ofNat n_5) >>> (x_1 &&& 31)) < x_4 then ((Int32.ofNat n_5) >>> (x_1 &&& 31)) else x_4)]) (as := [.int x1, .int (if ((Int32.ofNat n_5) >>> (x_1 &&& 31)) < x_4 then ((Int32.ofNat n_5) >>> (x_1 &&& 31)) else x_4)]) (rest := []) rfl rfl rfl rfl rfl (Nat.le_of_ble_eq_true rfl) (by decide) rfl) ?_
    refine Eq.trans (cW_V rfl rfl) ?_
    refine cV_c (fun s_6 => ?_) (xh_nil rfl)
    refine Eq.trans (rn_go 1 (pc' := 30) (L' := [.ref a0, .int x1, .int x_1, .ref b_2, .int (if ((Int32.ofNat n_5) >>> (x_1 &&& 31)) < x_4 then ((Int32.ofNat n_5) >>> (x_1 &&& 31)) else x_4)]) (st' := [.int x_1]) rfl) ?_
    refine Eq.trans (rn_ifne (L' := [.ref a0, .int x1, .int x_1, .ref b_2, .int (if ((Int32.ofNat n_5) >>> (x_1 &&& 31)) < x_4 then ((Int32.ofNat n_5) >>> (x_1 &&& 31)) else x_4)]) rfl rfl) ?_
    refine if_c ?_ ?_
    · refine Eq.trans (rn_go 2 (pc' := 35) (L' := [.ref a0, .int x1, .int x_1, .ref b_2, .int (if ((Int32.ofNat n_5) >>> (x_1 &&& 31)) < x_4 then ((Int32.ofNat n_5) >>> (x_1 &&& 31)) else x_4)]) (st' := [.int x1, .ref b_2]) rfl) ?_
      refine Eq.trans (rn_aB (L' := [.ref a0, .int x1, .int x_1, .ref b_2, .int (if ((Int32.ofNat n_5) >>> (x_1 &&& 31)) < x_4 then ((Int32.ofNat n_5) >>> (x_1 &&& 31)) else x_4)]) rfl rfl) ?_
      refine eI_c (fun x_7 => ?_)
      refine Eq.trans (rn_go 3 (pc' := 41) (L' := [.ref a0, .int x1, .int x_1, .ref b_2, .int (if ((Int32.ofNat n_5) >>> (x_1 &&& 31)) < x_4 then ((Int32.ofNat n_5) >>> (x_1 &&& 31)) else x_4)]) (st' := [.int ((x_7 &&& (255 : Int32)).toUInt32 % 65536).toInt32]) rfl) ?_
      exact rn_rtI rfl rfl
    · refine Eq.trans (rn_go 2 (pc' := 44) (L' := [.ref a0, .int x1, .int x_1, .ref b_2, .int (if ((Int32.ofNat n_5) >>> (x_1 &&& 31)) < x_4 then ((Int32.ofNat n_5) >>> (x_1 &&& 31)) else x_4)]) (st' := [.int x1, .ref b_2]) rfl) ?_
      exact rn_nolk rfl
theorem in_J5_append_cf1ce {B : Nat} (a0 : Nat) (a1 : Nat) (s : am_S) : cl_ tb_ct tb_mt B K_J5_append_cf1ce [.ref a0, .ref a1] s = rn_ tb_ct tb_mt B mm_J5_append_cf1ce 0 [.ref a0, .ref a1, am_un] [] s := cl_in rfl rfl rfl rfl
theorem dc_J5_append_cf1ce_0 {B : Nat} (a0 : Nat) (a1 : Nat) (s : am_S) : rn_ tb_ct tb_mt B mm_J5_append_cf1ce 0 [.ref a0, .ref a1, am_un] [] s = eC (am_cls s a1) 13 (cI (cl_ tb_ct tb_mt B K_J0_length_8abf5 [.ref a1] s) (fun x_2 s_1 => eI (gI tb_ct s_1 a0 12 3) (fun x_3 => eC (am_cls s_1 a0) 12 (cV (cl_ tb_ct tb_mt B K_J5_ensureCapacityInternal_d00df [.ref a0, .int (x_3 + x_2)] s_1) (fun s_4 => eI (gI tb_ct s_4 a0 12 3) (fun x_5 => eC (am_cls s_4 a0) 12 (cV (cl_ tb_ct tb_mt B K_J5_putStringAt_47b60 [.ref a0, .int x_5, .ref a1] s_4) (fun s_6 => eI (gI tb_ct s_6 a0 12 3) (fun x_7 => eS (am_put tb_ct mm_J5_append_cf1ce B s_6 (.int (x_7 + x_2)) a0 12 3) (fun s_8 => some (.inl (some (.ref a0)), s_8)))) xo))) xo))) xo) := by
  refine Eq.trans (rn_go 3 (pc' := 10) (L' := [.ref a0, .ref a1, am_un]) (st' := [.ref a1]) rfl) ?_
  refine Eq.trans (rn_vir (L' := [.ref a0, .ref a1, am_un]) (as := []) (rest := []) rfl rfl rfl rfl rfl (Nat.le_of_ble_eq_true rfl) (by decide) (by decide)) ?_
  refine eC_c ?_
  refine Eq.trans (cW_I rfl rfl rfl) ?_
  refine cI_c (fun x_2 s_1 => ?_) (xh_nil rfl)
  refine Eq.trans (rn_go 3 (pc' := 16) (L' := [.ref a0, .ref a1, .int x_2]) (st' := [.ref a0, .ref a0]) rfl) ?_
  refine Eq.trans (rn_gI (L' := [.ref a0, .ref a1, .int x_2]) rfl rfl rfl rfl) ?_
  refine eI_c (fun x_3 => ?_)
  refine Eq.trans (rn_go 2 (pc' := 21) (L' := [.ref a0, .ref a1, .int x_2]) (st' := [.int (x_3 + x_2), .ref a0]) rfl) ?_
  refine Eq.trans (rn_vir (L' := [.ref a0, .ref a1, .int x_2]) (as := [.int (x_3 + x_2)]) (rest := []) rfl rfl rfl rfl rfl (Nat.le_of_ble_eq_true rfl) (by decide) (by decide)) ?_
  refine eC_c ?_
  refine Eq.trans (cW_V rfl rfl) ?_
  refine cV_c (fun s_4 => ?_) (xh_nil rfl)
  refine Eq.trans (rn_go 2 (pc' := 26) (L' := [.ref a0, .ref a1, .int x_2]) (st' := [.ref a0, .ref a0]) rfl) ?_
  refine Eq.trans (rn_gI (L' := [.ref a0, .ref a1, .int x_2]) rfl rfl rfl rfl) ?_
  refine eI_c (fun x_5 => ?_)
  refine Eq.trans (rn_go 1 (pc' := 30) (L' := [.ref a0, .ref a1, .int x_2]) (st' := [.ref a1, .int x_5, .ref a0]) rfl) ?_
  refine Eq.trans (rn_vir (L' := [.ref a0, .ref a1, .int x_2]) (as := [.int x_5, .ref a1]) (rest := []) rfl rfl rfl rfl rfl (Nat.le_of_ble_eq_true rfl) (by decide) (by decide)) ?_
  refine eC_c ?_
  refine Eq.trans (cW_V rfl rfl) ?_
  refine cV_c (fun s_6 => ?_) (xh_nil rfl)
  refine Eq.trans (rn_go 2 (pc' := 35) (L' := [.ref a0, .ref a1, .int x_2]) (st' := [.ref a0, .ref a0]) rfl) ?_
  refine Eq.trans (rn_gI (L' := [.ref a0, .ref a1, .int x_2]) rfl rfl rfl rfl) ?_
  refine eI_c (fun x_7 => ?_)
  refine Eq.trans (rn_go 2 (pc' := 40) (L' := [.ref a0, .ref a1, .int x_2]) (st' := [.int (x_7 + x_2), .ref a0]) rfl) ?_
  refine Eq.trans (rn_pF (L' := [.ref a0, .ref a1, .int x_2]) rfl rfl) ?_
  refine eS_c (fun s_8 => ?_)
  refine Eq.trans (rn_go 1 (pc' := 44) (L' := [.ref a0, .ref a1, .int x_2]) (st' := [.ref a0]) rfl) ?_
  exact rn_retA rfl rfl rfl rfl
theorem in_J5_append_3fe6f {B : Nat} (a0 : Nat) (x1 : Int32) (s : am_S) : cl_ tb_ct tb_mt B K_J5_append_3fe6f [.ref a0, .int x1] s = rn_ tb_ct tb_mt B mm_J5_append_3fe6f 0 [.ref a0, .int x1] [] s := cl_in rfl rfl rfl rfl
theorem dc_J5_append_3fe6f_0 {B : Nat} (a0 : Nat) (x1 : Int32) (s : am_S) : rn_ tb_ct tb_mt B mm_J5_append_3fe6f 0 [.ref a0, .int x1] [] s = eI (gI tb_ct s a0 12 3) (fun x_1 => eC (am_cls s a0) 12 (cV (cl_ tb_ct tb_mt B K_J5_ensureCapacityInternal_d00df [.ref a0, .int (x_1 + (1 : Int32))] s) (fun s_2 => eC (am_cls s_2 a0) 12 (cI (cl_ tb_ct tb_mt B K_J5_isLatin1_aae02 [.ref a0] s_2) (fun x_4 s_3 => if x_4 = 0 then rn_ tb_ct tb_mt B mm_J5_append_3fe6f 45 [.ref a0, .int x1] [] s_3 else cI (cl_ tb_ct tb_mt B K_J1_canEncode_fc78d [.int x1] s_3) (fun x_6 s_5 => if x_6 = 0 then rn_ tb_ct tb_mt B mm_J5_append_3fe6f 45 [.ref a0, .int x1] [] s_5 else eA (gA tb_ct s_5 a0 12 0) (eI (gI tb_ct s_5 a0 12 3) (fun x_8 => eS (am_put tb_ct mm_J5_append_3fe6f B s_5 (.int (x_8 + (1 : Int32))) a0 12 3) (fun s_9 => none))) (fun b_7 => eI (gI tb_ct s_5 a0 12 3) (fun x_10 => eS (am_put tb_ct mm_J5_append_3fe6f B s_5 (.int (x_10 + (1 : Int32))) a0 12 3) (fun s_11 => eS (wB B s_11 b_7 x_10 x1.toInt8.toInt32) (fun s_12 => some (.inl (some (.ref a0)), s_12)))))) xo) xo)) xo)) := by
  refine Eq.trans (rn_go 2 (pc' := 2) (L' := [.ref a0, .int x1]) (st' := [.ref a0, .ref a0]) rfl) ?_
  refine Eq.trans (rn_gI (L' := [.ref a0, .int x1]) rfl rfl rfl rfl) ?_
  refine eI_c (fun x_1 => ?_)
  refine Eq.trans (rn_go 2 (pc' := 7) (L' := [.ref a0, .int x1]) (st' := [.int (x_1 + (1 : Int32)), .ref a0]) rfl) ?_
  refine Eq.trans (rn_vir (L' := [.ref a0, .int x1]) (as := [.int (x_1 + (1 : Int32))]) (rest := []) rfl rfl rfl rfl rfl (Nat.le_of_ble_eq_true rfl) (by decide) (by decide)) ?_
  refine eC_c ?_
  refine Eq.trans (cW_V rfl rfl) ?_
  refine cV_c (fun s_2 => ?_) (xh_nil rfl)
  refine Eq.trans (rn_go 1 (pc' := 11) (L' := [.ref a0, .int x1]) (st' := [.ref a0]) rfl) ?_
  refine Eq.trans (rn_vir (L' := [.ref a0, .int x1]) (as := []) (rest := []) rfl rfl rfl rfl rfl (Nat.le_of_ble_eq_true rfl) (by decide) (by decide)) ?_
  refine eC_c ?_
  refine Eq.trans (cW_I rfl rfl rfl) ?_
  refine cI_c (fun x_4 s_3 => ?_) (xh_nil rfl)
  refine Eq.trans (rn_ifeq (L' := [.ref a0, .int x1]) rfl rfl) ?_
  refine if_c ?_ ?_
  · rfl
  · refine Eq.trans (rn_go 1 (pc' := 18) (L' := [.ref a0, .int x1]) (st' := [.int x1]) rfl) ?_
    refine Eq.trans (rn_sta (L' := [.ref a0, .int x1]) (as := [.int x1]) (rest := []) rfl rfl rfl rfl rfl (Nat.le_of_ble_eq_true rfl) (by decide) rfl) ?_
    refine Eq.trans (cW_I rfl rfl rfl) ?_
    refine cI_c (fun x_6 s_5 => ?_) (xh_nil rfl)
    refine Eq.trans (rn_ifeq (L' := [.ref a0, .int x1]) rfl rfl) ?_
    refine if_c ?_ ?_
    · rfl
    · refine Eq.trans (rn_go 1 (pc' := 25) (L' := [.ref a0, .int x1]) (st' := [.ref a0]) rfl) ?_
      refine Eq.trans (rn_gA (L' := [.ref a0, .int x1]) rfl rfl rfl rfl) ?_
      refine eA_c ?_ (fun b_7 => ?_)
      · refine Eq.trans (rn_go 2 (pc' := 30) (L' := [.ref a0, .int x1]) (st' := [.ref a0, .ref a0, .null]) rfl) ?_
        refine Eq.trans (rn_gI (L' := [.ref a0, .int x1]) rfl rfl rfl rfl) ?_
        refine eI_c (fun x_8 => ?_)
        refine Eq.trans (rn_go 3 (pc' := 36) (L' := [.ref a0, .int x1]) (st' := [.int (x_8 + (1 : Int32)), .ref a0, .int x_8, .null]) rfl) ?_
        refine Eq.trans (rn_pF (L' := [.ref a0, .int x1]) rfl rfl) ?_
        refine eS_c (fun s_9 => ?_)
        refine Eq.trans (rn_go 2 (pc' := 41) (L' := [.ref a0, .int x1]) (st' := [.int x1.toInt8.toInt32, .int x_8, .null]) rfl) ?_
        exact rn_z rfl rfl
      · refine Eq.trans (rn_go 2 (pc' := 30) (L' := [.ref a0, .int x1]) (st' := [.ref a0, .ref a0, .ref b_7]) rfl) ?_
        refine Eq.trans (rn_gI (L' := [.ref a0, .int x1]) rfl rfl rfl rfl) ?_
        refine eI_c (fun x_10 => ?_)
        refine Eq.trans (rn_go 3 (pc' := 36) (L' := [.ref a0, .int x1]) (st' := [.int (x_10 + (1 : Int32)), .ref a0, .int x_10, .ref b_7]) rfl) ?_
        refine Eq.trans (rn_pF (L' := [.ref a0, .int x1]) rfl rfl) ?_
        refine eS_c (fun s_11 => ?_)
        refine Eq.trans (rn_go 2 (pc' := 41) (L' := [.ref a0, .int x1]) (st' := [.int x1.toInt8.toInt32, .int x_10, .ref b_7]) rfl) ?_
        refine Eq.trans (rn_wB (L' := [.ref a0, .int x1]) rfl rfl) ?_
        refine eS_c (fun s_12 => ?_)
        refine Eq.trans (rn_go 2 (pc' := 76) (L' := [.ref a0, .int x1]) (st' := [.ref a0]) rfl) ?_
        exact rn_retA rfl rfl rfl rfl
theorem dc_J5_append_3fe6f_45 {B : Nat} (a0 : Nat) (x1 : Int32) (s : am_S) : rn_ tb_ct tb_mt B mm_J5_append_3fe6f 45 [.ref a0, .int x1] [] s = eC (am_cls s a0) 12 (cI (cl_ tb_ct tb_mt B K_J5_isLatin1_aae02 [.ref a0] s) (fun x_2 s_1 => if x_2 = 0 then eA (gA tb_ct s_1 a0 12 0) (eI (gI tb_ct s_1 a0 12 3) (fun x_4 => eS (am_put tb_ct mm_J5_append_3fe6f B s_1 (.int (x_4 + (1 : Int32))) a0 12 3) (fun s_5 => none))) (fun b_3 => eI (gI tb_ct s_1 a0 12 3) (fun x_6 => eS (am_put tb_ct mm_J5_append_3fe6f B s_1 (.int (x_6 + (1 : Int32))) a0 12 3) (fun s_7 => none))) else none) xo) := by
  refine Eq.trans (rn_go 1 (pc' := 46) (L' := [.ref a0, .int x1]) (st' := [.ref a0]) rfl) ?_
  refine Eq.trans (rn_vir (L' := [.ref a0, .int x1]) (as := []) (rest := []) rfl rfl rfl rfl rfl (Nat.le_of_ble_eq_true rfl) (by decide) (by decide)) ?_
  refine eC_c ?_
  refine Eq.trans (cW_I rfl rfl rfl) ?_
  refine cI_c (fun x_2 s_1 => ?_) (xh_nil rfl)
  refine Eq.trans (rn_ifeq (L' := [.ref a0, .int x1]) rfl rfl) ?_
  refine if_c ?_ ?_
  · refine Eq.trans (rn_go 1 (pc' := 57) (L' := [.ref a0, .int x1]) (st' := [.ref a0]) rfl) ?_
    refine Eq.trans (rn_gA (L' := [.ref a0, .int x1]) rfl rfl rfl rfl) ?_
    refine eA_c ?_ (fun b_3 => ?_)
    · refine Eq.trans (rn_go 2 (pc' := 62) (L' := [.ref a0, .int x1]) (st' := [.ref a0, .ref a0, .null]) rfl) ?_
      refine Eq.trans (rn_gI (L' := [.ref a0, .int x1]) rfl rfl rfl rfl) ?_
      refine eI_c (fun x_4 => ?_)
      refine Eq.trans (rn_go 3 (pc' := 68) (L' := [.ref a0, .int x1]) (st' := [.int (x_4 + (1 : Int32)), .ref a0, .int x_4, .null]) rfl) ?_
      refine Eq.trans (rn_pF (L' := [.ref a0, .int x1]) rfl rfl) ?_
      refine eS_c (fun s_5 => ?_)
      refine Eq.trans (rn_go 1 (pc' := 72) (L' := [.ref a0, .int x1]) (st' := [.int x1, .int x_4, .null]) rfl) ?_
      exact rn_nolk rfl
    · refine Eq.trans (rn_go 2 (pc' := 62) (L' := [.ref a0, .int x1]) (st' := [.ref a0, .ref a0, .ref b_3]) rfl) ?_
      refine Eq.trans (rn_gI (L' := [.ref a0, .int x1]) rfl rfl rfl rfl) ?_
      refine eI_c (fun x_6 => ?_)
      refine Eq.trans (rn_go 3 (pc' := 68) (L' := [.ref a0, .int x1]) (st' := [.int (x_6 + (1 : Int32)), .ref a0, .int x_6, .ref b_3]) rfl) ?_
      refine Eq.trans (rn_pF (L' := [.ref a0, .int x1]) rfl rfl) ?_
      refine eS_c (fun s_7 => ?_)
      refine Eq.trans (rn_go 1 (pc' := 72) (L' := [.ref a0, .int x1]) (st' := [.int x1, .int x_6, .ref b_3]) rfl) ?_
      exact rn_nolk rfl
  · refine Eq.trans (rn_go 1 (pc' := 53) (L' := [.ref a0, .int x1]) (st' := [.ref a0]) rfl) ?_
    exact rn_nolk rfl
theorem in_J5_append_c97b9 {B : Nat} (a0 : Nat) (x1 : Int32) (s : am_S) : cl_ tb_ct tb_mt B K_J5_append_c97b9 [.ref a0, .int x1] s = rn_ tb_ct tb_mt B mm_J5_append_c97b9 0 [.ref a0, .int x1, am_un, am_un] [] s := cl_in rfl rfl rfl rfl
theorem dc_J5_append_c97b9_0 {B : Nat} (a0 : Nat) (x1 : Int32) (s : am_S) : rn_ tb_ct tb_mt B mm_J5_append_c97b9 0 [.ref a0, .int x1, am_un, am_un] [] s = eI (gI tb_ct s a0 12 3) (fun x_1 => cI (cl_ tb_ct tb_mt B K_J6_stringSize_0f7a4 [.int x1] s) (fun x_3 s_2 => eC (am_cls s_2 a0) 12 (cV (cl_ tb_ct tb_mt B K_J5_ensureCapacityInternal_d00df [.ref a0, .int (x_1 + x_3)] s_2) (fun s_4 => eC (am_cls s_4 a0) 12 (cI (cl_ tb_ct tb_mt B K_J5_isLatin1_aae02 [.ref a0] s_4) (fun x_6 s_5 => if x_6 = 0 then eA (gA tb_ct s_5 a0 12 0) (none) (fun b_7 => none) else eA (gA tb_ct s_5 a0 12 0) (cI (cl_ tb_ct tb_mt B K_J6_getChars_ba4f3 [.int x1, .int (x_1 + x_3), .null] s_5) (fun x_10 s_9 => eS (am_put tb_ct mm_J5_append_c97b9 B s_9 (.int (x_1 + x_3)) a0 12 3) (fun s_11 => some (.inl (some (.ref a0)), s_11))) xo) (fun b_8 => cI (cl_ tb_ct tb_mt B K_J6_getChars_ba4f3 [.int x1, .int (x_1 + x_3), .ref b_8] s_5) (fun x_13 s_12 => eS (am_put tb_ct mm_J5_append_c97b9 B s_12 (.int (x_1 + x_3)) a0 12 3) (fun s_14 => some (.inl (some (.ref a0)), s_14))) xo)) xo)) xo)) xo) := by
  refine Eq.trans (rn_go 1 (pc' := 1) (L' := [.ref a0, .int x1, am_un, am_un]) (st' := [.ref a0]) rfl) ?_
  refine Eq.trans (rn_gI (L' := [.ref a0, .int x1, am_un, am_un]) rfl rfl rfl rfl) ?_
  refine eI_c (fun x_1 => ?_)
  refine Eq.trans (rn_go 3 (pc' := 7) (L' := [.ref a0, .int x1, .int x_1, am_un]) (st' := [.int x1, .int x_1]) rfl) ?_
  refine Eq.trans (rn_sta (L' := [.ref a0, .int x1, .int x_1, am_un]) (as := [.int x1]) (rest := [.int x_1]) rfl rfl rfl rfl rfl (Nat.le_of_ble_eq_true rfl) (by decide) rfl) ?_
  refine Eq.trans (cW_I rfl rfl rfl) ?_
  refine cI_c (fun x_3 s_2 => ?_) (xh_nil rfl)
  refine Eq.trans (rn_go 4 (pc' := 14) (L' := [.ref a0, .int x1, .int x_1, .int (x_1 + x_3)]) (st' := [.int (x_1 + x_3), .ref a0]) rfl) ?_
  refine Eq.trans (rn_vir (L' := [.ref a0, .int x1, .int x_1, .int (x_1 + x_3)]) (as := [.int (x_1 + x_3)]) (rest := []) rfl rfl rfl rfl rfl (Nat.le_of_ble_eq_true rfl) (by decide) (by decide)) ?_
  refine eC_c ?_
  refine Eq.trans (cW_V rfl rfl) ?_
  refine cV_c (fun s_4 => ?_) (xh_nil rfl)
  refine Eq.trans (rn_go 1 (pc' := 18) (L' := [.ref a0, .int x1, .int x_1, .int (x_1 + x_3)]) (st' := [.ref a0]) rfl) ?_
  refine Eq.trans (rn_vir (L' := [.ref a0, .int x1, .int x_1, .int (x_1 + x_3)]) (as := []) (rest := []) rfl rfl rfl rfl rfl (Nat.le_of_ble_eq_true rfl) (by decide) (by decide)) ?_
  refine eC_c ?_
  refine Eq.trans (cW_I rfl rfl rfl) ?_
  refine cI_c (fun x_6 s_5 => ?_) (xh_nil rfl)
  refine Eq.trans (rn_ifeq (L' := [.ref a0, .int x1, .int x_1, .int (x_1 + x_3)]) rfl rfl) ?_
  refine if_c ?_ ?_
  · refine Eq.trans (rn_go 4 (pc' := 41) (L' := [.ref a0, .int x1, .int x_1, .int (x_1 + x_3)]) (st' := [.ref a0, .int (x_1 + x_3), .int x_1, .int x1]) rfl) ?_
    refine Eq.trans (rn_gA (L' := [.ref a0, .int x1, .int x_1, .int (x_1 + x_3)]) rfl rfl rfl rfl) ?_
    refine eA_c ?_ (fun b_7 => ?_)
    · exact rn_nolk rfl
    · exact rn_nolk rfl
  · refine Eq.trans (rn_go 3 (pc' := 27) (L' := [.ref a0, .int x1, .int x_1, .int (x_1 + x_3)]) (st' := [.ref a0, .int (x_1 + x_3), .int x1]) rfl) ?_
    refine Eq.trans (rn_gA (L' := [.ref a0, .int x1, .int x_1, .int (x_1 + x_3)]) rfl rfl rfl rfl) ?_
    refine eA_c ?_ (fun b_8 => ?_)
    · refine Eq.trans (rn_sta (L' := [.ref a0, .int x1, .int x_1, .int (x_1 + x_3)]) (as := [.int x1, .int (x_1 + x_3), .null]) (rest := []) rfl rfl rfl rfl rfl (Nat.le_of_ble_eq_true rfl) (by decide) rfl) ?_
      refine Eq.trans (cW_I rfl rfl rfl) ?_
      refine cI_c (fun x_10 s_9 => ?_) (xh_nil rfl)
      refine Eq.trans (rn_go 4 (pc' := 50) (L' := [.ref a0, .int x1, .int x_1, .int (x_1 + x_3)]) (st' := [.int (x_1 + x_3), .ref a0]) rfl) ?_
      refine Eq.trans (rn_pF (L' := [.ref a0, .int x1, .int x_1, .int (x_1 + x_3)]) rfl rfl) ?_
      refine eS_c (fun s_11 => ?_)
      refine Eq.trans (rn_go 1 (pc' := 54) (L' := [.ref a0, .int x1, .int x_1, .int (x_1 + x_3)]) (st' := [.ref a0]) rfl) ?_
      exact rn_retA rfl rfl rfl rfl
    · refine Eq.trans (rn_sta (L' := [.ref a0, .int x1, .int x_1, .int (x_1 + x_3)]) (as := [.int x1, .int (x_1 + x_3), .ref b_8]) (rest := []) rfl rfl rfl rfl rfl (Nat.le_of_ble_eq_true rfl) (by decide) rfl) ?_
      refine Eq.trans (cW_I rfl rfl rfl) ?_
      refine cI_c (fun x_13 s_12 => ?_) (xh_nil rfl)
      refine Eq.trans (rn_go 4 (pc' := 50) (L' := [.ref a0, .int x1, .int x_1, .int (x_1 + x_3)]) (st' := [.int (x_1 + x_3), .ref a0]) rfl) ?_
      refine Eq.trans (rn_pF (L' := [.ref a0, .int x1, .int x_1, .int (x_1 + x_3)]) rfl rfl) ?_
      refine eS_c (fun s_14 => ?_)
      refine Eq.trans (rn_go 1 (pc' := 54) (L' := [.ref a0, .int x1, .int x_1, .int (x_1 + x_3)]) (st' := [.ref a0]) rfl) ?_
      exact rn_retA rfl rfl rfl rfl
theorem in_J5_isLatin1_aae02 {B : Nat} (a0 : Nat) (s : am_S) : cl_ tb_ct tb_mt B K_J5_isLatin1_aae02 [.ref a0] s = rn_ tb_ct tb_mt B mm_J5_isLatin1_aae02 0 [.ref a0] [] s := cl_in rfl rfl rfl rfl
theorem dc_J5_isLatin1_aae02_0 {B : Nat} (a0 : Nat) (s : am_S) : rn_ tb_ct tb_mt B mm_J5_isLatin1_aae02 0 [.ref a0] [] s = eI (stI s 3) (fun x_1 => if x_1 = 0 then some (.inl (some (.int (0 : Int32))), s) else eI (gI tb_ct s a0 12 1) (fun x_2 => if x_2 = 0 then some (.inl (some (.int (1 : Int32))), s) else some (.inl (some (.int (0 : Int32))), s))) := by
  refine Eq.trans (rn_gsI (L' := [.ref a0]) rfl rfl) ?_
  refine eI_c (fun x_1 => ?_)
  refine Eq.trans (rn_ifeq (L' := [.ref a0]) rfl rfl) ?_
  refine if_c ?_ ?_
  · refine Eq.trans (rn_go 1 (pc' := 18) (L' := [.ref a0]) (st' := [.int (0 : Int32)]) rfl) ?_
    exact rn_retI rfl rfl rfl
  · refine Eq.trans (rn_go 1 (pc' := 7) (L' := [.ref a0]) (st' := [.ref a0]) rfl) ?_
    refine Eq.trans (rn_gI (L' := [.ref a0]) rfl rfl rfl rfl) ?_
    refine eI_c (fun x_2 => ?_)
    refine Eq.trans (rn_ifne (L' := [.ref a0]) rfl rfl) ?_
    refine if_c ?_ ?_
    · refine Eq.trans (rn_go 2 (pc' := 18) (L' := [.ref a0]) (st' := [.int (1 : Int32)]) rfl) ?_
      exact rn_retI rfl rfl rfl
    · refine Eq.trans (rn_go 1 (pc' := 18) (L' := [.ref a0]) (st' := [.int (0 : Int32)]) rfl) ?_
      exact rn_retI rfl rfl rfl
theorem in_J5_inflateIfNeededFor_a7421 {B : Nat} (a0 : Nat) (a1 : Nat) (s : am_S) : cl_ tb_ct tb_mt B K_J5_inflateIfNeededFor_a7421 [.ref a0, .ref a1] s = rn_ tb_ct tb_mt B mm_J5_inflateIfNeededFor_a7421 0 [.ref a0, .ref a1] [] s := cl_in rfl rfl rfl rfl
theorem dc_J5_inflateIfNeededFor_a7421_0 {B : Nat} (a0 : Nat) (a1 : Nat) (s : am_S) : rn_ tb_ct tb_mt B mm_J5_inflateIfNeededFor_a7421 0 [.ref a0, .ref a1] [] s = eI (stI s 3) (fun x_1 => if x_1 = 0 then some (.inl none, s) else eI (gI tb_ct s a0 12 1) (fun x_2 => eC (am_cls s a1) 13 (cI (cl_ tb_ct tb_mt B K_J0_coder_7d493 [.ref a1] s) (fun x_4 s_3 => if x_2 = x_4 then some (.inl none, s_3) else none) xo))) := by
  refine Eq.trans (rn_gsI (L' := [.ref a0, .ref a1]) rfl rfl) ?_
  refine eI_c (fun x_1 => ?_)
  refine Eq.trans (rn_ifeq (L' := [.ref a0, .ref a1]) rfl rfl) ?_
  refine if_c ?_ ?_
  · exact rn_retV rfl rfl
  · refine Eq.trans (rn_go 1 (pc' := 7) (L' := [.ref a0, .ref a1]) (st' := [.ref a0]) rfl) ?_
    refine Eq.trans (rn_gI (L' := [.ref a0, .ref a1]) rfl rfl rfl rfl) ?_
    refine eI_c (fun x_2 => ?_)
    refine Eq.trans (rn_go 1 (pc' := 11) (L' := [.ref a0, .ref a1]) (st' := [.ref a1, .int x_2]) rfl) ?_
    refine Eq.trans (rn_vir (L' := [.ref a0, .ref a1]) (as := []) (rest := [.int x_2]) rfl rfl rfl rfl rfl (Nat.le_of_ble_eq_true rfl) (by decide) (by decide)) ?_
    refine eC_c ?_
    refine Eq.trans (cW_I rfl rfl rfl) ?_
    refine cI_c (fun x_4 s_3 => ?_) (xh_nil rfl)
    refine Eq.trans (rn_iceq (L' := [.ref a0, .ref a1]) rfl rfl) ?_
    refine if_c ?_ ?_
    · exact rn_retV rfl rfl
    · refine Eq.trans (rn_go 1 (pc' := 18) (L' := [.ref a0, .ref a1]) (st' := [.ref a0]) rfl) ?_
      exact rn_nolk rfl
theorem in_J5_putStringAt_47b60 {B : Nat} (a0 : Nat) (x1 : Int32) (a2 : Nat) (s : am_S) : cl_ tb_ct tb_mt B K_J5_putStringAt_47b60 [.ref a0, .int x1, .ref a2] s = rn_ tb_ct tb_mt B mm_J5_putStringAt_47b60 0 [.ref a0, .int x1, .ref a2] [] s := cl_in rfl rfl rfl rfl
theorem dc_J5_putStringAt_47b60_0 {B : Nat} (a0 : Nat) (x1 : Int32) (a2 : Nat) (s : am_S) : rn_ tb_ct tb_mt B mm_J5_putStringAt_47b60 0 [.ref a0, .int x1, .ref a2] [] s = eC (am_cls s a0) 12 (cV (cl_ tb_ct tb_mt B K_J5_inflateIfNeededFor_a7421 [.ref a0, .ref a2] s) (fun s_1 => eA (gA tb_ct s_1 a0 12 0) (eI (gI tb_ct s_1 a0 12 1) (fun x_3 => eC (am_cls s_1 a2) 13 (cV (cl_ tb_ct tb_mt B K_J0_getBytes_840e7 [.ref a2, .null, .int x1, .int x_3] s_1) (fun s_4 => some (.inl none, s_4)) xo))) (fun b_2 => eI (gI tb_ct s_1 a0 12 1) (fun x_5 => eC (am_cls s_1 a2) 13 (cV (cl_ tb_ct tb_mt B K_J0_getBytes_840e7 [.ref a2, .ref b_2, .int x1, .int x_5] s_1) (fun s_6 => some (.inl none, s_6)) xo)))) xo) := by
  refine Eq.trans (rn_go 2 (pc' := 2) (L' := [.ref a0, .int x1, .ref a2]) (st' := [.ref a2, .ref a0]) rfl) ?_
  refine Eq.trans (rn_vir (L' := [.ref a0, .int x1, .ref a2]) (as := [.ref a2]) (rest := []) rfl rfl rfl rfl rfl (Nat.le_of_ble_eq_true rfl) (by decide) (by decide)) ?_
  refine eC_c ?_
  refine Eq.trans (cW_V rfl rfl) ?_
  refine cV_c (fun s_1 => ?_) (xh_nil rfl)
  refine Eq.trans (rn_go 2 (pc' := 7) (L' := [.ref a0, .int x1, .ref a2]) (st' := [.ref a0, .ref a2]) rfl) ?_
  refine Eq.trans (rn_gA (L' := [.ref a0, .int x1, .ref a2]) rfl rfl rfl rfl) ?_
  refine eA_c ?_ (fun b_2 => ?_)
  · refine Eq.trans (rn_go 2 (pc' := 12) (L' := [.ref a0, .int x1, .ref a2]) (st' := [.ref a0, .int x1, .null, .ref a2]) rfl) ?_
    refine Eq.trans (rn_gI (L' := [.ref a0, .int x1, .ref a2]) rfl rfl rfl rfl) ?_
    refine eI_c (fun x_3 => ?_)
    refine Eq.trans (rn_vir (L' := [.ref a0, .int x1, .ref a2]) (as := [.null, .int x1, .int x_3]) (rest := []) rfl rfl rfl rfl rfl (Nat.le_of_ble_eq_true rfl) (by decide) (by decide)) ?_
    refine eC_c ?_
    refine Eq.trans (cW_V rfl rfl) ?_
    refine cV_c (fun s_4 => ?_) (xh_nil rfl)
    exact rn_retV rfl rfl
  · refine Eq.trans (rn_go 2 (pc' := 12) (L' := [.ref a0, .int x1, .ref a2]) (st' := [.ref a0, .int x1, .ref b_2, .ref a2]) rfl) ?_
    refine Eq.trans (rn_gI (L' := [.ref a0, .int x1, .ref a2]) rfl rfl rfl rfl) ?_
    refine eI_c (fun x_5 => ?_)
    refine Eq.trans (rn_vir (L' := [.ref a0, .int x1, .ref a2]) (as := [.ref b_2, .int x1, .int x_5]) (rest := []) rfl rfl rfl rfl rfl (Nat.le_of_ble_eq_true rfl) (by decide) (by decide)) ?_
    refine eC_c ?_
    refine Eq.trans (cW_V rfl rfl) ?_
    refine cV_c (fun s_6 => ?_) (xh_nil rfl)
    exact rn_retV rfl rfl
theorem in_J6_getChars_ba4f3 {B : Nat} (x0 : Int32) (x1 : Int32) (a2 : Nat) (s : am_S) : cl_ tb_ct tb_mt B K_J6_getChars_ba4f3 [.int x0, .int x1, .ref a2] s = rn_ tb_ct tb_mt B mm_J6_getChars_ba4f3 0 [.int x0, .int x1, .ref a2, am_un, am_un, am_un, am_un] [] s := cl_in rfl rfl rfl rfl
theorem dc_J6_getChars_ba4f3_0 {B : Nat} (x0 : Int32) (x1 : Int32) (a2 : Nat) (s : am_S) : rn_ tb_ct tb_mt B mm_J6_getChars_ba4f3 0 [.int x0, .int x1, .ref a2, am_un, am_un, am_un, am_un] [] s = if 0 ≤ x0 then rn_ tb_ct tb_mt B mm_J6_getChars_ba4f3 12 [.int x0, .int x1, .ref a2, am_un, am_un, .int x1, am_un] [.int (0 : Int32)] s else rn_ tb_ct tb_mt B mm_J6_getChars_ba4f3 12 [.int x0, .int x1, .ref a2, am_un, am_un, .int x1, am_un] [.int (1 : Int32)] s := by
  refine Eq.trans (rn_go 3 (pc' := 4) (L' := [.int x0, .int x1, .ref a2, am_un, am_un, .int x1, am_un]) (st' := [.int x0]) rfl) ?_
  refine Eq.trans (rn_ifge (L' := [.int x0, .int x1, .ref a2, am_un, am_un, .int x1, am_un]) rfl rfl) ?_
  refine if_c ?_ ?_
  · exact rn_go 1 (pc' := 12) (L' := [.int x0, .int x1, .ref a2, am_un, am_un, .int x1, am_un]) (st' := [.int (0 : Int32)]) rfl
  · exact rn_go 2 (pc' := 12) (L' := [.int x0, .int x1, .ref a2, am_un, am_un, .int x1, am_un]) (st' := [.int (1 : Int32)]) rfl
theorem dc_J6_getChars_ba4f3_12 {B : Nat} (x0 : Int32) (w1 : Value) (a2 : Nat) (x5 : Int32) (xs0 : Int32) (s : am_S) : rn_ tb_ct tb_mt B mm_J6_getChars_ba4f3 12 [.int x0, w1, .ref a2, am_un, am_un, .int x5, am_un] [.int xs0] s = if xs0 = 0 then rn_ tb_ct tb_mt B mm_J6_getChars_ba4f3 22 [.int (-x0), am_un, .ref a2, am_un, am_un, .int x5, .int xs0] [] s else rn_ tb_ct tb_mt B mm_J6_getChars_ba4f3 22 [.int x0, am_un, .ref a2, am_un, am_un, .int x5, .int xs0] [] s := by
  refine Eq.trans (rn_go 2 (pc' := 16) (L' := [.int x0, am_un, .ref a2, am_un, am_un, .int x5, .int xs0]) (st' := [.int xs0]) rfl) ?_
  refine Eq.trans (rn_ifne (L' := [.int x0, am_un, .ref a2, am_un, am_un, .int x5, .int xs0]) rfl rfl) ?_
  refine if_c ?_ ?_
  · exact rn_go 3 (pc' := 22) (L' := [.int (-x0), am_un, .ref a2, am_un, am_un, .int x5, .int xs0]) (st' := []) rfl
  · rfl
theorem dc_J6_getChars_ba4f3_22 {B : Nat} (x0 : Int32) (a2 : Nat) (w3 : Value) (w4 : Value) (x5 : Int32) (x6 : Int32) (s : am_S) : rn_ tb_ct tb_mt B mm_J6_getChars_ba4f3 22 [.int x0, am_un, .ref a2, w3, w4, .int x5, .int x6] [] s = if (-(100 : Int32)) < x0 then eK (stR s 4) (fun b_1 => eI (aB s b_1 (-x0)) (fun x_2 => eS (wB B s a2 (x5 + (-(1 : Int32))) x_2) (fun s_3 => if (-(9 : Int32)) ≤ x0 then rn_ tb_ct tb_mt B mm_J6_getChars_ba4f3 104 [.int x0, am_un, .ref a2, am_un, am_un, .int (x5 + (-(1 : Int32))), .int x6] [] s_3 else eK (stR s_3 5) (fun b_4 => eI (aB s_3 b_4 (-x0)) (fun x_5 => eS (wB B s_3 a2 ((x5 + (-(1 : Int32))) + (-(1 : Int32))) x_5) (fun s_6 => rn_ tb_ct tb_mt B mm_J6_getChars_ba4f3 104 [.int x0, am_un, .ref a2, am_un, am_un, .int ((x5 + (-(1 : Int32))) + (-(1 : Int32))), .int x6] [] s_6)))))) else eK (stR s 4) (fun b_7 => eI (aB s b_7 (((x0 / (100 : Int32)) * (100 : Int32)) - x0)) (fun x_8 => eS (wB B s a2 (x5 + (-(1 : Int32))) x_8) (fun s_9 => eK (stR s_9 5) (fun b_10 => eI (aB s_9 b_10 (((x0 / (100 : Int32)) * (100 : Int32)) - x0)) (fun x_11 => eS (wB B s_9 a2 ((x5 + (-(1 : Int32))) + (-(1 : Int32))) x_11) (fun s_12 => rn_ tb_ct tb_mt B mm_J6_getChars_ba4f3 22 [.int (x0 / (100 : Int32)), am_un, .ref a2, .int (x0 / (100 : Int32)), .int (((x0 / (100 : Int32)) * (100 : Int32)) - x0), .int ((x5 + (-(1 : Int32))) + (-(1 : Int32))), .int x6] [] s_12)))))) := by
  refine Eq.trans (rn_go 2 (pc' := 25) (L' := [.int x0, am_un, .ref a2, am_un, am_un, .int x5, .int x6]) (st' := [.int (-(100 : Int32)), .int x0]) rfl) ?_
  refine Eq.trans (rn_icgt (L' := [.int x0, am_un, .ref a2, am_un, am_un, .int x5, .int x6]) rfl rfl) ?_
  refine if_c ?_ ?_
  · refine Eq.trans (rn_go 3 (pc' := 78) (L' := [.int x0, am_un, .ref a2, am_un, am_un, .int (x5 + (-(1 : Int32))), .int x6]) (st' := [.int (x5 + (-(1 : Int32))), .ref a2]) rfl) ?_
    refine Eq.trans (rn_gsR (L' := [.int x0, am_un, .ref a2, am_un, am_un, .int (x5 + (-(1 : Int32))), .int x6]) rfl rfl) ?_
    refine eK_c (fun b_1 => ?_)
    refine Eq.trans (rn_go 2 (pc' := 83) (L' := [.int x0, am_un, .ref a2, am_un, am_un, .int (x5 + (-(1 : Int32))), .int x6]) (st' := [.int (-x0), .ref b_1, .int (x5 + (-(1 : Int32))), .ref a2]) rfl) ?_
    refine Eq.trans (rn_aB (L' := [.int x0, am_un, .ref a2, am_un, am_un, .int (x5 + (-(1 : Int32))), .int x6]) rfl rfl) ?_
    refine eI_c (fun x_2 => ?_)
    refine Eq.trans (rn_wB (L' := [.int x0, am_un, .ref a2, am_un, am_un, .int (x5 + (-(1 : Int32))), .int x6]) rfl rfl) ?_
    refine eS_c (fun s_3 => ?_)
    refine Eq.trans (rn_go 2 (pc' := 88) (L' := [.int x0, am_un, .ref a2, am_un, am_un, .int (x5 + (-(1 : Int32))), .int x6]) (st' := [.int (-(9 : Int32)), .int x0]) rfl) ?_
    refine Eq.trans (rn_icge (L' := [.int x0, am_un, .ref a2, am_un, am_un, .int (x5 + (-(1 : Int32))), .int x6]) rfl rfl) ?_
    refine if_c ?_ ?_
    · rfl
    · refine Eq.trans (rn_go 3 (pc' := 97) (L' := [.int x0, am_un, .ref a2, am_un, am_un, .int ((x5 + (-(1 : Int32))) + (-(1 : Int32))), .int x6]) (st' := [.int ((x5 + (-(1 : Int32))) + (-(1 : Int32))), .ref a2]) rfl) ?_
      refine Eq.trans (rn_gsR (L' := [.int x0, am_un, .ref a2, am_un, am_un, .int ((x5 + (-(1 : Int32))) + (-(1 : Int32))), .int x6]) rfl rfl) ?_
      refine eK_c (fun b_4 => ?_)
      refine Eq.trans (rn_go 2 (pc' := 102) (L' := [.int x0, am_un, .ref a2, am_un, am_un, .int ((x5 + (-(1 : Int32))) + (-(1 : Int32))), .int x6]) (st' := [.int (-x0), .ref b_4, .int ((x5 + (-(1 : Int32))) + (-(1 : Int32))), .ref a2]) rfl) ?_
      refine Eq.trans (rn_aB (L' := [.int x0, am_un, .ref a2, am_un, am_un, .int ((x5 + (-(1 : Int32))) + (-(1 : Int32))), .int x6]) rfl rfl) ?_
      refine eI_c (fun x_5 => ?_)
      refine Eq.trans (rn_wB (L' := [.int x0, am_un, .ref a2, am_un, am_un, .int ((x5 + (-(1 : Int32))) + (-(1 : Int32))), .int x6]) rfl rfl) ?_
      refine eS_c (fun s_6 => ?_)
      rfl
  · refine Eq.trans (rn_go 15 (pc' := 49) (L' := [.int (x0 / (100 : Int32)), am_un, .ref a2, .int (x0 / (100 : Int32)), .int (((x0 / (100 : Int32)) * (100 : Int32)) - x0), .int (x5 + (-(1 : Int32))), .int x6]) (st' := [.int (x5 + (-(1 : Int32))), .ref a2]) rfl) ?_
    refine Eq.trans (rn_gsR (L' := [.int (x0 / (100 : Int32)), am_un, .ref a2, .int (x0 / (100 : Int32)), .int (((x0 / (100 : Int32)) * (100 : Int32)) - x0), .int (x5 + (-(1 : Int32))), .int x6]) rfl rfl) ?_
    refine eK_c (fun b_7 => ?_)
    refine Eq.trans (rn_go 1 (pc' := 54) (L' := [.int (x0 / (100 : Int32)), am_un, .ref a2, .int (x0 / (100 : Int32)), .int (((x0 / (100 : Int32)) * (100 : Int32)) - x0), .int (x5 + (-(1 : Int32))), .int x6]) (st' := [.int (((x0 / (100 : Int32)) * (100 : Int32)) - x0), .ref b_7, .int (x5 + (-(1 : Int32))), .ref a2]) rfl) ?_
    refine Eq.trans (rn_aB (L' := [.int (x0 / (100 : Int32)), am_un, .ref a2, .int (x0 / (100 : Int32)), .int (((x0 / (100 : Int32)) * (100 : Int32)) - x0), .int (x5 + (-(1 : Int32))), .int x6]) rfl rfl) ?_
    refine eI_c (fun x_8 => ?_)
    refine Eq.trans (rn_wB (L' := [.int (x0 / (100 : Int32)), am_un, .ref a2, .int (x0 / (100 : Int32)), .int (((x0 / (100 : Int32)) * (100 : Int32)) - x0), .int (x5 + (-(1 : Int32))), .int x6]) rfl rfl) ?_
    refine eS_c (fun s_9 => ?_)
    refine Eq.trans (rn_go 3 (pc' := 62) (L' := [.int (x0 / (100 : Int32)), am_un, .ref a2, .int (x0 / (100 : Int32)), .int (((x0 / (100 : Int32)) * (100 : Int32)) - x0), .int ((x5 + (-(1 : Int32))) + (-(1 : Int32))), .int x6]) (st' := [.int ((x5 + (-(1 : Int32))) + (-(1 : Int32))), .ref a2]) rfl) ?_
    refine Eq.trans (rn_gsR (L' := [.int (x0 / (100 : Int32)), am_un, .ref a2, .int (x0 / (100 : Int32)), .int (((x0 / (100 : Int32)) * (100 : Int32)) - x0), .int ((x5 + (-(1 : Int32))) + (-(1 : Int32))), .int x6]) rfl rfl) ?_
    refine eK_c (fun b_10 => ?_)
    refine Eq.trans (rn_go 1 (pc' := 67) (L' := [.int (x0 / (100 : Int32)), am_un, .ref a2, .int (x0 / (100 : Int32)), .int (((x0 / (100 : Int32)) * (100 : Int32)) - x0), .int ((x5 + (-(1 : Int32))) + (-(1 : Int32))), .int x6]) (st' := [.int (((x0 / (100 : Int32)) * (100 : Int32)) - x0), .ref b_10, .int ((x5 + (-(1 : Int32))) + (-(1 : Int32))), .ref a2]) rfl) ?_
    refine Eq.trans (rn_aB (L' := [.int (x0 / (100 : Int32)), am_un, .ref a2, .int (x0 / (100 : Int32)), .int (((x0 / (100 : Int32)) * (100 : Int32)) - x0), .int ((x5 + (-(1 : Int32))) + (-(1 : Int32))), .int x6]) rfl rfl) ?_
    refine eI_c (fun x_11 => ?_)
    refine Eq.trans (rn_wB (L' := [.int (x0 / (100 : Int32)), am_un, .ref a2, .int (x0 / (100 : Int32)), .int (((x0 / (100 : Int32)) * (100 : Int32)) - x0), .int ((x5 + (-(1 : Int32))) + (-(1 : Int32))), .int x6]) rfl rfl) ?_
    refine eS_c (fun s_12 => ?_)
    exact rn_go 1 (pc' := 22) (L' := [.int (x0 / (100 : Int32)), am_un, .ref a2, .int (x0 / (100 : Int32)), .int (((x0 / (100 : Int32)) * (100 : Int32)) - x0), .int ((x5 + (-(1 : Int32))) + (-(1 : Int32))), .int x6]) (st' := []) rfl
theorem dc_J6_getChars_ba4f3_104 {B : Nat} (w0 : Value) (a2 : Nat) (x5 : Int32) (x6 : Int32) (s : am_S) : rn_ tb_ct tb_mt B mm_J6_getChars_ba4f3 104 [w0, am_un, .ref a2, am_un, am_un, .int x5, .int x6] [] s = if x6 = 0 then some (.inl (some (.int x5)), s) else eS (wB B s a2 (x5 + (-(1 : Int32))) (45 : Int32)) (fun s_1 => some (.inl (some (.int (x5 + (-(1 : Int32))))), s_1)) := by
  refine Eq.trans (rn_go 1 (pc' := 106) (L' := [am_un, am_un, .ref a2, am_un, am_un, .int x5, .int x6]) (st' := [.int x6]) rfl) ?_
  refine Eq.trans (rn_ifeq (L' := [am_un, am_un, .ref a2, am_un, am_un, .int x5, .int x6]) rfl rfl) ?_
  refine if_c ?_ ?_
  · refine Eq.trans (rn_go 1 (pc' := 120) (L' := [am_un, am_un, .ref a2, am_un, am_un, .int x5, .int x6]) (st' := [.int x5]) rfl) ?_
    exact rn_retI rfl rfl rfl
  · refine Eq.trans (rn_go 4 (pc' := 117) (L' := [am_un, am_un, .ref a2, am_un, am_un, .int (x5 + (-(1 : Int32))), .int x6]) (st' := [.int (45 : Int32), .int (x5 + (-(1 : Int32))), .ref a2]) rfl) ?_
    refine Eq.trans (rn_wB (L' := [am_un, am_un, .ref a2, am_un, am_un, .int (x5 + (-(1 : Int32))), .int x6]) rfl rfl) ?_
    refine eS_c (fun s_1 => ?_)
    refine Eq.trans (rn_go 1 (pc' := 120) (L' := [am_un, am_un, .ref a2, am_un, am_un, .int (x5 + (-(1 : Int32))), .int x6]) (st' := [.int (x5 + (-(1 : Int32)))]) rfl) ?_
    exact rn_retI rfl rfl rfl
theorem in_J6_stringSize_0f7a4 {B : Nat} (x0 : Int32) (s : am_S) : cl_ tb_ct tb_mt B K_J6_stringSize_0f7a4 [.int x0] s = rn_ tb_ct tb_mt B mm_J6_stringSize_0f7a4 0 [.int x0, am_un, am_un, am_un] [] s := cl_in rfl rfl rfl rfl
theorem dc_J6_stringSize_0f7a4_0 {B : Nat} (x0 : Int32) (s : am_S) : rn_ tb_ct tb_mt B mm_J6_stringSize_0f7a4 0 [.int x0, am_un, am_un, am_un] [] s = if x0 < 0 then rn_ tb_ct tb_mt B mm_J6_stringSize_0f7a4 11 [.int x0, .int (1 : Int32), am_un, am_un] [] s else rn_ tb_ct tb_mt B mm_J6_stringSize_0f7a4 11 [.int (-x0), .int (0 : Int32), am_un, am_un] [] s := by
  refine Eq.trans (rn_go 3 (pc' := 3) (L' := [.int x0, .int (1 : Int32), am_un, am_un]) (st' := [.int x0]) rfl) ?_
  refine Eq.trans (rn_iflt (L' := [.int x0, .int (1 : Int32), am_un, am_un]) rfl rfl) ?_
  refine if_c ?_ ?_
  · rfl
  · exact rn_go 5 (pc' := 11) (L' := [.int (-x0), .int (0 : Int32), am_un, am_un]) (st' := []) rfl
theorem dc_J6_stringSize_0f7a4_11 {B : Nat} (x0 : Int32) (x1 : Int32) (s : am_S) : rn_ tb_ct tb_mt B mm_J6_stringSize_0f7a4 11 [.int x0, .int x1, am_un, am_un] [] s = rn_ tb_ct tb_mt B mm_J6_stringSize_0f7a4 16 [.int x0, .int x1, .int (-(10 : Int32)), .int (1 : Int32)] [] s := by
  exact rn_go 4 (pc' := 16) (L' := [.int x0, .int x1, .int (-(10 : Int32)), .int (1 : Int32)]) (st' := []) rfl
theorem dc_J6_stringSize_0f7a4_16 {B : Nat} (x0 : Int32) (x1 : Int32) (x2 : Int32) (x3 : Int32) (s : am_S) : rn_ tb_ct tb_mt B mm_J6_stringSize_0f7a4 16 [.int x0, .int x1, .int x2, .int x3] [] s = if (10 : Int32) ≤ x3 then some (.inl (some (.int ((10 : Int32) + x1))), s) else if x0 ≤ x2 then rn_ tb_ct tb_mt B mm_J6_stringSize_0f7a4 16 [.int x0, .int x1, .int ((10 : Int32) * x2), .int (x3 + (1 : Int32))] [] s else some (.inl (some (.int (x3 + x1))), s) := by
  refine Eq.trans (rn_go 2 (pc' := 19) (L' := [.int x0, .int x1, .int x2, .int x3]) (st' := [.int (10 : Int32), .int x3]) rfl) ?_
  refine Eq.trans (rn_icge (L' := [.int x0, .int x1, .int x2, .int x3]) rfl rfl) ?_
  refine if_c ?_ ?_
  · refine Eq.trans (rn_go 3 (pc' := 46) (L' := [.int x0, .int x1, .int x2, .int x3]) (st' := [.int ((10 : Int32) + x1)]) rfl) ?_
    exact rn_retI rfl rfl rfl
  · refine Eq.trans (rn_go 2 (pc' := 24) (L' := [.int x0, .int x1, .int x2, .int x3]) (st' := [.int x2, .int x0]) rfl) ?_
    refine Eq.trans (rn_icle (L' := [.int x0, .int x1, .int x2, .int x3]) rfl rfl) ?_
    refine if_c ?_ ?_
    · exact rn_go 6 (pc' := 16) (L' := [.int x0, .int x1, .int ((10 : Int32) * x2), .int (x3 + (1 : Int32))]) (st' := []) rfl
    · refine Eq.trans (rn_go 3 (pc' := 30) (L' := [.int x0, .int x1, .int x2, .int x3]) (st' := [.int (x3 + x1)]) rfl) ?_
      exact rn_retI rfl rfl rfl
theorem in_J0_length_8abf5 {B : Nat} (a0 : Nat) (s : am_S) : cl_ tb_ct tb_mt B K_J0_length_8abf5 [.ref a0] s = rn_ tb_ct tb_mt B mm_J0_length_8abf5 0 [.ref a0] [] s := cl_in rfl rfl rfl rfl
theorem dc_J0_length_8abf5_0 {B : Nat} (a0 : Nat) (s : am_S) : rn_ tb_ct tb_mt B mm_J0_length_8abf5 0 [.ref a0] [] s = eA (gA tb_ct s a0 13 0) (none) (fun b_1 => eK (am_len s b_1) (fun n_2 => eC (am_cls s a0) 13 (cI (cl_ tb_ct tb_mt B K_J0_coder_7d493 [.ref a0] s) (fun x_4 s_3 => some (.inl (some (.int ((Int32.ofNat n_2) >>> (x_4 &&& 31)))), s_3)) xo))) := by
  refine Eq.trans (rn_go 1 (pc' := 1) (L' := [.ref a0]) (st' := [.ref a0]) rfl) ?_
  refine Eq.trans (rn_gA (L' := [.ref a0]) rfl rfl rfl rfl) ?_
  refine eA_c ?_ (fun b_1 => ?_)
  · exact rn_z rfl rfl
  · refine Eq.trans (rn_al (L' := [.ref a0]) rfl rfl) ?_
    refine eK_c (fun n_2 => ?_)
    refine Eq.trans (rn_go 1 (pc' := 6) (L' := [.ref a0]) (st' := [.ref a0, .int (Int32.ofNat n_2)]) rfl) ?_
    refine Eq.trans (rn_vir (L' := [.ref a0]) (as := []) (rest := [.int (Int32.ofNat n_2)]) rfl rfl rfl rfl rfl (Nat.le_of_ble_eq_true rfl) (by decide) (by decide)) ?_
    refine eC_c ?_
    refine Eq.trans (cW_I rfl rfl rfl) ?_
    refine cI_c (fun x_4 s_3 => ?_) (xh_nil rfl)
    refine Eq.trans (rn_go 1 (pc' := 10) (L' := [.ref a0]) (st' := [.int ((Int32.ofNat n_2) >>> (x_4 &&& 31))]) rfl) ?_
    exact rn_retI rfl rfl rfl
theorem in_J0_charAt_5068e {B : Nat} (a0 : Nat) (x1 : Int32) (s : am_S) : cl_ tb_ct tb_mt B K_J0_charAt_5068e [.ref a0, .int x1] s = rn_ tb_ct tb_mt B mm_J0_charAt_5068e 0 [.ref a0, .int x1] [] s := cl_in rfl rfl rfl rfl
theorem dc_J0_charAt_5068e_0 {B : Nat} (a0 : Nat) (x1 : Int32) (s : am_S) : rn_ tb_ct tb_mt B mm_J0_charAt_5068e 0 [.ref a0, .int x1] [] s = eC (am_cls s a0) 13 (cI (cl_ tb_ct tb_mt B K_J0_isLatin1_aae02 [.ref a0] s) (fun x_2 s_1 => if x_2 = 0 then eA (gA tb_ct s_1 a0 13 0) (none) (fun b_3 => none) else eA (gA tb_ct s_1 a0 13 0) (cI (cl_ tb_ct tb_mt B K_J1_charAt_3b067 [.null, .int x1] s_1) (fun x_6 s_5 => rtI .char x_6 s_5) xo) (fun b_4 => cI (cl_ tb_ct tb_mt B K_J1_charAt_3b067 [.ref b_4, .int x1] s_1) (fun x_8 s_7 => rtI .char x_8 s_7) xo)) xo) := by
  refine Eq.trans (rn_go 1 (pc' := 1) (L' := [.ref a0, .int x1]) (st' := [.ref a0]) rfl) ?_
  refine Eq.trans (rn_vir (L' := [.ref a0, .int x1]) (as := []) (rest := []) rfl rfl rfl rfl rfl (Nat.le_of_ble_eq_true rfl) (by decide) (by decide)) ?_
  refine eC_c ?_
  refine Eq.trans (cW_I rfl rfl rfl) ?_
  refine cI_c (fun x_2 s_1 => ?_) (xh_nil rfl)
  refine Eq.trans (rn_ifeq (L' := [.ref a0, .int x1]) rfl rfl) ?_
  refine if_c ?_ ?_
  · refine Eq.trans (rn_go 1 (pc' := 17) (L' := [.ref a0, .int x1]) (st' := [.ref a0]) rfl) ?_
    refine Eq.trans (rn_gA (L' := [.ref a0, .int x1]) rfl rfl rfl rfl) ?_
    refine eA_c ?_ (fun b_3 => ?_)
    · refine Eq.trans (rn_go 1 (pc' := 21) (L' := [.ref a0, .int x1]) (st' := [.int x1, .null]) rfl) ?_
      exact rn_nolk rfl
    · refine Eq.trans (rn_go 1 (pc' := 21) (L' := [.ref a0, .int x1]) (st' := [.int x1, .ref b_3]) rfl) ?_
      exact rn_nolk rfl
  · refine Eq.trans (rn_go 1 (pc' := 8) (L' := [.ref a0, .int x1]) (st' := [.ref a0]) rfl) ?_
    refine Eq.trans (rn_gA (L' := [.ref a0, .int x1]) rfl rfl rfl rfl) ?_
    refine eA_c ?_ (fun b_4 => ?_)
    · refine Eq.trans (rn_go 1 (pc' := 12) (L' := [.ref a0, .int x1]) (st' := [.int x1, .null]) rfl) ?_
      refine Eq.trans (rn_sta (L' := [.ref a0, .int x1]) (as := [.null, .int x1]) (rest := []) rfl rfl rfl rfl rfl (Nat.le_of_ble_eq_true rfl) (by decide) rfl) ?_
      refine Eq.trans (cW_I rfl rfl rfl) ?_
      refine cI_c (fun x_6 s_5 => ?_) (xh_nil rfl)
      exact rn_rtI rfl rfl
    · refine Eq.trans (rn_go 1 (pc' := 12) (L' := [.ref a0, .int x1]) (st' := [.int x1, .ref b_4]) rfl) ?_
      refine Eq.trans (rn_sta (L' := [.ref a0, .int x1]) (as := [.ref b_4, .int x1]) (rest := []) rfl rfl rfl rfl rfl (Nat.le_of_ble_eq_true rfl) (by decide) rfl) ?_
      refine Eq.trans (cW_I rfl rfl rfl) ?_
      refine cI_c (fun x_8 s_7 => ?_) (xh_nil rfl)
      exact rn_rtI rfl rfl
theorem in_J0_getBytes_840e7 {B : Nat} (a0 : Nat) (a1 : Nat) (x2 : Int32) (x3 : Int32) (s : am_S) : cl_ tb_ct tb_mt B K_J0_getBytes_840e7 [.ref a0, .ref a1, .int x2, .int x3] s = rn_ tb_ct tb_mt B mm_J0_getBytes_840e7 0 [.ref a0, .ref a1, .int x2, .int x3] [] s := cl_in rfl rfl rfl rfl
theorem dc_J0_getBytes_840e7_0 {B : Nat} (a0 : Nat) (a1 : Nat) (x2 : Int32) (x3 : Int32) (s : am_S) : rn_ tb_ct tb_mt B mm_J0_getBytes_840e7 0 [.ref a0, .ref a1, .int x2, .int x3] [] s = eC (am_cls s a0) 13 (cI (cl_ tb_ct tb_mt B K_J0_coder_7d493 [.ref a0] s) (fun x_2 s_1 => if x_2 = x3 then eA (gA tb_ct s_1 a0 13 0) (eA (gA tb_ct s_1 a0 13 0) (none) (fun b_4 => eK (am_len s_1 b_4) (fun n_5 => none))) (fun b_3 => eA (gA tb_ct s_1 a0 13 0) (none) (fun b_6 => eK (am_len s_1 b_6) (fun n_7 => eS (wC B .byte s_1 b_3 (0 : Int32) a1 (x2 <<< (x3 &&& 31)) (Int32.ofNat n_7)) (fun s_8 => some (.inl none, s_8))))) else eA (gA tb_ct s_1 a0 13 0) (eA (gA tb_ct s_1 a0 13 0) (none) (fun b_10 => eK (am_len s_1 b_10) (fun n_11 => none))) (fun b_9 => eA (gA tb_ct s_1 a0 13 0) (none) (fun b_12 => eK (am_len s_1 b_12) (fun n_13 => none)))) xo) := by
  refine Eq.trans (rn_go 1 (pc' := 1) (L' := [.ref a0, .ref a1, .int x2, .int x3]) (st' := [.ref a0]) rfl) ?_
  refine Eq.trans (rn_vir (L' := [.ref a0, .ref a1, .int x2, .int x3]) (as := []) (rest := []) rfl rfl rfl rfl rfl (Nat.le_of_ble_eq_true rfl) (by decide) (by decide)) ?_
  refine eC_c ?_
  refine Eq.trans (cW_I rfl rfl rfl) ?_
  refine cI_c (fun x_2 s_1 => ?_) (xh_nil rfl)
  refine Eq.trans (rn_go 1 (pc' := 5) (L' := [.ref a0, .ref a1, .int x2, .int x3]) (st' := [.int x3, .int x_2]) rfl) ?_
  refine Eq.trans (rn_icne (L' := [.ref a0, .ref a1, .int x2, .int x3]) rfl rfl) ?_
  refine if_c ?_ ?_
  · refine Eq.trans (rn_go 1 (pc' := 9) (L' := [.ref a0, .ref a1, .int x2, .int x3]) (st' := [.ref a0]) rfl) ?_
    refine Eq.trans (rn_gA (L' := [.ref a0, .ref a1, .int x2, .int x3]) rfl rfl rfl rfl) ?_
    refine eA_c ?_ (fun b_3 => ?_)
    · refine Eq.trans (rn_go 6 (pc' := 18) (L' := [.ref a0, .ref a1, .int x2, .int x3]) (st' := [.ref a0, .int (x2 <<< (x3 &&& 31)), .ref a1, .int (0 : Int32), .null]) rfl) ?_
      refine Eq.trans (rn_gA (L' := [.ref a0, .ref a1, .int x2, .int x3]) rfl rfl rfl rfl) ?_
      refine eA_c ?_ (fun b_4 => ?_)
      · exact rn_z rfl rfl
      · refine Eq.trans (rn_al (L' := [.ref a0, .ref a1, .int x2, .int x3]) rfl rfl) ?_
        refine eK_c (fun n_5 => ?_)
        exact rn_z rfl rfl
    · refine Eq.trans (rn_go 6 (pc' := 18) (L' := [.ref a0, .ref a1, .int x2, .int x3]) (st' := [.ref a0, .int (x2 <<< (x3 &&& 31)), .ref a1, .int (0 : Int32), .ref b_3]) rfl) ?_
      refine Eq.trans (rn_gA (L' := [.ref a0, .ref a1, .int x2, .int x3]) rfl rfl rfl rfl) ?_
      refine eA_c ?_ (fun b_6 => ?_)
      · exact rn_z rfl rfl
      · refine Eq.trans (rn_al (L' := [.ref a0, .ref a1, .int x2, .int x3]) rfl rfl) ?_
        refine eK_c (fun n_7 => ?_)
        refine Eq.trans (rn_cp (L' := [.ref a0, .ref a1, .int x2, .int x3]) (ty := .byte) rfl rfl (by decide) (Nat.le_of_ble_eq_true rfl)) ?_
        refine eS_c (fun s_8 => ?_)
        refine Eq.trans (rn_go 1 (pc' := 43) (L' := [.ref a0, .ref a1, .int x2, .int x3]) (st' := []) rfl) ?_
        exact rn_retV rfl rfl
  · refine Eq.trans (rn_go 1 (pc' := 29) (L' := [.ref a0, .ref a1, .int x2, .int x3]) (st' := [.ref a0]) rfl) ?_
    refine Eq.trans (rn_gA (L' := [.ref a0, .ref a1, .int x2, .int x3]) rfl rfl rfl rfl) ?_
    refine eA_c ?_ (fun b_9 => ?_)
    · refine Eq.trans (rn_go 4 (pc' := 36) (L' := [.ref a0, .ref a1, .int x2, .int x3]) (st' := [.ref a0, .int x2, .ref a1, .int (0 : Int32), .null]) rfl) ?_
      refine Eq.trans (rn_gA (L' := [.ref a0, .ref a1, .int x2, .int x3]) rfl rfl rfl rfl) ?_
      refine eA_c ?_ (fun b_10 => ?_)
      · exact rn_z rfl rfl
      · refine Eq.trans (rn_al (L' := [.ref a0, .ref a1, .int x2, .int x3]) rfl rfl) ?_
        refine eK_c (fun n_11 => ?_)
        exact rn_nolk rfl
    · refine Eq.trans (rn_go 4 (pc' := 36) (L' := [.ref a0, .ref a1, .int x2, .int x3]) (st' := [.ref a0, .int x2, .ref a1, .int (0 : Int32), .ref b_9]) rfl) ?_
      refine Eq.trans (rn_gA (L' := [.ref a0, .ref a1, .int x2, .int x3]) rfl rfl rfl rfl) ?_
      refine eA_c ?_ (fun b_12 => ?_)
      · exact rn_z rfl rfl
      · refine Eq.trans (rn_al (L' := [.ref a0, .ref a1, .int x2, .int x3]) rfl rfl) ?_
        refine eK_c (fun n_13 => ?_)
        exact rn_nolk rfl
theorem in_J0_coder_7d493 {B : Nat} (a0 : Nat) (s : am_S) : cl_ tb_ct tb_mt B K_J0_coder_7d493 [.ref a0] s = rn_ tb_ct tb_mt B mm_J0_coder_7d493 0 [.ref a0] [] s := cl_in rfl rfl rfl rfl
theorem dc_J0_coder_7d493_0 {B : Nat} (a0 : Nat) (s : am_S) : rn_ tb_ct tb_mt B mm_J0_coder_7d493 0 [.ref a0] [] s = eI (stI s 3) (fun x_1 => if x_1 = 0 then rtI .byte (1 : Int32) s else eI (gI tb_ct s a0 13 1) (fun x_2 => rtI .byte x_2 s)) := by
  refine Eq.trans (rn_gsI (L' := [.ref a0]) rfl rfl) ?_
  refine eI_c (fun x_1 => ?_)
  refine Eq.trans (rn_ifeq (L' := [.ref a0]) rfl rfl) ?_
  refine if_c ?_ ?_
  · refine Eq.trans (rn_go 1 (pc' := 14) (L' := [.ref a0]) (st' := [.int (1 : Int32)]) rfl) ?_
    exact rn_rtI rfl rfl
  · refine Eq.trans (rn_go 1 (pc' := 7) (L' := [.ref a0]) (st' := [.ref a0]) rfl) ?_
    refine Eq.trans (rn_gI (L' := [.ref a0]) rfl rfl rfl rfl) ?_
    refine eI_c (fun x_2 => ?_)
    refine Eq.trans (rn_go 1 (pc' := 14) (L' := [.ref a0]) (st' := [.int x_2]) rfl) ?_
    exact rn_rtI rfl rfl
theorem in_J0_isLatin1_aae02 {B : Nat} (a0 : Nat) (s : am_S) : cl_ tb_ct tb_mt B K_J0_isLatin1_aae02 [.ref a0] s = rn_ tb_ct tb_mt B mm_J0_isLatin1_aae02 0 [.ref a0] [] s := cl_in rfl rfl rfl rfl
theorem dc_J0_isLatin1_aae02_0 {B : Nat} (a0 : Nat) (s : am_S) : rn_ tb_ct tb_mt B mm_J0_isLatin1_aae02 0 [.ref a0] [] s = eI (stI s 3) (fun x_1 => if x_1 = 0 then some (.inl (some (.int (0 : Int32))), s) else eI (gI tb_ct s a0 13 1) (fun x_2 => if x_2 = 0 then some (.inl (some (.int (1 : Int32))), s) else some (.inl (some (.int (0 : Int32))), s))) := by
  refine Eq.trans (rn_gsI (L' := [.ref a0]) rfl rfl) ?_
  refine eI_c (fun x_1 => ?_)
  refine Eq.trans (rn_ifeq (L' := [.ref a0]) rfl rfl) ?_
  refine if_c ?_ ?_
  · refine Eq.trans (rn_go 1 (pc' := 18) (L' := [.ref a0]) (st' := [.int (0 : Int32)]) rfl) ?_
    exact rn_retI rfl rfl rfl
  · refine Eq.trans (rn_go 1 (pc' := 7) (L' := [.ref a0]) (st' := [.ref a0]) rfl) ?_
    refine Eq.trans (rn_gI (L' := [.ref a0]) rfl rfl rfl rfl) ?_
    refine eI_c (fun x_2 => ?_)
    refine Eq.trans (rn_ifne (L' := [.ref a0]) rfl rfl) ?_
    refine if_c ?_ ?_
    · refine Eq.trans (rn_go 2 (pc' := 18) (L' := [.ref a0]) (st' := [.int (1 : Int32)]) rfl) ?_
      exact rn_retI rfl rfl rfl
    · refine Eq.trans (rn_go 1 (pc' := 18) (L' := [.ref a0]) (st' := [.int (0 : Int32)]) rfl) ?_
      exact rn_retI rfl rfl rfl
theorem in_J0_checkIndex_df160 {B : Nat} (x0 : Int32) (x1 : Int32) (s : am_S) : cl_ tb_ct tb_mt B K_J0_checkIndex_df160 [.int x0, .int x1] s = rn_ tb_ct tb_mt B mm_J0_checkIndex_df160 0 [.int x0, .int x1] [] s := cl_in rfl rfl rfl rfl
theorem dc_J0_checkIndex_df160_0 {B : Nat} (x0 : Int32) (x1 : Int32) (s : am_S) : rn_ tb_ct tb_mt B mm_J0_checkIndex_df160 0 [.int x0, .int x1] [] s = eA (stA s 6) (cI (cl_ tb_ct tb_mt B K_J3_checkIndex_8e157 [.int x0, .int x1, .null] s) (fun x_3 s_2 => some (.inl none, s_2)) xo) (fun b_1 => cI (cl_ tb_ct tb_mt B K_J3_checkIndex_8e157 [.int x0, .int x1, .ref b_1] s) (fun x_5 s_4 => some (.inl none, s_4)) xo) := by
  refine Eq.trans (rn_go 2 (pc' := 2) (L' := [.int x0, .int x1]) (st' := [.int x1, .int x0]) rfl) ?_
  refine Eq.trans (rn_gsA (L' := [.int x0, .int x1]) rfl rfl) ?_
  refine eA_c ?_ (fun b_1 => ?_)
  · refine Eq.trans (rn_sta (L' := [.int x0, .int x1]) (as := [.int x0, .int x1, .null]) (rest := []) rfl rfl rfl rfl rfl (Nat.le_of_ble_eq_true rfl) (by decide) rfl) ?_
    refine Eq.trans (cW_I rfl rfl rfl) ?_
    refine cI_c (fun x_3 s_2 => ?_) (xh_nil rfl)
    refine Eq.trans (rn_go 1 (pc' := 9) (L' := [.int x0, .int x1]) (st' := []) rfl) ?_
    exact rn_retV rfl rfl
  · refine Eq.trans (rn_sta (L' := [.int x0, .int x1]) (as := [.int x0, .int x1, .ref b_1]) (rest := []) rfl rfl rfl rfl rfl (Nat.le_of_ble_eq_true rfl) (by decide) rfl) ?_
    refine Eq.trans (cW_I rfl rfl rfl) ?_
    refine cI_c (fun x_5 s_4 => ?_) (xh_nil rfl)
    refine Eq.trans (rn_go 1 (pc' := 9) (L' := [.int x0, .int x1]) (st' := []) rfl) ?_
    exact rn_retV rfl rfl
theorem in_J1_charAt_3b067 {B : Nat} (a0 : Nat) (x1 : Int32) (s : am_S) : cl_ tb_ct tb_mt B K_J1_charAt_3b067 [.ref a0, .int x1] s = rn_ tb_ct tb_mt B mm_J1_charAt_3b067 0 [.ref a0, .int x1] [] s := cl_in rfl rfl rfl rfl
theorem dc_J1_charAt_3b067_0 {B : Nat} (a0 : Nat) (x1 : Int32) (s : am_S) : rn_ tb_ct tb_mt B mm_J1_charAt_3b067 0 [.ref a0, .int x1] [] s = eK (am_len s a0) (fun n_1 => cV (cl_ tb_ct tb_mt B K_J0_checkIndex_df160 [.int x1, .int (Int32.ofNat n_1)] s) (fun s_2 => eI (aB s_2 a0 x1) (fun x_3 => rtI .char (((x_3 &&& (255 : Int32)).toUInt32 % 65536).toInt32) s_2)) xo) := by
  refine Eq.trans (rn_go 2 (pc' := 2) (L' := [.ref a0, .int x1]) (st' := [.ref a0, .int x1]) rfl) ?_
  refine Eq.trans (rn_al (L' := [.ref a0, .int x1]) rfl rfl) ?_
  refine eK_c (fun n_1 => ?_)
  refine Eq.trans (rn_sta (L' := [.ref a0, .int x1]) (as := [.int x1, .int (Int32.ofNat n_1)]) (rest := []) rfl rfl rfl rfl rfl (Nat.le_of_ble_eq_true rfl) (by decide) rfl) ?_
  refine Eq.trans (cW_V rfl rfl) ?_
  refine cV_c (fun s_2 => ?_) (xh_nil rfl)
  refine Eq.trans (rn_go 2 (pc' := 8) (L' := [.ref a0, .int x1]) (st' := [.int x1, .ref a0]) rfl) ?_
  refine Eq.trans (rn_aB (L' := [.ref a0, .int x1]) rfl rfl) ?_
  refine eI_c (fun x_3 => ?_)
  refine Eq.trans (rn_go 3 (pc' := 14) (L' := [.ref a0, .int x1]) (st' := [.int ((x_3 &&& (255 : Int32)).toUInt32 % 65536).toInt32]) rfl) ?_
  exact rn_rtI rfl rfl
theorem in_J1_canEncode_fc78d {B : Nat} (x0 : Int32) (s : am_S) : cl_ tb_ct tb_mt B K_J1_canEncode_fc78d [.int x0] s = rn_ tb_ct tb_mt B mm_J1_canEncode_fc78d 0 [.int x0] [] s := cl_in rfl rfl rfl rfl
theorem dc_J1_canEncode_fc78d_0 {B : Nat} (x0 : Int32) (s : am_S) : rn_ tb_ct tb_mt B mm_J1_canEncode_fc78d 0 [.int x0] [] s = if (255 : Int32) < x0 then some (.inl (some (.int (0 : Int32))), s) else some (.inl (some (.int (1 : Int32))), s) := by
  refine Eq.trans (rn_go 2 (pc' := 4) (L' := [.int x0]) (st' := [.int (255 : Int32), .int x0]) rfl) ?_
  refine Eq.trans (rn_icgt (L' := [.int x0]) rfl rfl) ?_
  refine if_c ?_ ?_
  · refine Eq.trans (rn_go 1 (pc' := 12) (L' := [.int x0]) (st' := [.int (0 : Int32)]) rfl) ?_
    exact rn_retI rfl rfl rfl
  · refine Eq.trans (rn_go 2 (pc' := 12) (L' := [.int x0]) (st' := [.int (1 : Int32)]) rfl) ?_
    exact rn_retI rfl rfl rfl
theorem in_J3_checkIndex_8e157 {B : Nat} (x0 : Int32) (x1 : Int32) (a2 : Nat) (s : am_S) : cl_ tb_ct tb_mt B K_J3_checkIndex_8e157 [.int x0, .int x1, .ref a2] s = rn_ tb_ct tb_mt B mm_J3_checkIndex_8e157 0 [.int x0, .int x1, .ref a2] [] s := cl_in rfl rfl rfl rfl
theorem dc_J3_checkIndex_8e157_0 {B : Nat} (x0 : Int32) (x1 : Int32) (a2 : Nat) (s : am_S) : rn_ tb_ct tb_mt B mm_J3_checkIndex_8e157 0 [.int x0, .int x1, .ref a2] [] s = if x0 < 0 then rn_ tb_ct tb_mt B mm_J3_checkIndex_8e157 9 [.int x0, .int x1, .ref a2] [] s else if x0 < x1 then some (.inl (some (.int x0)), s) else rn_ tb_ct tb_mt B mm_J3_checkIndex_8e157 9 [.int x0, .int x1, .ref a2] [] s := by
  refine Eq.trans (rn_go 1 (pc' := 1) (L' := [.int x0, .int x1, .ref a2]) (st' := [.int x0]) rfl) ?_
  refine Eq.trans (rn_iflt (L' := [.int x0, .int x1, .ref a2]) rfl rfl) ?_
  refine if_c ?_ ?_
  · rfl
  · refine Eq.trans (rn_go 2 (pc' := 6) (L' := [.int x0, .int x1, .ref a2]) (st' := [.int x1, .int x0]) rfl) ?_
    refine Eq.trans (rn_iclt (L' := [.int x0, .int x1, .ref a2]) rfl rfl) ?_
    refine if_c ?_ ?_
    · refine Eq.trans (rn_go 1 (pc' := 17) (L' := [.int x0, .int x1, .ref a2]) (st' := [.int x0]) rfl) ?_
      exact rn_retI rfl rfl rfl
    · rfl
theorem dc_J3_checkIndex_8e157_9 {B : Nat} (x0 : Int32) (x1 : Int32) (a2 : Nat) (s : am_S) : rn_ tb_ct tb_mt B mm_J3_checkIndex_8e157 9 [.int x0, .int x1, .ref a2] [] s = none := by
  refine Eq.trans (rn_go 3 (pc' := 12) (L' := [.int x0, .int x1, .ref a2]) (st' := [.int x1, .int x0, .ref a2]) rfl) ?_
  exact rn_nolk rfl
theorem in_J7_fill_53178 {B : Nat} (a0 : Nat) (x1 : Int32) (s : am_S) : cl_ tb_ct tb_mt B K_J7_fill_53178 [.ref a0, .int x1] s = rn_ tb_ct tb_mt B mm_J7_fill_53178 0 [.ref a0, .int x1, am_un, am_un] [] s := cl_in rfl rfl rfl rfl
theorem dc_J7_fill_53178_0 {B : Nat} (a0 : Nat) (x1 : Int32) (s : am_S) : rn_ tb_ct tb_mt B mm_J7_fill_53178 0 [.ref a0, .int x1, am_un, am_un] [] s = eK (am_len s a0) (fun n_1 => rn_ tb_ct tb_mt B mm_J7_fill_53178 5 [.ref a0, .int x1, .int (0 : Int32), .int (Int32.ofNat n_1)] [] s) := by
  refine Eq.trans (rn_go 3 (pc' := 3) (L' := [.ref a0, .int x1, .int (0 : Int32), am_un]) (st' := [.ref a0]) rfl) ?_
  refine Eq.trans (rn_al (L' := [.ref a0, .int x1, .int (0 : Int32), am_un]) rfl rfl) ?_
  refine eK_c (fun n_1 => ?_)
  exact rn_go 1 (pc' := 5) (L' := [.ref a0, .int x1, .int (0 : Int32), .int (Int32.ofNat n_1)]) (st' := []) rfl
theorem dc_J7_fill_53178_5 {B : Nat} (a0 : Nat) (x1 : Int32) (x2 : Int32) (x3 : Int32) (s : am_S) : rn_ tb_ct tb_mt B mm_J7_fill_53178 5 [.ref a0, .int x1, .int x2, .int x3] [] s = if x3 ≤ x2 then some (.inl none, s) else eS (wI B s a0 x2 x1) (fun s_1 => rn_ tb_ct tb_mt B mm_J7_fill_53178 5 [.ref a0, .int x1, .int (x2 + (1 : Int32)), .int x3] [] s_1) := by
  refine Eq.trans (rn_go 2 (pc' := 7) (L' := [.ref a0, .int x1, .int x2, .int x3]) (st' := [.int x3, .int x2]) rfl) ?_
  refine Eq.trans (rn_icge (L' := [.ref a0, .int x1, .int x2, .int x3]) rfl rfl) ?_
  refine if_c ?_ ?_
  · exact rn_retV rfl rfl
  · refine Eq.trans (rn_go 3 (pc' := 13) (L' := [.ref a0, .int x1, .int x2, .int x3]) (st' := [.int x1, .int x2, .ref a0]) rfl) ?_
    refine Eq.trans (rn_wI (L' := [.ref a0, .int x1, .int x2, .int x3]) rfl rfl) ?_
    refine eS_c (fun s_1 => ?_)
    exact rn_go 2 (pc' := 5) (L' := [.ref a0, .int x1, .int (x2 + (1 : Int32)), .int x3]) (st' := []) rfl
theorem in_J7_copyOf_9075b {B : Nat} (a0 : Nat) (x1 : Int32) (s : am_S) : cl_ tb_ct tb_mt B K_J7_copyOf_9075b [.ref a0, .int x1] s = rn_ tb_ct tb_mt B mm_J7_copyOf_9075b 0 [.ref a0, .int x1, am_un] [] s := cl_in rfl rfl rfl rfl
theorem dc_J7_copyOf_9075b_0 {B : Nat} (a0 : Nat) (x1 : Int32) (s : am_S) : rn_ tb_ct tb_mt B mm_J7_copyOf_9075b 0 [.ref a0, .int x1, am_un] [] s = eK (am_len s a0) (fun n_1 => if x1 = (Int32.ofNat n_1) then none else nwI .byte s x1 (fun b_2 s_3 => eK (am_len s_3 a0) (fun n_4 => eS (wC B .byte s_3 a0 (0 : Int32) b_2 (0 : Int32) (if x1 < (Int32.ofNat n_4) then x1 else (Int32.ofNat n_4))) (fun s_5 => some (.inl (some (.ref b_2)), s_5))))) := by
  refine Eq.trans (rn_go 2 (pc' := 2) (L' := [.ref a0, .int x1, am_un]) (st' := [.ref a0, .int x1]) rfl) ?_
  refine Eq.trans (rn_al (L' := [.ref a0, .int x1, am_un]) rfl rfl) ?_
  refine eK_c (fun n_1 => ?_)
  refine Eq.trans (rn_icne (L' := [.ref a0, .int x1, am_un]) rfl rfl) ?_
  refine if_c ?_ ?_
  · refine Eq.trans (rn_go 1 (pc' := 7) (L' := [.ref a0, .int x1, am_un]) (st' := [.ref a0]) rfl) ?_
    exact rn_nolk rfl
  · refine Eq.trans (rn_go 1 (pc' := 15) (L' := [.ref a0, .int x1, am_un]) (st' := [.int x1]) rfl) ?_
    refine Eq.trans (rn_nwI (L' := [.ref a0, .int x1, am_un]) rfl rfl) ?_
    refine nwI_c (fun b_2 s_3 => ?_)
    refine Eq.trans (rn_go 6 (pc' := 23) (L' := [.ref a0, .int x1, .ref b_2]) (st' := [.ref a0, .int (0 : Int32), .ref b_2, .int (0 : Int32), .ref a0]) rfl) ?_
    refine Eq.trans (rn_al (L' := [.ref a0, .int x1, .ref b_2]) rfl rfl) ?_
    refine eK_c (fun n_4 => ?_)
    refine Eq.trans (rn_go 1 (pc' := 25) (L' := [.ref a0, .int x1, .ref b_2]) (st' := [.int x1, .int (Int32.ofNat n_4), .int (0 : Int32), .ref b_2, .int (0 : Int32), .ref a0]) rfl) ?_
    refine Eq.trans (rn_min (L' := [.ref a0, .int x1, .ref b_2]) rfl rfl (Nat.le_of_ble_eq_true rfl)) ?_
    refine Eq.trans (rn_cp (L' := [.ref a0, .int x1, .ref b_2]) (ty := .byte) rfl rfl (by decide) (Nat.le_of_ble_eq_true rfl)) ?_
    refine eS_c (fun s_5 => ?_)
    refine Eq.trans (rn_go 1 (pc' := 32) (L' := [.ref a0, .int x1, .ref b_2]) (st' := [.ref b_2]) rfl) ?_
    exact rn_retA rfl rfl rfl rfl
theorem in_J8_newLength_cabcc {B : Nat} (x0 : Int32) (x1 : Int32) (x2 : Int32) (s : am_S) : cl_ tb_ct tb_mt B K_J8_newLength_cabcc [.int x0, .int x1, .int x2] s = rn_ tb_ct tb_mt B mm_J8_newLength_cabcc 0 [.int x0, .int x1, .int x2, am_un] [] s := cl_in rfl rfl rfl rfl
theorem dc_J8_newLength_cabcc_0 {B : Nat} (x0 : Int32) (x1 : Int32) (x2 : Int32) (s : am_S) : rn_ tb_ct tb_mt B mm_J8_newLength_cabcc 0 [.int x0, .int x1, .int x2, am_un] [] s = if (x0 + (if x1 < x2 then x2 else x1)) ≤ (0 : Int32) then none else if (2147483639 : Int32) < (x0 + (if x1 < x2 then x2 else x1)) then none else some (.inl (some (.int (x0 + (if x1 < x2 then x2 else x1)))), s) := by
  refine Eq.trans (rn_go 3 (pc' := 3) (L' := [.int x0, .int x1, .int x2, am_un]) (st' := [.int x2, .int x1, .int x0]) rfl) ?_
  refine Eq.trans (rn_max (L' := [.int x0, .int x1, .int x2, am_un]) rfl rfl (Nat.le_of_ble_eq_true rfl)) ?_
  refine Eq.trans (rn_go 4 (pc' := 10) (L' := [.int x0, .int x1, .int x2, .int (x0 + (if x1 < x2 then x2 else x1))]) (st' := [.int (x0 + (if x1 < x2 then x2 else x1)), .int (0 : Int32)]) rfl) ?_
  refine Eq.trans (rn_icge (L' := [.int x0, .int x1, .int x2, .int (x0 + (if x1 < x2 then x2 else x1))]) rfl rfl) ?_
  refine if_c ?_ ?_
  · refine Eq.trans (rn_go 2 (pc' := 23) (L' := [.int x0, .int x1, .int x2, .int (x0 + (if x1 < x2 then x2 else x1))]) (st' := [.int x1, .int x0]) rfl) ?_
    exact rn_nolk rfl
  · refine Eq.trans (rn_go 2 (pc' := 16) (L' := [.int x0, .int x1, .int x2, .int (x0 + (if x1 < x2 then x2 else x1))]) (st' := [.int (2147483639 : Int32), .int (x0 + (if x1 < x2 then x2 else x1))]) rfl) ?_
    refine Eq.trans (rn_icgt (L' := [.int x0, .int x1, .int x2, .int (x0 + (if x1 < x2 then x2 else x1))]) rfl rfl) ?_
    refine if_c ?_ ?_
    · refine Eq.trans (rn_go 2 (pc' := 23) (L' := [.int x0, .int x1, .int x2, .int (x0 + (if x1 < x2 then x2 else x1))]) (st' := [.int x1, .int x0]) rfl) ?_
      exact rn_nolk rfl
    · refine Eq.trans (rn_go 1 (pc' := 20) (L' := [.int x0, .int x1, .int x2, .int (x0 + (if x1 < x2 then x2 else x1))]) (st' := [.int (x0 + (if x1 < x2 then x2 else x1))]) rfl) ?_
      exact rn_retI rfl rfl rfl
theorem in_Jx29ce0_ordinal_8abf5 {B : Nat} (a0 : Nat) (s : am_S) : cl_ tb_ct tb_mt B K_Jx29ce0_ordinal_8abf5 [.ref a0] s = rn_ tb_ct tb_mt B mm_Jx29ce0_ordinal_8abf5 0 [.ref a0] [] s := cl_in rfl rfl rfl rfl
theorem dc_Jx29ce0_ordinal_8abf5_0 {B : Nat} (a0 : Nat) (s : am_S) : rn_ tb_ct tb_mt B mm_Jx29ce0_ordinal_8abf5 0 [.ref a0] [] s = eI (gI tb_ct s a0 14 5) (fun x_1 => some (.inl (some (.int x_1)), s)) := by
  refine Eq.trans (rn_go 1 (pc' := 1) (L' := [.ref a0]) (st' := [.ref a0]) rfl) ?_
  refine Eq.trans (rn_gI (L' := [.ref a0]) rfl rfl rfl rfl) ?_
  refine eI_c (fun x_1 => ?_)
  exact rn_retI rfl rfl rfl
