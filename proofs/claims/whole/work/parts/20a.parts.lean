theorem in_X1_init {B : Nat} (a0 : Nat) (s : am_S) : cl_ tb_ct tb_mt B K_X1_init [.ref a0] s = rn_ tb_ct tb_mt B mm_X1_init 0 [.ref a0] [] s := cl_in rfl rfl rfl rfl
theorem dc_X1_init_0 {B : Nat} (a0 : Nat) (s : am_S) : rn_ tb_ct tb_mt B mm_X1_init 0 [.ref a0] [] s = some (.inl none, s) := by
  refine Eq.trans (rn_go 1 (pc' := 1) (L' := [.ref a0]) (st' := [.ref a0]) rfl) ?_
  refine Eq.trans (rn_obj (L' := [.ref a0]) rfl rfl (Nat.le_of_ble_eq_true rfl)) ?_
  exact rn_retV rfl rfl
theorem in_X1_wrote {B : Nat} (a0 : Nat) (a1 : Nat) (x2 : Int32) (s : am_S) : cl_ tb_ct tb_mt B K_X1_wrote [.ref a0, .ref a1, .int x2] s = rn_ tb_ct tb_mt B mm_X1_wrote 0 [.ref a0, .ref a1, .int x2] [] s := cl_in rfl rfl rfl rfl
theorem dc_X1_wrote_0 {B : Nat} (a0 : Nat) (a1 : Nat) (x2 : Int32) (s : am_S) : rn_ tb_ct tb_mt B mm_X1_wrote 0 [.ref a0, .ref a1, .int x2] [] s = eI (gI tb_ct s a0 0 1) (fun x_1 => if x_1 = 0 then eI (gI tb_ct s a0 0 2) (fun x_2 => eI (gI tb_ct s a1 2 0) (fun x_3 => if x_2 = x_3 then eI (gI tb_ct s a0 0 6) (fun x_4 => if x_4 = x2 then eI (gI tb_ct s a0 0 0) (fun x_5 => eI (gI tb_ct s a1 2 2) (fun x_6 => if x_5 < x_6 then some (.inl (some (.int (0 : Int32))), s) else some (.inl (some (.int (1 : Int32))), s))) else some (.inl (some (.int (0 : Int32))), s)) else some (.inl (some (.int (0 : Int32))), s))) else some (.inl (some (.int (0 : Int32))), s)) := by
  refine Eq.trans (rn_go 1 (pc' := 1) (L' := [.ref a0, .ref a1, .int x2]) (st' := [.ref a0]) rfl) ?_
  refine Eq.trans (rn_gI (L' := [.ref a0, .ref a1, .int x2]) rfl rfl rfl rfl) ?_
  refine eI_c (fun x_1 => ?_)
  refine Eq.trans (rn_ifne (L' := [.ref a0, .ref a1, .int x2]) rfl rfl) ?_
  refine if_c ?_ ?_
  · refine Eq.trans (rn_go 1 (pc' := 8) (L' := [.ref a0, .ref a1, .int x2]) (st' := [.ref a0]) rfl) ?_
    refine Eq.trans (rn_gI (L' := [.ref a0, .ref a1, .int x2]) rfl rfl rfl rfl) ?_
    refine eI_c (fun x_2 => ?_)
    refine Eq.trans (rn_go 1 (pc' := 12) (L' := [.ref a0, .ref a1, .int x2]) (st' := [.ref a1, .int x_2]) rfl) ?_
    refine Eq.trans (rn_gI (L' := [.ref a0, .ref a1, .int x2]) rfl rfl rfl rfl) ?_
    refine eI_c (fun x_3 => ?_)
    refine Eq.trans (rn_icne (L' := [.ref a0, .ref a1, .int x2]) rfl rfl) ?_
    refine if_c ?_ ?_
    · refine Eq.trans (rn_go 1 (pc' := 19) (L' := [.ref a0, .ref a1, .int x2]) (st' := [.ref a0]) rfl) ?_
      refine Eq.trans (rn_gI (L' := [.ref a0, .ref a1, .int x2]) rfl rfl rfl rfl) ?_
      refine eI_c (fun x_4 => ?_)
      refine Eq.trans (rn_go 1 (pc' := 23) (L' := [.ref a0, .ref a1, .int x2]) (st' := [.int x2, .int x_4]) rfl) ?_
      refine Eq.trans (rn_icne (L' := [.ref a0, .ref a1, .int x2]) rfl rfl) ?_
      refine if_c ?_ ?_
      · refine Eq.trans (rn_go 1 (pc' := 27) (L' := [.ref a0, .ref a1, .int x2]) (st' := [.ref a0]) rfl) ?_
        refine Eq.trans (rn_gI (L' := [.ref a0, .ref a1, .int x2]) rfl rfl rfl rfl) ?_
        refine eI_c (fun x_5 => ?_)
        refine Eq.trans (rn_go 1 (pc' := 31) (L' := [.ref a0, .ref a1, .int x2]) (st' := [.ref a1, .int x_5]) rfl) ?_
        refine Eq.trans (rn_gI (L' := [.ref a0, .ref a1, .int x2]) rfl rfl rfl rfl) ?_
        refine eI_c (fun x_6 => ?_)
        refine Eq.trans (rn_iclt (L' := [.ref a0, .ref a1, .int x2]) rfl rfl) ?_
        refine if_c ?_ ?_
        · refine Eq.trans (rn_go 1 (pc' := 42) (L' := [.ref a0, .ref a1, .int x2]) (st' := [.int (0 : Int32)]) rfl) ?_
          exact rn_retI rfl rfl rfl
        · refine Eq.trans (rn_go 2 (pc' := 42) (L' := [.ref a0, .ref a1, .int x2]) (st' := [.int (1 : Int32)]) rfl) ?_
          exact rn_retI rfl rfl rfl
      · refine Eq.trans (rn_go 1 (pc' := 42) (L' := [.ref a0, .ref a1, .int x2]) (st' := [.int (0 : Int32)]) rfl) ?_
        exact rn_retI rfl rfl rfl
    · refine Eq.trans (rn_go 1 (pc' := 42) (L' := [.ref a0, .ref a1, .int x2]) (st' := [.int (0 : Int32)]) rfl) ?_
      exact rn_retI rfl rfl rfl
  · refine Eq.trans (rn_go 1 (pc' := 42) (L' := [.ref a0, .ref a1, .int x2]) (st' := [.int (0 : Int32)]) rfl) ?_
    exact rn_retI rfl rfl rfl
theorem in_X1_number {B : Nat} (a0 : Nat) (x1 : Int32) (s : am_S) : cl_ tb_ct tb_mt B K_X1_number [.ref a0, .int x1] s = rn_ tb_ct tb_mt B mm_X1_number 0 [.ref a0, .int x1] [] s := cl_in rfl rfl rfl rfl
theorem dc_X1_number_0 {B : Nat} (a0 : Nat) (x1 : Int32) (s : am_S) : rn_ tb_ct tb_mt B mm_X1_number 0 [.ref a0, .int x1] [] s = sw x1.toInt (0) [eI (gI tb_ct s a0 0 0) (fun x_1 => some (.inl (some (.int x_1)), s)), eI (gI tb_ct s a0 0 1) (fun x_2 => some (.inl (some (.int x_2)), s)), eI (gI tb_ct s a0 0 2) (fun x_3 => some (.inl (some (.int x_3)), s)), eI (gI tb_ct s a0 0 3) (fun x_4 => some (.inl (some (.int x_4)), s)), eI (gI tb_ct s a0 0 4) (fun x_5 => some (.inl (some (.int x_5)), s))] (eI (gI tb_ct s a0 0 5) (fun x_6 => some (.inl (some (.int x_6)), s))) := by
  refine Eq.trans (rn_go 1 (pc' := 1) (L' := [.ref a0, .int x1]) (st' := [.int x1]) rfl) ?_
  refine Eq.trans (rn_tsw (L' := [.ref a0, .int x1]) (ts := [36, 41, 46, 51, 56]) (td := 61) rfl rfl (by decide) rfl rfl) ?_
  refine sw_c ?_ ?_
  · refine cons_c ?_ ?_
    · refine Eq.trans (rn_go 1 (pc' := 37) (L' := [.ref a0, .int x1]) (st' := [.ref a0]) rfl) ?_
      refine Eq.trans (rn_gI (L' := [.ref a0, .int x1]) rfl rfl rfl rfl) ?_
      refine eI_c (fun x_1 => ?_)
      exact rn_retI rfl rfl rfl
    refine cons_c ?_ ?_
    · refine Eq.trans (rn_go 1 (pc' := 42) (L' := [.ref a0, .int x1]) (st' := [.ref a0]) rfl) ?_
      refine Eq.trans (rn_gI (L' := [.ref a0, .int x1]) rfl rfl rfl rfl) ?_
      refine eI_c (fun x_2 => ?_)
      exact rn_retI rfl rfl rfl
    refine cons_c ?_ ?_
    · refine Eq.trans (rn_go 1 (pc' := 47) (L' := [.ref a0, .int x1]) (st' := [.ref a0]) rfl) ?_
      refine Eq.trans (rn_gI (L' := [.ref a0, .int x1]) rfl rfl rfl rfl) ?_
      refine eI_c (fun x_3 => ?_)
      exact rn_retI rfl rfl rfl
    refine cons_c ?_ ?_
    · refine Eq.trans (rn_go 1 (pc' := 52) (L' := [.ref a0, .int x1]) (st' := [.ref a0]) rfl) ?_
      refine Eq.trans (rn_gI (L' := [.ref a0, .int x1]) rfl rfl rfl rfl) ?_
      refine eI_c (fun x_4 => ?_)
      exact rn_retI rfl rfl rfl
    refine cons_c ?_ ?_
    · refine Eq.trans (rn_go 1 (pc' := 57) (L' := [.ref a0, .int x1]) (st' := [.ref a0]) rfl) ?_
      refine Eq.trans (rn_gI (L' := [.ref a0, .int x1]) rfl rfl rfl rfl) ?_
      refine eI_c (fun x_5 => ?_)
      exact rn_retI rfl rfl rfl
    rfl
  · refine Eq.trans (rn_go 1 (pc' := 62) (L' := [.ref a0, .int x1]) (st' := [.ref a0]) rfl) ?_
    refine Eq.trans (rn_gI (L' := [.ref a0, .int x1]) rfl rfl rfl rfl) ?_
    refine eI_c (fun x_6 => ?_)
    exact rn_retI rfl rfl rfl
theorem in_X1_copyFrom {B : Nat} (a0 : Nat) (a1 : Nat) (s : am_S) : cl_ tb_ct tb_mt B K_X1_copyFrom [.ref a0, .ref a1] s = rn_ tb_ct tb_mt B mm_X1_copyFrom 0 [.ref a0, .ref a1] [] s := cl_in rfl rfl rfl rfl
theorem dc_X1_copyFrom_0 {B : Nat} (a0 : Nat) (a1 : Nat) (s : am_S) : rn_ tb_ct tb_mt B mm_X1_copyFrom 0 [.ref a0, .ref a1] [] s = eI (gI tb_ct s a1 0 0) (fun x_1 => eS (am_put tb_ct mm_X1_copyFrom B s (.int x_1) a0 0 0) (fun s_2 => eI (gI tb_ct s_2 a1 0 1) (fun x_3 => eS (am_put tb_ct mm_X1_copyFrom B s_2 (.int x_3) a0 0 1) (fun s_4 => eI (gI tb_ct s_4 a1 0 2) (fun x_5 => eS (am_put tb_ct mm_X1_copyFrom B s_4 (.int x_5) a0 0 2) (fun s_6 => eI (gI tb_ct s_6 a1 0 3) (fun x_7 => eS (am_put tb_ct mm_X1_copyFrom B s_6 (.int x_7) a0 0 3) (fun s_8 => eI (gI tb_ct s_8 a1 0 4) (fun x_9 => eS (am_put tb_ct mm_X1_copyFrom B s_8 (.int x_9) a0 0 4) (fun s_10 => eI (gI tb_ct s_10 a1 0 5) (fun x_11 => eS (am_put tb_ct mm_X1_copyFrom B s_10 (.int x_11) a0 0 5) (fun s_12 => eI (gI tb_ct s_12 a1 0 6) (fun x_13 => eS (am_put tb_ct mm_X1_copyFrom B s_12 (.int x_13) a0 0 6) (fun s_14 => some (.inl none, s_14))))))))))))))) := by
  refine Eq.trans (rn_go 2 (pc' := 2) (L' := [.ref a0, .ref a1]) (st' := [.ref a1, .ref a0]) rfl) ?_
  refine Eq.trans (rn_gI (L' := [.ref a0, .ref a1]) rfl rfl rfl rfl) ?_
  refine eI_c (fun x_1 => ?_)
  refine Eq.trans (rn_pF (L' := [.ref a0, .ref a1]) rfl rfl) ?_
  refine eS_c (fun s_2 => ?_)
  refine Eq.trans (rn_go 2 (pc' := 10) (L' := [.ref a0, .ref a1]) (st' := [.ref a1, .ref a0]) rfl) ?_
  refine Eq.trans (rn_gI (L' := [.ref a0, .ref a1]) rfl rfl rfl rfl) ?_
  refine eI_c (fun x_3 => ?_)
  refine Eq.trans (rn_pF (L' := [.ref a0, .ref a1]) rfl rfl) ?_
  refine eS_c (fun s_4 => ?_)
  refine Eq.trans (rn_go 2 (pc' := 18) (L' := [.ref a0, .ref a1]) (st' := [.ref a1, .ref a0]) rfl) ?_
  refine Eq.trans (rn_gI (L' := [.ref a0, .ref a1]) rfl rfl rfl rfl) ?_
  refine eI_c (fun x_5 => ?_)
  refine Eq.trans (rn_pF (L' := [.ref a0, .ref a1]) rfl rfl) ?_
  refine eS_c (fun s_6 => ?_)
  refine Eq.trans (rn_go 2 (pc' := 26) (L' := [.ref a0, .ref a1]) (st' := [.ref a1, .ref a0]) rfl) ?_
  refine Eq.trans (rn_gI (L' := [.ref a0, .ref a1]) rfl rfl rfl rfl) ?_
  refine eI_c (fun x_7 => ?_)
  refine Eq.trans (rn_pF (L' := [.ref a0, .ref a1]) rfl rfl) ?_
  refine eS_c (fun s_8 => ?_)
  refine Eq.trans (rn_go 2 (pc' := 34) (L' := [.ref a0, .ref a1]) (st' := [.ref a1, .ref a0]) rfl) ?_
  refine Eq.trans (rn_gI (L' := [.ref a0, .ref a1]) rfl rfl rfl rfl) ?_
  refine eI_c (fun x_9 => ?_)
  refine Eq.trans (rn_pF (L' := [.ref a0, .ref a1]) rfl rfl) ?_
  refine eS_c (fun s_10 => ?_)
  refine Eq.trans (rn_go 2 (pc' := 42) (L' := [.ref a0, .ref a1]) (st' := [.ref a1, .ref a0]) rfl) ?_
  refine Eq.trans (rn_gI (L' := [.ref a0, .ref a1]) rfl rfl rfl rfl) ?_
  refine eI_c (fun x_11 => ?_)
  refine Eq.trans (rn_pF (L' := [.ref a0, .ref a1]) rfl rfl) ?_
  refine eS_c (fun s_12 => ?_)
  refine Eq.trans (rn_go 2 (pc' := 50) (L' := [.ref a0, .ref a1]) (st' := [.ref a1, .ref a0]) rfl) ?_
  refine Eq.trans (rn_gI (L' := [.ref a0, .ref a1]) rfl rfl rfl rfl) ?_
  refine eI_c (fun x_13 => ?_)
  refine Eq.trans (rn_pF (L' := [.ref a0, .ref a1]) rfl rfl) ?_
  refine eS_c (fun s_14 => ?_)
  exact rn_retV rfl rfl
theorem in_X2_init {B : Nat} (a0 : Nat) (s : am_S) : cl_ tb_ct tb_mt B K_X2_init [.ref a0] s = rn_ tb_ct tb_mt B mm_X2_init 0 [.ref a0, am_un] [] s := cl_in rfl rfl rfl rfl
theorem dc_X2_init_0 {B : Nat} (a0 : Nat) (s : am_S) : rn_ tb_ct tb_mt B mm_X2_init 0 [.ref a0, am_un] [] s = nwA "WatchedKeys$Event" s (152 : Int32) (fun b_1 s_2 => eS (am_put tb_ct mm_X2_init B s_2 (.ref b_1) a0 1 0) (fun s_3 => rn_ tb_ct tb_mt B mm_X2_init 16 [.ref a0, .int (0 : Int32)] [] s_3)) := by
  refine Eq.trans (rn_go 1 (pc' := 1) (L' := [.ref a0, am_un]) (st' := [.ref a0]) rfl) ?_
  refine Eq.trans (rn_obj (L' := [.ref a0, am_un]) rfl rfl (Nat.le_of_ble_eq_true rfl)) ?_
  refine Eq.trans (rn_go 2 (pc' := 8) (L' := [.ref a0, am_un]) (st' := [.int (152 : Int32), .ref a0]) rfl) ?_
  refine Eq.trans (rn_nwA (L' := [.ref a0, am_un]) rfl rfl rfl) ?_
  refine nwA_c (fun b_1 s_2 => ?_)
  refine Eq.trans (rn_pF (L' := [.ref a0, am_un]) rfl rfl) ?_
  refine eS_c (fun s_3 => ?_)
  exact rn_go 2 (pc' := 16) (L' := [.ref a0, .int (0 : Int32)]) (st' := []) rfl
theorem dc_X2_init_16 {B : Nat} (a0 : Nat) (x1 : Int32) (s : am_S) : rn_ tb_ct tb_mt B mm_X2_init 16 [.ref a0, .int x1] [] s = if (152 : Int32) ≤ x1 then some (.inl none, s) else eA (gA tb_ct s a0 1 0) (nwO tb_ct s 0 (fun b_2 s_3 => eC (am_cls s_3 b_2) 0 (cV (cl_ tb_ct tb_mt B K_X1_init [.ref b_2] s_3) (fun s_4 => none) xo))) (fun b_1 => nwO tb_ct s 0 (fun b_5 s_6 => eC (am_cls s_6 b_5) 0 (cV (cl_ tb_ct tb_mt B K_X1_init [.ref b_5] s_6) (fun s_7 => eS (wA tb_ct B s_7 b_1 x1 b_5) (fun s_8 => rn_ tb_ct tb_mt B mm_X2_init 16 [.ref a0, .int (x1 + (1 : Int32))] [] s_8)) xo))) := by
  refine Eq.trans (rn_go 2 (pc' := 20) (L' := [.ref a0, .int x1]) (st' := [.int (152 : Int32), .int x1]) rfl) ?_
  refine Eq.trans (rn_icge (L' := [.ref a0, .int x1]) rfl rfl) ?_
  refine if_c ?_ ?_
  · exact rn_retV rfl rfl
  · refine Eq.trans (rn_go 1 (pc' := 24) (L' := [.ref a0, .int x1]) (st' := [.ref a0]) rfl) ?_
    refine Eq.trans (rn_gA (L' := [.ref a0, .int x1]) rfl rfl rfl rfl) ?_
    refine eA_c ?_ (fun b_1 => ?_)
    · refine Eq.trans (rn_go 1 (pc' := 28) (L' := [.ref a0, .int x1]) (st' := [.int x1, .null]) rfl) ?_
      refine Eq.trans (rn_new (L' := [.ref a0, .int x1]) rfl rfl) ?_
      refine nwO_c (fun b_2 s_3 => ?_)
      refine Eq.trans (rn_go 1 (pc' := 32) (L' := [.ref a0, .int x1]) (st' := [.ref b_2, .ref b_2, .int x1, .null]) rfl) ?_
      refine Eq.trans (rn_spe (L' := [.ref a0, .int x1]) (as := []) (rest := [.ref b_2, .int x1, .null]) rfl rfl (by decide) rfl rfl rfl (Nat.le_of_ble_eq_true rfl) (by decide) (by decide)) ?_
      refine eC_c ?_
      refine Eq.trans (cW_V rfl rfl) ?_
      refine cV_c (fun s_4 => ?_) (xh_nil rfl)
      exact rn_z rfl rfl
    · refine Eq.trans (rn_go 1 (pc' := 28) (L' := [.ref a0, .int x1]) (st' := [.int x1, .ref b_1]) rfl) ?_
      refine Eq.trans (rn_new (L' := [.ref a0, .int x1]) rfl rfl) ?_
      refine nwO_c (fun b_5 s_6 => ?_)
      refine Eq.trans (rn_go 1 (pc' := 32) (L' := [.ref a0, .int x1]) (st' := [.ref b_5, .ref b_5, .int x1, .ref b_1]) rfl) ?_
      refine Eq.trans (rn_spe (L' := [.ref a0, .int x1]) (as := []) (rest := [.ref b_5, .int x1, .ref b_1]) rfl rfl (by decide) rfl rfl rfl (Nat.le_of_ble_eq_true rfl) (by decide) (by decide)) ?_
      refine eC_c ?_
      refine Eq.trans (cW_V rfl rfl) ?_
      refine cV_c (fun s_7 => ?_) (xh_nil rfl)
      refine Eq.trans (rn_wA (L' := [.ref a0, .int x1]) rfl rfl) ?_
      refine eS_c (fun s_8 => ?_)
      exact rn_go 2 (pc' := 16) (L' := [.ref a0, .int (x1 + (1 : Int32))]) (st' := []) rfl
theorem in_X2_at {B : Nat} (a0 : Nat) (x1 : Int32) (s : am_S) : cl_ tb_ct tb_mt B K_X2_at [.ref a0, .int x1] s = rn_ tb_ct tb_mt B mm_X2_at 0 [.ref a0, .int x1] [] s := cl_in rfl rfl rfl rfl
theorem dc_X2_at_0 {B : Nat} (a0 : Nat) (x1 : Int32) (s : am_S) : rn_ tb_ct tb_mt B mm_X2_at 0 [.ref a0, .int x1] [] s = if x1 < 0 then some (.inl (some .null), s) else eI (gI tb_ct s a0 1 1) (fun x_1 => if x_1 ≤ x1 then some (.inl (some .null), s) else if (152 : Int32) ≤ x1 then some (.inl (some .null), s) else eA (gA tb_ct s a0 1 0) (none) (fun b_2 => eA (aA s b_2 x1) (some (.inl (some .null), s)) (fun b_3 => some (.inl (some (.ref b_3)), s)))) := by
  refine Eq.trans (rn_go 1 (pc' := 1) (L' := [.ref a0, .int x1]) (st' := [.int x1]) rfl) ?_
  refine Eq.trans (rn_iflt (L' := [.ref a0, .int x1]) rfl rfl) ?_
  refine if_c ?_ ?_
  · refine Eq.trans (rn_go 1 (pc' := 29) (L' := [.ref a0, .int x1]) (st' := [.null]) rfl) ?_
    exact rn_retA rfl rfl rfl rfl
  · refine Eq.trans (rn_go 2 (pc' := 6) (L' := [.ref a0, .int x1]) (st' := [.ref a0, .int x1]) rfl) ?_
    refine Eq.trans (rn_gI (L' := [.ref a0, .int x1]) rfl rfl rfl rfl) ?_
    refine eI_c (fun x_1 => ?_)
    refine Eq.trans (rn_icge (L' := [.ref a0, .int x1]) rfl rfl) ?_
    refine if_c ?_ ?_
    · refine Eq.trans (rn_go 1 (pc' := 29) (L' := [.ref a0, .int x1]) (st' := [.null]) rfl) ?_
      exact rn_retA rfl rfl rfl rfl
    · refine Eq.trans (rn_go 2 (pc' := 16) (L' := [.ref a0, .int x1]) (st' := [.int (152 : Int32), .int x1]) rfl) ?_
      refine Eq.trans (rn_icge (L' := [.ref a0, .int x1]) rfl rfl) ?_
      refine if_c ?_ ?_
      · refine Eq.trans (rn_go 1 (pc' := 29) (L' := [.ref a0, .int x1]) (st' := [.null]) rfl) ?_
        exact rn_retA rfl rfl rfl rfl
      · refine Eq.trans (rn_go 1 (pc' := 20) (L' := [.ref a0, .int x1]) (st' := [.ref a0]) rfl) ?_
        refine Eq.trans (rn_gA (L' := [.ref a0, .int x1]) rfl rfl rfl rfl) ?_
        refine eA_c ?_ (fun b_2 => ?_)
        · refine Eq.trans (rn_go 1 (pc' := 24) (L' := [.ref a0, .int x1]) (st' := [.int x1, .null]) rfl) ?_
          exact rn_z rfl rfl
        · refine Eq.trans (rn_go 1 (pc' := 24) (L' := [.ref a0, .int x1]) (st' := [.int x1, .ref b_2]) rfl) ?_
          refine Eq.trans (rn_aA (L' := [.ref a0, .int x1]) rfl rfl) ?_
          refine eA_c ?_ (fun b_3 => ?_)
          · refine Eq.trans (rn_go 1 (pc' := 29) (L' := [.ref a0, .int x1]) (st' := [.null]) rfl) ?_
            exact rn_retA rfl rfl rfl rfl
          · refine Eq.trans (rn_go 1 (pc' := 29) (L' := [.ref a0, .int x1]) (st' := [.ref b_3]) rfl) ?_
            exact rn_retA rfl rfl rfl rfl
theorem in_X2_add {B : Nat} (a0 : Nat) (s : am_S) : cl_ tb_ct tb_mt B K_X2_add [.ref a0] s = rn_ tb_ct tb_mt B mm_X2_add 0 [.ref a0] [] s := cl_in rfl rfl rfl rfl
theorem dc_X2_add_0 {B : Nat} (a0 : Nat) (s : am_S) : rn_ tb_ct tb_mt B mm_X2_add 0 [.ref a0] [] s = eI (gI tb_ct s a0 1 1) (fun x_1 => if x_1 < 0 then some (.inl (some .null), s) else eI (gI tb_ct s a0 1 1) (fun x_2 => if x_2 < (152 : Int32) then eI (gI tb_ct s a0 1 1) (fun x_3 => eS (am_put tb_ct mm_X2_add B s (.int (x_3 + (1 : Int32))) a0 1 1) (fun s_4 => eA (gA tb_ct s_4 a0 1 0) (eI (gI tb_ct s_4 a0 1 1) (fun x_6 => none)) (fun b_5 => eI (gI tb_ct s_4 a0 1 1) (fun x_7 => eA (aA s_4 b_5 (x_7 - (1 : Int32))) (some (.inl (some .null), s_4)) (fun b_8 => some (.inl (some (.ref b_8)), s_4)))))) else some (.inl (some .null), s))) := by
  refine Eq.trans (rn_go 1 (pc' := 1) (L' := [.ref a0]) (st' := [.ref a0]) rfl) ?_
  refine Eq.trans (rn_gI (L' := [.ref a0]) rfl rfl rfl rfl) ?_
  refine eI_c (fun x_1 => ?_)
  refine Eq.trans (rn_iflt (L' := [.ref a0]) rfl rfl) ?_
  refine if_c ?_ ?_
  · refine Eq.trans (rn_go 1 (pc' := 18) (L' := [.ref a0]) (st' := [.null]) rfl) ?_
    exact rn_retA rfl rfl rfl rfl
  · refine Eq.trans (rn_go 1 (pc' := 8) (L' := [.ref a0]) (st' := [.ref a0]) rfl) ?_
    refine Eq.trans (rn_gI (L' := [.ref a0]) rfl rfl rfl rfl) ?_
    refine eI_c (fun x_2 => ?_)
    refine Eq.trans (rn_go 1 (pc' := 14) (L' := [.ref a0]) (st' := [.int (152 : Int32), .int x_2]) rfl) ?_
    refine Eq.trans (rn_iclt (L' := [.ref a0]) rfl rfl) ?_
    refine if_c ?_ ?_
    · refine Eq.trans (rn_go 2 (pc' := 21) (L' := [.ref a0]) (st' := [.ref a0, .ref a0]) rfl) ?_
      refine Eq.trans (rn_gI (L' := [.ref a0]) rfl rfl rfl rfl) ?_
      refine eI_c (fun x_3 => ?_)
      refine Eq.trans (rn_go 2 (pc' := 26) (L' := [.ref a0]) (st' := [.int (x_3 + (1 : Int32)), .ref a0]) rfl) ?_
      refine Eq.trans (rn_pF (L' := [.ref a0]) rfl rfl) ?_
      refine eS_c (fun s_4 => ?_)
      refine Eq.trans (rn_go 1 (pc' := 30) (L' := [.ref a0]) (st' := [.ref a0]) rfl) ?_
      refine Eq.trans (rn_gA (L' := [.ref a0]) rfl rfl rfl rfl) ?_
      refine eA_c ?_ (fun b_5 => ?_)
      · refine Eq.trans (rn_go 1 (pc' := 34) (L' := [.ref a0]) (st' := [.ref a0, .null]) rfl) ?_
        refine Eq.trans (rn_gI (L' := [.ref a0]) rfl rfl rfl rfl) ?_
        refine eI_c (fun x_6 => ?_)
        refine Eq.trans (rn_go 2 (pc' := 39) (L' := [.ref a0]) (st' := [.int (x_6 - (1 : Int32)), .null]) rfl) ?_
        exact rn_z rfl rfl
      · refine Eq.trans (rn_go 1 (pc' := 34) (L' := [.ref a0]) (st' := [.ref a0, .ref b_5]) rfl) ?_
        refine Eq.trans (rn_gI (L' := [.ref a0]) rfl rfl rfl rfl) ?_
        refine eI_c (fun x_7 => ?_)
        refine Eq.trans (rn_go 2 (pc' := 39) (L' := [.ref a0]) (st' := [.int (x_7 - (1 : Int32)), .ref b_5]) rfl) ?_
        refine Eq.trans (rn_aA (L' := [.ref a0]) rfl rfl) ?_
        refine eA_c ?_ (fun b_8 => ?_)
        · exact rn_retA rfl rfl rfl rfl
        · exact rn_retA rfl rfl rfl rfl
    · refine Eq.trans (rn_go 1 (pc' := 18) (L' := [.ref a0]) (st' := [.null]) rfl) ?_
      exact rn_retA rfl rfl rfl rfl
theorem in_X2_countTo {B : Nat} (a0 : Nat) (x1 : Int32) (s : am_S) : cl_ tb_ct tb_mt B K_X2_countTo [.ref a0, .int x1] s = rn_ tb_ct tb_mt B mm_X2_countTo 0 [.ref a0, .int x1, am_un, am_un] [] s := cl_in rfl rfl rfl rfl
theorem dc_X2_countTo_0 {B : Nat} (a0 : Nat) (x1 : Int32) (s : am_S) : rn_ tb_ct tb_mt B mm_X2_countTo 0 [.ref a0, .int x1, am_un, am_un] [] s = rn_ tb_ct tb_mt B mm_X2_countTo 2 [.ref a0, .int x1, .int (0 : Int32), am_un] [] s := by
  exact rn_go 2 (pc' := 2) (L' := [.ref a0, .int x1, .int (0 : Int32), am_un]) (st' := []) rfl
theorem dc_X2_countTo_2 {B : Nat} (a0 : Nat) (x1 : Int32) (x2 : Int32) (s : am_S) : rn_ tb_ct tb_mt B mm_X2_countTo 2 [.ref a0, .int x1, .int x2, am_un] [] s = eI (gI tb_ct s a0 1 1) (fun x_1 => if x_1 ≤ x2 then eI (gI tb_ct s a0 1 1) (fun x_2 => some (.inl (some (.int x_2)), s)) else eC (am_cls s a0) 1 (cA (cl_ tb_ct tb_mt B K_X2_at [.ref a0, .int x2] s) (fun s_3 => rn_ tb_ct tb_mt B mm_X2_countTo 30 [.ref a0, .int x1, .int x2, va_rf none] [] s_3) (fun b_4 s_3 => eI (gI tb_ct s_3 b_4 0 0) (fun x_5 => if x_5 ≤ x1 then rn_ tb_ct tb_mt B mm_X2_countTo 30 [.ref a0, .int x1, .int x2, va_rf (some b_4)] [] s_3 else some (.inl (some (.int x2)), s_3))) xo)) := by
  refine Eq.trans (rn_go 2 (pc' := 4) (L' := [.ref a0, .int x1, .int x2, am_un]) (st' := [.ref a0, .int x2]) rfl) ?_
  refine Eq.trans (rn_gI (L' := [.ref a0, .int x1, .int x2, am_un]) rfl rfl rfl rfl) ?_
  refine eI_c (fun x_1 => ?_)
  refine Eq.trans (rn_icge (L' := [.ref a0, .int x1, .int x2, am_un]) rfl rfl) ?_
  refine if_c ?_ ?_
  · refine Eq.trans (rn_go 1 (pc' := 37) (L' := [.ref a0, .int x1, .int x2, am_un]) (st' := [.ref a0]) rfl) ?_
    refine Eq.trans (rn_gI (L' := [.ref a0, .int x1, .int x2, am_un]) rfl rfl rfl rfl) ?_
    refine eI_c (fun x_2 => ?_)
    exact rn_retI rfl rfl rfl
  · refine Eq.trans (rn_go 2 (pc' := 12) (L' := [.ref a0, .int x1, .int x2, am_un]) (st' := [.int x2, .ref a0]) rfl) ?_
    refine Eq.trans (rn_vir (L' := [.ref a0, .int x1, .int x2, am_un]) (as := [.int x2]) (rest := []) rfl rfl rfl rfl rfl (Nat.le_of_ble_eq_true rfl) (by decide) (by decide)) ?_
    refine eC_c ?_
    refine Eq.trans (cW_A rfl rfl rfl) ?_
    refine cA_c (fun s_3 => ?_) (fun b_4 s_3 => ?_) (xh_nil rfl)
    · exact rn_go 3 (pc' := 30) (L' := [.ref a0, .int x1, .int x2, va_rf none]) (st' := []) rfl
    · refine Eq.trans (rn_go 4 (pc' := 21) (L' := [.ref a0, .int x1, .int x2, .ref b_4]) (st' := [.ref b_4]) rfl) ?_
      refine Eq.trans (rn_gI (L' := [.ref a0, .int x1, .int x2, .ref b_4]) rfl rfl rfl rfl) ?_
      refine eI_c (fun x_5 => ?_)
      refine Eq.trans (rn_go 1 (pc' := 25) (L' := [.ref a0, .int x1, .int x2, .ref b_4]) (st' := [.int x1, .int x_5]) rfl) ?_
      refine Eq.trans (rn_icle (L' := [.ref a0, .int x1, .int x2, .ref b_4]) rfl rfl) ?_
      refine if_c ?_ ?_
      · rfl
      · refine Eq.trans (rn_go 1 (pc' := 29) (L' := [.ref a0, .int x1, .int x2, .ref b_4]) (st' := [.int x2]) rfl) ?_
        exact rn_retI rfl rfl rfl
theorem dc_X2_countTo_30 {B : Nat} (a0 : Nat) (x1 : Int32) (x2 : Int32) (w3 : Value) (s : am_S) : rn_ tb_ct tb_mt B mm_X2_countTo 30 [.ref a0, .int x1, .int x2, w3] [] s = rn_ tb_ct tb_mt B mm_X2_countTo 2 [.ref a0, .int x1, .int (x2 + (1 : Int32)), am_un] [] s := by
  exact rn_go 2 (pc' := 2) (L' := [.ref a0, .int x1, .int (x2 + (1 : Int32)), am_un]) (st' := []) rfl
theorem in_X2_dropFirst {B : Nat} (a0 : Nat) (x1 : Int32) (s : am_S) : cl_ tb_ct tb_mt B K_X2_dropFirst [.ref a0, .int x1] s = rn_ tb_ct tb_mt B mm_X2_dropFirst 0 [.ref a0, .int x1, am_un, am_un] [] s := cl_in rfl rfl rfl rfl
theorem dc_X2_dropFirst_0 {B : Nat} (a0 : Nat) (x1 : Int32) (s : am_S) : rn_ tb_ct tb_mt B mm_X2_dropFirst 0 [.ref a0, .int x1, am_un, am_un] [] s = if x1 < 0 then some (.inl none, s) else eI (gI tb_ct s a0 1 1) (fun x_1 => if x1 ≤ x_1 then eI (gI tb_ct s a0 1 1) (fun x_2 => eS (am_put tb_ct mm_X2_dropFirst B s (.int (x_2 - x1)) a0 1 1) (fun s_3 => rn_ tb_ct tb_mt B mm_X2_dropFirst 25 [.ref a0, .int x1, .int (0 : Int32), am_un] [] s_3)) else some (.inl none, s)) := by
  refine Eq.trans (rn_go 1 (pc' := 1) (L' := [.ref a0, .int x1, am_un, am_un]) (st' := [.int x1]) rfl) ?_
  refine Eq.trans (rn_iflt (L' := [.ref a0, .int x1, am_un, am_un]) rfl rfl) ?_
  refine if_c ?_ ?_
  · exact rn_retV rfl rfl
  · refine Eq.trans (rn_go 2 (pc' := 6) (L' := [.ref a0, .int x1, am_un, am_un]) (st' := [.ref a0, .int x1]) rfl) ?_
    refine Eq.trans (rn_gI (L' := [.ref a0, .int x1, am_un, am_un]) rfl rfl rfl rfl) ?_
    refine eI_c (fun x_1 => ?_)
    refine Eq.trans (rn_icle (L' := [.ref a0, .int x1, am_un, am_un]) rfl rfl) ?_
    refine if_c ?_ ?_
    · refine Eq.trans (rn_go 2 (pc' := 15) (L' := [.ref a0, .int x1, am_un, am_un]) (st' := [.ref a0, .ref a0]) rfl) ?_
      refine Eq.trans (rn_gI (L' := [.ref a0, .int x1, am_un, am_un]) rfl rfl rfl rfl) ?_
      refine eI_c (fun x_2 => ?_)
      refine Eq.trans (rn_go 2 (pc' := 20) (L' := [.ref a0, .int x1, am_un, am_un]) (st' := [.int (x_2 - x1), .ref a0]) rfl) ?_
      refine Eq.trans (rn_pF (L' := [.ref a0, .int x1, am_un, am_un]) rfl rfl) ?_
      refine eS_c (fun s_3 => ?_)
      exact rn_go 2 (pc' := 25) (L' := [.ref a0, .int x1, .int (0 : Int32), am_un]) (st' := []) rfl
    · exact rn_retV rfl rfl
theorem dc_X2_dropFirst_25 {B : Nat} (a0 : Nat) (x1 : Int32) (x2 : Int32) (w3 : Value) (s : am_S) : rn_ tb_ct tb_mt B mm_X2_dropFirst 25 [.ref a0, .int x1, .int x2, w3] [] s = eI (gI tb_ct s a0 1 1) (fun x_1 => if x_1 ≤ x2 then some (.inl none, s) else if (152 : Int32) ≤ (x2 + x1) then some (.inl none, s) else eA (gA tb_ct s a0 1 0) (none) (fun b_2 => eA (aA s b_2 x2) (eA (gA tb_ct s a0 1 0) (eA (gA tb_ct s a0 1 0) (none) (fun b_5 => eA (aA s b_5 (x2 + x1)) (none) (fun b_6 => none))) (fun b_4 => eA (gA tb_ct s a0 1 0) (none) (fun b_7 => eA (aA s b_7 (x2 + x1)) (none) (fun b_8 => eS (wA tb_ct B s b_4 x2 b_8) (fun s_9 => eA (gA tb_ct s_9 a0 1 0) (none) (fun b_10 => none)))))) (fun b_3 => eA (gA tb_ct s a0 1 0) (eA (gA tb_ct s a0 1 0) (none) (fun b_12 => eA (aA s b_12 (x2 + x1)) (none) (fun b_13 => none))) (fun b_11 => eA (gA tb_ct s a0 1 0) (none) (fun b_14 => eA (aA s b_14 (x2 + x1)) (none) (fun b_15 => eS (wA tb_ct B s b_11 x2 b_15) (fun s_16 => eA (gA tb_ct s_16 a0 1 0) (none) (fun b_17 => eS (wA tb_ct B s_16 b_17 (x2 + x1) b_3) (fun s_18 => rn_ tb_ct tb_mt B mm_X2_dropFirst 25 [.ref a0, .int x1, .int (x2 + (1 : Int32)), .ref b_3] [] s_18))))))))) := by
  refine Eq.trans (rn_go 2 (pc' := 27) (L' := [.ref a0, .int x1, .int x2, am_un]) (st' := [.ref a0, .int x2]) rfl) ?_
  refine Eq.trans (rn_gI (L' := [.ref a0, .int x1, .int x2, am_un]) rfl rfl rfl rfl) ?_
  refine eI_c (fun x_1 => ?_)
  refine Eq.trans (rn_icge (L' := [.ref a0, .int x1, .int x2, am_un]) rfl rfl) ?_
  refine if_c ?_ ?_
  · exact rn_retV rfl rfl
  · refine Eq.trans (rn_go 4 (pc' := 39) (L' := [.ref a0, .int x1, .int x2, am_un]) (st' := [.int (152 : Int32), .int (x2 + x1)]) rfl) ?_
    refine Eq.trans (rn_icge (L' := [.ref a0, .int x1, .int x2, am_un]) rfl rfl) ?_
    refine if_c ?_ ?_
    · exact rn_retV rfl rfl
    · refine Eq.trans (rn_go 1 (pc' := 43) (L' := [.ref a0, .int x1, .int x2, am_un]) (st' := [.ref a0]) rfl) ?_
      refine Eq.trans (rn_gA (L' := [.ref a0, .int x1, .int x2, am_un]) rfl rfl rfl rfl) ?_
      refine eA_c ?_ (fun b_2 => ?_)
      · refine Eq.trans (rn_go 1 (pc' := 47) (L' := [.ref a0, .int x1, .int x2, am_un]) (st' := [.int x2, .null]) rfl) ?_
        exact rn_z rfl rfl
      · refine Eq.trans (rn_go 1 (pc' := 47) (L' := [.ref a0, .int x1, .int x2, am_un]) (st' := [.int x2, .ref b_2]) rfl) ?_
        refine Eq.trans (rn_aA (L' := [.ref a0, .int x1, .int x2, am_un]) rfl rfl) ?_
        refine eA_c ?_ (fun b_3 => ?_)
        · refine Eq.trans (rn_go 2 (pc' := 50) (L' := [.ref a0, .int x1, .int x2, .null]) (st' := [.ref a0]) rfl) ?_
          refine Eq.trans (rn_gA (L' := [.ref a0, .int x1, .int x2, .null]) rfl rfl rfl rfl) ?_
          refine eA_c ?_ (fun b_4 => ?_)
          · refine Eq.trans (rn_go 2 (pc' := 55) (L' := [.ref a0, .int x1, .int x2, .null]) (st' := [.ref a0, .int x2, .null]) rfl) ?_
            refine Eq.trans (rn_gA (L' := [.ref a0, .int x1, .int x2, .null]) rfl rfl rfl rfl) ?_
            refine eA_c ?_ (fun b_5 => ?_)
            · refine Eq.trans (rn_go 3 (pc' := 61) (L' := [.ref a0, .int x1, .int x2, .null]) (st' := [.int (x2 + x1), .null, .int x2, .null]) rfl) ?_
              exact rn_z rfl rfl
            · refine Eq.trans (rn_go 3 (pc' := 61) (L' := [.ref a0, .int x1, .int x2, .null]) (st' := [.int (x2 + x1), .ref b_5, .int x2, .null]) rfl) ?_
              refine Eq.trans (rn_aA (L' := [.ref a0, .int x1, .int x2, .null]) rfl rfl) ?_
              refine eA_c ?_ (fun b_6 => ?_)
              · exact rn_z rfl rfl
              · exact rn_z rfl rfl
          · refine Eq.trans (rn_go 2 (pc' := 55) (L' := [.ref a0, .int x1, .int x2, .null]) (st' := [.ref a0, .int x2, .ref b_4]) rfl) ?_
            refine Eq.trans (rn_gA (L' := [.ref a0, .int x1, .int x2, .null]) rfl rfl rfl rfl) ?_
            refine eA_c ?_ (fun b_7 => ?_)
            · refine Eq.trans (rn_go 3 (pc' := 61) (L' := [.ref a0, .int x1, .int x2, .null]) (st' := [.int (x2 + x1), .null, .int x2, .ref b_4]) rfl) ?_
              exact rn_z rfl rfl
            · refine Eq.trans (rn_go 3 (pc' := 61) (L' := [.ref a0, .int x1, .int x2, .null]) (st' := [.int (x2 + x1), .ref b_7, .int x2, .ref b_4]) rfl) ?_
              refine Eq.trans (rn_aA (L' := [.ref a0, .int x1, .int x2, .null]) rfl rfl) ?_
              refine eA_c ?_ (fun b_8 => ?_)
              · exact rn_z rfl rfl
              · refine Eq.trans (rn_wA (L' := [.ref a0, .int x1, .int x2, .null]) rfl rfl) ?_
                refine eS_c (fun s_9 => ?_)
                refine Eq.trans (rn_go 1 (pc' := 64) (L' := [.ref a0, .int x1, .int x2, .null]) (st' := [.ref a0]) rfl) ?_
                refine Eq.trans (rn_gA (L' := [.ref a0, .int x1, .int x2, .null]) rfl rfl rfl rfl) ?_
                refine eA_c ?_ (fun b_10 => ?_)
                · refine Eq.trans (rn_go 4 (pc' := 71) (L' := [.ref a0, .int x1, .int x2, .null]) (st' := [.null, .int (x2 + x1), .null]) rfl) ?_
                  exact rn_z rfl rfl
                · refine Eq.trans (rn_go 4 (pc' := 71) (L' := [.ref a0, .int x1, .int x2, .null]) (st' := [.null, .int (x2 + x1), .ref b_10]) rfl) ?_
                  exact rn_z rfl rfl
        · refine Eq.trans (rn_go 2 (pc' := 50) (L' := [.ref a0, .int x1, .int x2, .ref b_3]) (st' := [.ref a0]) rfl) ?_
          refine Eq.trans (rn_gA (L' := [.ref a0, .int x1, .int x2, .ref b_3]) rfl rfl rfl rfl) ?_
          refine eA_c ?_ (fun b_11 => ?_)
          · refine Eq.trans (rn_go 2 (pc' := 55) (L' := [.ref a0, .int x1, .int x2, .ref b_3]) (st' := [.ref a0, .int x2, .null]) rfl) ?_
            refine Eq.trans (rn_gA (L' := [.ref a0, .int x1, .int x2, .ref b_3]) rfl rfl rfl rfl) ?_
            refine eA_c ?_ (fun b_12 => ?_)
            · refine Eq.trans (rn_go 3 (pc' := 61) (L' := [.ref a0, .int x1, .int x2, .ref b_3]) (st' := [.int (x2 + x1), .null, .int x2, .null]) rfl) ?_
              exact rn_z rfl rfl
            · refine Eq.trans (rn_go 3 (pc' := 61) (L' := [.ref a0, .int x1, .int x2, .ref b_3]) (st' := [.int (x2 + x1), .ref b_12, .int x2, .null]) rfl) ?_
              refine Eq.trans (rn_aA (L' := [.ref a0, .int x1, .int x2, .ref b_3]) rfl rfl) ?_
              refine eA_c ?_ (fun b_13 => ?_)
              · exact rn_z rfl rfl
              · exact rn_z rfl rfl
          · refine Eq.trans (rn_go 2 (pc' := 55) (L' := [.ref a0, .int x1, .int x2, .ref b_3]) (st' := [.ref a0, .int x2, .ref b_11]) rfl) ?_
            refine Eq.trans (rn_gA (L' := [.ref a0, .int x1, .int x2, .ref b_3]) rfl rfl rfl rfl) ?_
            refine eA_c ?_ (fun b_14 => ?_)
            · refine Eq.trans (rn_go 3 (pc' := 61) (L' := [.ref a0, .int x1, .int x2, .ref b_3]) (st' := [.int (x2 + x1), .null, .int x2, .ref b_11]) rfl) ?_
              exact rn_z rfl rfl
            · refine Eq.trans (rn_go 3 (pc' := 61) (L' := [.ref a0, .int x1, .int x2, .ref b_3]) (st' := [.int (x2 + x1), .ref b_14, .int x2, .ref b_11]) rfl) ?_
              refine Eq.trans (rn_aA (L' := [.ref a0, .int x1, .int x2, .ref b_3]) rfl rfl) ?_
              refine eA_c ?_ (fun b_15 => ?_)
              · exact rn_z rfl rfl
              · refine Eq.trans (rn_wA (L' := [.ref a0, .int x1, .int x2, .ref b_3]) rfl rfl) ?_
                refine eS_c (fun s_16 => ?_)
                refine Eq.trans (rn_go 1 (pc' := 64) (L' := [.ref a0, .int x1, .int x2, .ref b_3]) (st' := [.ref a0]) rfl) ?_
                refine Eq.trans (rn_gA (L' := [.ref a0, .int x1, .int x2, .ref b_3]) rfl rfl rfl rfl) ?_
                refine eA_c ?_ (fun b_17 => ?_)
                · refine Eq.trans (rn_go 4 (pc' := 71) (L' := [.ref a0, .int x1, .int x2, .ref b_3]) (st' := [.ref b_3, .int (x2 + x1), .null]) rfl) ?_
                  exact rn_z rfl rfl
                · refine Eq.trans (rn_go 4 (pc' := 71) (L' := [.ref a0, .int x1, .int x2, .ref b_3]) (st' := [.ref b_3, .int (x2 + x1), .ref b_17]) rfl) ?_
                  refine Eq.trans (rn_wA (L' := [.ref a0, .int x1, .int x2, .ref b_3]) rfl rfl) ?_
                  refine eS_c (fun s_18 => ?_)
                  exact rn_go 2 (pc' := 25) (L' := [.ref a0, .int x1, .int (x2 + (1 : Int32)), .ref b_3]) (st' := []) rfl
theorem in_X2_copyFrom {B : Nat} (a0 : Nat) (a1 : Nat) (s : am_S) : cl_ tb_ct tb_mt B K_X2_copyFrom [.ref a0, .ref a1] s = rn_ tb_ct tb_mt B mm_X2_copyFrom 0 [.ref a0, .ref a1, am_un, am_un, am_un] [] s := cl_in rfl rfl rfl rfl
theorem dc_X2_copyFrom_0 {B : Nat} (a0 : Nat) (a1 : Nat) (s : am_S) : rn_ tb_ct tb_mt B mm_X2_copyFrom 0 [.ref a0, .ref a1, am_un, am_un, am_un] [] s = eI (gI tb_ct s a1 1 1) (fun x_1 => eS (am_put tb_ct mm_X2_copyFrom B s (.int x_1) a0 1 1) (fun s_2 => rn_ tb_ct tb_mt B mm_X2_copyFrom 10 [.ref a0, .ref a1, .int (0 : Int32), am_un, am_un] [] s_2)) := by
  refine Eq.trans (rn_go 2 (pc' := 2) (L' := [.ref a0, .ref a1, am_un, am_un, am_un]) (st' := [.ref a1, .ref a0]) rfl) ?_
  refine Eq.trans (rn_gI (L' := [.ref a0, .ref a1, am_un, am_un, am_un]) rfl rfl rfl rfl) ?_
  refine eI_c (fun x_1 => ?_)
  refine Eq.trans (rn_pF (L' := [.ref a0, .ref a1, am_un, am_un, am_un]) rfl rfl) ?_
  refine eS_c (fun s_2 => ?_)
  exact rn_go 2 (pc' := 10) (L' := [.ref a0, .ref a1, .int (0 : Int32), am_un, am_un]) (st' := []) rfl
theorem dc_X2_copyFrom_10 {B : Nat} (a0 : Nat) (a1 : Nat) (x2 : Int32) (s : am_S) : rn_ tb_ct tb_mt B mm_X2_copyFrom 10 [.ref a0, .ref a1, .int x2, am_un, am_un] [] s = eI (gI tb_ct s a0 1 1) (fun x_1 => if x_1 ≤ x2 then some (.inl none, s) else eC (am_cls s a0) 1 (cA (cl_ tb_ct tb_mt B K_X2_at [.ref a0, .int x2] s) (fun s_2 => eC (am_cls s_2 a1) 1 (cA (cl_ tb_ct tb_mt B K_X2_at [.ref a1, .int x2] s_2) (fun s_4 => rn_ tb_ct tb_mt B mm_X2_copyFrom 46 [.ref a0, .ref a1, .int x2, va_rf none, va_rf none] [] s_4) (fun b_5 s_4 => rn_ tb_ct tb_mt B mm_X2_copyFrom 46 [.ref a0, .ref a1, .int x2, va_rf none, va_rf (some b_5)] [] s_4) xo)) (fun b_3 s_2 => eC (am_cls s_2 a1) 1 (cA (cl_ tb_ct tb_mt B K_X2_at [.ref a1, .int x2] s_2) (fun s_6 => rn_ tb_ct tb_mt B mm_X2_copyFrom 46 [.ref a0, .ref a1, .int x2, va_rf (some b_3), va_rf none] [] s_6) (fun b_7 s_6 => eC (am_cls s_6 b_3) 0 (cV (cl_ tb_ct tb_mt B K_X1_copyFrom [.ref b_3, .ref b_7] s_6) (fun s_8 => rn_ tb_ct tb_mt B mm_X2_copyFrom 46 [.ref a0, .ref a1, .int x2, va_rf (some b_3), va_rf (some b_7)] [] s_8) xo)) xo)) xo)) := by
  refine Eq.trans (rn_go 2 (pc' := 12) (L' := [.ref a0, .ref a1, .int x2, am_un, am_un]) (st' := [.ref a0, .int x2]) rfl) ?_
  refine Eq.trans (rn_gI (L' := [.ref a0, .ref a1, .int x2, am_un, am_un]) rfl rfl rfl rfl) ?_
  refine eI_c (fun x_1 => ?_)
  refine Eq.trans (rn_icge (L' := [.ref a0, .ref a1, .int x2, am_un, am_un]) rfl rfl) ?_
  refine if_c ?_ ?_
  · exact rn_retV rfl rfl
  · refine Eq.trans (rn_go 2 (pc' := 20) (L' := [.ref a0, .ref a1, .int x2, am_un, am_un]) (st' := [.int x2, .ref a0]) rfl) ?_
    refine Eq.trans (rn_vir (L' := [.ref a0, .ref a1, .int x2, am_un, am_un]) (as := [.int x2]) (rest := []) rfl rfl rfl rfl rfl (Nat.le_of_ble_eq_true rfl) (by decide) (by decide)) ?_
    refine eC_c ?_
    refine Eq.trans (cW_A rfl rfl rfl) ?_
    refine cA_c (fun s_2 => ?_) (fun b_3 s_2 => ?_) (xh_nil rfl)
    · refine Eq.trans (rn_go 3 (pc' := 26) (L' := [.ref a0, .ref a1, .int x2, .null, am_un]) (st' := [.int x2, .ref a1]) rfl) ?_
      refine Eq.trans (rn_vir (L' := [.ref a0, .ref a1, .int x2, .null, am_un]) (as := [.int x2]) (rest := []) rfl rfl rfl rfl rfl (Nat.le_of_ble_eq_true rfl) (by decide) (by decide)) ?_
      refine eC_c ?_
      refine Eq.trans (cW_A rfl rfl rfl) ?_
      refine cA_c (fun s_4 => ?_) (fun b_5 s_4 => ?_) (xh_nil rfl)
      · exact rn_go 3 (pc' := 46) (L' := [.ref a0, .ref a1, .int x2, va_rf none, va_rf none]) (st' := []) rfl
      · exact rn_go 3 (pc' := 46) (L' := [.ref a0, .ref a1, .int x2, va_rf none, va_rf (some b_5)]) (st' := []) rfl
    · refine Eq.trans (rn_go 3 (pc' := 26) (L' := [.ref a0, .ref a1, .int x2, .ref b_3, am_un]) (st' := [.int x2, .ref a1]) rfl) ?_
      refine Eq.trans (rn_vir (L' := [.ref a0, .ref a1, .int x2, .ref b_3, am_un]) (as := [.int x2]) (rest := []) rfl rfl rfl rfl rfl (Nat.le_of_ble_eq_true rfl) (by decide) (by decide)) ?_
      refine eC_c ?_
      refine Eq.trans (cW_A rfl rfl rfl) ?_
      refine cA_c (fun s_6 => ?_) (fun b_7 s_6 => ?_) (xh_nil rfl)
      · exact rn_go 5 (pc' := 46) (L' := [.ref a0, .ref a1, .int x2, va_rf (some b_3), va_rf none]) (st' := []) rfl
      · refine Eq.trans (rn_go 7 (pc' := 43) (L' := [.ref a0, .ref a1, .int x2, .ref b_3, .ref b_7]) (st' := [.ref b_7, .ref b_3]) rfl) ?_
        refine Eq.trans (rn_vir (L' := [.ref a0, .ref a1, .int x2, .ref b_3, .ref b_7]) (as := [.ref b_7]) (rest := []) rfl rfl rfl rfl rfl (Nat.le_of_ble_eq_true rfl) (by decide) (by decide)) ?_
        refine eC_c ?_
        refine Eq.trans (cW_V rfl rfl) ?_
        refine cV_c (fun s_8 => ?_) (xh_nil rfl)
        rfl
theorem dc_X2_copyFrom_46 {B : Nat} (a0 : Nat) (a1 : Nat) (x2 : Int32) (w3 : Value) (w4 : Value) (s : am_S) : rn_ tb_ct tb_mt B mm_X2_copyFrom 46 [.ref a0, .ref a1, .int x2, w3, w4] [] s = rn_ tb_ct tb_mt B mm_X2_copyFrom 10 [.ref a0, .ref a1, .int (x2 + (1 : Int32)), am_un, am_un] [] s := by
  exact rn_go 2 (pc' := 10) (L' := [.ref a0, .ref a1, .int (x2 + (1 : Int32)), am_un, am_un]) (st' := []) rfl
theorem in_X3_init {B : Nat} (a0 : Nat) (s : am_S) : cl_ tb_ct tb_mt B K_X3_init [.ref a0] s = rn_ tb_ct tb_mt B mm_X3_init 0 [.ref a0] [] s := cl_in rfl rfl rfl rfl
theorem dc_X3_init_0 {B : Nat} (a0 : Nat) (s : am_S) : rn_ tb_ct tb_mt B mm_X3_init 0 [.ref a0] [] s = some (.inl none, s) := by
  refine Eq.trans (rn_go 1 (pc' := 1) (L' := [.ref a0]) (st' := [.ref a0]) rfl) ?_
  refine Eq.trans (rn_obj (L' := [.ref a0]) rfl rfl (Nat.le_of_ble_eq_true rfl)) ?_
  exact rn_retV rfl rfl
theorem in_X3_isIn {B : Nat} (a0 : Nat) (x1 : Int32) (x2 : Int32) (s : am_S) : cl_ tb_ct tb_mt B K_X3_isIn [.ref a0, .int x1, .int x2] s = rn_ tb_ct tb_mt B mm_X3_isIn 0 [.ref a0, .int x1, .int x2] [] s := cl_in rfl rfl rfl rfl
theorem dc_X3_isIn_0 {B : Nat} (a0 : Nat) (x1 : Int32) (x2 : Int32) (s : am_S) : rn_ tb_ct tb_mt B mm_X3_isIn 0 [.ref a0, .int x1, .int x2] [] s = eI (gI tb_ct s a0 2 0) (fun x_1 => if x_1 < x1 then some (.inl (some (.int (0 : Int32))), s) else eI (gI tb_ct s a0 2 0) (fun x_2 => if x2 < x_2 then some (.inl (some (.int (0 : Int32))), s) else some (.inl (some (.int (1 : Int32))), s))) := by
  refine Eq.trans (rn_go 1 (pc' := 1) (L' := [.ref a0, .int x1, .int x2]) (st' := [.ref a0]) rfl) ?_
  refine Eq.trans (rn_gI (L' := [.ref a0, .int x1, .int x2]) rfl rfl rfl rfl) ?_
  refine eI_c (fun x_1 => ?_)
  refine Eq.trans (rn_go 1 (pc' := 5) (L' := [.ref a0, .int x1, .int x2]) (st' := [.int x1, .int x_1]) rfl) ?_
  refine Eq.trans (rn_iclt (L' := [.ref a0, .int x1, .int x2]) rfl rfl) ?_
  refine if_c ?_ ?_
  · refine Eq.trans (rn_go 1 (pc' := 21) (L' := [.ref a0, .int x1, .int x2]) (st' := [.int (0 : Int32)]) rfl) ?_
    exact rn_retI rfl rfl rfl
  · refine Eq.trans (rn_go 1 (pc' := 9) (L' := [.ref a0, .int x1, .int x2]) (st' := [.ref a0]) rfl) ?_
    refine Eq.trans (rn_gI (L' := [.ref a0, .int x1, .int x2]) rfl rfl rfl rfl) ?_
    refine eI_c (fun x_2 => ?_)
    refine Eq.trans (rn_go 1 (pc' := 13) (L' := [.ref a0, .int x1, .int x2]) (st' := [.int x2, .int x_2]) rfl) ?_
    refine Eq.trans (rn_icgt (L' := [.ref a0, .int x1, .int x2]) rfl rfl) ?_
    refine if_c ?_ ?_
    · refine Eq.trans (rn_go 1 (pc' := 21) (L' := [.ref a0, .int x1, .int x2]) (st' := [.int (0 : Int32)]) rfl) ?_
      exact rn_retI rfl rfl rfl
    · refine Eq.trans (rn_go 2 (pc' := 21) (L' := [.ref a0, .int x1, .int x2]) (st' := [.int (1 : Int32)]) rfl) ?_
      exact rn_retI rfl rfl rfl
theorem in_X3_cameBefore {B : Nat} (a0 : Nat) (a1 : Nat) (s : am_S) : cl_ tb_ct tb_mt B K_X3_cameBefore [.ref a0, .ref a1] s = rn_ tb_ct tb_mt B mm_X3_cameBefore 0 [.ref a0, .ref a1] [] s := cl_in rfl rfl rfl rfl
theorem dc_X3_cameBefore_0 {B : Nat} (a0 : Nat) (a1 : Nat) (s : am_S) : rn_ tb_ct tb_mt B mm_X3_cameBefore 0 [.ref a0, .ref a1] [] s = eI (gI tb_ct s a0 2 2) (fun x_1 => eI (gI tb_ct s a1 2 2) (fun x_2 => if x_1 < x_2 then rn_ tb_ct tb_mt B mm_X3_cameBefore 33 [.ref a0, .ref a1] [] s else eI (gI tb_ct s a0 2 2) (fun x_3 => eI (gI tb_ct s a1 2 2) (fun x_4 => if x_3 = x_4 then eI (gI tb_ct s a0 2 0) (fun x_5 => eI (gI tb_ct s a1 2 0) (fun x_6 => if x_6 ≤ x_5 then some (.inl (some (.int (0 : Int32))), s) else rn_ tb_ct tb_mt B mm_X3_cameBefore 33 [.ref a0, .ref a1] [] s)) else some (.inl (some (.int (0 : Int32))), s))))) := by
  refine Eq.trans (rn_go 1 (pc' := 1) (L' := [.ref a0, .ref a1]) (st' := [.ref a0]) rfl) ?_
  refine Eq.trans (rn_gI (L' := [.ref a0, .ref a1]) rfl rfl rfl rfl) ?_
  refine eI_c (fun x_1 => ?_)
  refine Eq.trans (rn_go 1 (pc' := 5) (L' := [.ref a0, .ref a1]) (st' := [.ref a1, .int x_1]) rfl) ?_
  refine Eq.trans (rn_gI (L' := [.ref a0, .ref a1]) rfl rfl rfl rfl) ?_
  refine eI_c (fun x_2 => ?_)
  refine Eq.trans (rn_iclt (L' := [.ref a0, .ref a1]) rfl rfl) ?_
  refine if_c ?_ ?_
  · rfl
  · refine Eq.trans (rn_go 1 (pc' := 12) (L' := [.ref a0, .ref a1]) (st' := [.ref a0]) rfl) ?_
    refine Eq.trans (rn_gI (L' := [.ref a0, .ref a1]) rfl rfl rfl rfl) ?_
    refine eI_c (fun x_3 => ?_)
    refine Eq.trans (rn_go 1 (pc' := 16) (L' := [.ref a0, .ref a1]) (st' := [.ref a1, .int x_3]) rfl) ?_
    refine Eq.trans (rn_gI (L' := [.ref a0, .ref a1]) rfl rfl rfl rfl) ?_
    refine eI_c (fun x_4 => ?_)
    refine Eq.trans (rn_icne (L' := [.ref a0, .ref a1]) rfl rfl) ?_
    refine if_c ?_ ?_
    · refine Eq.trans (rn_go 1 (pc' := 23) (L' := [.ref a0, .ref a1]) (st' := [.ref a0]) rfl) ?_
      refine Eq.trans (rn_gI (L' := [.ref a0, .ref a1]) rfl rfl rfl rfl) ?_
      refine eI_c (fun x_5 => ?_)
      refine Eq.trans (rn_go 1 (pc' := 27) (L' := [.ref a0, .ref a1]) (st' := [.ref a1, .int x_5]) rfl) ?_
      refine Eq.trans (rn_gI (L' := [.ref a0, .ref a1]) rfl rfl rfl rfl) ?_
      refine eI_c (fun x_6 => ?_)
      refine Eq.trans (rn_icge (L' := [.ref a0, .ref a1]) rfl rfl) ?_
      refine if_c ?_ ?_
      · refine Eq.trans (rn_go 1 (pc' := 38) (L' := [.ref a0, .ref a1]) (st' := [.int (0 : Int32)]) rfl) ?_
        exact rn_retI rfl rfl rfl
      · rfl
    · refine Eq.trans (rn_go 1 (pc' := 38) (L' := [.ref a0, .ref a1]) (st' := [.int (0 : Int32)]) rfl) ?_
      exact rn_retI rfl rfl rfl
theorem dc_X3_cameBefore_33 {B : Nat} (w0 : Value) (w1 : Value) (s : am_S) : rn_ tb_ct tb_mt B mm_X3_cameBefore 33 [w0, w1] [] s = some (.inl (some (.int (1 : Int32))), s) := by
  refine Eq.trans (rn_go 2 (pc' := 38) (L' := [am_un, am_un]) (st' := [.int (1 : Int32)]) rfl) ?_
  exact rn_retI rfl rfl rfl
theorem in_X3_number {B : Nat} (a0 : Nat) (x1 : Int32) (s : am_S) : cl_ tb_ct tb_mt B K_X3_number [.ref a0, .int x1] s = rn_ tb_ct tb_mt B mm_X3_number 0 [.ref a0, .int x1] [] s := cl_in rfl rfl rfl rfl
theorem dc_X3_number_0 {B : Nat} (a0 : Nat) (x1 : Int32) (s : am_S) : rn_ tb_ct tb_mt B mm_X3_number 0 [.ref a0, .int x1] [] s = sw x1.toInt (0) [eI (gI tb_ct s a0 2 1) (fun x_1 => some (.inl (some (.int x_1)), s)), eI (gI tb_ct s a0 2 2) (fun x_2 => some (.inl (some (.int x_2)), s)), eI (gI tb_ct s a0 2 3) (fun x_3 => some (.inl (some (.int x_3)), s)), eI (gI tb_ct s a0 2 4) (fun x_4 => some (.inl (some (.int x_4)), s))] (eI (gI tb_ct s a0 2 5) (fun x_5 => some (.inl (some (.int x_5)), s))) := by
  refine Eq.trans (rn_go 1 (pc' := 1) (L' := [.ref a0, .int x1]) (st' := [.int x1]) rfl) ?_
  refine Eq.trans (rn_tsw (L' := [.ref a0, .int x1]) (ts := [32, 37, 42, 47]) (td := 52) rfl rfl (by decide) rfl rfl) ?_
  refine sw_c ?_ ?_
  · refine cons_c ?_ ?_
    · refine Eq.trans (rn_go 1 (pc' := 33) (L' := [.ref a0, .int x1]) (st' := [.ref a0]) rfl) ?_
      refine Eq.trans (rn_gI (L' := [.ref a0, .int x1]) rfl rfl rfl rfl) ?_
      refine eI_c (fun x_1 => ?_)
      exact rn_retI rfl rfl rfl
    refine cons_c ?_ ?_
    · refine Eq.trans (rn_go 1 (pc' := 38) (L' := [.ref a0, .int x1]) (st' := [.ref a0]) rfl) ?_
      refine Eq.trans (rn_gI (L' := [.ref a0, .int x1]) rfl rfl rfl rfl) ?_
      refine eI_c (fun x_2 => ?_)
      exact rn_retI rfl rfl rfl
    refine cons_c ?_ ?_
    · refine Eq.trans (rn_go 1 (pc' := 43) (L' := [.ref a0, .int x1]) (st' := [.ref a0]) rfl) ?_
      refine Eq.trans (rn_gI (L' := [.ref a0, .int x1]) rfl rfl rfl rfl) ?_
      refine eI_c (fun x_3 => ?_)
      exact rn_retI rfl rfl rfl
    refine cons_c ?_ ?_
    · refine Eq.trans (rn_go 1 (pc' := 48) (L' := [.ref a0, .int x1]) (st' := [.ref a0]) rfl) ?_
      refine Eq.trans (rn_gI (L' := [.ref a0, .int x1]) rfl rfl rfl rfl) ?_
      refine eI_c (fun x_4 => ?_)
      exact rn_retI rfl rfl rfl
    rfl
  · refine Eq.trans (rn_go 1 (pc' := 53) (L' := [.ref a0, .int x1]) (st' := [.ref a0]) rfl) ?_
    refine Eq.trans (rn_gI (L' := [.ref a0, .int x1]) rfl rfl rfl rfl) ?_
    refine eI_c (fun x_5 => ?_)
    exact rn_retI rfl rfl rfl
theorem in_X3_copyFrom {B : Nat} (a0 : Nat) (a1 : Nat) (s : am_S) : cl_ tb_ct tb_mt B K_X3_copyFrom [.ref a0, .ref a1] s = rn_ tb_ct tb_mt B mm_X3_copyFrom 0 [.ref a0, .ref a1] [] s := cl_in rfl rfl rfl rfl
theorem dc_X3_copyFrom_0 {B : Nat} (a0 : Nat) (a1 : Nat) (s : am_S) : rn_ tb_ct tb_mt B mm_X3_copyFrom 0 [.ref a0, .ref a1] [] s = eI (gI tb_ct s a1 2 0) (fun x_1 => eS (am_put tb_ct mm_X3_copyFrom B s (.int x_1) a0 2 0) (fun s_2 => eI (gI tb_ct s_2 a1 2 1) (fun x_3 => eS (am_put tb_ct mm_X3_copyFrom B s_2 (.int x_3) a0 2 1) (fun s_4 => eI (gI tb_ct s_4 a1 2 2) (fun x_5 => eS (am_put tb_ct mm_X3_copyFrom B s_4 (.int x_5) a0 2 2) (fun s_6 => eI (gI tb_ct s_6 a1 2 3) (fun x_7 => eS (am_put tb_ct mm_X3_copyFrom B s_6 (.int x_7) a0 2 3) (fun s_8 => eI (gI tb_ct s_8 a1 2 4) (fun x_9 => eS (am_put tb_ct mm_X3_copyFrom B s_8 (.int x_9) a0 2 4) (fun s_10 => eI (gI tb_ct s_10 a1 2 5) (fun x_11 => eS (am_put tb_ct mm_X3_copyFrom B s_10 (.int x_11) a0 2 5) (fun s_12 => some (.inl none, s_12))))))))))))) := by
  refine Eq.trans (rn_go 2 (pc' := 2) (L' := [.ref a0, .ref a1]) (st' := [.ref a1, .ref a0]) rfl) ?_
  refine Eq.trans (rn_gI (L' := [.ref a0, .ref a1]) rfl rfl rfl rfl) ?_
  refine eI_c (fun x_1 => ?_)
  refine Eq.trans (rn_pF (L' := [.ref a0, .ref a1]) rfl rfl) ?_
  refine eS_c (fun s_2 => ?_)
  refine Eq.trans (rn_go 2 (pc' := 10) (L' := [.ref a0, .ref a1]) (st' := [.ref a1, .ref a0]) rfl) ?_
  refine Eq.trans (rn_gI (L' := [.ref a0, .ref a1]) rfl rfl rfl rfl) ?_
  refine eI_c (fun x_3 => ?_)
  refine Eq.trans (rn_pF (L' := [.ref a0, .ref a1]) rfl rfl) ?_
  refine eS_c (fun s_4 => ?_)
  refine Eq.trans (rn_go 2 (pc' := 18) (L' := [.ref a0, .ref a1]) (st' := [.ref a1, .ref a0]) rfl) ?_
  refine Eq.trans (rn_gI (L' := [.ref a0, .ref a1]) rfl rfl rfl rfl) ?_
  refine eI_c (fun x_5 => ?_)
  refine Eq.trans (rn_pF (L' := [.ref a0, .ref a1]) rfl rfl) ?_
  refine eS_c (fun s_6 => ?_)
  refine Eq.trans (rn_go 2 (pc' := 26) (L' := [.ref a0, .ref a1]) (st' := [.ref a1, .ref a0]) rfl) ?_
  refine Eq.trans (rn_gI (L' := [.ref a0, .ref a1]) rfl rfl rfl rfl) ?_
  refine eI_c (fun x_7 => ?_)
  refine Eq.trans (rn_pF (L' := [.ref a0, .ref a1]) rfl rfl) ?_
  refine eS_c (fun s_8 => ?_)
  refine Eq.trans (rn_go 2 (pc' := 34) (L' := [.ref a0, .ref a1]) (st' := [.ref a1, .ref a0]) rfl) ?_
  refine Eq.trans (rn_gI (L' := [.ref a0, .ref a1]) rfl rfl rfl rfl) ?_
  refine eI_c (fun x_9 => ?_)
  refine Eq.trans (rn_pF (L' := [.ref a0, .ref a1]) rfl rfl) ?_
  refine eS_c (fun s_10 => ?_)
  refine Eq.trans (rn_go 2 (pc' := 42) (L' := [.ref a0, .ref a1]) (st' := [.ref a1, .ref a0]) rfl) ?_
  refine Eq.trans (rn_gI (L' := [.ref a0, .ref a1]) rfl rfl rfl rfl) ?_
  refine eI_c (fun x_11 => ?_)
  refine Eq.trans (rn_pF (L' := [.ref a0, .ref a1]) rfl rfl) ?_
  refine eS_c (fun s_12 => ?_)
  exact rn_retV rfl rfl
theorem in_X4_init {B : Nat} (a0 : Nat) (s : am_S) : cl_ tb_ct tb_mt B K_X4_init [.ref a0] s = rn_ tb_ct tb_mt B mm_X4_init 0 [.ref a0, am_un] [] s := cl_in rfl rfl rfl rfl
theorem dc_X4_init_0 {B : Nat} (a0 : Nat) (s : am_S) : rn_ tb_ct tb_mt B mm_X4_init 0 [.ref a0, am_un] [] s = nwA "WatchedKeys$Key" s (22 : Int32) (fun b_1 s_2 => eS (am_put tb_ct mm_X4_init B s_2 (.ref b_1) a0 3 0) (fun s_3 => rn_ tb_ct tb_mt B mm_X4_init 15 [.ref a0, .int (0 : Int32)] [] s_3)) := by
  refine Eq.trans (rn_go 1 (pc' := 1) (L' := [.ref a0, am_un]) (st' := [.ref a0]) rfl) ?_
  refine Eq.trans (rn_obj (L' := [.ref a0, am_un]) rfl rfl (Nat.le_of_ble_eq_true rfl)) ?_
  refine Eq.trans (rn_go 2 (pc' := 7) (L' := [.ref a0, am_un]) (st' := [.int (22 : Int32), .ref a0]) rfl) ?_
  refine Eq.trans (rn_nwA (L' := [.ref a0, am_un]) rfl rfl rfl) ?_
  refine nwA_c (fun b_1 s_2 => ?_)
  refine Eq.trans (rn_pF (L' := [.ref a0, am_un]) rfl rfl) ?_
  refine eS_c (fun s_3 => ?_)
  exact rn_go 2 (pc' := 15) (L' := [.ref a0, .int (0 : Int32)]) (st' := []) rfl
theorem dc_X4_init_15 {B : Nat} (a0 : Nat) (x1 : Int32) (s : am_S) : rn_ tb_ct tb_mt B mm_X4_init 15 [.ref a0, .int x1] [] s = if (22 : Int32) ≤ x1 then some (.inl none, s) else eA (gA tb_ct s a0 3 0) (nwO tb_ct s 2 (fun b_2 s_3 => eC (am_cls s_3 b_2) 2 (cV (cl_ tb_ct tb_mt B K_X3_init [.ref b_2] s_3) (fun s_4 => none) xo))) (fun b_1 => nwO tb_ct s 2 (fun b_5 s_6 => eC (am_cls s_6 b_5) 2 (cV (cl_ tb_ct tb_mt B K_X3_init [.ref b_5] s_6) (fun s_7 => eS (wA tb_ct B s_7 b_1 x1 b_5) (fun s_8 => rn_ tb_ct tb_mt B mm_X4_init 15 [.ref a0, .int (x1 + (1 : Int32))] [] s_8)) xo))) := by
  refine Eq.trans (rn_go 2 (pc' := 18) (L' := [.ref a0, .int x1]) (st' := [.int (22 : Int32), .int x1]) rfl) ?_
  refine Eq.trans (rn_icge (L' := [.ref a0, .int x1]) rfl rfl) ?_
  refine if_c ?_ ?_
  · exact rn_retV rfl rfl
  · refine Eq.trans (rn_go 1 (pc' := 22) (L' := [.ref a0, .int x1]) (st' := [.ref a0]) rfl) ?_
    refine Eq.trans (rn_gA (L' := [.ref a0, .int x1]) rfl rfl rfl rfl) ?_
    refine eA_c ?_ (fun b_1 => ?_)
    · refine Eq.trans (rn_go 1 (pc' := 26) (L' := [.ref a0, .int x1]) (st' := [.int x1, .null]) rfl) ?_
      refine Eq.trans (rn_new (L' := [.ref a0, .int x1]) rfl rfl) ?_
      refine nwO_c (fun b_2 s_3 => ?_)
      refine Eq.trans (rn_go 1 (pc' := 30) (L' := [.ref a0, .int x1]) (st' := [.ref b_2, .ref b_2, .int x1, .null]) rfl) ?_
      refine Eq.trans (rn_spe (L' := [.ref a0, .int x1]) (as := []) (rest := [.ref b_2, .int x1, .null]) rfl rfl (by decide) rfl rfl rfl (Nat.le_of_ble_eq_true rfl) (by decide) (by decide)) ?_
      refine eC_c ?_
      refine Eq.trans (cW_V rfl rfl) ?_
      refine cV_c (fun s_4 => ?_) (xh_nil rfl)
      exact rn_z rfl rfl
    · refine Eq.trans (rn_go 1 (pc' := 26) (L' := [.ref a0, .int x1]) (st' := [.int x1, .ref b_1]) rfl) ?_
      refine Eq.trans (rn_new (L' := [.ref a0, .int x1]) rfl rfl) ?_
      refine nwO_c (fun b_5 s_6 => ?_)
      refine Eq.trans (rn_go 1 (pc' := 30) (L' := [.ref a0, .int x1]) (st' := [.ref b_5, .ref b_5, .int x1, .ref b_1]) rfl) ?_
      refine Eq.trans (rn_spe (L' := [.ref a0, .int x1]) (as := []) (rest := [.ref b_5, .int x1, .ref b_1]) rfl rfl (by decide) rfl rfl rfl (Nat.le_of_ble_eq_true rfl) (by decide) (by decide)) ?_
      refine eC_c ?_
      refine Eq.trans (cW_V rfl rfl) ?_
      refine cV_c (fun s_7 => ?_) (xh_nil rfl)
      refine Eq.trans (rn_wA (L' := [.ref a0, .int x1]) rfl rfl) ?_
      refine eS_c (fun s_8 => ?_)
      exact rn_go 2 (pc' := 15) (L' := [.ref a0, .int (x1 + (1 : Int32))]) (st' := []) rfl
theorem in_X4_at {B : Nat} (a0 : Nat) (x1 : Int32) (s : am_S) : cl_ tb_ct tb_mt B K_X4_at [.ref a0, .int x1] s = rn_ tb_ct tb_mt B mm_X4_at 0 [.ref a0, .int x1] [] s := cl_in rfl rfl rfl rfl
theorem dc_X4_at_0 {B : Nat} (a0 : Nat) (x1 : Int32) (s : am_S) : rn_ tb_ct tb_mt B mm_X4_at 0 [.ref a0, .int x1] [] s = if x1 < 0 then some (.inl (some .null), s) else eI (gI tb_ct s a0 3 1) (fun x_1 => if x_1 ≤ x1 then some (.inl (some .null), s) else if (22 : Int32) ≤ x1 then some (.inl (some .null), s) else eA (gA tb_ct s a0 3 0) (none) (fun b_2 => eA (aA s b_2 x1) (some (.inl (some .null), s)) (fun b_3 => some (.inl (some (.ref b_3)), s)))) := by
  refine Eq.trans (rn_go 1 (pc' := 1) (L' := [.ref a0, .int x1]) (st' := [.int x1]) rfl) ?_
  refine Eq.trans (rn_iflt (L' := [.ref a0, .int x1]) rfl rfl) ?_
  refine if_c ?_ ?_
  · refine Eq.trans (rn_go 1 (pc' := 28) (L' := [.ref a0, .int x1]) (st' := [.null]) rfl) ?_
    exact rn_retA rfl rfl rfl rfl
  · refine Eq.trans (rn_go 2 (pc' := 6) (L' := [.ref a0, .int x1]) (st' := [.ref a0, .int x1]) rfl) ?_
    refine Eq.trans (rn_gI (L' := [.ref a0, .int x1]) rfl rfl rfl rfl) ?_
    refine eI_c (fun x_1 => ?_)
    refine Eq.trans (rn_icge (L' := [.ref a0, .int x1]) rfl rfl) ?_
    refine if_c ?_ ?_
    · refine Eq.trans (rn_go 1 (pc' := 28) (L' := [.ref a0, .int x1]) (st' := [.null]) rfl) ?_
      exact rn_retA rfl rfl rfl rfl
    · refine Eq.trans (rn_go 2 (pc' := 15) (L' := [.ref a0, .int x1]) (st' := [.int (22 : Int32), .int x1]) rfl) ?_
      refine Eq.trans (rn_icge (L' := [.ref a0, .int x1]) rfl rfl) ?_
      refine if_c ?_ ?_
      · refine Eq.trans (rn_go 1 (pc' := 28) (L' := [.ref a0, .int x1]) (st' := [.null]) rfl) ?_
        exact rn_retA rfl rfl rfl rfl
      · refine Eq.trans (rn_go 1 (pc' := 19) (L' := [.ref a0, .int x1]) (st' := [.ref a0]) rfl) ?_
        refine Eq.trans (rn_gA (L' := [.ref a0, .int x1]) rfl rfl rfl rfl) ?_
        refine eA_c ?_ (fun b_2 => ?_)
        · refine Eq.trans (rn_go 1 (pc' := 23) (L' := [.ref a0, .int x1]) (st' := [.int x1, .null]) rfl) ?_
          exact rn_z rfl rfl
        · refine Eq.trans (rn_go 1 (pc' := 23) (L' := [.ref a0, .int x1]) (st' := [.int x1, .ref b_2]) rfl) ?_
          refine Eq.trans (rn_aA (L' := [.ref a0, .int x1]) rfl rfl) ?_
          refine eA_c ?_ (fun b_3 => ?_)
          · refine Eq.trans (rn_go 1 (pc' := 28) (L' := [.ref a0, .int x1]) (st' := [.null]) rfl) ?_
            exact rn_retA rfl rfl rfl rfl
          · refine Eq.trans (rn_go 1 (pc' := 28) (L' := [.ref a0, .int x1]) (st' := [.ref b_3]) rfl) ?_
            exact rn_retA rfl rfl rfl rfl
theorem in_X4_firstFrom {B : Nat} (a0 : Nat) (x1 : Int32) (s : am_S) : cl_ tb_ct tb_mt B K_X4_firstFrom [.ref a0, .int x1] s = rn_ tb_ct tb_mt B mm_X4_firstFrom 0 [.ref a0, .int x1, am_un, am_un] [] s := cl_in rfl rfl rfl rfl
theorem dc_X4_firstFrom_0 {B : Nat} (a0 : Nat) (x1 : Int32) (s : am_S) : rn_ tb_ct tb_mt B mm_X4_firstFrom 0 [.ref a0, .int x1, am_un, am_un] [] s = rn_ tb_ct tb_mt B mm_X4_firstFrom 2 [.ref a0, .int x1, .int (0 : Int32), am_un] [] s := by
  exact rn_go 2 (pc' := 2) (L' := [.ref a0, .int x1, .int (0 : Int32), am_un]) (st' := []) rfl
theorem dc_X4_firstFrom_2 {B : Nat} (a0 : Nat) (x1 : Int32) (x2 : Int32) (s : am_S) : rn_ tb_ct tb_mt B mm_X4_firstFrom 2 [.ref a0, .int x1, .int x2, am_un] [] s = eI (gI tb_ct s a0 3 1) (fun x_1 => if x_1 ≤ x2 then eI (gI tb_ct s a0 3 1) (fun x_2 => some (.inl (some (.int x_2)), s)) else eC (am_cls s a0) 3 (cA (cl_ tb_ct tb_mt B K_X4_at [.ref a0, .int x2] s) (fun s_3 => rn_ tb_ct tb_mt B mm_X4_firstFrom 30 [.ref a0, .int x1, .int x2, va_rf none] [] s_3) (fun b_4 s_3 => eI (gI tb_ct s_3 b_4 2 0) (fun x_5 => if x_5 < x1 then rn_ tb_ct tb_mt B mm_X4_firstFrom 30 [.ref a0, .int x1, .int x2, va_rf (some b_4)] [] s_3 else some (.inl (some (.int x2)), s_3))) xo)) := by
  refine Eq.trans (rn_go 2 (pc' := 4) (L' := [.ref a0, .int x1, .int x2, am_un]) (st' := [.ref a0, .int x2]) rfl) ?_
  refine Eq.trans (rn_gI (L' := [.ref a0, .int x1, .int x2, am_un]) rfl rfl rfl rfl) ?_
  refine eI_c (fun x_1 => ?_)
  refine Eq.trans (rn_icge (L' := [.ref a0, .int x1, .int x2, am_un]) rfl rfl) ?_
  refine if_c ?_ ?_
  · refine Eq.trans (rn_go 1 (pc' := 37) (L' := [.ref a0, .int x1, .int x2, am_un]) (st' := [.ref a0]) rfl) ?_
    refine Eq.trans (rn_gI (L' := [.ref a0, .int x1, .int x2, am_un]) rfl rfl rfl rfl) ?_
    refine eI_c (fun x_2 => ?_)
    exact rn_retI rfl rfl rfl
  · refine Eq.trans (rn_go 2 (pc' := 12) (L' := [.ref a0, .int x1, .int x2, am_un]) (st' := [.int x2, .ref a0]) rfl) ?_
    refine Eq.trans (rn_vir (L' := [.ref a0, .int x1, .int x2, am_un]) (as := [.int x2]) (rest := []) rfl rfl rfl rfl rfl (Nat.le_of_ble_eq_true rfl) (by decide) (by decide)) ?_
    refine eC_c ?_
    refine Eq.trans (cW_A rfl rfl rfl) ?_
    refine cA_c (fun s_3 => ?_) (fun b_4 s_3 => ?_) (xh_nil rfl)
    · exact rn_go 3 (pc' := 30) (L' := [.ref a0, .int x1, .int x2, va_rf none]) (st' := []) rfl
    · refine Eq.trans (rn_go 4 (pc' := 21) (L' := [.ref a0, .int x1, .int x2, .ref b_4]) (st' := [.ref b_4]) rfl) ?_
      refine Eq.trans (rn_gI (L' := [.ref a0, .int x1, .int x2, .ref b_4]) rfl rfl rfl rfl) ?_
      refine eI_c (fun x_5 => ?_)
      refine Eq.trans (rn_go 1 (pc' := 25) (L' := [.ref a0, .int x1, .int x2, .ref b_4]) (st' := [.int x1, .int x_5]) rfl) ?_
      refine Eq.trans (rn_iclt (L' := [.ref a0, .int x1, .int x2, .ref b_4]) rfl rfl) ?_
      refine if_c ?_ ?_
      · rfl
      · refine Eq.trans (rn_go 1 (pc' := 29) (L' := [.ref a0, .int x1, .int x2, .ref b_4]) (st' := [.int x2]) rfl) ?_
        exact rn_retI rfl rfl rfl
theorem dc_X4_firstFrom_30 {B : Nat} (a0 : Nat) (x1 : Int32) (x2 : Int32) (w3 : Value) (s : am_S) : rn_ tb_ct tb_mt B mm_X4_firstFrom 30 [.ref a0, .int x1, .int x2, w3] [] s = rn_ tb_ct tb_mt B mm_X4_firstFrom 2 [.ref a0, .int x1, .int (x2 + (1 : Int32)), am_un] [] s := by
  exact rn_go 2 (pc' := 2) (L' := [.ref a0, .int x1, .int (x2 + (1 : Int32)), am_un]) (st' := []) rfl
theorem in_X4_indexOf {B : Nat} (a0 : Nat) (x1 : Int32) (s : am_S) : cl_ tb_ct tb_mt B K_X4_indexOf [.ref a0, .int x1] s = rn_ tb_ct tb_mt B mm_X4_indexOf 0 [.ref a0, .int x1, am_un, am_un] [] s := cl_in rfl rfl rfl rfl
theorem dc_X4_indexOf_0 {B : Nat} (a0 : Nat) (x1 : Int32) (s : am_S) : rn_ tb_ct tb_mt B mm_X4_indexOf 0 [.ref a0, .int x1, am_un, am_un] [] s = rn_ tb_ct tb_mt B mm_X4_indexOf 2 [.ref a0, .int x1, .int (0 : Int32), am_un] [] s := by
  exact rn_go 2 (pc' := 2) (L' := [.ref a0, .int x1, .int (0 : Int32), am_un]) (st' := []) rfl
theorem dc_X4_indexOf_2 {B : Nat} (a0 : Nat) (x1 : Int32) (x2 : Int32) (s : am_S) : rn_ tb_ct tb_mt B mm_X4_indexOf 2 [.ref a0, .int x1, .int x2, am_un] [] s = eI (gI tb_ct s a0 3 1) (fun x_1 => if x_1 ≤ x2 then some (.inl (some (.int (-(1 : Int32)))), s) else eC (am_cls s a0) 3 (cA (cl_ tb_ct tb_mt B K_X4_at [.ref a0, .int x2] s) (fun s_2 => rn_ tb_ct tb_mt B mm_X4_indexOf 30 [.ref a0, .int x1, .int x2, va_rf none] [] s_2) (fun b_3 s_2 => eI (gI tb_ct s_2 b_3 2 0) (fun x_4 => if x_4 = x1 then some (.inl (some (.int x2)), s_2) else rn_ tb_ct tb_mt B mm_X4_indexOf 30 [.ref a0, .int x1, .int x2, va_rf (some b_3)] [] s_2)) xo)) := by
  refine Eq.trans (rn_go 2 (pc' := 4) (L' := [.ref a0, .int x1, .int x2, am_un]) (st' := [.ref a0, .int x2]) rfl) ?_
  refine Eq.trans (rn_gI (L' := [.ref a0, .int x1, .int x2, am_un]) rfl rfl rfl rfl) ?_
  refine eI_c (fun x_1 => ?_)
  refine Eq.trans (rn_icge (L' := [.ref a0, .int x1, .int x2, am_un]) rfl rfl) ?_
  refine if_c ?_ ?_
  · refine Eq.trans (rn_go 1 (pc' := 37) (L' := [.ref a0, .int x1, .int x2, am_un]) (st' := [.int (-(1 : Int32))]) rfl) ?_
    exact rn_retI rfl rfl rfl
  · refine Eq.trans (rn_go 2 (pc' := 12) (L' := [.ref a0, .int x1, .int x2, am_un]) (st' := [.int x2, .ref a0]) rfl) ?_
    refine Eq.trans (rn_vir (L' := [.ref a0, .int x1, .int x2, am_un]) (as := [.int x2]) (rest := []) rfl rfl rfl rfl rfl (Nat.le_of_ble_eq_true rfl) (by decide) (by decide)) ?_
    refine eC_c ?_
    refine Eq.trans (cW_A rfl rfl rfl) ?_
    refine cA_c (fun s_2 => ?_) (fun b_3 s_2 => ?_) (xh_nil rfl)
    · exact rn_go 3 (pc' := 30) (L' := [.ref a0, .int x1, .int x2, va_rf none]) (st' := []) rfl
    · refine Eq.trans (rn_go 4 (pc' := 21) (L' := [.ref a0, .int x1, .int x2, .ref b_3]) (st' := [.ref b_3]) rfl) ?_
      refine Eq.trans (rn_gI (L' := [.ref a0, .int x1, .int x2, .ref b_3]) rfl rfl rfl rfl) ?_
      refine eI_c (fun x_4 => ?_)
      refine Eq.trans (rn_go 1 (pc' := 25) (L' := [.ref a0, .int x1, .int x2, .ref b_3]) (st' := [.int x1, .int x_4]) rfl) ?_
      refine Eq.trans (rn_icne (L' := [.ref a0, .int x1, .int x2, .ref b_3]) rfl rfl) ?_
      refine if_c ?_ ?_
      · refine Eq.trans (rn_go 1 (pc' := 29) (L' := [.ref a0, .int x1, .int x2, .ref b_3]) (st' := [.int x2]) rfl) ?_
        exact rn_retI rfl rfl rfl
      · rfl
theorem dc_X4_indexOf_30 {B : Nat} (a0 : Nat) (x1 : Int32) (x2 : Int32) (w3 : Value) (s : am_S) : rn_ tb_ct tb_mt B mm_X4_indexOf 30 [.ref a0, .int x1, .int x2, w3] [] s = rn_ tb_ct tb_mt B mm_X4_indexOf 2 [.ref a0, .int x1, .int (x2 + (1 : Int32)), am_un] [] s := by
  exact rn_go 2 (pc' := 2) (L' := [.ref a0, .int x1, .int (x2 + (1 : Int32)), am_un]) (st' := []) rfl
theorem in_X4_find {B : Nat} (a0 : Nat) (x1 : Int32) (s : am_S) : cl_ tb_ct tb_mt B K_X4_find [.ref a0, .int x1] s = rn_ tb_ct tb_mt B mm_X4_find 0 [.ref a0, .int x1, am_un, am_un] [] s := cl_in rfl rfl rfl rfl
theorem dc_X4_find_0 {B : Nat} (a0 : Nat) (x1 : Int32) (s : am_S) : rn_ tb_ct tb_mt B mm_X4_find 0 [.ref a0, .int x1, am_un, am_un] [] s = rn_ tb_ct tb_mt B mm_X4_find 2 [.ref a0, .int x1, .int (0 : Int32), am_un] [] s := by
  exact rn_go 2 (pc' := 2) (L' := [.ref a0, .int x1, .int (0 : Int32), am_un]) (st' := []) rfl
theorem dc_X4_find_2 {B : Nat} (a0 : Nat) (x1 : Int32) (x2 : Int32) (s : am_S) : rn_ tb_ct tb_mt B mm_X4_find 2 [.ref a0, .int x1, .int x2, am_un] [] s = eI (gI tb_ct s a0 3 1) (fun x_1 => if x_1 ≤ x2 then some (.inl (some .null), s) else eC (am_cls s a0) 3 (cA (cl_ tb_ct tb_mt B K_X4_at [.ref a0, .int x2] s) (fun s_2 => rn_ tb_ct tb_mt B mm_X4_find 30 [.ref a0, .int x1, .int x2, va_rf none] [] s_2) (fun b_3 s_2 => eI (gI tb_ct s_2 b_3 2 0) (fun x_4 => if x_4 = x1 then some (.inl (some (.ref b_3)), s_2) else rn_ tb_ct tb_mt B mm_X4_find 30 [.ref a0, .int x1, .int x2, va_rf (some b_3)] [] s_2)) xo)) := by
  refine Eq.trans (rn_go 2 (pc' := 4) (L' := [.ref a0, .int x1, .int x2, am_un]) (st' := [.ref a0, .int x2]) rfl) ?_
  refine Eq.trans (rn_gI (L' := [.ref a0, .int x1, .int x2, am_un]) rfl rfl rfl rfl) ?_
  refine eI_c (fun x_1 => ?_)
  refine Eq.trans (rn_icge (L' := [.ref a0, .int x1, .int x2, am_un]) rfl rfl) ?_
  refine if_c ?_ ?_
  · refine Eq.trans (rn_go 1 (pc' := 37) (L' := [.ref a0, .int x1, .int x2, am_un]) (st' := [.null]) rfl) ?_
    exact rn_retA rfl rfl rfl rfl
  · refine Eq.trans (rn_go 2 (pc' := 12) (L' := [.ref a0, .int x1, .int x2, am_un]) (st' := [.int x2, .ref a0]) rfl) ?_
    refine Eq.trans (rn_vir (L' := [.ref a0, .int x1, .int x2, am_un]) (as := [.int x2]) (rest := []) rfl rfl rfl rfl rfl (Nat.le_of_ble_eq_true rfl) (by decide) (by decide)) ?_
    refine eC_c ?_
    refine Eq.trans (cW_A rfl rfl rfl) ?_
    refine cA_c (fun s_2 => ?_) (fun b_3 s_2 => ?_) (xh_nil rfl)
    · exact rn_go 3 (pc' := 30) (L' := [.ref a0, .int x1, .int x2, va_rf none]) (st' := []) rfl
    · refine Eq.trans (rn_go 4 (pc' := 21) (L' := [.ref a0, .int x1, .int x2, .ref b_3]) (st' := [.ref b_3]) rfl) ?_
      refine Eq.trans (rn_gI (L' := [.ref a0, .int x1, .int x2, .ref b_3]) rfl rfl rfl rfl) ?_
      refine eI_c (fun x_4 => ?_)
      refine Eq.trans (rn_go 1 (pc' := 25) (L' := [.ref a0, .int x1, .int x2, .ref b_3]) (st' := [.int x1, .int x_4]) rfl) ?_
      refine Eq.trans (rn_icne (L' := [.ref a0, .int x1, .int x2, .ref b_3]) rfl rfl) ?_
      refine if_c ?_ ?_
      · refine Eq.trans (rn_go 1 (pc' := 29) (L' := [.ref a0, .int x1, .int x2, .ref b_3]) (st' := [.ref b_3]) rfl) ?_
        exact rn_retA rfl rfl rfl rfl
      · rfl
theorem dc_X4_find_30 {B : Nat} (a0 : Nat) (x1 : Int32) (x2 : Int32) (w3 : Value) (s : am_S) : rn_ tb_ct tb_mt B mm_X4_find 30 [.ref a0, .int x1, .int x2, w3] [] s = rn_ tb_ct tb_mt B mm_X4_find 2 [.ref a0, .int x1, .int (x2 + (1 : Int32)), am_un] [] s := by
  exact rn_go 2 (pc' := 2) (L' := [.ref a0, .int x1, .int (x2 + (1 : Int32)), am_un]) (st' := []) rfl
theorem in_X4_countWith {B : Nat} (a0 : Nat) (x1 : Int32) (s : am_S) : cl_ tb_ct tb_mt B K_X4_countWith [.ref a0, .int x1] s = rn_ tb_ct tb_mt B mm_X4_countWith 0 [.ref a0, .int x1, am_un, am_un, am_un] [] s := cl_in rfl rfl rfl rfl
theorem dc_X4_countWith_0 {B : Nat} (a0 : Nat) (x1 : Int32) (s : am_S) : rn_ tb_ct tb_mt B mm_X4_countWith 0 [.ref a0, .int x1, am_un, am_un, am_un] [] s = rn_ tb_ct tb_mt B mm_X4_countWith 4 [.ref a0, .int x1, .int (0 : Int32), .int (0 : Int32), am_un] [] s := by
  exact rn_go 4 (pc' := 4) (L' := [.ref a0, .int x1, .int (0 : Int32), .int (0 : Int32), am_un]) (st' := []) rfl
theorem dc_X4_countWith_4 {B : Nat} (a0 : Nat) (x1 : Int32) (x2 : Int32) (x3 : Int32) (s : am_S) : rn_ tb_ct tb_mt B mm_X4_countWith 4 [.ref a0, .int x1, .int x2, .int x3, am_un] [] s = eI (gI tb_ct s a0 3 1) (fun x_1 => if x_1 ≤ x3 then some (.inl (some (.int x2)), s) else eC (am_cls s a0) 3 (cA (cl_ tb_ct tb_mt B K_X4_at [.ref a0, .int x3] s) (fun s_2 => rn_ tb_ct tb_mt B mm_X4_countWith 36 [.ref a0, .int x1, .int x2, .int x3, va_rf none] [] s_2) (fun b_3 s_2 => eI (gI tb_ct s_2 b_3 2 5) (fun x_4 => if x_4 = x1 then rn_ tb_ct tb_mt B mm_X4_countWith 36 [.ref a0, .int x1, .int (x2 + (1 : Int32)), .int x3, va_rf (some b_3)] [] s_2 else rn_ tb_ct tb_mt B mm_X4_countWith 36 [.ref a0, .int x1, .int x2, .int x3, va_rf (some b_3)] [] s_2)) xo)) := by
  refine Eq.trans (rn_go 2 (pc' := 6) (L' := [.ref a0, .int x1, .int x2, .int x3, am_un]) (st' := [.ref a0, .int x3]) rfl) ?_
  refine Eq.trans (rn_gI (L' := [.ref a0, .int x1, .int x2, .int x3, am_un]) rfl rfl rfl rfl) ?_
  refine eI_c (fun x_1 => ?_)
  refine Eq.trans (rn_icge (L' := [.ref a0, .int x1, .int x2, .int x3, am_un]) rfl rfl) ?_
  refine if_c ?_ ?_
  · refine Eq.trans (rn_go 1 (pc' := 43) (L' := [.ref a0, .int x1, .int x2, .int x3, am_un]) (st' := [.int x2]) rfl) ?_
    exact rn_retI rfl rfl rfl
  · refine Eq.trans (rn_go 2 (pc' := 14) (L' := [.ref a0, .int x1, .int x2, .int x3, am_un]) (st' := [.int x3, .ref a0]) rfl) ?_
    refine Eq.trans (rn_vir (L' := [.ref a0, .int x1, .int x2, .int x3, am_un]) (as := [.int x3]) (rest := []) rfl rfl rfl rfl rfl (Nat.le_of_ble_eq_true rfl) (by decide) (by decide)) ?_
    refine eC_c ?_
    refine Eq.trans (cW_A rfl rfl rfl) ?_
    refine cA_c (fun s_2 => ?_) (fun b_3 s_2 => ?_) (xh_nil rfl)
    · exact rn_go 3 (pc' := 36) (L' := [.ref a0, .int x1, .int x2, .int x3, va_rf none]) (st' := []) rfl
    · refine Eq.trans (rn_go 4 (pc' := 26) (L' := [.ref a0, .int x1, .int x2, .int x3, .ref b_3]) (st' := [.ref b_3]) rfl) ?_
      refine Eq.trans (rn_gI (L' := [.ref a0, .int x1, .int x2, .int x3, .ref b_3]) rfl rfl rfl rfl) ?_
      refine eI_c (fun x_4 => ?_)
      refine Eq.trans (rn_go 1 (pc' := 30) (L' := [.ref a0, .int x1, .int x2, .int x3, .ref b_3]) (st' := [.int x1, .int x_4]) rfl) ?_
      refine Eq.trans (rn_icne (L' := [.ref a0, .int x1, .int x2, .int x3, .ref b_3]) rfl rfl) ?_
      refine if_c ?_ ?_
      · exact rn_go 1 (pc' := 36) (L' := [.ref a0, .int x1, .int (x2 + (1 : Int32)), .int x3, va_rf (some b_3)]) (st' := []) rfl
      · rfl
theorem dc_X4_countWith_36 {B : Nat} (a0 : Nat) (x1 : Int32) (x2 : Int32) (x3 : Int32) (w4 : Value) (s : am_S) : rn_ tb_ct tb_mt B mm_X4_countWith 36 [.ref a0, .int x1, .int x2, .int x3, w4] [] s = rn_ tb_ct tb_mt B mm_X4_countWith 4 [.ref a0, .int x1, .int x2, .int (x3 + (1 : Int32)), am_un] [] s := by
  exact rn_go 2 (pc' := 4) (L' := [.ref a0, .int x1, .int x2, .int (x3 + (1 : Int32)), am_un]) (st' := []) rfl
theorem in_X4_insert {B : Nat} (a0 : Nat) (x1 : Int32) (s : am_S) : cl_ tb_ct tb_mt B K_X4_insert [.ref a0, .int x1] s = rn_ tb_ct tb_mt B mm_X4_insert 0 [.ref a0, .int x1, am_un, am_un, am_un] [] s := cl_in rfl rfl rfl rfl
theorem dc_X4_insert_0 {B : Nat} (a0 : Nat) (x1 : Int32) (s : am_S) : rn_ tb_ct tb_mt B mm_X4_insert 0 [.ref a0, .int x1, am_un, am_un, am_un] [] s = eI (gI tb_ct s a0 3 1) (fun x_1 => if x_1 < 0 then some (.inl (some .null), s) else eI (gI tb_ct s a0 3 1) (fun x_2 => if x_2 < (22 : Int32) then eA (gA tb_ct s a0 3 0) (eI (gI tb_ct s a0 3 1) (fun x_4 => none)) (fun b_3 => eI (gI tb_ct s a0 3 1) (fun x_5 => eA (aA s b_3 x_5) (some (.inl (some .null), s)) (fun b_6 => eI (gI tb_ct s a0 3 1) (fun x_7 => rn_ tb_ct tb_mt B mm_X4_insert 39 [.ref a0, .int x1, .ref b_6, .int x_7, am_un] [] s)))) else some (.inl (some .null), s))) := by
  refine Eq.trans (rn_go 1 (pc' := 1) (L' := [.ref a0, .int x1, am_un, am_un, am_un]) (st' := [.ref a0]) rfl) ?_
  refine Eq.trans (rn_gI (L' := [.ref a0, .int x1, am_un, am_un, am_un]) rfl rfl rfl rfl) ?_
  refine eI_c (fun x_1 => ?_)
  refine Eq.trans (rn_iflt (L' := [.ref a0, .int x1, am_un, am_un, am_un]) rfl rfl) ?_
  refine if_c ?_ ?_
  · refine Eq.trans (rn_go 1 (pc' := 17) (L' := [.ref a0, .int x1, am_un, am_un, am_un]) (st' := [.null]) rfl) ?_
    exact rn_retA rfl rfl rfl rfl
  · refine Eq.trans (rn_go 1 (pc' := 8) (L' := [.ref a0, .int x1, am_un, am_un, am_un]) (st' := [.ref a0]) rfl) ?_
    refine Eq.trans (rn_gI (L' := [.ref a0, .int x1, am_un, am_un, am_un]) rfl rfl rfl rfl) ?_
    refine eI_c (fun x_2 => ?_)
    refine Eq.trans (rn_go 1 (pc' := 13) (L' := [.ref a0, .int x1, am_un, am_un, am_un]) (st' := [.int (22 : Int32), .int x_2]) rfl) ?_
    refine Eq.trans (rn_iclt (L' := [.ref a0, .int x1, am_un, am_un, am_un]) rfl rfl) ?_
    refine if_c ?_ ?_
    · refine Eq.trans (rn_go 1 (pc' := 19) (L' := [.ref a0, .int x1, am_un, am_un, am_un]) (st' := [.ref a0]) rfl) ?_
      refine Eq.trans (rn_gA (L' := [.ref a0, .int x1, am_un, am_un, am_un]) rfl rfl rfl rfl) ?_
      refine eA_c ?_ (fun b_3 => ?_)
      · refine Eq.trans (rn_go 1 (pc' := 23) (L' := [.ref a0, .int x1, am_un, am_un, am_un]) (st' := [.ref a0, .null]) rfl) ?_
        refine Eq.trans (rn_gI (L' := [.ref a0, .int x1, am_un, am_un, am_un]) rfl rfl rfl rfl) ?_
        refine eI_c (fun x_4 => ?_)
        exact rn_z rfl rfl
      · refine Eq.trans (rn_go 1 (pc' := 23) (L' := [.ref a0, .int x1, am_un, am_un, am_un]) (st' := [.ref a0, .ref b_3]) rfl) ?_
        refine Eq.trans (rn_gI (L' := [.ref a0, .int x1, am_un, am_un, am_un]) rfl rfl rfl rfl) ?_
        refine eI_c (fun x_5 => ?_)
        refine Eq.trans (rn_aA (L' := [.ref a0, .int x1, am_un, am_un, am_un]) rfl rfl) ?_
        refine eA_c ?_ (fun b_6 => ?_)
        · refine Eq.trans (rn_go 4 (pc' := 33) (L' := [.ref a0, .int x1, .null, am_un, am_un]) (st' := [.null]) rfl) ?_
          exact rn_retA rfl rfl rfl rfl
        · refine Eq.trans (rn_go 4 (pc' := 35) (L' := [.ref a0, .int x1, .ref b_6, am_un, am_un]) (st' := [.ref a0]) rfl) ?_
          refine Eq.trans (rn_gI (L' := [.ref a0, .int x1, .ref b_6, am_un, am_un]) rfl rfl rfl rfl) ?_
          refine eI_c (fun x_7 => ?_)
          exact rn_go 1 (pc' := 39) (L' := [.ref a0, .int x1, .ref b_6, .int x_7, am_un]) (st' := []) rfl
    · refine Eq.trans (rn_go 1 (pc' := 17) (L' := [.ref a0, .int x1, am_un, am_un, am_un]) (st' := [.null]) rfl) ?_
      exact rn_retA rfl rfl rfl rfl
theorem dc_X4_insert_39 {B : Nat} (a0 : Nat) (x1 : Int32) (a2 : Nat) (x3 : Int32) (w4 : Value) (s : am_S) : rn_ tb_ct tb_mt B mm_X4_insert 39 [.ref a0, .int x1, .ref a2, .int x3, w4] [] s = if x3 ≤ 0 then rn_ tb_ct tb_mt B mm_X4_insert 84 [.ref a0, .int x1, .ref a2, .int x3, am_un] [] s else eA (gA tb_ct s a0 3 0) (none) (fun b_1 => eA (aA s b_1 (x3 - (1 : Int32))) (rn_ tb_ct tb_mt B mm_X4_insert 70 [.ref a0, .int x1, .ref a2, .int x3, va_rf none] [] s) (fun b_2 => eI (gI tb_ct s b_2 2 0) (fun x_3 => if x1 ≤ x_3 then rn_ tb_ct tb_mt B mm_X4_insert 70 [.ref a0, .int x1, .ref a2, .int x3, va_rf (some b_2)] [] s else rn_ tb_ct tb_mt B mm_X4_insert 84 [.ref a0, .int x1, .ref a2, .int x3, .ref b_2] [] s))) := by
  refine Eq.trans (rn_go 1 (pc' := 40) (L' := [.ref a0, .int x1, .ref a2, .int x3, am_un]) (st' := [.int x3]) rfl) ?_
  refine Eq.trans (rn_ifle (L' := [.ref a0, .int x1, .ref a2, .int x3, am_un]) rfl rfl) ?_
  refine if_c ?_ ?_
  · rfl
  · refine Eq.trans (rn_go 1 (pc' := 44) (L' := [.ref a0, .int x1, .ref a2, .int x3, am_un]) (st' := [.ref a0]) rfl) ?_
    refine Eq.trans (rn_gA (L' := [.ref a0, .int x1, .ref a2, .int x3, am_un]) rfl rfl rfl rfl) ?_
    refine eA_c ?_ (fun b_1 => ?_)
    · refine Eq.trans (rn_go 3 (pc' := 50) (L' := [.ref a0, .int x1, .ref a2, .int x3, am_un]) (st' := [.int (x3 - (1 : Int32)), .null]) rfl) ?_
      exact rn_z rfl rfl
    · refine Eq.trans (rn_go 3 (pc' := 50) (L' := [.ref a0, .int x1, .ref a2, .int x3, am_un]) (st' := [.int (x3 - (1 : Int32)), .ref b_1]) rfl) ?_
      refine Eq.trans (rn_aA (L' := [.ref a0, .int x1, .ref a2, .int x3, am_un]) rfl rfl) ?_
      refine eA_c ?_ (fun b_2 => ?_)
      · exact rn_go 3 (pc' := 70) (L' := [.ref a0, .int x1, .ref a2, .int x3, va_rf none]) (st' := []) rfl
      · refine Eq.trans (rn_go 4 (pc' := 60) (L' := [.ref a0, .int x1, .ref a2, .int x3, .ref b_2]) (st' := [.ref b_2]) rfl) ?_
        refine Eq.trans (rn_gI (L' := [.ref a0, .int x1, .ref a2, .int x3, .ref b_2]) rfl rfl rfl rfl) ?_
        refine eI_c (fun x_3 => ?_)
        refine Eq.trans (rn_go 1 (pc' := 64) (L' := [.ref a0, .int x1, .ref a2, .int x3, .ref b_2]) (st' := [.int x1, .int x_3]) rfl) ?_
        refine Eq.trans (rn_icge (L' := [.ref a0, .int x1, .ref a2, .int x3, .ref b_2]) rfl rfl) ?_
        refine if_c ?_ ?_
        · rfl
        · exact rn_go 1 (pc' := 84) (L' := [.ref a0, .int x1, .ref a2, .int x3, .ref b_2]) (st' := []) rfl
theorem dc_X4_insert_70 {B : Nat} (a0 : Nat) (x1 : Int32) (a2 : Nat) (x3 : Int32) (r4 : Option Nat) (s : am_S) : rn_ tb_ct tb_mt B mm_X4_insert 70 [.ref a0, .int x1, .ref a2, .int x3, va_rf r4] [] s = eA (some r4) (eA (gA tb_ct s a0 3 0) (none) (fun b_2 => none)) (fun b_1 => eA (gA tb_ct s a0 3 0) (none) (fun b_3 => eS (wA tb_ct B s b_3 x3 b_1) (fun s_4 => rn_ tb_ct tb_mt B mm_X4_insert 39 [.ref a0, .int x1, .ref a2, .int (x3 + (-(1 : Int32))), .ref b_1] [] s_4))) := by
  rcases r4 with _ | b_1
  · rw [eA_n]
    refine Eq.trans (rn_go 1 (pc' := 71) (L' := [.ref a0, .int x1, .ref a2, .int x3, .null]) (st' := [.ref a0]) rfl) ?_
    refine Eq.trans (rn_gA (L' := [.ref a0, .int x1, .ref a2, .int x3, .null]) rfl rfl rfl rfl) ?_
    refine eA_c ?_ (fun b_2 => ?_)
    · refine Eq.trans (rn_go 2 (pc' := 77) (L' := [.ref a0, .int x1, .ref a2, .int x3, .null]) (st' := [.null, .int x3, .null]) rfl) ?_
      exact rn_z rfl rfl
    · refine Eq.trans (rn_go 2 (pc' := 77) (L' := [.ref a0, .int x1, .ref a2, .int x3, .null]) (st' := [.null, .int x3, .ref b_2]) rfl) ?_
      exact rn_z rfl rfl
  · rw [eA_s]
    refine Eq.trans (rn_go 1 (pc' := 71) (L' := [.ref a0, .int x1, .ref a2, .int x3, .ref b_1]) (st' := [.ref a0]) rfl) ?_
    refine Eq.trans (rn_gA (L' := [.ref a0, .int x1, .ref a2, .int x3, .ref b_1]) rfl rfl rfl rfl) ?_
    refine eA_c ?_ (fun b_3 => ?_)
    · refine Eq.trans (rn_go 2 (pc' := 77) (L' := [.ref a0, .int x1, .ref a2, .int x3, .ref b_1]) (st' := [.ref b_1, .int x3, .null]) rfl) ?_
      exact rn_z rfl rfl
    · refine Eq.trans (rn_go 2 (pc' := 77) (L' := [.ref a0, .int x1, .ref a2, .int x3, .ref b_1]) (st' := [.ref b_1, .int x3, .ref b_3]) rfl) ?_
      refine Eq.trans (rn_wA (L' := [.ref a0, .int x1, .ref a2, .int x3, .ref b_1]) rfl rfl) ?_
      refine eS_c (fun s_4 => ?_)
      exact rn_go 2 (pc' := 39) (L' := [.ref a0, .int x1, .ref a2, .int (x3 + (-(1 : Int32))), .ref b_1]) (st' := []) rfl
theorem dc_X4_insert_84 {B : Nat} (a0 : Nat) (x1 : Int32) (a2 : Nat) (x3 : Int32) (w4 : Value) (s : am_S) : rn_ tb_ct tb_mt B mm_X4_insert 84 [.ref a0, .int x1, .ref a2, .int x3, w4] [] s = eA (gA tb_ct s a0 3 0) (none) (fun b_1 => eS (wA tb_ct B s b_1 x3 a2) (fun s_2 => eI (gI tb_ct s_2 a0 3 1) (fun x_3 => eS (am_put tb_ct mm_X4_insert B s_2 (.int (x_3 + (1 : Int32))) a0 3 1) (fun s_4 => eS (am_put tb_ct mm_X4_insert B s_4 (.int x1) a2 2 0) (fun s_5 => eS (am_put tb_ct mm_X4_insert B s_5 (.int (0 : Int32)) a2 2 4) (fun s_6 => some (.inl (some (.ref a2)), s_6))))))) := by
  refine Eq.trans (rn_go 1 (pc' := 85) (L' := [.ref a0, .int x1, .ref a2, .int x3, am_un]) (st' := [.ref a0]) rfl) ?_
  refine Eq.trans (rn_gA (L' := [.ref a0, .int x1, .ref a2, .int x3, am_un]) rfl rfl rfl rfl) ?_
  refine eA_c ?_ (fun b_1 => ?_)
  · refine Eq.trans (rn_go 2 (pc' := 90) (L' := [.ref a0, .int x1, .ref a2, .int x3, am_un]) (st' := [.ref a2, .int x3, .null]) rfl) ?_
    exact rn_z rfl rfl
  · refine Eq.trans (rn_go 2 (pc' := 90) (L' := [.ref a0, .int x1, .ref a2, .int x3, am_un]) (st' := [.ref a2, .int x3, .ref b_1]) rfl) ?_
    refine Eq.trans (rn_wA (L' := [.ref a0, .int x1, .ref a2, .int x3, am_un]) rfl rfl) ?_
    refine eS_c (fun s_2 => ?_)
    refine Eq.trans (rn_go 2 (pc' := 93) (L' := [.ref a0, .int x1, .ref a2, .int x3, am_un]) (st' := [.ref a0, .ref a0]) rfl) ?_
    refine Eq.trans (rn_gI (L' := [.ref a0, .int x1, .ref a2, .int x3, am_un]) rfl rfl rfl rfl) ?_
    refine eI_c (fun x_3 => ?_)
    refine Eq.trans (rn_go 2 (pc' := 98) (L' := [.ref a0, .int x1, .ref a2, .int x3, am_un]) (st' := [.int (x_3 + (1 : Int32)), .ref a0]) rfl) ?_
    refine Eq.trans (rn_pF (L' := [.ref a0, .int x1, .ref a2, .int x3, am_un]) rfl rfl) ?_
    refine eS_c (fun s_4 => ?_)
    refine Eq.trans (rn_go 2 (pc' := 103) (L' := [.ref a0, .int x1, .ref a2, .int x3, am_un]) (st' := [.int x1, .ref a2]) rfl) ?_
    refine Eq.trans (rn_pF (L' := [.ref a0, .int x1, .ref a2, .int x3, am_un]) rfl rfl) ?_
    refine eS_c (fun s_5 => ?_)
    refine Eq.trans (rn_go 2 (pc' := 108) (L' := [.ref a0, .int x1, .ref a2, .int x3, am_un]) (st' := [.int (0 : Int32), .ref a2]) rfl) ?_
    refine Eq.trans (rn_pF (L' := [.ref a0, .int x1, .ref a2, .int x3, am_un]) rfl rfl) ?_
    refine eS_c (fun s_6 => ?_)
    refine Eq.trans (rn_go 1 (pc' := 112) (L' := [.ref a0, .int x1, .ref a2, .int x3, am_un]) (st' := [.ref a2]) rfl) ?_
    exact rn_retA rfl rfl rfl rfl
theorem in_X4_removeAt {B : Nat} (a0 : Nat) (x1 : Int32) (s : am_S) : cl_ tb_ct tb_mt B K_X4_removeAt [.ref a0, .int x1] s = rn_ tb_ct tb_mt B mm_X4_removeAt 0 [.ref a0, .int x1, am_un, am_un] [] s := cl_in rfl rfl rfl rfl
theorem dc_X4_removeAt_0 {B : Nat} (a0 : Nat) (x1 : Int32) (s : am_S) : rn_ tb_ct tb_mt B mm_X4_removeAt 0 [.ref a0, .int x1, am_un, am_un] [] s = eC (am_cls s a0) 3 (cA (cl_ tb_ct tb_mt B K_X4_at [.ref a0, .int x1] s) (fun s_1 => some (.inl none, s_1)) (fun b_2 s_1 => rn_ tb_ct tb_mt B mm_X4_removeAt 13 [.ref a0, .int x1, .ref b_2, .int x1] [] s_1) xo) := by
  refine Eq.trans (rn_go 2 (pc' := 2) (L' := [.ref a0, .int x1, am_un, am_un]) (st' := [.int x1, .ref a0]) rfl) ?_
  refine Eq.trans (rn_vir (L' := [.ref a0, .int x1, am_un, am_un]) (as := [.int x1]) (rest := []) rfl rfl rfl rfl rfl (Nat.le_of_ble_eq_true rfl) (by decide) (by decide)) ?_
  refine eC_c ?_
  refine Eq.trans (cW_A rfl rfl rfl) ?_
  refine cA_c (fun s_1 => ?_) (fun b_2 s_1 => ?_) (xh_nil rfl)
  · refine Eq.trans (rn_go 3 (pc' := 10) (L' := [.ref a0, .int x1, .null, am_un]) (st' := []) rfl) ?_
    exact rn_retV rfl rfl
  · exact rn_go 5 (pc' := 13) (L' := [.ref a0, .int x1, .ref b_2, .int x1]) (st' := []) rfl
theorem dc_X4_removeAt_13 {B : Nat} (a0 : Nat) (w1 : Value) (a2 : Nat) (x3 : Int32) (s : am_S) : rn_ tb_ct tb_mt B mm_X4_removeAt 13 [.ref a0, w1, .ref a2, .int x3] [] s = eI (gI tb_ct s a0 3 1) (fun x_1 => if x_1 ≤ (x3 + (1 : Int32)) then rn_ tb_ct tb_mt B mm_X4_removeAt 51 [.ref a0, am_un, .ref a2, .int x3] [] s else if (22 : Int32) ≤ (x3 + (1 : Int32)) then rn_ tb_ct tb_mt B mm_X4_removeAt 51 [.ref a0, am_un, .ref a2, .int x3] [] s else eA (gA tb_ct s a0 3 0) (eA (gA tb_ct s a0 3 0) (none) (fun b_3 => eA (aA s b_3 (x3 + (1 : Int32))) (none) (fun b_4 => none))) (fun b_2 => eA (gA tb_ct s a0 3 0) (none) (fun b_5 => eA (aA s b_5 (x3 + (1 : Int32))) (none) (fun b_6 => eS (wA tb_ct B s b_2 x3 b_6) (fun s_7 => rn_ tb_ct tb_mt B mm_X4_removeAt 13 [.ref a0, am_un, .ref a2, .int (x3 + (1 : Int32))] [] s_7))))) := by
  refine Eq.trans (rn_go 4 (pc' := 17) (L' := [.ref a0, am_un, .ref a2, .int x3]) (st' := [.ref a0, .int (x3 + (1 : Int32))]) rfl) ?_
  refine Eq.trans (rn_gI (L' := [.ref a0, am_un, .ref a2, .int x3]) rfl rfl rfl rfl) ?_
  refine eI_c (fun x_1 => ?_)
  refine Eq.trans (rn_icge (L' := [.ref a0, am_un, .ref a2, .int x3]) rfl rfl) ?_
  refine if_c ?_ ?_
  · rfl
  · refine Eq.trans (rn_go 4 (pc' := 28) (L' := [.ref a0, am_un, .ref a2, .int x3]) (st' := [.int (22 : Int32), .int (x3 + (1 : Int32))]) rfl) ?_
    refine Eq.trans (rn_icge (L' := [.ref a0, am_un, .ref a2, .int x3]) rfl rfl) ?_
    refine if_c ?_ ?_
    · rfl
    · refine Eq.trans (rn_go 1 (pc' := 32) (L' := [.ref a0, am_un, .ref a2, .int x3]) (st' := [.ref a0]) rfl) ?_
      refine Eq.trans (rn_gA (L' := [.ref a0, am_un, .ref a2, .int x3]) rfl rfl rfl rfl) ?_
      refine eA_c ?_ (fun b_2 => ?_)
      · refine Eq.trans (rn_go 2 (pc' := 37) (L' := [.ref a0, am_un, .ref a2, .int x3]) (st' := [.ref a0, .int x3, .null]) rfl) ?_
        refine Eq.trans (rn_gA (L' := [.ref a0, am_un, .ref a2, .int x3]) rfl rfl rfl rfl) ?_
        refine eA_c ?_ (fun b_3 => ?_)
        · refine Eq.trans (rn_go 3 (pc' := 43) (L' := [.ref a0, am_un, .ref a2, .int x3]) (st' := [.int (x3 + (1 : Int32)), .null, .int x3, .null]) rfl) ?_
          exact rn_z rfl rfl
        · refine Eq.trans (rn_go 3 (pc' := 43) (L' := [.ref a0, am_un, .ref a2, .int x3]) (st' := [.int (x3 + (1 : Int32)), .ref b_3, .int x3, .null]) rfl) ?_
          refine Eq.trans (rn_aA (L' := [.ref a0, am_un, .ref a2, .int x3]) rfl rfl) ?_
          refine eA_c ?_ (fun b_4 => ?_)
          · exact rn_z rfl rfl
          · exact rn_z rfl rfl
      · refine Eq.trans (rn_go 2 (pc' := 37) (L' := [.ref a0, am_un, .ref a2, .int x3]) (st' := [.ref a0, .int x3, .ref b_2]) rfl) ?_
        refine Eq.trans (rn_gA (L' := [.ref a0, am_un, .ref a2, .int x3]) rfl rfl rfl rfl) ?_
        refine eA_c ?_ (fun b_5 => ?_)
        · refine Eq.trans (rn_go 3 (pc' := 43) (L' := [.ref a0, am_un, .ref a2, .int x3]) (st' := [.int (x3 + (1 : Int32)), .null, .int x3, .ref b_2]) rfl) ?_
          exact rn_z rfl rfl
        · refine Eq.trans (rn_go 3 (pc' := 43) (L' := [.ref a0, am_un, .ref a2, .int x3]) (st' := [.int (x3 + (1 : Int32)), .ref b_5, .int x3, .ref b_2]) rfl) ?_
          refine Eq.trans (rn_aA (L' := [.ref a0, am_un, .ref a2, .int x3]) rfl rfl) ?_
          refine eA_c ?_ (fun b_6 => ?_)
          · exact rn_z rfl rfl
          · refine Eq.trans (rn_wA (L' := [.ref a0, am_un, .ref a2, .int x3]) rfl rfl) ?_
            refine eS_c (fun s_7 => ?_)
            exact rn_go 2 (pc' := 13) (L' := [.ref a0, am_un, .ref a2, .int (x3 + (1 : Int32))]) (st' := []) rfl
theorem dc_X4_removeAt_51 {B : Nat} (a0 : Nat) (a2 : Nat) (x3 : Int32) (s : am_S) : rn_ tb_ct tb_mt B mm_X4_removeAt 51 [.ref a0, am_un, .ref a2, .int x3] [] s = eA (gA tb_ct s a0 3 0) (none) (fun b_1 => eS (wA tb_ct B s b_1 x3 a2) (fun s_2 => eI (gI tb_ct s_2 a0 3 1) (fun x_3 => eS (am_put tb_ct mm_X4_removeAt B s_2 (.int (x_3 - (1 : Int32))) a0 3 1) (fun s_4 => some (.inl none, s_4))))) := by
  refine Eq.trans (rn_go 1 (pc' := 52) (L' := [.ref a0, am_un, .ref a2, .int x3]) (st' := [.ref a0]) rfl) ?_
  refine Eq.trans (rn_gA (L' := [.ref a0, am_un, .ref a2, .int x3]) rfl rfl rfl rfl) ?_
  refine eA_c ?_ (fun b_1 => ?_)
  · refine Eq.trans (rn_go 2 (pc' := 57) (L' := [.ref a0, am_un, .ref a2, .int x3]) (st' := [.ref a2, .int x3, .null]) rfl) ?_
    exact rn_z rfl rfl
  · refine Eq.trans (rn_go 2 (pc' := 57) (L' := [.ref a0, am_un, .ref a2, .int x3]) (st' := [.ref a2, .int x3, .ref b_1]) rfl) ?_
    refine Eq.trans (rn_wA (L' := [.ref a0, am_un, .ref a2, .int x3]) rfl rfl) ?_
    refine eS_c (fun s_2 => ?_)
    refine Eq.trans (rn_go 2 (pc' := 60) (L' := [.ref a0, am_un, .ref a2, .int x3]) (st' := [.ref a0, .ref a0]) rfl) ?_
    refine Eq.trans (rn_gI (L' := [.ref a0, am_un, .ref a2, .int x3]) rfl rfl rfl rfl) ?_
    refine eI_c (fun x_3 => ?_)
    refine Eq.trans (rn_go 2 (pc' := 65) (L' := [.ref a0, am_un, .ref a2, .int x3]) (st' := [.int (x_3 - (1 : Int32)), .ref a0]) rfl) ?_
    refine Eq.trans (rn_pF (L' := [.ref a0, am_un, .ref a2, .int x3]) rfl rfl) ?_
    refine eS_c (fun s_4 => ?_)
    exact rn_retV rfl rfl
theorem in_X4_differences {B : Nat} (a0 : Nat) (a1 : Nat) (s : am_S) : cl_ tb_ct tb_mt B K_X4_differences [.ref a0, .ref a1] s = rn_ tb_ct tb_mt B mm_X4_differences 0 [.ref a0, .ref a1, am_un, am_un, am_un, am_un, am_un] [] s := cl_in rfl rfl rfl rfl
theorem dc_X4_differences_0 {B : Nat} (a0 : Nat) (a1 : Nat) (s : am_S) : rn_ tb_ct tb_mt B mm_X4_differences 0 [.ref a0, .ref a1, am_un, am_un, am_un, am_un, am_un] [] s = rn_ tb_ct tb_mt B mm_X4_differences 7 [.ref a0, .ref a1, .int (0 : Int32), .int (0 : Int32), .int (0 : Int32), am_un, am_un] [] s := by
  exact rn_go 6 (pc' := 7) (L' := [.ref a0, .ref a1, .int (0 : Int32), .int (0 : Int32), .int (0 : Int32), am_un, am_un]) (st' := []) rfl
theorem dc_X4_differences_7 {B : Nat} (a0 : Nat) (a1 : Nat) (x2 : Int32) (x3 : Int32) (x4 : Int32) (s : am_S) : rn_ tb_ct tb_mt B mm_X4_differences 7 [.ref a0, .ref a1, .int x2, .int x3, .int x4, am_un, am_un] [] s = eI (gI tb_ct s a0 3 1) (fun x_1 => if x_1 ≤ x4 then eI (gI tb_ct s a0 3 1) (fun x_2 => eI (gI tb_ct s a1 3 1) (fun x_3 => some (.inl (some (.int (((x_2 + x_3) - x2) - x3))), s))) else eC (am_cls s a0) 3 (cA (cl_ tb_ct tb_mt B K_X4_at [.ref a0, .int x4] s) (fun s_4 => rn_ tb_ct tb_mt B mm_X4_differences 42 [.ref a0, .ref a1, .int x2, .int x3, .int x4, va_rf none, am_un] [va_rf none] s_4) (fun b_5 s_4 => eI (gI tb_ct s_4 b_5 2 0) (fun x_6 => eC (am_cls s_4 a1) 3 (cA (cl_ tb_ct tb_mt B K_X4_find [.ref a1, .int x_6] s_4) (fun s_7 => rn_ tb_ct tb_mt B mm_X4_differences 42 [.ref a0, .ref a1, .int x2, .int x3, .int x4, va_rf (some b_5), am_un] [va_rf none] s_7) (fun b_8 s_7 => rn_ tb_ct tb_mt B mm_X4_differences 42 [.ref a0, .ref a1, .int x2, .int x3, .int x4, va_rf (some b_5), am_un] [va_rf (some b_8)] s_7) xo))) xo)) := by
  refine Eq.trans (rn_go 2 (pc' := 10) (L' := [.ref a0, .ref a1, .int x2, .int x3, .int x4, am_un, am_un]) (st' := [.ref a0, .int x4]) rfl) ?_
  refine Eq.trans (rn_gI (L' := [.ref a0, .ref a1, .int x2, .int x3, .int x4, am_un, am_un]) rfl rfl rfl rfl) ?_
  refine eI_c (fun x_1 => ?_)
  refine Eq.trans (rn_icge (L' := [.ref a0, .ref a1, .int x2, .int x3, .int x4, am_un, am_un]) rfl rfl) ?_
  refine if_c ?_ ?_
  · refine Eq.trans (rn_go 1 (pc' := 85) (L' := [.ref a0, .ref a1, .int x2, .int x3, .int x4, am_un, am_un]) (st' := [.ref a0]) rfl) ?_
    refine Eq.trans (rn_gI (L' := [.ref a0, .ref a1, .int x2, .int x3, .int x4, am_un, am_un]) rfl rfl rfl rfl) ?_
    refine eI_c (fun x_2 => ?_)
    refine Eq.trans (rn_go 1 (pc' := 89) (L' := [.ref a0, .ref a1, .int x2, .int x3, .int x4, am_un, am_un]) (st' := [.ref a1, .int x_2]) rfl) ?_
    refine Eq.trans (rn_gI (L' := [.ref a0, .ref a1, .int x2, .int x3, .int x4, am_un, am_un]) rfl rfl rfl rfl) ?_
    refine eI_c (fun x_3 => ?_)
    refine Eq.trans (rn_go 5 (pc' := 97) (L' := [.ref a0, .ref a1, .int x2, .int x3, .int x4, am_un, am_un]) (st' := [.int (((x_2 + x_3) - x2) - x3)]) rfl) ?_
    exact rn_retI rfl rfl rfl
  · refine Eq.trans (rn_go 2 (pc' := 19) (L' := [.ref a0, .ref a1, .int x2, .int x3, .int x4, am_un, am_un]) (st' := [.int x4, .ref a0]) rfl) ?_
    refine Eq.trans (rn_vir (L' := [.ref a0, .ref a1, .int x2, .int x3, .int x4, am_un, am_un]) (as := [.int x4]) (rest := []) rfl rfl rfl rfl rfl (Nat.le_of_ble_eq_true rfl) (by decide) (by decide)) ?_
    refine eC_c ?_
    refine Eq.trans (cW_A rfl rfl rfl) ?_
    refine cA_c (fun s_4 => ?_) (fun b_5 s_4 => ?_) (xh_nil rfl)
    · exact rn_go 5 (pc' := 42) (L' := [.ref a0, .ref a1, .int x2, .int x3, .int x4, va_rf none, am_un]) (st' := [va_rf none]) rfl
    · refine Eq.trans (rn_go 5 (pc' := 36) (L' := [.ref a0, .ref a1, .int x2, .int x3, .int x4, .ref b_5, am_un]) (st' := [.ref b_5, .ref a1]) rfl) ?_
      refine Eq.trans (rn_gI (L' := [.ref a0, .ref a1, .int x2, .int x3, .int x4, .ref b_5, am_un]) rfl rfl rfl rfl) ?_
      refine eI_c (fun x_6 => ?_)
      refine Eq.trans (rn_vir (L' := [.ref a0, .ref a1, .int x2, .int x3, .int x4, .ref b_5, am_un]) (as := [.int x_6]) (rest := []) rfl rfl rfl rfl rfl (Nat.le_of_ble_eq_true rfl) (by decide) (by decide)) ?_
      refine eC_c ?_
      refine Eq.trans (cW_A rfl rfl rfl) ?_
      refine cA_c (fun s_7 => ?_) (fun b_8 s_7 => ?_) (xh_nil rfl)
      · rfl
      · rfl
theorem dc_X4_differences_42 {B : Nat} (a0 : Nat) (a1 : Nat) (x2 : Int32) (x3 : Int32) (x4 : Int32) (r5 : Option Nat) (rs0 : Option Nat) (s : am_S) : rn_ tb_ct tb_mt B mm_X4_differences 42 [.ref a0, .ref a1, .int x2, .int x3, .int x4, va_rf r5, am_un] [va_rf rs0] s = eA (some r5) (eA (some rs0) (rn_ tb_ct tb_mt B mm_X4_differences 78 [.ref a0, .ref a1, .int x2, .int x3, .int x4, .null, .null] [] s) (fun b_2 => rn_ tb_ct tb_mt B mm_X4_differences 78 [.ref a0, .ref a1, .int x2, .int x3, .int x4, .null, .ref b_2] [] s)) (fun b_1 => eA (some rs0) (rn_ tb_ct tb_mt B mm_X4_differences 78 [.ref a0, .ref a1, .int x2, .int x3, .int x4, .ref b_1, .null] [] s) (fun b_3 => eI (gI tb_ct s b_3 2 1) (fun x_4 => eI (gI tb_ct s b_1 2 1) (fun x_5 => if x_4 = x_5 then rn_ tb_ct tb_mt B mm_X4_differences 76 [.ref a0, .ref a1, .int (x2 + (1 : Int32)), .int x3, .int x4, .ref b_1, .ref b_3] [.int (1 : Int32), .int x3] s else rn_ tb_ct tb_mt B mm_X4_differences 76 [.ref a0, .ref a1, .int (x2 + (1 : Int32)), .int x3, .int x4, .ref b_1, .ref b_3] [.int (0 : Int32), .int x3] s)))) := by
  rcases r5 with _ | b_1
  · rw [eA_n]
    rcases rs0 with _ | b_2
    · rw [eA_n]
      exact rn_go 3 (pc' := 78) (L' := [.ref a0, .ref a1, .int x2, .int x3, .int x4, .null, .null]) (st' := []) rfl
    · rw [eA_s]
      exact rn_go 3 (pc' := 78) (L' := [.ref a0, .ref a1, .int x2, .int x3, .int x4, .null, .ref b_2]) (st' := []) rfl
  · rw [eA_s]
    rcases rs0 with _ | b_3
    · rw [eA_n]
      exact rn_go 5 (pc' := 78) (L' := [.ref a0, .ref a1, .int x2, .int x3, .int x4, .ref b_1, .null]) (st' := []) rfl
    · rw [eA_s]
      refine Eq.trans (rn_go 8 (pc' := 60) (L' := [.ref a0, .ref a1, .int (x2 + (1 : Int32)), .int x3, .int x4, .ref b_1, .ref b_3]) (st' := [.ref b_3, .int x3]) rfl) ?_
      refine Eq.trans (rn_gI (L' := [.ref a0, .ref a1, .int (x2 + (1 : Int32)), .int x3, .int x4, .ref b_1, .ref b_3]) rfl rfl rfl rfl) ?_
      refine eI_c (fun x_4 => ?_)
      refine Eq.trans (rn_go 1 (pc' := 65) (L' := [.ref a0, .ref a1, .int (x2 + (1 : Int32)), .int x3, .int x4, .ref b_1, .ref b_3]) (st' := [.ref b_1, .int x_4, .int x3]) rfl) ?_
      refine Eq.trans (rn_gI (L' := [.ref a0, .ref a1, .int (x2 + (1 : Int32)), .int x3, .int x4, .ref b_1, .ref b_3]) rfl rfl rfl rfl) ?_
      refine eI_c (fun x_5 => ?_)
      refine Eq.trans (rn_icne (L' := [.ref a0, .ref a1, .int (x2 + (1 : Int32)), .int x3, .int x4, .ref b_1, .ref b_3]) rfl rfl) ?_
      refine if_c ?_ ?_
      · exact rn_go 2 (pc' := 76) (L' := [.ref a0, .ref a1, .int (x2 + (1 : Int32)), .int x3, .int x4, .ref b_1, .ref b_3]) (st' := [.int (1 : Int32), .int x3]) rfl
      · exact rn_go 1 (pc' := 76) (L' := [.ref a0, .ref a1, .int (x2 + (1 : Int32)), .int x3, .int x4, .ref b_1, .ref b_3]) (st' := [.int (0 : Int32), .int x3]) rfl
theorem dc_X4_differences_76 {B : Nat} (a0 : Nat) (a1 : Nat) (x2 : Int32) (w3 : Value) (x4 : Int32) (w5 : Value) (w6 : Value) (xs0 : Int32) (xs1 : Int32) (s : am_S) : rn_ tb_ct tb_mt B mm_X4_differences 76 [.ref a0, .ref a1, .int x2, w3, .int x4, w5, w6] [.int xs0, .int xs1] s = rn_ tb_ct tb_mt B mm_X4_differences 78 [.ref a0, .ref a1, .int x2, .int (xs1 + xs0), .int x4, am_un, am_un] [] s := by
  exact rn_go 2 (pc' := 78) (L' := [.ref a0, .ref a1, .int x2, .int (xs1 + xs0), .int x4, am_un, am_un]) (st' := []) rfl
theorem dc_X4_differences_78 {B : Nat} (a0 : Nat) (a1 : Nat) (x2 : Int32) (x3 : Int32) (x4 : Int32) (w5 : Value) (w6 : Value) (s : am_S) : rn_ tb_ct tb_mt B mm_X4_differences 78 [.ref a0, .ref a1, .int x2, .int x3, .int x4, w5, w6] [] s = rn_ tb_ct tb_mt B mm_X4_differences 7 [.ref a0, .ref a1, .int x2, .int x3, .int (x4 + (1 : Int32)), am_un, am_un] [] s := by
  exact rn_go 2 (pc' := 7) (L' := [.ref a0, .ref a1, .int x2, .int x3, .int (x4 + (1 : Int32)), am_un, am_un]) (st' := []) rfl
theorem in_X4_copyFrom {B : Nat} (a0 : Nat) (a1 : Nat) (s : am_S) : cl_ tb_ct tb_mt B K_X4_copyFrom [.ref a0, .ref a1] s = rn_ tb_ct tb_mt B mm_X4_copyFrom 0 [.ref a0, .ref a1, am_un, am_un, am_un] [] s := cl_in rfl rfl rfl rfl
theorem dc_X4_copyFrom_0 {B : Nat} (a0 : Nat) (a1 : Nat) (s : am_S) : rn_ tb_ct tb_mt B mm_X4_copyFrom 0 [.ref a0, .ref a1, am_un, am_un, am_un] [] s = eI (gI tb_ct s a1 3 1) (fun x_1 => eS (am_put tb_ct mm_X4_copyFrom B s (.int x_1) a0 3 1) (fun s_2 => rn_ tb_ct tb_mt B mm_X4_copyFrom 10 [.ref a0, .ref a1, .int (0 : Int32), am_un, am_un] [] s_2)) := by
  refine Eq.trans (rn_go 2 (pc' := 2) (L' := [.ref a0, .ref a1, am_un, am_un, am_un]) (st' := [.ref a1, .ref a0]) rfl) ?_
  refine Eq.trans (rn_gI (L' := [.ref a0, .ref a1, am_un, am_un, am_un]) rfl rfl rfl rfl) ?_
  refine eI_c (fun x_1 => ?_)
  refine Eq.trans (rn_pF (L' := [.ref a0, .ref a1, am_un, am_un, am_un]) rfl rfl) ?_
  refine eS_c (fun s_2 => ?_)
  exact rn_go 2 (pc' := 10) (L' := [.ref a0, .ref a1, .int (0 : Int32), am_un, am_un]) (st' := []) rfl
theorem dc_X4_copyFrom_10 {B : Nat} (a0 : Nat) (a1 : Nat) (x2 : Int32) (s : am_S) : rn_ tb_ct tb_mt B mm_X4_copyFrom 10 [.ref a0, .ref a1, .int x2, am_un, am_un] [] s = eI (gI tb_ct s a0 3 1) (fun x_1 => if x_1 ≤ x2 then some (.inl none, s) else eC (am_cls s a0) 3 (cA (cl_ tb_ct tb_mt B K_X4_at [.ref a0, .int x2] s) (fun s_2 => eC (am_cls s_2 a1) 3 (cA (cl_ tb_ct tb_mt B K_X4_at [.ref a1, .int x2] s_2) (fun s_4 => rn_ tb_ct tb_mt B mm_X4_copyFrom 46 [.ref a0, .ref a1, .int x2, va_rf none, va_rf none] [] s_4) (fun b_5 s_4 => rn_ tb_ct tb_mt B mm_X4_copyFrom 46 [.ref a0, .ref a1, .int x2, va_rf none, va_rf (some b_5)] [] s_4) xo)) (fun b_3 s_2 => eC (am_cls s_2 a1) 3 (cA (cl_ tb_ct tb_mt B K_X4_at [.ref a1, .int x2] s_2) (fun s_6 => rn_ tb_ct tb_mt B mm_X4_copyFrom 46 [.ref a0, .ref a1, .int x2, va_rf (some b_3), va_rf none] [] s_6) (fun b_7 s_6 => eC (am_cls s_6 b_3) 2 (cV (cl_ tb_ct tb_mt B K_X3_copyFrom [.ref b_3, .ref b_7] s_6) (fun s_8 => rn_ tb_ct tb_mt B mm_X4_copyFrom 46 [.ref a0, .ref a1, .int x2, va_rf (some b_3), va_rf (some b_7)] [] s_8) xo)) xo)) xo)) := by
  refine Eq.trans (rn_go 2 (pc' := 12) (L' := [.ref a0, .ref a1, .int x2, am_un, am_un]) (st' := [.ref a0, .int x2]) rfl) ?_
  refine Eq.trans (rn_gI (L' := [.ref a0, .ref a1, .int x2, am_un, am_un]) rfl rfl rfl rfl) ?_
  refine eI_c (fun x_1 => ?_)
  refine Eq.trans (rn_icge (L' := [.ref a0, .ref a1, .int x2, am_un, am_un]) rfl rfl) ?_
  refine if_c ?_ ?_
  · exact rn_retV rfl rfl
  · refine Eq.trans (rn_go 2 (pc' := 20) (L' := [.ref a0, .ref a1, .int x2, am_un, am_un]) (st' := [.int x2, .ref a0]) rfl) ?_
    refine Eq.trans (rn_vir (L' := [.ref a0, .ref a1, .int x2, am_un, am_un]) (as := [.int x2]) (rest := []) rfl rfl rfl rfl rfl (Nat.le_of_ble_eq_true rfl) (by decide) (by decide)) ?_
    refine eC_c ?_
    refine Eq.trans (cW_A rfl rfl rfl) ?_
    refine cA_c (fun s_2 => ?_) (fun b_3 s_2 => ?_) (xh_nil rfl)
    · refine Eq.trans (rn_go 3 (pc' := 26) (L' := [.ref a0, .ref a1, .int x2, .null, am_un]) (st' := [.int x2, .ref a1]) rfl) ?_
      refine Eq.trans (rn_vir (L' := [.ref a0, .ref a1, .int x2, .null, am_un]) (as := [.int x2]) (rest := []) rfl rfl rfl rfl rfl (Nat.le_of_ble_eq_true rfl) (by decide) (by decide)) ?_
      refine eC_c ?_
      refine Eq.trans (cW_A rfl rfl rfl) ?_
      refine cA_c (fun s_4 => ?_) (fun b_5 s_4 => ?_) (xh_nil rfl)
      · exact rn_go 3 (pc' := 46) (L' := [.ref a0, .ref a1, .int x2, va_rf none, va_rf none]) (st' := []) rfl
      · exact rn_go 3 (pc' := 46) (L' := [.ref a0, .ref a1, .int x2, va_rf none, va_rf (some b_5)]) (st' := []) rfl
    · refine Eq.trans (rn_go 3 (pc' := 26) (L' := [.ref a0, .ref a1, .int x2, .ref b_3, am_un]) (st' := [.int x2, .ref a1]) rfl) ?_
      refine Eq.trans (rn_vir (L' := [.ref a0, .ref a1, .int x2, .ref b_3, am_un]) (as := [.int x2]) (rest := []) rfl rfl rfl rfl rfl (Nat.le_of_ble_eq_true rfl) (by decide) (by decide)) ?_
      refine eC_c ?_
      refine Eq.trans (cW_A rfl rfl rfl) ?_
      refine cA_c (fun s_6 => ?_) (fun b_7 s_6 => ?_) (xh_nil rfl)
      · exact rn_go 5 (pc' := 46) (L' := [.ref a0, .ref a1, .int x2, va_rf (some b_3), va_rf none]) (st' := []) rfl
      · refine Eq.trans (rn_go 7 (pc' := 43) (L' := [.ref a0, .ref a1, .int x2, .ref b_3, .ref b_7]) (st' := [.ref b_7, .ref b_3]) rfl) ?_
        refine Eq.trans (rn_vir (L' := [.ref a0, .ref a1, .int x2, .ref b_3, .ref b_7]) (as := [.ref b_7]) (rest := []) rfl rfl rfl rfl rfl (Nat.le_of_ble_eq_true rfl) (by decide) (by decide)) ?_
        refine eC_c ?_
        refine Eq.trans (cW_V rfl rfl) ?_
        refine cV_c (fun s_8 => ?_) (xh_nil rfl)
        rfl
theorem dc_X4_copyFrom_46 {B : Nat} (a0 : Nat) (a1 : Nat) (x2 : Int32) (w3 : Value) (w4 : Value) (s : am_S) : rn_ tb_ct tb_mt B mm_X4_copyFrom 46 [.ref a0, .ref a1, .int x2, w3, w4] [] s = rn_ tb_ct tb_mt B mm_X4_copyFrom 10 [.ref a0, .ref a1, .int (x2 + (1 : Int32)), am_un, am_un] [] s := by
  exact rn_go 2 (pc' := 10) (L' := [.ref a0, .ref a1, .int (x2 + (1 : Int32)), am_un, am_un]) (st' := []) rfl
theorem in_X5_init {B : Nat} (a0 : Nat) (s : am_S) : cl_ tb_ct tb_mt B K_X5_init [.ref a0] s = rn_ tb_ct tb_mt B mm_X5_init 0 [.ref a0] [] s := cl_in rfl rfl rfl rfl
theorem dc_X5_init_0 {B : Nat} (a0 : Nat) (s : am_S) : rn_ tb_ct tb_mt B mm_X5_init 0 [.ref a0] [] s = some (.inl none, s) := by
  refine Eq.trans (rn_go 1 (pc' := 1) (L' := [.ref a0]) (st' := [.ref a0]) rfl) ?_
  refine Eq.trans (rn_obj (L' := [.ref a0]) rfl rfl (Nat.le_of_ble_eq_true rfl)) ?_
  exact rn_retV rfl rfl
theorem in_X5_copyFrom {B : Nat} (a0 : Nat) (a1 : Nat) (s : am_S) : cl_ tb_ct tb_mt B K_X5_copyFrom [.ref a0, .ref a1] s = rn_ tb_ct tb_mt B mm_X5_copyFrom 0 [.ref a0, .ref a1] [] s := cl_in rfl rfl rfl rfl
theorem dc_X5_copyFrom_0 {B : Nat} (a0 : Nat) (a1 : Nat) (s : am_S) : rn_ tb_ct tb_mt B mm_X5_copyFrom 0 [.ref a0, .ref a1] [] s = eI (gI tb_ct s a1 4 0) (fun x_1 => eS (am_put tb_ct mm_X5_copyFrom B s (.int x_1) a0 4 0) (fun s_2 => eI (gI tb_ct s_2 a1 4 1) (fun x_3 => eS (am_put tb_ct mm_X5_copyFrom B s_2 (.int x_3) a0 4 1) (fun s_4 => eI (gI tb_ct s_4 a1 4 2) (fun x_5 => eS (am_put tb_ct mm_X5_copyFrom B s_4 (.int x_5) a0 4 2) (fun s_6 => some (.inl none, s_6))))))) := by
  refine Eq.trans (rn_go 2 (pc' := 2) (L' := [.ref a0, .ref a1]) (st' := [.ref a1, .ref a0]) rfl) ?_
  refine Eq.trans (rn_gI (L' := [.ref a0, .ref a1]) rfl rfl rfl rfl) ?_
  refine eI_c (fun x_1 => ?_)
  refine Eq.trans (rn_pF (L' := [.ref a0, .ref a1]) rfl rfl) ?_
  refine eS_c (fun s_2 => ?_)
  refine Eq.trans (rn_go 2 (pc' := 10) (L' := [.ref a0, .ref a1]) (st' := [.ref a1, .ref a0]) rfl) ?_
  refine Eq.trans (rn_gI (L' := [.ref a0, .ref a1]) rfl rfl rfl rfl) ?_
  refine eI_c (fun x_3 => ?_)
  refine Eq.trans (rn_pF (L' := [.ref a0, .ref a1]) rfl rfl) ?_
  refine eS_c (fun s_4 => ?_)
  refine Eq.trans (rn_go 2 (pc' := 18) (L' := [.ref a0, .ref a1]) (st' := [.ref a1, .ref a0]) rfl) ?_
  refine Eq.trans (rn_gI (L' := [.ref a0, .ref a1]) rfl rfl rfl rfl) ?_
  refine eI_c (fun x_5 => ?_)
  refine Eq.trans (rn_pF (L' := [.ref a0, .ref a1]) rfl rfl) ?_
  refine eS_c (fun s_6 => ?_)
  exact rn_retV rfl rfl
theorem in_X6_init {B : Nat} (a0 : Nat) (s : am_S) : cl_ tb_ct tb_mt B K_X6_init [.ref a0] s = rn_ tb_ct tb_mt B mm_X6_init 0 [.ref a0] [] s := cl_in rfl rfl rfl rfl
theorem dc_X6_init_0 {B : Nat} (a0 : Nat) (s : am_S) : rn_ tb_ct tb_mt B mm_X6_init 0 [.ref a0] [] s = nwI .int s (500 : Int32) (fun b_1 s_2 => eS (am_put tb_ct mm_X6_init B s_2 (.ref b_1) a0 5 0) (fun s_3 => nwI .int s_3 (3 : Int32) (fun b_4 s_5 => eS (am_put tb_ct mm_X6_init B s_5 (.ref b_4) a0 5 1) (fun s_6 => some (.inl none, s_6))))) := by
  refine Eq.trans (rn_go 1 (pc' := 1) (L' := [.ref a0]) (st' := [.ref a0]) rfl) ?_
  refine Eq.trans (rn_obj (L' := [.ref a0]) rfl rfl (Nat.le_of_ble_eq_true rfl)) ?_
  refine Eq.trans (rn_go 2 (pc' := 8) (L' := [.ref a0]) (st' := [.int (500 : Int32), .ref a0]) rfl) ?_
  refine Eq.trans (rn_nwI (L' := [.ref a0]) rfl rfl) ?_
  refine nwI_c (fun b_1 s_2 => ?_)
  refine Eq.trans (rn_pF (L' := [.ref a0]) rfl rfl) ?_
  refine eS_c (fun s_3 => ?_)
  refine Eq.trans (rn_go 2 (pc' := 15) (L' := [.ref a0]) (st' := [.int (3 : Int32), .ref a0]) rfl) ?_
  refine Eq.trans (rn_nwI (L' := [.ref a0]) rfl rfl) ?_
  refine nwI_c (fun b_4 s_5 => ?_)
  refine Eq.trans (rn_pF (L' := [.ref a0]) rfl rfl) ?_
  refine eS_c (fun s_6 => ?_)
  exact rn_retV rfl rfl
theorem in_X6_addBytes {B : Nat} (a0 : Nat) (j1 : Int64) (s : am_S) : cl_ tb_ct tb_mt B K_X6_addBytes [.ref a0, .long j1] s = rn_ tb_ct tb_mt B mm_X6_addBytes 0 [.ref a0, .long j1, am_un, am_un, am_un, am_un] [] s := cl_in rfl rfl rfl rfl
theorem dc_X6_addBytes_0 {B : Nat} (a0 : Nat) (j1 : Int64) (s : am_S) : rn_ tb_ct tb_mt B mm_X6_addBytes 0 [.ref a0, .long j1, am_un, am_un, am_un, am_un] [] s = rn_ tb_ct tb_mt B mm_X6_addBytes 6 [.ref a0, .long j1, am_un, .int (0 : Int32), .int (56 : Int32), am_un] [] s := by
  exact rn_go 4 (pc' := 6) (L' := [.ref a0, .long j1, am_un, .int (0 : Int32), .int (56 : Int32), am_un]) (st' := []) rfl
theorem dc_X6_addBytes_6 {B : Nat} (a0 : Nat) (j1 : Int64) (x3 : Int32) (x4 : Int32) (s : am_S) : rn_ tb_ct tb_mt B mm_X6_addBytes 6 [.ref a0, .long j1, am_un, .int x3, .int x4, am_un] [] s = if x4 < 0 then eI (gI tb_ct s a0 5 2) (fun x_1 => if (x_1 + x3) ≤ (500 : Int32) then rn_ tb_ct tb_mt B mm_X6_addBytes 57 [.ref a0, .long j1, am_un, .int x3, .int (56 : Int32), am_un] [] s else some (.inl (some (.int (-(2 : Int32)))), s)) else if (lg_cmp ((j1.toUInt64 >>> (x4.toInt64.toUInt64 &&& Int64.toUInt64 63)).toInt64 &&& (255 : Int64)) (0 : Int64)) = 0 then rn_ tb_ct tb_mt B mm_X6_addBytes 30 [.ref a0, .long j1, am_un, .int x3, .int x4, am_un] [.int (0 : Int32), .int x3] s else rn_ tb_ct tb_mt B mm_X6_addBytes 30 [.ref a0, .long j1, am_un, .int x3, .int x4, am_un] [.int (1 : Int32), .int x3] s := by
  refine Eq.trans (rn_go 1 (pc' := 8) (L' := [.ref a0, .long j1, am_un, .int x3, .int x4, am_un]) (st' := [.int x4]) rfl) ?_
  refine Eq.trans (rn_iflt (L' := [.ref a0, .long j1, am_un, .int x3, .int x4, am_un]) rfl rfl) ?_
  refine if_c ?_ ?_
  · refine Eq.trans (rn_go 1 (pc' := 39) (L' := [.ref a0, .long j1, am_un, .int x3, .int x4, am_un]) (st' := [.ref a0]) rfl) ?_
    refine Eq.trans (rn_gI (L' := [.ref a0, .long j1, am_un, .int x3, .int x4, am_un]) rfl rfl rfl rfl) ?_
    refine eI_c (fun x_1 => ?_)
    refine Eq.trans (rn_go 3 (pc' := 47) (L' := [.ref a0, .long j1, am_un, .int x3, .int x4, am_un]) (st' := [.int (500 : Int32), .int (x_1 + x3)]) rfl) ?_
    refine Eq.trans (rn_icle (L' := [.ref a0, .long j1, am_un, .int x3, .int x4, am_un]) rfl rfl) ?_
    refine if_c ?_ ?_
    · exact rn_go 2 (pc' := 57) (L' := [.ref a0, .long j1, am_un, .int x3, .int (56 : Int32), am_un]) (st' := []) rfl
    · refine Eq.trans (rn_go 1 (pc' := 52) (L' := [.ref a0, .long j1, am_un, .int x3, .int x4, am_un]) (st' := [.int (-(2 : Int32))]) rfl) ?_
      exact rn_retI rfl rfl rfl
  · refine Eq.trans (rn_go 8 (pc' := 22) (L' := [.ref a0, .long j1, am_un, .int x3, .int x4, am_un]) (st' := [.int (lg_cmp ((j1.toUInt64 >>> (x4.toInt64.toUInt64 &&& Int64.toUInt64 63)).toInt64 &&& (255 : Int64)) (0 : Int64)), .int x3]) rfl) ?_
    refine Eq.trans (rn_ifeq (L' := [.ref a0, .long j1, am_un, .int x3, .int x4, am_un]) rfl rfl) ?_
    refine if_c ?_ ?_
    · exact rn_go 1 (pc' := 30) (L' := [.ref a0, .long j1, am_un, .int x3, .int x4, am_un]) (st' := [.int (0 : Int32), .int x3]) rfl
    · exact rn_go 2 (pc' := 30) (L' := [.ref a0, .long j1, am_un, .int x3, .int x4, am_un]) (st' := [.int (1 : Int32), .int x3]) rfl
theorem dc_X6_addBytes_30 {B : Nat} (a0 : Nat) (j1 : Int64) (w3 : Value) (x4 : Int32) (xs0 : Int32) (xs1 : Int32) (s : am_S) : rn_ tb_ct tb_mt B mm_X6_addBytes 30 [.ref a0, .long j1, am_un, w3, .int x4, am_un] [.int xs0, .int xs1] s = rn_ tb_ct tb_mt B mm_X6_addBytes 6 [.ref a0, .long j1, am_un, .int (xs1 + xs0), .int (x4 + (-(8 : Int32))), am_un] [] s := by
  exact rn_go 4 (pc' := 6) (L' := [.ref a0, .long j1, am_un, .int (xs1 + xs0), .int (x4 + (-(8 : Int32))), am_un]) (st' := []) rfl
theorem dc_X6_addBytes_57 {B : Nat} (a0 : Nat) (j1 : Int64) (w3 : Value) (x4 : Int32) (s : am_S) : rn_ tb_ct tb_mt B mm_X6_addBytes 57 [.ref a0, .long j1, am_un, w3, .int x4, am_un] [] s = if x4 < 0 then eI (gI tb_ct s a0 5 2) (fun x_1 => some (.inl (some (.int x_1)), s)) else if ((j1.toUInt64 >>> (x4.toInt64.toUInt64 &&& Int64.toUInt64 63)).toInt64 &&& (255 : Int64)).toInt32 = 0 then rn_ tb_ct tb_mt B mm_X6_addBytes 116 [.ref a0, .long j1, am_un, am_un, .int x4, .int ((j1.toUInt64 >>> (x4.toInt64.toUInt64 &&& Int64.toUInt64 63)).toInt64 &&& (255 : Int64)).toInt32] [] s else eI (gI tb_ct s a0 5 2) (fun x_2 => if x_2 < 0 then rn_ tb_ct tb_mt B mm_X6_addBytes 116 [.ref a0, .long j1, am_un, am_un, .int x4, .int ((j1.toUInt64 >>> (x4.toInt64.toUInt64 &&& Int64.toUInt64 63)).toInt64 &&& (255 : Int64)).toInt32] [] s else eI (gI tb_ct s a0 5 2) (fun x_3 => if (500 : Int32) ≤ x_3 then rn_ tb_ct tb_mt B mm_X6_addBytes 116 [.ref a0, .long j1, am_un, am_un, .int x4, .int ((j1.toUInt64 >>> (x4.toInt64.toUInt64 &&& Int64.toUInt64 63)).toInt64 &&& (255 : Int64)).toInt32] [] s else eA (gA tb_ct s a0 5 0) (eI (gI tb_ct s a0 5 2) (fun x_5 => none)) (fun b_4 => eI (gI tb_ct s a0 5 2) (fun x_6 => eS (wI B s b_4 x_6 (((j1.toUInt64 >>> (x4.toInt64.toUInt64 &&& Int64.toUInt64 63)).toInt64 &&& (255 : Int64)).toInt32)) (fun s_7 => eI (gI tb_ct s_7 a0 5 2) (fun x_8 => eS (am_put tb_ct mm_X6_addBytes B s_7 (.int (x_8 + (1 : Int32))) a0 5 2) (fun s_9 => rn_ tb_ct tb_mt B mm_X6_addBytes 116 [.ref a0, .long j1, am_un, am_un, .int x4, .int ((j1.toUInt64 >>> (x4.toInt64.toUInt64 &&& Int64.toUInt64 63)).toInt64 &&& (255 : Int64)).toInt32] [] s_9))))))) := by
  refine Eq.trans (rn_go 1 (pc' := 59) (L' := [.ref a0, .long j1, am_un, am_un, .int x4, am_un]) (st' := [.int x4]) rfl) ?_
  refine Eq.trans (rn_iflt (L' := [.ref a0, .long j1, am_un, am_un, .int x4, am_un]) rfl rfl) ?_
  refine if_c ?_ ?_
  · refine Eq.trans (rn_go 1 (pc' := 123) (L' := [.ref a0, .long j1, am_un, am_un, .int x4, am_un]) (st' := [.ref a0]) rfl) ?_
    refine Eq.trans (rn_gI (L' := [.ref a0, .long j1, am_un, am_un, .int x4, am_un]) rfl rfl rfl rfl) ?_
    refine eI_c (fun x_1 => ?_)
    exact rn_retI rfl rfl rfl
  · refine Eq.trans (rn_go 8 (pc' := 75) (L' := [.ref a0, .long j1, am_un, am_un, .int x4, .int ((j1.toUInt64 >>> (x4.toInt64.toUInt64 &&& Int64.toUInt64 63)).toInt64 &&& (255 : Int64)).toInt32]) (st' := [.int ((j1.toUInt64 >>> (x4.toInt64.toUInt64 &&& Int64.toUInt64 63)).toInt64 &&& (255 : Int64)).toInt32]) rfl) ?_
    refine Eq.trans (rn_ifeq (L' := [.ref a0, .long j1, am_un, am_un, .int x4, .int ((j1.toUInt64 >>> (x4.toInt64.toUInt64 &&& Int64.toUInt64 63)).toInt64 &&& (255 : Int64)).toInt32]) rfl rfl) ?_
    refine if_c ?_ ?_
    · rfl
    · refine Eq.trans (rn_go 1 (pc' := 79) (L' := [.ref a0, .long j1, am_un, am_un, .int x4, .int ((j1.toUInt64 >>> (x4.toInt64.toUInt64 &&& Int64.toUInt64 63)).toInt64 &&& (255 : Int64)).toInt32]) (st' := [.ref a0]) rfl) ?_
      refine Eq.trans (rn_gI (L' := [.ref a0, .long j1, am_un, am_un, .int x4, .int ((j1.toUInt64 >>> (x4.toInt64.toUInt64 &&& Int64.toUInt64 63)).toInt64 &&& (255 : Int64)).toInt32]) rfl rfl rfl rfl) ?_
      refine eI_c (fun x_2 => ?_)
      refine Eq.trans (rn_iflt (L' := [.ref a0, .long j1, am_un, am_un, .int x4, .int ((j1.toUInt64 >>> (x4.toInt64.toUInt64 &&& Int64.toUInt64 63)).toInt64 &&& (255 : Int64)).toInt32]) rfl rfl) ?_
      refine if_c ?_ ?_
      · rfl
      · refine Eq.trans (rn_go 1 (pc' := 86) (L' := [.ref a0, .long j1, am_un, am_un, .int x4, .int ((j1.toUInt64 >>> (x4.toInt64.toUInt64 &&& Int64.toUInt64 63)).toInt64 &&& (255 : Int64)).toInt32]) (st' := [.ref a0]) rfl) ?_
        refine Eq.trans (rn_gI (L' := [.ref a0, .long j1, am_un, am_un, .int x4, .int ((j1.toUInt64 >>> (x4.toInt64.toUInt64 &&& Int64.toUInt64 63)).toInt64 &&& (255 : Int64)).toInt32]) rfl rfl rfl rfl) ?_
        refine eI_c (fun x_3 => ?_)
        refine Eq.trans (rn_go 1 (pc' := 92) (L' := [.ref a0, .long j1, am_un, am_un, .int x4, .int ((j1.toUInt64 >>> (x4.toInt64.toUInt64 &&& Int64.toUInt64 63)).toInt64 &&& (255 : Int64)).toInt32]) (st' := [.int (500 : Int32), .int x_3]) rfl) ?_
        refine Eq.trans (rn_icge (L' := [.ref a0, .long j1, am_un, am_un, .int x4, .int ((j1.toUInt64 >>> (x4.toInt64.toUInt64 &&& Int64.toUInt64 63)).toInt64 &&& (255 : Int64)).toInt32]) rfl rfl) ?_
        refine if_c ?_ ?_
        · rfl
        · refine Eq.trans (rn_go 1 (pc' := 96) (L' := [.ref a0, .long j1, am_un, am_un, .int x4, .int ((j1.toUInt64 >>> (x4.toInt64.toUInt64 &&& Int64.toUInt64 63)).toInt64 &&& (255 : Int64)).toInt32]) (st' := [.ref a0]) rfl) ?_
          refine Eq.trans (rn_gA (L' := [.ref a0, .long j1, am_un, am_un, .int x4, .int ((j1.toUInt64 >>> (x4.toInt64.toUInt64 &&& Int64.toUInt64 63)).toInt64 &&& (255 : Int64)).toInt32]) rfl rfl rfl rfl) ?_
          refine eA_c ?_ (fun b_4 => ?_)
          · refine Eq.trans (rn_go 1 (pc' := 100) (L' := [.ref a0, .long j1, am_un, am_un, .int x4, .int ((j1.toUInt64 >>> (x4.toInt64.toUInt64 &&& Int64.toUInt64 63)).toInt64 &&& (255 : Int64)).toInt32]) (st' := [.ref a0, .null]) rfl) ?_
            refine Eq.trans (rn_gI (L' := [.ref a0, .long j1, am_un, am_un, .int x4, .int ((j1.toUInt64 >>> (x4.toInt64.toUInt64 &&& Int64.toUInt64 63)).toInt64 &&& (255 : Int64)).toInt32]) rfl rfl rfl rfl) ?_
            refine eI_c (fun x_5 => ?_)
            refine Eq.trans (rn_go 1 (pc' := 105) (L' := [.ref a0, .long j1, am_un, am_un, .int x4, .int ((j1.toUInt64 >>> (x4.toInt64.toUInt64 &&& Int64.toUInt64 63)).toInt64 &&& (255 : Int64)).toInt32]) (st' := [.int ((j1.toUInt64 >>> (x4.toInt64.toUInt64 &&& Int64.toUInt64 63)).toInt64 &&& (255 : Int64)).toInt32, .int x_5, .null]) rfl) ?_
            exact rn_z rfl rfl
          · refine Eq.trans (rn_go 1 (pc' := 100) (L' := [.ref a0, .long j1, am_un, am_un, .int x4, .int ((j1.toUInt64 >>> (x4.toInt64.toUInt64 &&& Int64.toUInt64 63)).toInt64 &&& (255 : Int64)).toInt32]) (st' := [.ref a0, .ref b_4]) rfl) ?_
            refine Eq.trans (rn_gI (L' := [.ref a0, .long j1, am_un, am_un, .int x4, .int ((j1.toUInt64 >>> (x4.toInt64.toUInt64 &&& Int64.toUInt64 63)).toInt64 &&& (255 : Int64)).toInt32]) rfl rfl rfl rfl) ?_
            refine eI_c (fun x_6 => ?_)
            refine Eq.trans (rn_go 1 (pc' := 105) (L' := [.ref a0, .long j1, am_un, am_un, .int x4, .int ((j1.toUInt64 >>> (x4.toInt64.toUInt64 &&& Int64.toUInt64 63)).toInt64 &&& (255 : Int64)).toInt32]) (st' := [.int ((j1.toUInt64 >>> (x4.toInt64.toUInt64 &&& Int64.toUInt64 63)).toInt64 &&& (255 : Int64)).toInt32, .int x_6, .ref b_4]) rfl) ?_
            refine Eq.trans (rn_wI (L' := [.ref a0, .long j1, am_un, am_un, .int x4, .int ((j1.toUInt64 >>> (x4.toInt64.toUInt64 &&& Int64.toUInt64 63)).toInt64 &&& (255 : Int64)).toInt32]) rfl rfl) ?_
            refine eS_c (fun s_7 => ?_)
            refine Eq.trans (rn_go 2 (pc' := 108) (L' := [.ref a0, .long j1, am_un, am_un, .int x4, .int ((j1.toUInt64 >>> (x4.toInt64.toUInt64 &&& Int64.toUInt64 63)).toInt64 &&& (255 : Int64)).toInt32]) (st' := [.ref a0, .ref a0]) rfl) ?_
            refine Eq.trans (rn_gI (L' := [.ref a0, .long j1, am_un, am_un, .int x4, .int ((j1.toUInt64 >>> (x4.toInt64.toUInt64 &&& Int64.toUInt64 63)).toInt64 &&& (255 : Int64)).toInt32]) rfl rfl rfl rfl) ?_
            refine eI_c (fun x_8 => ?_)
            refine Eq.trans (rn_go 2 (pc' := 113) (L' := [.ref a0, .long j1, am_un, am_un, .int x4, .int ((j1.toUInt64 >>> (x4.toInt64.toUInt64 &&& Int64.toUInt64 63)).toInt64 &&& (255 : Int64)).toInt32]) (st' := [.int (x_8 + (1 : Int32)), .ref a0]) rfl) ?_
            refine Eq.trans (rn_pF (L' := [.ref a0, .long j1, am_un, am_un, .int x4, .int ((j1.toUInt64 >>> (x4.toInt64.toUInt64 &&& Int64.toUInt64 63)).toInt64 &&& (255 : Int64)).toInt32]) rfl rfl) ?_
            refine eS_c (fun s_9 => ?_)
            rfl
theorem dc_X6_addBytes_116 {B : Nat} (a0 : Nat) (j1 : Int64) (x4 : Int32) (w5 : Value) (s : am_S) : rn_ tb_ct tb_mt B mm_X6_addBytes 116 [.ref a0, .long j1, am_un, am_un, .int x4, w5] [] s = rn_ tb_ct tb_mt B mm_X6_addBytes 57 [.ref a0, .long j1, am_un, am_un, .int (x4 + (-(8 : Int32))), am_un] [] s := by
  exact rn_go 2 (pc' := 57) (L' := [.ref a0, .long j1, am_un, am_un, .int (x4 + (-(8 : Int32))), am_un]) (st' := []) rfl
theorem in_X6_begin {B : Nat} (a0 : Nat) (s : am_S) : cl_ tb_ct tb_mt B K_X6_begin [.ref a0] s = rn_ tb_ct tb_mt B mm_X6_begin 0 [.ref a0] [] s := cl_in rfl rfl rfl rfl
theorem dc_X6_begin_0 {B : Nat} (a0 : Nat) (s : am_S) : rn_ tb_ct tb_mt B mm_X6_begin 0 [.ref a0] [] s = eS (am_put tb_ct mm_X6_begin B s (.int (0 : Int32)) a0 5 3) (fun s_1 => eS (am_put tb_ct mm_X6_begin B s_1 (.int (-(1 : Int32))) a0 5 5) (fun s_2 => eS (am_put tb_ct mm_X6_begin B s_2 (.int (0 : Int32)) a0 5 7) (fun s_3 => eS (am_put tb_ct mm_X6_begin B s_3 (.int (0 : Int32)) a0 5 8) (fun s_4 => some (.inl none, s_4))))) := by
  refine Eq.trans (rn_go 2 (pc' := 2) (L' := [.ref a0]) (st' := [.int (0 : Int32), .ref a0]) rfl) ?_
  refine Eq.trans (rn_pF (L' := [.ref a0]) rfl rfl) ?_
  refine eS_c (fun s_1 => ?_)
  refine Eq.trans (rn_go 2 (pc' := 7) (L' := [.ref a0]) (st' := [.int (-(1 : Int32)), .ref a0]) rfl) ?_
  refine Eq.trans (rn_pF (L' := [.ref a0]) rfl rfl) ?_
  refine eS_c (fun s_2 => ?_)
  refine Eq.trans (rn_go 2 (pc' := 12) (L' := [.ref a0]) (st' := [.int (0 : Int32), .ref a0]) rfl) ?_
  refine Eq.trans (rn_pF (L' := [.ref a0]) rfl rfl) ?_
  refine eS_c (fun s_3 => ?_)
  refine Eq.trans (rn_go 2 (pc' := 17) (L' := [.ref a0]) (st' := [.int (0 : Int32), .ref a0]) rfl) ?_
  refine Eq.trans (rn_pF (L' := [.ref a0]) rfl rfl) ?_
  refine eS_c (fun s_4 => ?_)
  exact rn_retV rfl rfl
theorem in_X6_finish {B : Nat} (a0 : Nat) (s : am_S) : cl_ tb_ct tb_mt B K_X6_finish [.ref a0] s = rn_ tb_ct tb_mt B mm_X6_finish 0 [.ref a0] [] s := cl_in rfl rfl rfl rfl
theorem dc_X6_finish_0 {B : Nat} (a0 : Nat) (s : am_S) : rn_ tb_ct tb_mt B mm_X6_finish 0 [.ref a0] [] s = eS (am_put tb_ct mm_X6_finish B s (.int (0 : Int32)) a0 5 2) (fun s_1 => eI (gI tb_ct s_1 a0 5 7) (fun x_2 => if x_2 = 0 then eI (gI tb_ct s_1 a0 5 5) (fun x_3 => some (.inl (some (.int (x_3 + (1 : Int32)))), s_1)) else eI (gI tb_ct s_1 a0 5 8) (fun x_4 => some (.inl (some (.int ((-(100 : Int32)) - x_4))), s_1)))) := by
  refine Eq.trans (rn_go 2 (pc' := 2) (L' := [.ref a0]) (st' := [.int (0 : Int32), .ref a0]) rfl) ?_
  refine Eq.trans (rn_pF (L' := [.ref a0]) rfl rfl) ?_
  refine eS_c (fun s_1 => ?_)
  refine Eq.trans (rn_go 1 (pc' := 6) (L' := [.ref a0]) (st' := [.ref a0]) rfl) ?_
  refine Eq.trans (rn_gI (L' := [.ref a0]) rfl rfl rfl rfl) ?_
  refine eI_c (fun x_2 => ?_)
  refine Eq.trans (rn_ifne (L' := [.ref a0]) rfl rfl) ?_
  refine if_c ?_ ?_
  · refine Eq.trans (rn_go 1 (pc' := 13) (L' := [.ref a0]) (st' := [.ref a0]) rfl) ?_
    refine Eq.trans (rn_gI (L' := [.ref a0]) rfl rfl rfl rfl) ?_
    refine eI_c (fun x_3 => ?_)
    refine Eq.trans (rn_go 3 (pc' := 28) (L' := [.ref a0]) (st' := [.int (x_3 + (1 : Int32))]) rfl) ?_
    exact rn_retI rfl rfl rfl
  · refine Eq.trans (rn_go 2 (pc' := 24) (L' := [.ref a0]) (st' := [.ref a0, .int (-(100 : Int32))]) rfl) ?_
    refine Eq.trans (rn_gI (L' := [.ref a0]) rfl rfl rfl rfl) ?_
    refine eI_c (fun x_4 => ?_)
    refine Eq.trans (rn_go 1 (pc' := 28) (L' := [.ref a0]) (st' := [.int ((-(100 : Int32)) - x_4)]) rfl) ?_
    exact rn_retI rfl rfl rfl
theorem in_X6_readStatement {B : Nat} (a0 : Nat) (s : am_S) : cl_ tb_ct tb_mt B K_X6_readStatement [.ref a0] s = rn_ tb_ct tb_mt B mm_X6_readStatement 0 [.ref a0, am_un] [] s := cl_in rfl rfl rfl rfl
theorem dc_X6_readStatement_0 {B : Nat} (a0 : Nat) (s : am_S) : rn_ tb_ct tb_mt B mm_X6_readStatement 0 [.ref a0, am_un] [] s = eI (gI tb_ct s a0 5 5) (fun x_1 => eS (am_put tb_ct mm_X6_readStatement B s (.int (x_1 + (1 : Int32))) a0 5 5) (fun s_2 => eC (am_cls s_2 a0) 5 (cV (cl_ tb_ct tb_mt B K_X6_skipSpaces [.ref a0] s_2) (fun s_3 => eI (gI tb_ct s_3 a0 5 3) (fun x_4 => eS (am_put tb_ct mm_X6_readStatement B s_3 (.int x_4) a0 5 6) (fun s_5 => eC (am_cls s_5 a0) 5 (cA (cl_ tb_ct tb_mt B K_X6_readVerb [.ref a0] s_5) (fun s_6 => eI (gI tb_ct s_6 a0 5 6) (fun x_8 => eC (am_cls s_6 a0) 5 (cI (cl_ tb_ct tb_mt B K_X6_fail [.ref a0, .int (1 : Int32), .int x_8] s_6) (fun x_10 s_9 => some (.inl (some .null), s_9)) xo))) (fun b_7 s_6 => eC (am_cls s_6 a0) 5 (cI (cl_ tb_ct tb_mt B K_X6_readNumbers [.ref a0, .ref b_7] s_6) (fun x_12 s_11 => if x_12 = 0 then some (.inl (some .null), s_11) else some (.inl (some (.ref b_7)), s_11)) xo)) xo)))) xo))) := by
  refine Eq.trans (rn_go 2 (pc' := 2) (L' := [.ref a0, am_un]) (st' := [.ref a0, .ref a0]) rfl) ?_
  refine Eq.trans (rn_gI (L' := [.ref a0, am_un]) rfl rfl rfl rfl) ?_
  refine eI_c (fun x_1 => ?_)
  refine Eq.trans (rn_go 2 (pc' := 7) (L' := [.ref a0, am_un]) (st' := [.int (x_1 + (1 : Int32)), .ref a0]) rfl) ?_
  refine Eq.trans (rn_pF (L' := [.ref a0, am_un]) rfl rfl) ?_
  refine eS_c (fun s_2 => ?_)
  refine Eq.trans (rn_go 1 (pc' := 11) (L' := [.ref a0, am_un]) (st' := [.ref a0]) rfl) ?_
  refine Eq.trans (rn_vir (L' := [.ref a0, am_un]) (as := []) (rest := []) rfl rfl rfl rfl rfl (Nat.le_of_ble_eq_true rfl) (by decide) (by decide)) ?_
  refine eC_c ?_
  refine Eq.trans (cW_V rfl rfl) ?_
  refine cV_c (fun s_3 => ?_) (xh_nil rfl)
  refine Eq.trans (rn_go 2 (pc' := 16) (L' := [.ref a0, am_un]) (st' := [.ref a0, .ref a0]) rfl) ?_
  refine Eq.trans (rn_gI (L' := [.ref a0, am_un]) rfl rfl rfl rfl) ?_
  refine eI_c (fun x_4 => ?_)
  refine Eq.trans (rn_pF (L' := [.ref a0, am_un]) rfl rfl) ?_
  refine eS_c (fun s_5 => ?_)
  refine Eq.trans (rn_go 1 (pc' := 23) (L' := [.ref a0, am_un]) (st' := [.ref a0]) rfl) ?_
  refine Eq.trans (rn_vir (L' := [.ref a0, am_un]) (as := []) (rest := []) rfl rfl rfl rfl rfl (Nat.le_of_ble_eq_true rfl) (by decide) (by decide)) ?_
  refine eC_c ?_
  refine Eq.trans (cW_A rfl rfl rfl) ?_
  refine cA_c (fun s_6 => ?_) (fun b_7 s_6 => ?_) (xh_nil rfl)
  · refine Eq.trans (rn_go 6 (pc' := 34) (L' := [.ref a0, .null]) (st' := [.ref a0, .int (1 : Int32), .ref a0]) rfl) ?_
    refine Eq.trans (rn_gI (L' := [.ref a0, .null]) rfl rfl rfl rfl) ?_
    refine eI_c (fun x_8 => ?_)
    refine Eq.trans (rn_vir (L' := [.ref a0, .null]) (as := [.int (1 : Int32), .int x_8]) (rest := []) rfl rfl rfl rfl rfl (Nat.le_of_ble_eq_true rfl) (by decide) (by decide)) ?_
    refine eC_c ?_
    refine Eq.trans (cW_I rfl rfl rfl) ?_
    refine cI_c (fun x_10 s_9 => ?_) (xh_nil rfl)
    refine Eq.trans (rn_go 2 (pc' := 42) (L' := [.ref a0, .null]) (st' := [.null]) rfl) ?_
    exact rn_retA rfl rfl rfl rfl
  · refine Eq.trans (rn_go 5 (pc' := 45) (L' := [.ref a0, .ref b_7]) (st' := [.ref b_7, .ref a0]) rfl) ?_
    refine Eq.trans (rn_vir (L' := [.ref a0, .ref b_7]) (as := [.ref b_7]) (rest := []) rfl rfl rfl rfl rfl (Nat.le_of_ble_eq_true rfl) (by decide) (by decide)) ?_
    refine eC_c ?_
    refine Eq.trans (cW_I rfl rfl rfl) ?_
    refine cI_c (fun x_12 s_11 => ?_) (xh_nil rfl)
    refine Eq.trans (rn_ifeq (L' := [.ref a0, .ref b_7]) rfl rfl) ?_
    refine if_c ?_ ?_
    · refine Eq.trans (rn_go 1 (pc' := 56) (L' := [.ref a0, .ref b_7]) (st' := [.null]) rfl) ?_
      exact rn_retA rfl rfl rfl rfl
    · refine Eq.trans (rn_go 2 (pc' := 56) (L' := [.ref a0, .ref b_7]) (st' := [.ref b_7]) rfl) ?_
      exact rn_retA rfl rfl rfl rfl
theorem in_X6_judge {B : Nat} (a0 : Nat) (a1 : Nat) (x2 : Int32) (s : am_S) : cl_ tb_ct tb_mt B K_X6_judge [.ref a0, .ref a1, .int x2] s = rn_ tb_ct tb_mt B mm_X6_judge 0 [.ref a0, .ref a1, .int x2, am_un] [] s := cl_in rfl rfl rfl rfl
theorem dc_X6_judge_0 {B : Nat} (a0 : Nat) (a1 : Nat) (x2 : Int32) (s : am_S) : rn_ tb_ct tb_mt B mm_X6_judge 0 [.ref a0, .ref a1, .int x2, am_un] [] s = if x2 = (-(2 : Int32)) then rn_ tb_ct tb_mt B mm_X6_judge 36 [.ref a0, .ref a1, .int x2, am_un] [] s else if x2 = (-(3 : Int32)) then rn_ tb_ct tb_mt B mm_X6_judge 36 [.ref a0, .ref a1, .int x2, am_un] [] s else if x2 = (-(2000000001 : Int32)) then rn_ tb_ct tb_mt B mm_X6_judge 36 [.ref a0, .ref a1, .int x2, am_un] [] s else if x2 = (-(2000000002 : Int32)) then rn_ tb_ct tb_mt B mm_X6_judge 36 [.ref a0, .ref a1, .int x2, am_un] [] s else eK (stR s 0) (fun b_1 => if a1 = b_1 then if x2 = (-(1 : Int32)) then rn_ tb_ct tb_mt B mm_X6_judge 36 [.ref a0, .ref a1, .int x2, am_un] [] s else rn_ tb_ct tb_mt B mm_X6_judge 40 [.ref a0, .ref a1, .int x2, am_un] [] s else rn_ tb_ct tb_mt B mm_X6_judge 40 [.ref a0, .ref a1, .int x2, am_un] [] s) := by
  refine Eq.trans (rn_go 2 (pc' := 3) (L' := [.ref a0, .ref a1, .int x2, am_un]) (st' := [.int (-(2 : Int32)), .int x2]) rfl) ?_
  refine Eq.trans (rn_iceq (L' := [.ref a0, .ref a1, .int x2, am_un]) rfl rfl) ?_
  refine if_c ?_ ?_
  · rfl
  · refine Eq.trans (rn_go 2 (pc' := 9) (L' := [.ref a0, .ref a1, .int x2, am_un]) (st' := [.int (-(3 : Int32)), .int x2]) rfl) ?_
    refine Eq.trans (rn_iceq (L' := [.ref a0, .ref a1, .int x2, am_un]) rfl rfl) ?_
    refine if_c ?_ ?_
    · rfl
    · refine Eq.trans (rn_go 2 (pc' := 15) (L' := [.ref a0, .ref a1, .int x2, am_un]) (st' := [.int (-(2000000001 : Int32)), .int x2]) rfl) ?_
      refine Eq.trans (rn_iceq (L' := [.ref a0, .ref a1, .int x2, am_un]) rfl rfl) ?_
      refine if_c ?_ ?_
      · rfl
      · refine Eq.trans (rn_go 2 (pc' := 21) (L' := [.ref a0, .ref a1, .int x2, am_un]) (st' := [.int (-(2000000002 : Int32)), .int x2]) rfl) ?_
        refine Eq.trans (rn_iceq (L' := [.ref a0, .ref a1, .int x2, am_un]) rfl rfl) ?_
        refine if_c ?_ ?_
        · rfl
        · refine Eq.trans (rn_go 1 (pc' := 25) (L' := [.ref a0, .ref a1, .int x2, am_un]) (st' := [.ref a1]) rfl) ?_
          refine Eq.trans (rn_gsR (L' := [.ref a0, .ref a1, .int x2, am_un]) rfl rfl) ?_
          refine eK_c (fun b_1 => ?_)
          refine Eq.trans (rn_acne (L' := [.ref a0, .ref a1, .int x2, am_un]) rfl rfl) ?_
          refine if_c ?_ ?_
          · refine Eq.trans (rn_go 2 (pc' := 33) (L' := [.ref a0, .ref a1, .int x2, am_un]) (st' := [.int (-(1 : Int32)), .int x2]) rfl) ?_
            refine Eq.trans (rn_icne (L' := [.ref a0, .ref a1, .int x2, am_un]) rfl rfl) ?_
            refine if_c ?_ ?_
            · rfl
            · rfl
          · rfl
theorem dc_X6_judge_36 {B : Nat} (a0 : Nat) (w1 : Value) (w2 : Value) (s : am_S) : rn_ tb_ct tb_mt B mm_X6_judge 36 [.ref a0, w1, w2, am_un] [] s = rn_ tb_ct tb_mt B mm_X6_judge 41 [.ref a0, am_un, am_un, am_un] [.int (1 : Int32)] s := by
  exact rn_go 2 (pc' := 41) (L' := [.ref a0, am_un, am_un, am_un]) (st' := [.int (1 : Int32)]) rfl
theorem dc_X6_judge_40 {B : Nat} (a0 : Nat) (w1 : Value) (w2 : Value) (s : am_S) : rn_ tb_ct tb_mt B mm_X6_judge 40 [.ref a0, w1, w2, am_un] [] s = rn_ tb_ct tb_mt B mm_X6_judge 41 [.ref a0, am_un, am_un, am_un] [.int (0 : Int32)] s := by
  exact rn_go 1 (pc' := 41) (L' := [.ref a0, am_un, am_un, am_un]) (st' := [.int (0 : Int32)]) rfl
theorem dc_X6_judge_41 {B : Nat} (a0 : Nat) (xs0 : Int32) (s : am_S) : rn_ tb_ct tb_mt B mm_X6_judge 41 [.ref a0, am_un, am_un, am_un] [.int xs0] s = if xs0 = 0 then some (.inl none, s) else eI (gI tb_ct s a0 5 6) (fun x_1 => eC (am_cls s a0) 5 (cI (cl_ tb_ct tb_mt B K_X6_fail [.ref a0, .int (3 : Int32), .int x_1] s) (fun x_3 s_2 => some (.inl none, s_2)) xo)) := by
  refine Eq.trans (rn_go 2 (pc' := 43) (L' := [.ref a0, am_un, am_un, .int xs0]) (st' := [.int xs0]) rfl) ?_
  refine Eq.trans (rn_ifeq (L' := [.ref a0, am_un, am_un, .int xs0]) rfl rfl) ?_
  refine if_c ?_ ?_
  · exact rn_retV rfl rfl
  · refine Eq.trans (rn_go 3 (pc' := 49) (L' := [.ref a0, am_un, am_un, .int xs0]) (st' := [.ref a0, .int (3 : Int32), .ref a0]) rfl) ?_
    refine Eq.trans (rn_gI (L' := [.ref a0, am_un, am_un, .int xs0]) rfl rfl rfl rfl) ?_
    refine eI_c (fun x_1 => ?_)
    refine Eq.trans (rn_vir (L' := [.ref a0, am_un, am_un, .int xs0]) (as := [.int (3 : Int32), .int x_1]) (rest := []) rfl rfl rfl rfl rfl (Nat.le_of_ble_eq_true rfl) (by decide) (by decide)) ?_
    refine eC_c ?_
    refine Eq.trans (cW_I rfl rfl rfl) ?_
    refine cI_c (fun x_3 s_2 => ?_) (xh_nil rfl)
    refine Eq.trans (rn_go 1 (pc' := 56) (L' := [.ref a0, am_un, am_un, .int xs0]) (st' := []) rfl) ?_
    exact rn_retV rfl rfl
theorem in_X6_passSemicolon {B : Nat} (a0 : Nat) (s : am_S) : cl_ tb_ct tb_mt B K_X6_passSemicolon [.ref a0] s = rn_ tb_ct tb_mt B mm_X6_passSemicolon 0 [.ref a0] [] s := cl_in rfl rfl rfl rfl
theorem dc_X6_passSemicolon_0 {B : Nat} (a0 : Nat) (s : am_S) : rn_ tb_ct tb_mt B mm_X6_passSemicolon 0 [.ref a0] [] s = eI (gI tb_ct s a0 5 7) (fun x_1 => if x_1 = 0 then eC (am_cls s a0) 5 (cV (cl_ tb_ct tb_mt B K_X6_skipSpaces [.ref a0] s) (fun s_2 => eI (gI tb_ct s_2 a0 5 3) (fun x_3 => eI (gI tb_ct s_2 a0 5 2) (fun x_4 => if x_3 < x_4 then eI (gI tb_ct s_2 a0 5 3) (fun x_5 => eC (am_cls s_2 a0) 5 (cI (cl_ tb_ct tb_mt B K_X6_byteAt [.ref a0, .int x_5] s_2) (fun x_7 s_6 => if x_7 = (59 : Int32) then eI (gI tb_ct s_6 a0 5 3) (fun x_8 => eS (am_put tb_ct mm_X6_passSemicolon B s_6 (.int (x_8 + (1 : Int32))) a0 5 3) (fun s_9 => some (.inl (some (.int (1 : Int32))), s_9))) else eI (gI tb_ct s_6 a0 5 3) (fun x_10 => eC (am_cls s_6 a0) 5 (cI (cl_ tb_ct tb_mt B K_X6_fail [.ref a0, .int (1 : Int32), .int x_10] s_6) (fun x_12 s_11 => rtI .boolean x_12 s_11) xo))) xo)) else some (.inl (some (.int (0 : Int32))), s_2)))) xo) else some (.inl (some (.int (0 : Int32))), s)) := by
  refine Eq.trans (rn_go 1 (pc' := 1) (L' := [.ref a0]) (st' := [.ref a0]) rfl) ?_
  refine Eq.trans (rn_gI (L' := [.ref a0]) rfl rfl rfl rfl) ?_
  refine eI_c (fun x_1 => ?_)
  refine Eq.trans (rn_ifeq (L' := [.ref a0]) rfl rfl) ?_
  refine if_c ?_ ?_
  · refine Eq.trans (rn_go 1 (pc' := 10) (L' := [.ref a0]) (st' := [.ref a0]) rfl) ?_
    refine Eq.trans (rn_vir (L' := [.ref a0]) (as := []) (rest := []) rfl rfl rfl rfl rfl (Nat.le_of_ble_eq_true rfl) (by decide) (by decide)) ?_
    refine eC_c ?_
    refine Eq.trans (cW_V rfl rfl) ?_
    refine cV_c (fun s_2 => ?_) (xh_nil rfl)
    refine Eq.trans (rn_go 1 (pc' := 14) (L' := [.ref a0]) (st' := [.ref a0]) rfl) ?_
    refine Eq.trans (rn_gI (L' := [.ref a0]) rfl rfl rfl rfl) ?_
    refine eI_c (fun x_3 => ?_)
    refine Eq.trans (rn_go 1 (pc' := 18) (L' := [.ref a0]) (st' := [.ref a0, .int x_3]) rfl) ?_
    refine Eq.trans (rn_gI (L' := [.ref a0]) rfl rfl rfl rfl) ?_
    refine eI_c (fun x_4 => ?_)
    refine Eq.trans (rn_iclt (L' := [.ref a0]) rfl rfl) ?_
    refine if_c ?_ ?_
    · refine Eq.trans (rn_go 2 (pc' := 28) (L' := [.ref a0]) (st' := [.ref a0, .ref a0]) rfl) ?_
      refine Eq.trans (rn_gI (L' := [.ref a0]) rfl rfl rfl rfl) ?_
      refine eI_c (fun x_5 => ?_)
      refine Eq.trans (rn_vir (L' := [.ref a0]) (as := [.int x_5]) (rest := []) rfl rfl rfl rfl rfl (Nat.le_of_ble_eq_true rfl) (by decide) (by decide)) ?_
      refine eC_c ?_
      refine Eq.trans (cW_I rfl rfl rfl) ?_
      refine cI_c (fun x_7 s_6 => ?_) (xh_nil rfl)
      refine Eq.trans (rn_go 1 (pc' := 36) (L' := [.ref a0]) (st' := [.int (59 : Int32), .int x_7]) rfl) ?_
      refine Eq.trans (rn_iceq (L' := [.ref a0]) rfl rfl) ?_
      refine if_c ?_ ?_
      · refine Eq.trans (rn_go 2 (pc' := 51) (L' := [.ref a0]) (st' := [.ref a0, .ref a0]) rfl) ?_
        refine Eq.trans (rn_gI (L' := [.ref a0]) rfl rfl rfl rfl) ?_
        refine eI_c (fun x_8 => ?_)
        refine Eq.trans (rn_go 2 (pc' := 56) (L' := [.ref a0]) (st' := [.int (x_8 + (1 : Int32)), .ref a0]) rfl) ?_
        refine Eq.trans (rn_pF (L' := [.ref a0]) rfl rfl) ?_
        refine eS_c (fun s_9 => ?_)
        refine Eq.trans (rn_go 1 (pc' := 60) (L' := [.ref a0]) (st' := [.int (1 : Int32)]) rfl) ?_
        exact rn_retI rfl rfl rfl
      · refine Eq.trans (rn_go 3 (pc' := 42) (L' := [.ref a0]) (st' := [.ref a0, .int (1 : Int32), .ref a0]) rfl) ?_
        refine Eq.trans (rn_gI (L' := [.ref a0]) rfl rfl rfl rfl) ?_
        refine eI_c (fun x_10 => ?_)
        refine Eq.trans (rn_vir (L' := [.ref a0]) (as := [.int (1 : Int32), .int x_10]) (rest := []) rfl rfl rfl rfl rfl (Nat.le_of_ble_eq_true rfl) (by decide) (by decide)) ?_
        refine eC_c ?_
        refine Eq.trans (cW_I rfl rfl rfl) ?_
        refine cI_c (fun x_12 s_11 => ?_) (xh_nil rfl)
        exact rn_rtI rfl rfl
    · refine Eq.trans (rn_go 1 (pc' := 25) (L' := [.ref a0]) (st' := [.int (0 : Int32)]) rfl) ?_
      exact rn_retI rfl rfl rfl
  · refine Eq.trans (rn_go 1 (pc' := 8) (L' := [.ref a0]) (st' := [.int (0 : Int32)]) rfl) ?_
    exact rn_retI rfl rfl rfl
theorem in_X6_numberAt {B : Nat} (a0 : Nat) (x1 : Int32) (s : am_S) : cl_ tb_ct tb_mt B K_X6_numberAt [.ref a0, .int x1] s = rn_ tb_ct tb_mt B mm_X6_numberAt 0 [.ref a0, .int x1] [] s := cl_in rfl rfl rfl rfl
theorem dc_X6_numberAt_0 {B : Nat} (a0 : Nat) (x1 : Int32) (s : am_S) : rn_ tb_ct tb_mt B mm_X6_numberAt 0 [.ref a0, .int x1] [] s = if x1 < 0 then some (.inl (some (.int (0 : Int32))), s) else eI (gI tb_ct s a0 5 4) (fun x_1 => if x_1 ≤ x1 then some (.inl (some (.int (0 : Int32))), s) else if (3 : Int32) ≤ x1 then some (.inl (some (.int (0 : Int32))), s) else eA (gA tb_ct s a0 5 1) (none) (fun b_2 => eI (aI s b_2 x1) (fun x_3 => some (.inl (some (.int x_3)), s)))) := by
  refine Eq.trans (rn_go 1 (pc' := 1) (L' := [.ref a0, .int x1]) (st' := [.int x1]) rfl) ?_
  refine Eq.trans (rn_iflt (L' := [.ref a0, .int x1]) rfl rfl) ?_
  refine if_c ?_ ?_
  · refine Eq.trans (rn_go 1 (pc' := 27) (L' := [.ref a0, .int x1]) (st' := [.int (0 : Int32)]) rfl) ?_
    exact rn_retI rfl rfl rfl
  · refine Eq.trans (rn_go 2 (pc' := 6) (L' := [.ref a0, .int x1]) (st' := [.ref a0, .int x1]) rfl) ?_
    refine Eq.trans (rn_gI (L' := [.ref a0, .int x1]) rfl rfl rfl rfl) ?_
    refine eI_c (fun x_1 => ?_)
    refine Eq.trans (rn_icge (L' := [.ref a0, .int x1]) rfl rfl) ?_
    refine if_c ?_ ?_
    · refine Eq.trans (rn_go 1 (pc' := 27) (L' := [.ref a0, .int x1]) (st' := [.int (0 : Int32)]) rfl) ?_
      exact rn_retI rfl rfl rfl
    · refine Eq.trans (rn_go 2 (pc' := 14) (L' := [.ref a0, .int x1]) (st' := [.int (3 : Int32), .int x1]) rfl) ?_
      refine Eq.trans (rn_icge (L' := [.ref a0, .int x1]) rfl rfl) ?_
      refine if_c ?_ ?_
      · refine Eq.trans (rn_go 1 (pc' := 27) (L' := [.ref a0, .int x1]) (st' := [.int (0 : Int32)]) rfl) ?_
        exact rn_retI rfl rfl rfl
      · refine Eq.trans (rn_go 1 (pc' := 18) (L' := [.ref a0, .int x1]) (st' := [.ref a0]) rfl) ?_
        refine Eq.trans (rn_gA (L' := [.ref a0, .int x1]) rfl rfl rfl rfl) ?_
        refine eA_c ?_ (fun b_2 => ?_)
        · refine Eq.trans (rn_go 1 (pc' := 22) (L' := [.ref a0, .int x1]) (st' := [.int x1, .null]) rfl) ?_
          exact rn_z rfl rfl
        · refine Eq.trans (rn_go 1 (pc' := 22) (L' := [.ref a0, .int x1]) (st' := [.int x1, .ref b_2]) rfl) ?_
          refine Eq.trans (rn_aI (L' := [.ref a0, .int x1]) rfl rfl) ?_
          refine eI_c (fun x_3 => ?_)
          refine Eq.trans (rn_go 1 (pc' := 27) (L' := [.ref a0, .int x1]) (st' := [.int x_3]) rfl) ?_
          exact rn_retI rfl rfl rfl
theorem in_X6_fail {B : Nat} (a0 : Nat) (x1 : Int32) (x2 : Int32) (s : am_S) : cl_ tb_ct tb_mt B K_X6_fail [.ref a0, .int x1, .int x2] s = rn_ tb_ct tb_mt B mm_X6_fail 0 [.ref a0, .int x1, .int x2] [] s := cl_in rfl rfl rfl rfl
theorem dc_X6_fail_0 {B : Nat} (a0 : Nat) (x1 : Int32) (x2 : Int32) (s : am_S) : rn_ tb_ct tb_mt B mm_X6_fail 0 [.ref a0, .int x1, .int x2] [] s = eS (am_put tb_ct mm_X6_fail B s (.int x1) a0 5 7) (fun s_1 => eS (am_put tb_ct mm_X6_fail B s_1 (.int x2) a0 5 8) (fun s_2 => some (.inl (some (.int (0 : Int32))), s_2))) := by
  refine Eq.trans (rn_go 2 (pc' := 2) (L' := [.ref a0, .int x1, .int x2]) (st' := [.int x1, .ref a0]) rfl) ?_
  refine Eq.trans (rn_pF (L' := [.ref a0, .int x1, .int x2]) rfl rfl) ?_
  refine eS_c (fun s_1 => ?_)
  refine Eq.trans (rn_go 2 (pc' := 7) (L' := [.ref a0, .int x1, .int x2]) (st' := [.int x2, .ref a0]) rfl) ?_
  refine Eq.trans (rn_pF (L' := [.ref a0, .int x1, .int x2]) rfl rfl) ?_
  refine eS_c (fun s_2 => ?_)
  refine Eq.trans (rn_go 1 (pc' := 11) (L' := [.ref a0, .int x1, .int x2]) (st' := [.int (0 : Int32)]) rfl) ?_
  exact rn_retI rfl rfl rfl
theorem in_X6_byteAt {B : Nat} (a0 : Nat) (x1 : Int32) (s : am_S) : cl_ tb_ct tb_mt B K_X6_byteAt [.ref a0, .int x1] s = rn_ tb_ct tb_mt B mm_X6_byteAt 0 [.ref a0, .int x1] [] s := cl_in rfl rfl rfl rfl
theorem dc_X6_byteAt_0 {B : Nat} (a0 : Nat) (x1 : Int32) (s : am_S) : rn_ tb_ct tb_mt B mm_X6_byteAt 0 [.ref a0, .int x1] [] s = if x1 < 0 then some (.inl (some (.int (-(1 : Int32)))), s) else eI (gI tb_ct s a0 5 2) (fun x_1 => if x_1 ≤ x1 then some (.inl (some (.int (-(1 : Int32)))), s) else if (500 : Int32) ≤ x1 then some (.inl (some (.int (-(1 : Int32)))), s) else eA (gA tb_ct s a0 5 0) (none) (fun b_2 => eI (aI s b_2 x1) (fun x_3 => some (.inl (some (.int x_3)), s)))) := by
  refine Eq.trans (rn_go 1 (pc' := 1) (L' := [.ref a0, .int x1]) (st' := [.int x1]) rfl) ?_
  refine Eq.trans (rn_iflt (L' := [.ref a0, .int x1]) rfl rfl) ?_
  refine if_c ?_ ?_
  · refine Eq.trans (rn_go 1 (pc' := 29) (L' := [.ref a0, .int x1]) (st' := [.int (-(1 : Int32))]) rfl) ?_
    exact rn_retI rfl rfl rfl
  · refine Eq.trans (rn_go 2 (pc' := 6) (L' := [.ref a0, .int x1]) (st' := [.ref a0, .int x1]) rfl) ?_
    refine Eq.trans (rn_gI (L' := [.ref a0, .int x1]) rfl rfl rfl rfl) ?_
    refine eI_c (fun x_1 => ?_)
    refine Eq.trans (rn_icge (L' := [.ref a0, .int x1]) rfl rfl) ?_
    refine if_c ?_ ?_
    · refine Eq.trans (rn_go 1 (pc' := 29) (L' := [.ref a0, .int x1]) (st' := [.int (-(1 : Int32))]) rfl) ?_
      exact rn_retI rfl rfl rfl
    · refine Eq.trans (rn_go 2 (pc' := 16) (L' := [.ref a0, .int x1]) (st' := [.int (500 : Int32), .int x1]) rfl) ?_
      refine Eq.trans (rn_icge (L' := [.ref a0, .int x1]) rfl rfl) ?_
      refine if_c ?_ ?_
      · refine Eq.trans (rn_go 1 (pc' := 29) (L' := [.ref a0, .int x1]) (st' := [.int (-(1 : Int32))]) rfl) ?_
        exact rn_retI rfl rfl rfl
      · refine Eq.trans (rn_go 1 (pc' := 20) (L' := [.ref a0, .int x1]) (st' := [.ref a0]) rfl) ?_
        refine Eq.trans (rn_gA (L' := [.ref a0, .int x1]) rfl rfl rfl rfl) ?_
        refine eA_c ?_ (fun b_2 => ?_)
        · refine Eq.trans (rn_go 1 (pc' := 24) (L' := [.ref a0, .int x1]) (st' := [.int x1, .null]) rfl) ?_
          exact rn_z rfl rfl
        · refine Eq.trans (rn_go 1 (pc' := 24) (L' := [.ref a0, .int x1]) (st' := [.int x1, .ref b_2]) rfl) ?_
          refine Eq.trans (rn_aI (L' := [.ref a0, .int x1]) rfl rfl) ?_
          refine eI_c (fun x_3 => ?_)
          refine Eq.trans (rn_go 1 (pc' := 29) (L' := [.ref a0, .int x1]) (st' := [.int x_3]) rfl) ?_
          exact rn_retI rfl rfl rfl
theorem in_X6_isDigitAt {B : Nat} (a0 : Nat) (x1 : Int32) (s : am_S) : cl_ tb_ct tb_mt B K_X6_isDigitAt [.ref a0, .int x1] s = rn_ tb_ct tb_mt B mm_X6_isDigitAt 0 [.ref a0, .int x1, am_un] [] s := cl_in rfl rfl rfl rfl
theorem dc_X6_isDigitAt_0 {B : Nat} (a0 : Nat) (x1 : Int32) (s : am_S) : rn_ tb_ct tb_mt B mm_X6_isDigitAt 0 [.ref a0, .int x1, am_un] [] s = eC (am_cls s a0) 5 (cI (cl_ tb_ct tb_mt B K_X6_byteAt [.ref a0, .int x1] s) (fun x_2 s_1 => if x_2 < (48 : Int32) then some (.inl (some (.int (0 : Int32))), s_1) else if (57 : Int32) < x_2 then some (.inl (some (.int (0 : Int32))), s_1) else some (.inl (some (.int (1 : Int32))), s_1)) xo) := by
  refine Eq.trans (rn_go 2 (pc' := 2) (L' := [.ref a0, .int x1, am_un]) (st' := [.int x1, .ref a0]) rfl) ?_
  refine Eq.trans (rn_vir (L' := [.ref a0, .int x1, am_un]) (as := [.int x1]) (rest := []) rfl rfl rfl rfl rfl (Nat.le_of_ble_eq_true rfl) (by decide) (by decide)) ?_
  refine eC_c ?_
  refine Eq.trans (cW_I rfl rfl rfl) ?_
  refine cI_c (fun x_2 s_1 => ?_) (xh_nil rfl)
  refine Eq.trans (rn_go 3 (pc' := 9) (L' := [.ref a0, .int x1, .int x_2]) (st' := [.int (48 : Int32), .int x_2]) rfl) ?_
  refine Eq.trans (rn_iclt (L' := [.ref a0, .int x1, .int x_2]) rfl rfl) ?_
  refine if_c ?_ ?_
  · refine Eq.trans (rn_go 1 (pc' := 23) (L' := [.ref a0, .int x1, .int x_2]) (st' := [.int (0 : Int32)]) rfl) ?_
    exact rn_retI rfl rfl rfl
  · refine Eq.trans (rn_go 2 (pc' := 15) (L' := [.ref a0, .int x1, .int x_2]) (st' := [.int (57 : Int32), .int x_2]) rfl) ?_
    refine Eq.trans (rn_icgt (L' := [.ref a0, .int x1, .int x_2]) rfl rfl) ?_
    refine if_c ?_ ?_
    · refine Eq.trans (rn_go 1 (pc' := 23) (L' := [.ref a0, .int x1, .int x_2]) (st' := [.int (0 : Int32)]) rfl) ?_
      exact rn_retI rfl rfl rfl
    · refine Eq.trans (rn_go 2 (pc' := 23) (L' := [.ref a0, .int x1, .int x_2]) (st' := [.int (1 : Int32)]) rfl) ?_
      exact rn_retI rfl rfl rfl
theorem in_X6_isLetterAt {B : Nat} (a0 : Nat) (x1 : Int32) (s : am_S) : cl_ tb_ct tb_mt B K_X6_isLetterAt [.ref a0, .int x1] s = rn_ tb_ct tb_mt B mm_X6_isLetterAt 0 [.ref a0, .int x1, am_un] [] s := cl_in rfl rfl rfl rfl
theorem dc_X6_isLetterAt_0 {B : Nat} (a0 : Nat) (x1 : Int32) (s : am_S) : rn_ tb_ct tb_mt B mm_X6_isLetterAt 0 [.ref a0, .int x1, am_un] [] s = eC (am_cls s a0) 5 (cI (cl_ tb_ct tb_mt B K_X6_byteAt [.ref a0, .int x1] s) (fun x_2 s_1 => if x_2 < (97 : Int32) then some (.inl (some (.int (0 : Int32))), s_1) else if (122 : Int32) < x_2 then some (.inl (some (.int (0 : Int32))), s_1) else some (.inl (some (.int (1 : Int32))), s_1)) xo) := by
  refine Eq.trans (rn_go 2 (pc' := 2) (L' := [.ref a0, .int x1, am_un]) (st' := [.int x1, .ref a0]) rfl) ?_
  refine Eq.trans (rn_vir (L' := [.ref a0, .int x1, am_un]) (as := [.int x1]) (rest := []) rfl rfl rfl rfl rfl (Nat.le_of_ble_eq_true rfl) (by decide) (by decide)) ?_
  refine eC_c ?_
  refine Eq.trans (cW_I rfl rfl rfl) ?_
  refine cI_c (fun x_2 s_1 => ?_) (xh_nil rfl)
  refine Eq.trans (rn_go 3 (pc' := 9) (L' := [.ref a0, .int x1, .int x_2]) (st' := [.int (97 : Int32), .int x_2]) rfl) ?_
  refine Eq.trans (rn_iclt (L' := [.ref a0, .int x1, .int x_2]) rfl rfl) ?_
  refine if_c ?_ ?_
  · refine Eq.trans (rn_go 1 (pc' := 23) (L' := [.ref a0, .int x1, .int x_2]) (st' := [.int (0 : Int32)]) rfl) ?_
    exact rn_retI rfl rfl rfl
  · refine Eq.trans (rn_go 2 (pc' := 15) (L' := [.ref a0, .int x1, .int x_2]) (st' := [.int (122 : Int32), .int x_2]) rfl) ?_
    refine Eq.trans (rn_icgt (L' := [.ref a0, .int x1, .int x_2]) rfl rfl) ?_
    refine if_c ?_ ?_
    · refine Eq.trans (rn_go 1 (pc' := 23) (L' := [.ref a0, .int x1, .int x_2]) (st' := [.int (0 : Int32)]) rfl) ?_
      exact rn_retI rfl rfl rfl
    · refine Eq.trans (rn_go 2 (pc' := 23) (L' := [.ref a0, .int x1, .int x_2]) (st' := [.int (1 : Int32)]) rfl) ?_
      exact rn_retI rfl rfl rfl
theorem in_X6_skipSpaces {B : Nat} (a0 : Nat) (s : am_S) : cl_ tb_ct tb_mt B K_X6_skipSpaces [.ref a0] s = rn_ tb_ct tb_mt B mm_X6_skipSpaces 0 [.ref a0] [] s := cl_in rfl rfl rfl rfl
theorem dc_X6_skipSpaces_0 {B : Nat} (a0 : Nat) (s : am_S) : rn_ tb_ct tb_mt B mm_X6_skipSpaces 0 [.ref a0] [] s = eI (gI tb_ct s a0 5 3) (fun x_1 => eI (gI tb_ct s a0 5 2) (fun x_2 => if x_2 ≤ x_1 then some (.inl none, s) else eI (gI tb_ct s a0 5 3) (fun x_3 => eC (am_cls s a0) 5 (cI (cl_ tb_ct tb_mt B K_X6_byteAt [.ref a0, .int x_3] s) (fun x_5 s_4 => if x_5 = (32 : Int32) then eI (gI tb_ct s_4 a0 5 3) (fun x_6 => eS (am_put tb_ct mm_X6_skipSpaces B s_4 (.int (x_6 + (1 : Int32))) a0 5 3) (fun s_7 => rn_ tb_ct tb_mt B mm_X6_skipSpaces 0 [.ref a0] [] s_7)) else some (.inl none, s_4)) xo)))) := by
  refine Eq.trans (rn_go 1 (pc' := 1) (L' := [.ref a0]) (st' := [.ref a0]) rfl) ?_
  refine Eq.trans (rn_gI (L' := [.ref a0]) rfl rfl rfl rfl) ?_
  refine eI_c (fun x_1 => ?_)
  refine Eq.trans (rn_go 1 (pc' := 5) (L' := [.ref a0]) (st' := [.ref a0, .int x_1]) rfl) ?_
  refine Eq.trans (rn_gI (L' := [.ref a0]) rfl rfl rfl rfl) ?_
  refine eI_c (fun x_2 => ?_)
  refine Eq.trans (rn_icge (L' := [.ref a0]) rfl rfl) ?_
  refine if_c ?_ ?_
  · exact rn_retV rfl rfl
  · refine Eq.trans (rn_go 2 (pc' := 13) (L' := [.ref a0]) (st' := [.ref a0, .ref a0]) rfl) ?_
    refine Eq.trans (rn_gI (L' := [.ref a0]) rfl rfl rfl rfl) ?_
    refine eI_c (fun x_3 => ?_)
    refine Eq.trans (rn_vir (L' := [.ref a0]) (as := [.int x_3]) (rest := []) rfl rfl rfl rfl rfl (Nat.le_of_ble_eq_true rfl) (by decide) (by decide)) ?_
    refine eC_c ?_
    refine Eq.trans (cW_I rfl rfl rfl) ?_
    refine cI_c (fun x_5 s_4 => ?_) (xh_nil rfl)
    refine Eq.trans (rn_go 1 (pc' := 21) (L' := [.ref a0]) (st' := [.int (32 : Int32), .int x_5]) rfl) ?_
    refine Eq.trans (rn_icne (L' := [.ref a0]) rfl rfl) ?_
    refine if_c ?_ ?_
    · refine Eq.trans (rn_go 2 (pc' := 26) (L' := [.ref a0]) (st' := [.ref a0, .ref a0]) rfl) ?_
      refine Eq.trans (rn_gI (L' := [.ref a0]) rfl rfl rfl rfl) ?_
      refine eI_c (fun x_6 => ?_)
      refine Eq.trans (rn_go 2 (pc' := 31) (L' := [.ref a0]) (st' := [.int (x_6 + (1 : Int32)), .ref a0]) rfl) ?_
      refine Eq.trans (rn_pF (L' := [.ref a0]) rfl rfl) ?_
      refine eS_c (fun s_7 => ?_)
      exact rn_go 1 (pc' := 0) (L' := [.ref a0]) (st' := []) rfl
    · exact rn_retV rfl rfl
theorem in_X6_readVerb {B : Nat} (a0 : Nat) (s : am_S) : cl_ tb_ct tb_mt B K_X6_readVerb [.ref a0] s = rn_ tb_ct tb_mt B mm_X6_readVerb 0 [.ref a0, am_un, am_un, am_un] [] s := cl_in rfl rfl rfl rfl
theorem dc_X6_readVerb_0 {B : Nat} (a0 : Nat) (s : am_S) : rn_ tb_ct tb_mt B mm_X6_readVerb 0 [.ref a0, am_un, am_un, am_un] [] s = eI (gI tb_ct s a0 5 3) (fun x_1 => rn_ tb_ct tb_mt B mm_X6_readVerb 5 [.ref a0, .int x_1, am_un, am_un] [] s) := by
  refine Eq.trans (rn_go 1 (pc' := 1) (L' := [.ref a0, am_un, am_un, am_un]) (st' := [.ref a0]) rfl) ?_
  refine Eq.trans (rn_gI (L' := [.ref a0, am_un, am_un, am_un]) rfl rfl rfl rfl) ?_
  refine eI_c (fun x_1 => ?_)
  exact rn_go 1 (pc' := 5) (L' := [.ref a0, .int x_1, am_un, am_un]) (st' := []) rfl
theorem dc_X6_readVerb_5 {B : Nat} (a0 : Nat) (x1 : Int32) (s : am_S) : rn_ tb_ct tb_mt B mm_X6_readVerb 5 [.ref a0, .int x1, am_un, am_un] [] s = eI (gI tb_ct s a0 5 2) (fun x_1 => if x_1 ≤ x1 then rn_ tb_ct tb_mt B mm_X6_readVerb 27 [.ref a0, .int x1, am_un, am_un] [] s else eC (am_cls s a0) 5 (cI (cl_ tb_ct tb_mt B K_X6_isLetterAt [.ref a0, .int x1] s) (fun x_3 s_2 => if x_3 = 0 then rn_ tb_ct tb_mt B mm_X6_readVerb 27 [.ref a0, .int x1, am_un, am_un] [] s_2 else rn_ tb_ct tb_mt B mm_X6_readVerb 5 [.ref a0, .int (x1 + (1 : Int32)), am_un, am_un] [] s_2) xo)) := by
  refine Eq.trans (rn_go 2 (pc' := 7) (L' := [.ref a0, .int x1, am_un, am_un]) (st' := [.ref a0, .int x1]) rfl) ?_
  refine Eq.trans (rn_gI (L' := [.ref a0, .int x1, am_un, am_un]) rfl rfl rfl rfl) ?_
  refine eI_c (fun x_1 => ?_)
  refine Eq.trans (rn_icge (L' := [.ref a0, .int x1, am_un, am_un]) rfl rfl) ?_
  refine if_c ?_ ?_
  · rfl
  · refine Eq.trans (rn_go 2 (pc' := 15) (L' := [.ref a0, .int x1, am_un, am_un]) (st' := [.int x1, .ref a0]) rfl) ?_
    refine Eq.trans (rn_vir (L' := [.ref a0, .int x1, am_un, am_un]) (as := [.int x1]) (rest := []) rfl rfl rfl rfl rfl (Nat.le_of_ble_eq_true rfl) (by decide) (by decide)) ?_
    refine eC_c ?_
    refine Eq.trans (cW_I rfl rfl rfl) ?_
    refine cI_c (fun x_3 s_2 => ?_) (xh_nil rfl)
    refine Eq.trans (rn_ifeq (L' := [.ref a0, .int x1, am_un, am_un]) rfl rfl) ?_
    refine if_c ?_ ?_
    · rfl
    · exact rn_go 2 (pc' := 5) (L' := [.ref a0, .int (x1 + (1 : Int32)), am_un, am_un]) (st' := []) rfl
theorem dc_X6_readVerb_27 {B : Nat} (a0 : Nat) (x1 : Int32) (s : am_S) : rn_ tb_ct tb_mt B mm_X6_readVerb 27 [.ref a0, .int x1, am_un, am_un] [] s = rn_ tb_ct tb_mt B mm_X6_readVerb 29 [.ref a0, .int x1, .int (0 : Int32), am_un] [] s := by
  exact rn_go 2 (pc' := 29) (L' := [.ref a0, .int x1, .int (0 : Int32), am_un]) (st' := []) rfl
theorem dc_X6_readVerb_29 {B : Nat} (a0 : Nat) (x1 : Int32) (x2 : Int32) (s : am_S) : rn_ tb_ct tb_mt B mm_X6_readVerb 29 [.ref a0, .int x1, .int x2, am_un] [] s = eK (stR s 1) (fun b_1 => eK (am_len s b_1) (fun n_2 => if (Int32.ofNat n_2) ≤ x2 then some (.inl (some .null), s) else eK (stR s 1) (fun b_3 => eA (aA s b_3 x2) (rn_ tb_ct tb_mt B mm_X6_readVerb 66 [.ref a0, .int x1, .int x2, va_rf none] [] s) (fun b_4 => eA (gA tb_ct s b_4 14 0) (eC (am_cls s a0) 5 (cI (cl_ tb_ct tb_mt B K_X6_isWord [.ref a0, .null, .int x1] s) (fun x_7 s_6 => if x_7 = 0 then rn_ tb_ct tb_mt B mm_X6_readVerb 66 [.ref a0, .int x1, .int x2, va_rf (some b_4)] [] s_6 else eS (am_put tb_ct mm_X6_readVerb B s_6 (.int x1) a0 5 3) (fun s_8 => some (.inl (some (.ref b_4)), s_8))) xo)) (fun b_5 => eC (am_cls s a0) 5 (cI (cl_ tb_ct tb_mt B K_X6_isWord [.ref a0, .ref b_5, .int x1] s) (fun x_10 s_9 => if x_10 = 0 then rn_ tb_ct tb_mt B mm_X6_readVerb 66 [.ref a0, .int x1, .int x2, va_rf (some b_4)] [] s_9 else eS (am_put tb_ct mm_X6_readVerb B s_9 (.int x1) a0 5 3) (fun s_11 => some (.inl (some (.ref b_4)), s_11))) xo)))))) := by
  refine Eq.trans (rn_go 1 (pc' := 30) (L' := [.ref a0, .int x1, .int x2, am_un]) (st' := [.int x2]) rfl) ?_
  refine Eq.trans (rn_gsR (L' := [.ref a0, .int x1, .int x2, am_un]) rfl rfl) ?_
  refine eK_c (fun b_1 => ?_)
  refine Eq.trans (rn_al (L' := [.ref a0, .int x1, .int x2, am_un]) rfl rfl) ?_
  refine eK_c (fun n_2 => ?_)
  refine Eq.trans (rn_icge (L' := [.ref a0, .int x1, .int x2, am_un]) rfl rfl) ?_
  refine if_c ?_ ?_
  · refine Eq.trans (rn_go 1 (pc' := 73) (L' := [.ref a0, .int x1, .int x2, am_un]) (st' := [.null]) rfl) ?_
    exact rn_retA rfl rfl rfl rfl
  · refine Eq.trans (rn_gsR (L' := [.ref a0, .int x1, .int x2, am_un]) rfl rfl) ?_
    refine eK_c (fun b_3 => ?_)
    refine Eq.trans (rn_go 1 (pc' := 41) (L' := [.ref a0, .int x1, .int x2, am_un]) (st' := [.int x2, .ref b_3]) rfl) ?_
    refine Eq.trans (rn_aA (L' := [.ref a0, .int x1, .int x2, am_un]) rfl rfl) ?_
    refine eA_c ?_ (fun b_4 => ?_)
    · exact rn_go 3 (pc' := 66) (L' := [.ref a0, .int x1, .int x2, va_rf none]) (st' := []) rfl
    · refine Eq.trans (rn_go 5 (pc' := 49) (L' := [.ref a0, .int x1, .int x2, .ref b_4]) (st' := [.ref b_4, .ref a0]) rfl) ?_
      refine Eq.trans (rn_gA (L' := [.ref a0, .int x1, .int x2, .ref b_4]) rfl rfl rfl rfl) ?_
      refine eA_c ?_ (fun b_5 => ?_)
      · refine Eq.trans (rn_go 1 (pc' := 53) (L' := [.ref a0, .int x1, .int x2, .ref b_4]) (st' := [.int x1, .null, .ref a0]) rfl) ?_
        refine Eq.trans (rn_vir (L' := [.ref a0, .int x1, .int x2, .ref b_4]) (as := [.null, .int x1]) (rest := []) rfl rfl rfl rfl rfl (Nat.le_of_ble_eq_true rfl) (by decide) (by decide)) ?_
        refine eC_c ?_
        refine Eq.trans (cW_I rfl rfl rfl) ?_
        refine cI_c (fun x_7 s_6 => ?_) (xh_nil rfl)
        refine Eq.trans (rn_ifeq (L' := [.ref a0, .int x1, .int x2, .ref b_4]) rfl rfl) ?_
        refine if_c ?_ ?_
        · rfl
        · refine Eq.trans (rn_go 2 (pc' := 61) (L' := [.ref a0, .int x1, .int x2, .ref b_4]) (st' := [.int x1, .ref a0]) rfl) ?_
          refine Eq.trans (rn_pF (L' := [.ref a0, .int x1, .int x2, .ref b_4]) rfl rfl) ?_
          refine eS_c (fun s_8 => ?_)
          refine Eq.trans (rn_go 1 (pc' := 65) (L' := [.ref a0, .int x1, .int x2, .ref b_4]) (st' := [.ref b_4]) rfl) ?_
          exact rn_retA rfl rfl rfl rfl
      · refine Eq.trans (rn_go 1 (pc' := 53) (L' := [.ref a0, .int x1, .int x2, .ref b_4]) (st' := [.int x1, .ref b_5, .ref a0]) rfl) ?_
        refine Eq.trans (rn_vir (L' := [.ref a0, .int x1, .int x2, .ref b_4]) (as := [.ref b_5, .int x1]) (rest := []) rfl rfl rfl rfl rfl (Nat.le_of_ble_eq_true rfl) (by decide) (by decide)) ?_
        refine eC_c ?_
        refine Eq.trans (cW_I rfl rfl rfl) ?_
        refine cI_c (fun x_10 s_9 => ?_) (xh_nil rfl)
        refine Eq.trans (rn_ifeq (L' := [.ref a0, .int x1, .int x2, .ref b_4]) rfl rfl) ?_
        refine if_c ?_ ?_
        · rfl
        · refine Eq.trans (rn_go 2 (pc' := 61) (L' := [.ref a0, .int x1, .int x2, .ref b_4]) (st' := [.int x1, .ref a0]) rfl) ?_
          refine Eq.trans (rn_pF (L' := [.ref a0, .int x1, .int x2, .ref b_4]) rfl rfl) ?_
          refine eS_c (fun s_11 => ?_)
          refine Eq.trans (rn_go 1 (pc' := 65) (L' := [.ref a0, .int x1, .int x2, .ref b_4]) (st' := [.ref b_4]) rfl) ?_
          exact rn_retA rfl rfl rfl rfl
theorem dc_X6_readVerb_66 {B : Nat} (a0 : Nat) (x1 : Int32) (x2 : Int32) (w3 : Value) (s : am_S) : rn_ tb_ct tb_mt B mm_X6_readVerb 66 [.ref a0, .int x1, .int x2, w3] [] s = rn_ tb_ct tb_mt B mm_X6_readVerb 29 [.ref a0, .int x1, .int (x2 + (1 : Int32)), am_un] [] s := by
  exact rn_go 2 (pc' := 29) (L' := [.ref a0, .int x1, .int (x2 + (1 : Int32)), am_un]) (st' := []) rfl
theorem in_X6_isWord {B : Nat} (a0 : Nat) (a1 : Nat) (x2 : Int32) (s : am_S) : cl_ tb_ct tb_mt B K_X6_isWord [.ref a0, .ref a1, .int x2] s = rn_ tb_ct tb_mt B mm_X6_isWord 0 [.ref a0, .ref a1, .int x2, am_un] [] s := cl_in rfl rfl rfl rfl
theorem dc_X6_isWord_0 {B : Nat} (a0 : Nat) (a1 : Nat) (x2 : Int32) (s : am_S) : rn_ tb_ct tb_mt B mm_X6_isWord 0 [.ref a0, .ref a1, .int x2, am_un] [] s = eC (am_cls s a1) 13 (cI (cl_ tb_ct tb_mt B K_J0_length_8abf5 [.ref a1] s) (fun x_2 s_1 => eI (gI tb_ct s_1 a0 5 3) (fun x_3 => if x_2 = (x2 - x_3) then rn_ tb_ct tb_mt B mm_X6_isWord 17 [.ref a0, .ref a1, .int x2, .int (0 : Int32)] [] s_1 else some (.inl (some (.int (0 : Int32))), s_1))) xo) := by
  refine Eq.trans (rn_go 1 (pc' := 1) (L' := [.ref a0, .ref a1, .int x2, am_un]) (st' := [.ref a1]) rfl) ?_
  refine Eq.trans (rn_vir (L' := [.ref a0, .ref a1, .int x2, am_un]) (as := []) (rest := []) rfl rfl rfl rfl rfl (Nat.le_of_ble_eq_true rfl) (by decide) (by decide)) ?_
  refine eC_c ?_
  refine Eq.trans (cW_I rfl rfl rfl) ?_
  refine cI_c (fun x_2 s_1 => ?_) (xh_nil rfl)
  refine Eq.trans (rn_go 2 (pc' := 6) (L' := [.ref a0, .ref a1, .int x2, am_un]) (st' := [.ref a0, .int x2, .int x_2]) rfl) ?_
  refine Eq.trans (rn_gI (L' := [.ref a0, .ref a1, .int x2, am_un]) rfl rfl rfl rfl) ?_
  refine eI_c (fun x_3 => ?_)
  refine Eq.trans (rn_go 1 (pc' := 10) (L' := [.ref a0, .ref a1, .int x2, am_un]) (st' := [.int (x2 - x_3), .int x_2]) rfl) ?_
  refine Eq.trans (rn_iceq (L' := [.ref a0, .ref a1, .int x2, am_un]) rfl rfl) ?_
  refine if_c ?_ ?_
  · exact rn_go 2 (pc' := 17) (L' := [.ref a0, .ref a1, .int x2, .int (0 : Int32)]) (st' := []) rfl
  · refine Eq.trans (rn_go 1 (pc' := 14) (L' := [.ref a0, .ref a1, .int x2, am_un]) (st' := [.int (0 : Int32)]) rfl) ?_
    exact rn_retI rfl rfl rfl
theorem dc_X6_isWord_17 {B : Nat} (a0 : Nat) (a1 : Nat) (w2 : Value) (x3 : Int32) (s : am_S) : rn_ tb_ct tb_mt B mm_X6_isWord 17 [.ref a0, .ref a1, w2, .int x3] [] s = eC (am_cls s a1) 13 (cI (cl_ tb_ct tb_mt B K_J0_length_8abf5 [.ref a1] s) (fun x_2 s_1 => if x_2 ≤ x3 then some (.inl (some (.int (1 : Int32))), s_1) else eC (am_cls s_1 a1) 13 (cI (cl_ tb_ct tb_mt B K_J0_charAt_5068e [.ref a1, .int x3] s_1) (fun x_4 s_3 => eI (gI tb_ct s_3 a0 5 3) (fun x_5 => eC (am_cls s_3 a0) 5 (cI (cl_ tb_ct tb_mt B K_X6_byteAt [.ref a0, .int (x_5 + x3)] s_3) (fun x_7 s_6 => if x_4 = x_7 then rn_ tb_ct tb_mt B mm_X6_isWord 17 [.ref a0, .ref a1, am_un, .int (x3 + (1 : Int32))] [] s_6 else some (.inl (some (.int (0 : Int32))), s_6)) xo))) xo)) xo) := by
  refine Eq.trans (rn_go 2 (pc' := 19) (L' := [.ref a0, .ref a1, am_un, .int x3]) (st' := [.ref a1, .int x3]) rfl) ?_
  refine Eq.trans (rn_vir (L' := [.ref a0, .ref a1, am_un, .int x3]) (as := []) (rest := [.int x3]) rfl rfl rfl rfl rfl (Nat.le_of_ble_eq_true rfl) (by decide) (by decide)) ?_
  refine eC_c ?_
  refine Eq.trans (cW_I rfl rfl rfl) ?_
  refine cI_c (fun x_2 s_1 => ?_) (xh_nil rfl)
  refine Eq.trans (rn_icge (L' := [.ref a0, .ref a1, am_un, .int x3]) rfl rfl) ?_
  refine if_c ?_ ?_
  · refine Eq.trans (rn_go 1 (pc' := 52) (L' := [.ref a0, .ref a1, am_un, .int x3]) (st' := [.int (1 : Int32)]) rfl) ?_
    exact rn_retI rfl rfl rfl
  · refine Eq.trans (rn_go 2 (pc' := 27) (L' := [.ref a0, .ref a1, am_un, .int x3]) (st' := [.int x3, .ref a1]) rfl) ?_
    refine Eq.trans (rn_vir (L' := [.ref a0, .ref a1, am_un, .int x3]) (as := [.int x3]) (rest := []) rfl rfl rfl rfl rfl (Nat.le_of_ble_eq_true rfl) (by decide) (by decide)) ?_
    refine eC_c ?_
    refine Eq.trans (cW_I rfl rfl rfl) ?_
    refine cI_c (fun x_4 s_3 => ?_) (xh_nil rfl)
    refine Eq.trans (rn_go 2 (pc' := 32) (L' := [.ref a0, .ref a1, am_un, .int x3]) (st' := [.ref a0, .ref a0, .int x_4]) rfl) ?_
    refine Eq.trans (rn_gI (L' := [.ref a0, .ref a1, am_un, .int x3]) rfl rfl rfl rfl) ?_
    refine eI_c (fun x_5 => ?_)
    refine Eq.trans (rn_go 2 (pc' := 37) (L' := [.ref a0, .ref a1, am_un, .int x3]) (st' := [.int (x_5 + x3), .ref a0, .int x_4]) rfl) ?_
    refine Eq.trans (rn_vir (L' := [.ref a0, .ref a1, am_un, .int x3]) (as := [.int (x_5 + x3)]) (rest := [.int x_4]) rfl rfl rfl rfl rfl (Nat.le_of_ble_eq_true rfl) (by decide) (by decide)) ?_
    refine eC_c ?_
    refine Eq.trans (cW_I rfl rfl rfl) ?_
    refine cI_c (fun x_7 s_6 => ?_) (xh_nil rfl)
    refine Eq.trans (rn_iceq (L' := [.ref a0, .ref a1, am_un, .int x3]) rfl rfl) ?_
    refine if_c ?_ ?_
    · exact rn_go 2 (pc' := 17) (L' := [.ref a0, .ref a1, am_un, .int (x3 + (1 : Int32))]) (st' := []) rfl
    · refine Eq.trans (rn_go 1 (pc' := 44) (L' := [.ref a0, .ref a1, am_un, .int x3]) (st' := [.int (0 : Int32)]) rfl) ?_
      exact rn_retI rfl rfl rfl
theorem in_X6_readNumbers {B : Nat} (a0 : Nat) (a1 : Nat) (s : am_S) : cl_ tb_ct tb_mt B K_X6_readNumbers [.ref a0, .ref a1] s = rn_ tb_ct tb_mt B mm_X6_readNumbers 0 [.ref a0, .ref a1, am_un, am_un, am_un, am_un] [] s := cl_in rfl rfl rfl rfl
theorem dc_X6_readNumbers_0 {B : Nat} (a0 : Nat) (a1 : Nat) (s : am_S) : rn_ tb_ct tb_mt B mm_X6_readNumbers 0 [.ref a0, .ref a1, am_un, am_un, am_un, am_un] [] s = eS (am_put tb_ct mm_X6_readNumbers B s (.int (0 : Int32)) a0 5 4) (fun s_1 => rn_ tb_ct tb_mt B mm_X6_readNumbers 7 [.ref a0, .ref a1, .int (0 : Int32), am_un, am_un, am_un] [] s_1) := by
  refine Eq.trans (rn_go 2 (pc' := 2) (L' := [.ref a0, .ref a1, am_un, am_un, am_un, am_un]) (st' := [.int (0 : Int32), .ref a0]) rfl) ?_
  refine Eq.trans (rn_pF (L' := [.ref a0, .ref a1, am_un, am_un, am_un, am_un]) rfl rfl) ?_
  refine eS_c (fun s_1 => ?_)
  exact rn_go 2 (pc' := 7) (L' := [.ref a0, .ref a1, .int (0 : Int32), am_un, am_un, am_un]) (st' := []) rfl
theorem dc_X6_readNumbers_7 {B : Nat} (a0 : Nat) (a1 : Nat) (x2 : Int32) (w3 : Value) (w4 : Value) (w5 : Value) (s : am_S) : rn_ tb_ct tb_mt B mm_X6_readNumbers 7 [.ref a0, .ref a1, .int x2, w3, w4, w5] [] s = if (3 : Int32) ≤ x2 then some (.inl (some (.int (1 : Int32))), s) else eC (am_cls s a1) 14 (cI (cl_ tb_ct tb_mt B K_X10_numberKind [.ref a1, .int x2] s) (fun x_2 s_1 => if x_2 = 0 then some (.inl (some (.int (1 : Int32))), s_1) else eC (am_cls s_1 a0) 5 (cV (cl_ tb_ct tb_mt B K_X6_skipSpaces [.ref a0] s_1) (fun s_3 => eC (am_cls s_3 a0) 5 (cI (cl_ tb_ct tb_mt B K_X6_startsNumber [.ref a0, .int x_2] s_3) (fun x_5 s_4 => if x_5 = 0 then eI (gI tb_ct s_4 a1 14 1) (fun x_6 => if x_6 ≤ x2 then rn_ tb_ct tb_mt B mm_X6_readNumbers 56 [.ref a0, .ref a1, .int x2, .int x_2, am_un, am_un] [] s_4 else eI (gI tb_ct s_4 a0 5 3) (fun x_7 => eC (am_cls s_4 a0) 5 (cI (cl_ tb_ct tb_mt B K_X6_fail [.ref a0, .int (1 : Int32), .int x_7] s_4) (fun x_9 s_8 => if x_9 = 0 then some (.inl (some (.int (0 : Int32))), s_8) else rn_ tb_ct tb_mt B mm_X6_readNumbers 56 [.ref a0, .ref a1, .int x2, .int x_2, am_un, am_un] [] s_8) xo))) else eI (gI tb_ct s_4 a0 5 3) (fun x_10 => eC (am_cls s_4 a0) 5 (cI (cl_ tb_ct tb_mt B K_X6_readNumber [.ref a0] s_4) (fun x_12 s_11 => eC (am_cls s_11 a0) 5 (cI (cl_ tb_ct tb_mt B K_X6_least [.ref a0, .int x_2] s_11) (fun x_14 s_13 => if x_12 < x_14 then rn_ tb_ct tb_mt B mm_X6_readNumbers 93 [.ref a0, .ref a1, .int x2, .int x_2, .int x_10, .int x_12] [] s_13 else cI (cl_ tb_ct tb_mt B K_X6_most [.int x_2] s_13) (fun x_16 s_15 => if x_12 ≤ x_16 then eA (gA tb_ct s_15 a0 5 1) (none) (fun b_17 => eS (wI B s_15 b_17 x2 x_12) (fun s_18 => eS (am_put tb_ct mm_X6_readNumbers B s_18 (.int (x2 + (1 : Int32))) a0 5 4) (fun s_19 => rn_ tb_ct tb_mt B mm_X6_readNumbers 7 [.ref a0, .ref a1, .int (x2 + (1 : Int32)), .int x_2, .int x_10, .int x_12] [] s_19))) else rn_ tb_ct tb_mt B mm_X6_readNumbers 93 [.ref a0, .ref a1, .int x2, .int x_2, .int x_10, .int x_12] [] s_15) xo) xo)) xo))) xo)) xo)) xo) := by
  refine Eq.trans (rn_go 2 (pc' := 9) (L' := [.ref a0, .ref a1, .int x2, am_un, am_un, am_un]) (st' := [.int (3 : Int32), .int x2]) rfl) ?_
  refine Eq.trans (rn_icge (L' := [.ref a0, .ref a1, .int x2, am_un, am_un, am_un]) rfl rfl) ?_
  refine if_c ?_ ?_
  · refine Eq.trans (rn_go 1 (pc' := 123) (L' := [.ref a0, .ref a1, .int x2, am_un, am_un, am_un]) (st' := [.int (1 : Int32)]) rfl) ?_
    exact rn_retI rfl rfl rfl
  · refine Eq.trans (rn_go 2 (pc' := 14) (L' := [.ref a0, .ref a1, .int x2, am_un, am_un, am_un]) (st' := [.int x2, .ref a1]) rfl) ?_
    refine Eq.trans (rn_vir (L' := [.ref a0, .ref a1, .int x2, am_un, am_un, am_un]) (as := [.int x2]) (rest := []) rfl rfl rfl rfl rfl (Nat.le_of_ble_eq_true rfl) (by decide) (by decide)) ?_
    refine eC_c ?_
    refine Eq.trans (cW_I rfl rfl rfl) ?_
    refine cI_c (fun x_2 s_1 => ?_) (xh_nil rfl)
    refine Eq.trans (rn_go 2 (pc' := 19) (L' := [.ref a0, .ref a1, .int x2, .int x_2, am_un, am_un]) (st' := [.int x_2]) rfl) ?_
    refine Eq.trans (rn_ifne (L' := [.ref a0, .ref a1, .int x2, .int x_2, am_un, am_un]) rfl rfl) ?_
    refine if_c ?_ ?_
    · refine Eq.trans (rn_go 1 (pc' := 23) (L' := [.ref a0, .ref a1, .int x2, .int x_2, am_un, am_un]) (st' := [.int (1 : Int32)]) rfl) ?_
      exact rn_retI rfl rfl rfl
    · refine Eq.trans (rn_go 1 (pc' := 25) (L' := [.ref a0, .ref a1, .int x2, .int x_2, am_un, am_un]) (st' := [.ref a0]) rfl) ?_
      refine Eq.trans (rn_vir (L' := [.ref a0, .ref a1, .int x2, .int x_2, am_un, am_un]) (as := []) (rest := []) rfl rfl rfl rfl rfl (Nat.le_of_ble_eq_true rfl) (by decide) (by decide)) ?_
      refine eC_c ?_
      refine Eq.trans (cW_V rfl rfl) ?_
      refine cV_c (fun s_3 => ?_) (xh_nil rfl)
      refine Eq.trans (rn_go 2 (pc' := 30) (L' := [.ref a0, .ref a1, .int x2, .int x_2, am_un, am_un]) (st' := [.int x_2, .ref a0]) rfl) ?_
      refine Eq.trans (rn_vir (L' := [.ref a0, .ref a1, .int x2, .int x_2, am_un, am_un]) (as := [.int x_2]) (rest := []) rfl rfl rfl rfl rfl (Nat.le_of_ble_eq_true rfl) (by decide) (by decide)) ?_
      refine eC_c ?_
      refine Eq.trans (cW_I rfl rfl rfl) ?_
      refine cI_c (fun x_5 s_4 => ?_) (xh_nil rfl)
      refine Eq.trans (rn_ifne (L' := [.ref a0, .ref a1, .int x2, .int x_2, am_un, am_un]) rfl rfl) ?_
      refine if_c ?_ ?_
      · refine Eq.trans (rn_go 2 (pc' := 38) (L' := [.ref a0, .ref a1, .int x2, .int x_2, am_un, am_un]) (st' := [.ref a1, .int x2]) rfl) ?_
        refine Eq.trans (rn_gI (L' := [.ref a0, .ref a1, .int x2, .int x_2, am_un, am_un]) rfl rfl rfl rfl) ?_
        refine eI_c (fun x_6 => ?_)
        refine Eq.trans (rn_icge (L' := [.ref a0, .ref a1, .int x2, .int x_2, am_un, am_un]) rfl rfl) ?_
        refine if_c ?_ ?_
        · rfl
        · refine Eq.trans (rn_go 3 (pc' := 47) (L' := [.ref a0, .ref a1, .int x2, .int x_2, am_un, am_un]) (st' := [.ref a0, .int (1 : Int32), .ref a0]) rfl) ?_
          refine Eq.trans (rn_gI (L' := [.ref a0, .ref a1, .int x2, .int x_2, am_un, am_un]) rfl rfl rfl rfl) ?_
          refine eI_c (fun x_7 => ?_)
          refine Eq.trans (rn_vir (L' := [.ref a0, .ref a1, .int x2, .int x_2, am_un, am_un]) (as := [.int (1 : Int32), .int x_7]) (rest := []) rfl rfl rfl rfl rfl (Nat.le_of_ble_eq_true rfl) (by decide) (by decide)) ?_
          refine eC_c ?_
          refine Eq.trans (cW_I rfl rfl rfl) ?_
          refine cI_c (fun x_9 s_8 => ?_) (xh_nil rfl)
          refine Eq.trans (rn_ifeq (L' := [.ref a0, .ref a1, .int x2, .int x_2, am_un, am_un]) rfl rfl) ?_
          refine if_c ?_ ?_
          · refine Eq.trans (rn_go 1 (pc' := 61) (L' := [.ref a0, .ref a1, .int x2, .int x_2, am_un, am_un]) (st' := [.int (0 : Int32)]) rfl) ?_
            exact rn_retI rfl rfl rfl
          · rfl
      · refine Eq.trans (rn_go 1 (pc' := 63) (L' := [.ref a0, .ref a1, .int x2, .int x_2, am_un, am_un]) (st' := [.ref a0]) rfl) ?_
        refine Eq.trans (rn_gI (L' := [.ref a0, .ref a1, .int x2, .int x_2, am_un, am_un]) rfl rfl rfl rfl) ?_
        refine eI_c (fun x_10 => ?_)
        refine Eq.trans (rn_go 2 (pc' := 69) (L' := [.ref a0, .ref a1, .int x2, .int x_2, .int x_10, am_un]) (st' := [.ref a0]) rfl) ?_
        refine Eq.trans (rn_vir (L' := [.ref a0, .ref a1, .int x2, .int x_2, .int x_10, am_un]) (as := []) (rest := []) rfl rfl rfl rfl rfl (Nat.le_of_ble_eq_true rfl) (by decide) (by decide)) ?_
        refine eC_c ?_
        refine Eq.trans (cW_I rfl rfl rfl) ?_
        refine cI_c (fun x_12 s_11 => ?_) (xh_nil rfl)
        refine Eq.trans (rn_go 4 (pc' := 78) (L' := [.ref a0, .ref a1, .int x2, .int x_2, .int x_10, .int x_12]) (st' := [.int x_2, .ref a0, .int x_12]) rfl) ?_
        refine Eq.trans (rn_vir (L' := [.ref a0, .ref a1, .int x2, .int x_2, .int x_10, .int x_12]) (as := [.int x_2]) (rest := [.int x_12]) rfl rfl rfl rfl rfl (Nat.le_of_ble_eq_true rfl) (by decide) (by decide)) ?_
        refine eC_c ?_
        refine Eq.trans (cW_I rfl rfl rfl) ?_
        refine cI_c (fun x_14 s_13 => ?_) (xh_nil rfl)
        refine Eq.trans (rn_iclt (L' := [.ref a0, .ref a1, .int x2, .int x_2, .int x_10, .int x_12]) rfl rfl) ?_
        refine if_c ?_ ?_
        · rfl
        · refine Eq.trans (rn_go 2 (pc' := 87) (L' := [.ref a0, .ref a1, .int x2, .int x_2, .int x_10, .int x_12]) (st' := [.int x_2, .int x_12]) rfl) ?_
          refine Eq.trans (rn_sta (L' := [.ref a0, .ref a1, .int x2, .int x_2, .int x_10, .int x_12]) (as := [.int x_2]) (rest := [.int x_12]) rfl rfl rfl rfl rfl (Nat.le_of_ble_eq_true rfl) (by decide) rfl) ?_
          refine Eq.trans (cW_I rfl rfl rfl) ?_
          refine cI_c (fun x_16 s_15 => ?_) (xh_nil rfl)
          refine Eq.trans (rn_icle (L' := [.ref a0, .ref a1, .int x2, .int x_2, .int x_10, .int x_12]) rfl rfl) ?_
          refine if_c ?_ ?_
          · refine Eq.trans (rn_go 1 (pc' := 102) (L' := [.ref a0, .ref a1, .int x2, .int x_2, .int x_10, .int x_12]) (st' := [.ref a0]) rfl) ?_
            refine Eq.trans (rn_gA (L' := [.ref a0, .ref a1, .int x2, .int x_2, .int x_10, .int x_12]) rfl rfl rfl rfl) ?_
            refine eA_c ?_ (fun b_17 => ?_)
            · refine Eq.trans (rn_go 2 (pc' := 108) (L' := [.ref a0, .ref a1, .int x2, .int x_2, .int x_10, .int x_12]) (st' := [.int x_12, .int x2, .null]) rfl) ?_
              exact rn_z rfl rfl
            · refine Eq.trans (rn_go 2 (pc' := 108) (L' := [.ref a0, .ref a1, .int x2, .int x_2, .int x_10, .int x_12]) (st' := [.int x_12, .int x2, .ref b_17]) rfl) ?_
              refine Eq.trans (rn_wI (L' := [.ref a0, .ref a1, .int x2, .int x_2, .int x_10, .int x_12]) rfl rfl) ?_
              refine eS_c (fun s_18 => ?_)
              refine Eq.trans (rn_go 4 (pc' := 113) (L' := [.ref a0, .ref a1, .int x2, .int x_2, .int x_10, .int x_12]) (st' := [.int (x2 + (1 : Int32)), .ref a0]) rfl) ?_
              refine Eq.trans (rn_pF (L' := [.ref a0, .ref a1, .int x2, .int x_2, .int x_10, .int x_12]) rfl rfl) ?_
              refine eS_c (fun s_19 => ?_)
              exact rn_go 2 (pc' := 7) (L' := [.ref a0, .ref a1, .int (x2 + (1 : Int32)), .int x_2, .int x_10, .int x_12]) (st' := []) rfl
          · rfl
theorem dc_X6_readNumbers_56 {B : Nat} (w0 : Value) (w1 : Value) (w2 : Value) (w3 : Value) (s : am_S) : rn_ tb_ct tb_mt B mm_X6_readNumbers 56 [w0, w1, w2, w3, am_un, am_un] [] s = some (.inl (some (.int (1 : Int32))), s) := by
  refine Eq.trans (rn_go 2 (pc' := 61) (L' := [am_un, am_un, am_un, am_un, am_un, am_un]) (st' := [.int (1 : Int32)]) rfl) ?_
  exact rn_retI rfl rfl rfl
theorem dc_X6_readNumbers_93 {B : Nat} (a0 : Nat) (w1 : Value) (w2 : Value) (w3 : Value) (x4 : Int32) (w5 : Value) (s : am_S) : rn_ tb_ct tb_mt B mm_X6_readNumbers 93 [.ref a0, w1, w2, w3, .int x4, w5] [] s = eC (am_cls s a0) 5 (cI (cl_ tb_ct tb_mt B K_X6_fail [.ref a0, .int (2 : Int32), .int x4] s) (fun x_2 s_1 => rtI .boolean x_2 s_1) xo) := by
  refine Eq.trans (rn_go 3 (pc' := 97) (L' := [.ref a0, am_un, am_un, am_un, .int x4, am_un]) (st' := [.int x4, .int (2 : Int32), .ref a0]) rfl) ?_
  refine Eq.trans (rn_vir (L' := [.ref a0, am_un, am_un, am_un, .int x4, am_un]) (as := [.int (2 : Int32), .int x4]) (rest := []) rfl rfl rfl rfl rfl (Nat.le_of_ble_eq_true rfl) (by decide) (by decide)) ?_
  refine eC_c ?_
  refine Eq.trans (cW_I rfl rfl rfl) ?_
  refine cI_c (fun x_2 s_1 => ?_) (xh_nil rfl)
  exact rn_rtI rfl rfl
theorem in_X6_startsNumber {B : Nat} (a0 : Nat) (x1 : Int32) (s : am_S) : cl_ tb_ct tb_mt B K_X6_startsNumber [.ref a0, .int x1] s = rn_ tb_ct tb_mt B mm_X6_startsNumber 0 [.ref a0, .int x1] [] s := cl_in rfl rfl rfl rfl
theorem dc_X6_startsNumber_0 {B : Nat} (a0 : Nat) (x1 : Int32) (s : am_S) : rn_ tb_ct tb_mt B mm_X6_startsNumber 0 [.ref a0, .int x1] [] s = eI (gI tb_ct s a0 5 3) (fun x_1 => eC (am_cls s a0) 5 (cI (cl_ tb_ct tb_mt B K_X6_isDigitAt [.ref a0, .int x_1] s) (fun x_3 s_2 => if x_3 = 0 then if x1 = (2 : Int32) then eI (gI tb_ct s_2 a0 5 3) (fun x_4 => eC (am_cls s_2 a0) 5 (cI (cl_ tb_ct tb_mt B K_X6_byteAt [.ref a0, .int x_4] s_2) (fun x_6 s_5 => if x_6 = (45 : Int32) then eI (gI tb_ct s_5 a0 5 3) (fun x_7 => eC (am_cls s_5 a0) 5 (cI (cl_ tb_ct tb_mt B K_X6_isDigitAt [.ref a0, .int (x_7 + (1 : Int32))] s_5) (fun x_9 s_8 => if x_9 = 0 then some (.inl (some (.int (0 : Int32))), s_8) else rn_ tb_ct tb_mt B mm_X6_startsNumber 42 [.ref a0, .int x1] [] s_8) xo)) else some (.inl (some (.int (0 : Int32))), s_5)) xo)) else some (.inl (some (.int (0 : Int32))), s_2) else rn_ tb_ct tb_mt B mm_X6_startsNumber 42 [.ref a0, .int x1] [] s_2) xo)) := by
  refine Eq.trans (rn_go 2 (pc' := 2) (L' := [.ref a0, .int x1]) (st' := [.ref a0, .ref a0]) rfl) ?_
  refine Eq.trans (rn_gI (L' := [.ref a0, .int x1]) rfl rfl rfl rfl) ?_
  refine eI_c (fun x_1 => ?_)
  refine Eq.trans (rn_vir (L' := [.ref a0, .int x1]) (as := [.int x_1]) (rest := []) rfl rfl rfl rfl rfl (Nat.le_of_ble_eq_true rfl) (by decide) (by decide)) ?_
  refine eC_c ?_
  refine Eq.trans (cW_I rfl rfl rfl) ?_
  refine cI_c (fun x_3 s_2 => ?_) (xh_nil rfl)
  refine Eq.trans (rn_ifne (L' := [.ref a0, .int x1]) rfl rfl) ?_
  refine if_c ?_ ?_
  · refine Eq.trans (rn_go 2 (pc' := 13) (L' := [.ref a0, .int x1]) (st' := [.int (2 : Int32), .int x1]) rfl) ?_
    refine Eq.trans (rn_icne (L' := [.ref a0, .int x1]) rfl rfl) ?_
    refine if_c ?_ ?_
    · refine Eq.trans (rn_go 2 (pc' := 18) (L' := [.ref a0, .int x1]) (st' := [.ref a0, .ref a0]) rfl) ?_
      refine Eq.trans (rn_gI (L' := [.ref a0, .int x1]) rfl rfl rfl rfl) ?_
      refine eI_c (fun x_4 => ?_)
      refine Eq.trans (rn_vir (L' := [.ref a0, .int x1]) (as := [.int x_4]) (rest := []) rfl rfl rfl rfl rfl (Nat.le_of_ble_eq_true rfl) (by decide) (by decide)) ?_
      refine eC_c ?_
      refine Eq.trans (cW_I rfl rfl rfl) ?_
      refine cI_c (fun x_6 s_5 => ?_) (xh_nil rfl)
      refine Eq.trans (rn_go 1 (pc' := 26) (L' := [.ref a0, .int x1]) (st' := [.int (45 : Int32), .int x_6]) rfl) ?_
      refine Eq.trans (rn_icne (L' := [.ref a0, .int x1]) rfl rfl) ?_
      refine if_c ?_ ?_
      · refine Eq.trans (rn_go 2 (pc' := 31) (L' := [.ref a0, .int x1]) (st' := [.ref a0, .ref a0]) rfl) ?_
        refine Eq.trans (rn_gI (L' := [.ref a0, .int x1]) rfl rfl rfl rfl) ?_
        refine eI_c (fun x_7 => ?_)
        refine Eq.trans (rn_go 2 (pc' := 36) (L' := [.ref a0, .int x1]) (st' := [.int (x_7 + (1 : Int32)), .ref a0]) rfl) ?_
        refine Eq.trans (rn_vir (L' := [.ref a0, .int x1]) (as := [.int (x_7 + (1 : Int32))]) (rest := []) rfl rfl rfl rfl rfl (Nat.le_of_ble_eq_true rfl) (by decide) (by decide)) ?_
        refine eC_c ?_
        refine Eq.trans (cW_I rfl rfl rfl) ?_
        refine cI_c (fun x_9 s_8 => ?_) (xh_nil rfl)
        refine Eq.trans (rn_ifeq (L' := [.ref a0, .int x1]) rfl rfl) ?_
        refine if_c ?_ ?_
        · refine Eq.trans (rn_go 1 (pc' := 47) (L' := [.ref a0, .int x1]) (st' := [.int (0 : Int32)]) rfl) ?_
          exact rn_retI rfl rfl rfl
        · rfl
      · refine Eq.trans (rn_go 1 (pc' := 47) (L' := [.ref a0, .int x1]) (st' := [.int (0 : Int32)]) rfl) ?_
        exact rn_retI rfl rfl rfl
    · refine Eq.trans (rn_go 1 (pc' := 47) (L' := [.ref a0, .int x1]) (st' := [.int (0 : Int32)]) rfl) ?_
      exact rn_retI rfl rfl rfl
  · rfl
theorem dc_X6_startsNumber_42 {B : Nat} (w0 : Value) (w1 : Value) (s : am_S) : rn_ tb_ct tb_mt B mm_X6_startsNumber 42 [w0, w1] [] s = some (.inl (some (.int (1 : Int32))), s) := by
  refine Eq.trans (rn_go 2 (pc' := 47) (L' := [am_un, am_un]) (st' := [.int (1 : Int32)]) rfl) ?_
  exact rn_retI rfl rfl rfl
theorem in_X6_readNumber {B : Nat} (a0 : Nat) (s : am_S) : cl_ tb_ct tb_mt B K_X6_readNumber [.ref a0] s = rn_ tb_ct tb_mt B mm_X6_readNumber 0 [.ref a0, am_un, am_un] [] s := cl_in rfl rfl rfl rfl
theorem dc_X6_readNumber_0 {B : Nat} (a0 : Nat) (s : am_S) : rn_ tb_ct tb_mt B mm_X6_readNumber 0 [.ref a0, am_un, am_un] [] s = eI (gI tb_ct s a0 5 3) (fun x_1 => eC (am_cls s a0) 5 (cI (cl_ tb_ct tb_mt B K_X6_byteAt [.ref a0, .int x_1] s) (fun x_3 s_2 => if x_3 = (45 : Int32) then rn_ tb_ct tb_mt B mm_X6_readNumber 18 [.ref a0, am_un, am_un] [.int (1 : Int32)] s_2 else rn_ tb_ct tb_mt B mm_X6_readNumber 18 [.ref a0, am_un, am_un] [.int (0 : Int32)] s_2) xo)) := by
  refine Eq.trans (rn_go 2 (pc' := 2) (L' := [.ref a0, am_un, am_un]) (st' := [.ref a0, .ref a0]) rfl) ?_
  refine Eq.trans (rn_gI (L' := [.ref a0, am_un, am_un]) rfl rfl rfl rfl) ?_
  refine eI_c (fun x_1 => ?_)
  refine Eq.trans (rn_vir (L' := [.ref a0, am_un, am_un]) (as := [.int x_1]) (rest := []) rfl rfl rfl rfl rfl (Nat.le_of_ble_eq_true rfl) (by decide) (by decide)) ?_
  refine eC_c ?_
  refine Eq.trans (cW_I rfl rfl rfl) ?_
  refine cI_c (fun x_3 s_2 => ?_) (xh_nil rfl)
  refine Eq.trans (rn_go 1 (pc' := 10) (L' := [.ref a0, am_un, am_un]) (st' := [.int (45 : Int32), .int x_3]) rfl) ?_
  refine Eq.trans (rn_icne (L' := [.ref a0, am_un, am_un]) rfl rfl) ?_
  refine if_c ?_ ?_
  · exact rn_go 2 (pc' := 18) (L' := [.ref a0, am_un, am_un]) (st' := [.int (1 : Int32)]) rfl
  · exact rn_go 1 (pc' := 18) (L' := [.ref a0, am_un, am_un]) (st' := [.int (0 : Int32)]) rfl
theorem dc_X6_readNumber_18 {B : Nat} (a0 : Nat) (xs0 : Int32) (s : am_S) : rn_ tb_ct tb_mt B mm_X6_readNumber 18 [.ref a0, am_un, am_un] [.int xs0] s = if xs0 = 0 then rn_ tb_ct tb_mt B mm_X6_readNumber 33 [.ref a0, .int xs0, am_un] [] s else eI (gI tb_ct s a0 5 3) (fun x_1 => eS (am_put tb_ct mm_X6_readNumber B s (.int (x_1 + (1 : Int32))) a0 5 3) (fun s_2 => rn_ tb_ct tb_mt B mm_X6_readNumber 33 [.ref a0, .int xs0, am_un] [] s_2)) := by
  refine Eq.trans (rn_go 2 (pc' := 20) (L' := [.ref a0, .int xs0, am_un]) (st' := [.int xs0]) rfl) ?_
  refine Eq.trans (rn_ifeq (L' := [.ref a0, .int xs0, am_un]) rfl rfl) ?_
  refine if_c ?_ ?_
  · rfl
  · refine Eq.trans (rn_go 2 (pc' := 25) (L' := [.ref a0, .int xs0, am_un]) (st' := [.ref a0, .ref a0]) rfl) ?_
    refine Eq.trans (rn_gI (L' := [.ref a0, .int xs0, am_un]) rfl rfl rfl rfl) ?_
    refine eI_c (fun x_1 => ?_)
    refine Eq.trans (rn_go 2 (pc' := 30) (L' := [.ref a0, .int xs0, am_un]) (st' := [.int (x_1 + (1 : Int32)), .ref a0]) rfl) ?_
    refine Eq.trans (rn_pF (L' := [.ref a0, .int xs0, am_un]) rfl rfl) ?_
    refine eS_c (fun s_2 => ?_)
    rfl
theorem dc_X6_readNumber_33 {B : Nat} (a0 : Nat) (x1 : Int32) (s : am_S) : rn_ tb_ct tb_mt B mm_X6_readNumber 33 [.ref a0, .int x1, am_un] [] s = rn_ tb_ct tb_mt B mm_X6_readNumber 35 [.ref a0, .int x1, .int (0 : Int32)] [] s := by
  exact rn_go 2 (pc' := 35) (L' := [.ref a0, .int x1, .int (0 : Int32)]) (st' := []) rfl
theorem dc_X6_readNumber_35 {B : Nat} (a0 : Nat) (x1 : Int32) (x2 : Int32) (s : am_S) : rn_ tb_ct tb_mt B mm_X6_readNumber 35 [.ref a0, .int x1, .int x2] [] s = eI (gI tb_ct s a0 5 3) (fun x_1 => eI (gI tb_ct s a0 5 2) (fun x_2 => if x_2 ≤ x_1 then rn_ tb_ct tb_mt B mm_X6_readNumber 93 [.ref a0, .int x1, .int x2] [] s else eI (gI tb_ct s a0 5 3) (fun x_3 => eC (am_cls s a0) 5 (cI (cl_ tb_ct tb_mt B K_X6_isDigitAt [.ref a0, .int x_3] s) (fun x_5 s_4 => if x_5 = 0 then rn_ tb_ct tb_mt B mm_X6_readNumber 93 [.ref a0, .int x1, .int x2] [] s_4 else if (100000000 : Int32) ≤ x2 then rn_ tb_ct tb_mt B mm_X6_readNumber 80 [.ref a0, .int x1, .int x2] [] s_4 else eI (gI tb_ct s_4 a0 5 3) (fun x_6 => eC (am_cls s_4 a0) 5 (cI (cl_ tb_ct tb_mt B K_X6_byteAt [.ref a0, .int x_6] s_4) (fun x_8 s_7 => rn_ tb_ct tb_mt B mm_X6_readNumber 80 [.ref a0, .int x1, .int (((x2 * (10 : Int32)) + x_8) - (48 : Int32))] [] s_7) xo))) xo)))) := by
  refine Eq.trans (rn_go 1 (pc' := 36) (L' := [.ref a0, .int x1, .int x2]) (st' := [.ref a0]) rfl) ?_
  refine Eq.trans (rn_gI (L' := [.ref a0, .int x1, .int x2]) rfl rfl rfl rfl) ?_
  refine eI_c (fun x_1 => ?_)
  refine Eq.trans (rn_go 1 (pc' := 40) (L' := [.ref a0, .int x1, .int x2]) (st' := [.ref a0, .int x_1]) rfl) ?_
  refine Eq.trans (rn_gI (L' := [.ref a0, .int x1, .int x2]) rfl rfl rfl rfl) ?_
  refine eI_c (fun x_2 => ?_)
  refine Eq.trans (rn_icge (L' := [.ref a0, .int x1, .int x2]) rfl rfl) ?_
  refine if_c ?_ ?_
  · rfl
  · refine Eq.trans (rn_go 2 (pc' := 48) (L' := [.ref a0, .int x1, .int x2]) (st' := [.ref a0, .ref a0]) rfl) ?_
    refine Eq.trans (rn_gI (L' := [.ref a0, .int x1, .int x2]) rfl rfl rfl rfl) ?_
    refine eI_c (fun x_3 => ?_)
    refine Eq.trans (rn_vir (L' := [.ref a0, .int x1, .int x2]) (as := [.int x_3]) (rest := []) rfl rfl rfl rfl rfl (Nat.le_of_ble_eq_true rfl) (by decide) (by decide)) ?_
    refine eC_c ?_
    refine Eq.trans (cW_I rfl rfl rfl) ?_
    refine cI_c (fun x_5 s_4 => ?_) (xh_nil rfl)
    refine Eq.trans (rn_ifeq (L' := [.ref a0, .int x1, .int x2]) rfl rfl) ?_
    refine if_c ?_ ?_
    · rfl
    · refine Eq.trans (rn_go 2 (pc' := 60) (L' := [.ref a0, .int x1, .int x2]) (st' := [.int (100000000 : Int32), .int x2]) rfl) ?_
      refine Eq.trans (rn_icge (L' := [.ref a0, .int x1, .int x2]) rfl rfl) ?_
      refine if_c ?_ ?_
      · rfl
      · refine Eq.trans (rn_go 5 (pc' := 69) (L' := [.ref a0, .int x1, .int x2]) (st' := [.ref a0, .ref a0, .int (x2 * (10 : Int32))]) rfl) ?_
        refine Eq.trans (rn_gI (L' := [.ref a0, .int x1, .int x2]) rfl rfl rfl rfl) ?_
        refine eI_c (fun x_6 => ?_)
        refine Eq.trans (rn_vir (L' := [.ref a0, .int x1, .int x2]) (as := [.int x_6]) (rest := [.int (x2 * (10 : Int32))]) rfl rfl rfl rfl rfl (Nat.le_of_ble_eq_true rfl) (by decide) (by decide)) ?_
        refine eC_c ?_
        refine Eq.trans (cW_I rfl rfl rfl) ?_
        refine cI_c (fun x_8 s_7 => ?_) (xh_nil rfl)
        exact rn_go 4 (pc' := 80) (L' := [.ref a0, .int x1, .int (((x2 * (10 : Int32)) + x_8) - (48 : Int32))]) (st' := []) rfl
theorem dc_X6_readNumber_80 {B : Nat} (a0 : Nat) (x1 : Int32) (x2 : Int32) (s : am_S) : rn_ tb_ct tb_mt B mm_X6_readNumber 80 [.ref a0, .int x1, .int x2] [] s = eI (gI tb_ct s a0 5 3) (fun x_1 => eS (am_put tb_ct mm_X6_readNumber B s (.int (x_1 + (1 : Int32))) a0 5 3) (fun s_2 => rn_ tb_ct tb_mt B mm_X6_readNumber 35 [.ref a0, .int x1, .int x2] [] s_2)) := by
  refine Eq.trans (rn_go 2 (pc' := 82) (L' := [.ref a0, .int x1, .int x2]) (st' := [.ref a0, .ref a0]) rfl) ?_
  refine Eq.trans (rn_gI (L' := [.ref a0, .int x1, .int x2]) rfl rfl rfl rfl) ?_
  refine eI_c (fun x_1 => ?_)
  refine Eq.trans (rn_go 2 (pc' := 87) (L' := [.ref a0, .int x1, .int x2]) (st' := [.int (x_1 + (1 : Int32)), .ref a0]) rfl) ?_
  refine Eq.trans (rn_pF (L' := [.ref a0, .int x1, .int x2]) rfl rfl) ?_
  refine eS_c (fun s_2 => ?_)
  exact rn_go 1 (pc' := 35) (L' := [.ref a0, .int x1, .int x2]) (st' := []) rfl
theorem dc_X6_readNumber_93 {B : Nat} (w0 : Value) (x1 : Int32) (x2 : Int32) (s : am_S) : rn_ tb_ct tb_mt B mm_X6_readNumber 93 [w0, .int x1, .int x2] [] s = if x1 = 0 then some (.inl (some (.int x2)), s) else some (.inl (some (.int (-x2))), s) := by
  refine Eq.trans (rn_go 1 (pc' := 94) (L' := [am_un, .int x1, .int x2]) (st' := [.int x1]) rfl) ?_
  refine Eq.trans (rn_ifeq (L' := [am_un, .int x1, .int x2]) rfl rfl) ?_
  refine if_c ?_ ?_
  · refine Eq.trans (rn_go 1 (pc' := 103) (L' := [am_un, .int x1, .int x2]) (st' := [.int x2]) rfl) ?_
    exact rn_retI rfl rfl rfl
  · refine Eq.trans (rn_go 3 (pc' := 103) (L' := [am_un, .int x1, .int x2]) (st' := [.int (-x2)]) rfl) ?_
    exact rn_retI rfl rfl rfl
theorem in_X6_least {B : Nat} (a0 : Nat) (x1 : Int32) (s : am_S) : cl_ tb_ct tb_mt B K_X6_least [.ref a0, .int x1] s = rn_ tb_ct tb_mt B mm_X6_least 0 [.ref a0, .int x1] [] s := cl_in rfl rfl rfl rfl
theorem dc_X6_least_0 {B : Nat} (a0 : Nat) (x1 : Int32) (s : am_S) : rn_ tb_ct tb_mt B mm_X6_least 0 [.ref a0, .int x1] [] s = sw x1.toInt (2) [some (.inl (some (.int (-(1000000 : Int32)))), s), some (.inl (some (.int (1 : Int32))), s), some (.inl (some (.int (1 : Int32))), s), some (.inl (some (.int (0 : Int32))), s), eC (am_cls s a0) 5 (cI (cl_ tb_ct tb_mt B K_X6_numberAt [.ref a0, .int (0 : Int32)] s) (fun x_2 s_1 => some (.inl (some (.int x_2)), s_1)) xo)] (some (.inl (some (.int (0 : Int32))), s)) := by
  refine Eq.trans (rn_go 1 (pc' := 1) (L' := [.ref a0, .int x1]) (st' := [.int x1]) rfl) ?_
  refine Eq.trans (rn_tsw (L' := [.ref a0, .int x1]) (ts := [36, 39, 41, 49, 43]) (td := 49) rfl rfl (by decide) rfl rfl) ?_
  refine sw_c ?_ ?_
  · refine cons_c ?_ ?_
    · refine Eq.trans (rn_go 1 (pc' := 38) (L' := [.ref a0, .int x1]) (st' := [.int (-(1000000 : Int32))]) rfl) ?_
      exact rn_retI rfl rfl rfl
    refine cons_c ?_ ?_
    · refine Eq.trans (rn_go 1 (pc' := 40) (L' := [.ref a0, .int x1]) (st' := [.int (1 : Int32)]) rfl) ?_
      exact rn_retI rfl rfl rfl
    refine cons_c ?_ ?_
    · refine Eq.trans (rn_go 1 (pc' := 42) (L' := [.ref a0, .int x1]) (st' := [.int (1 : Int32)]) rfl) ?_
      exact rn_retI rfl rfl rfl
    refine cons_c ?_ ?_
    · refine Eq.trans (rn_go 1 (pc' := 50) (L' := [.ref a0, .int x1]) (st' := [.int (0 : Int32)]) rfl) ?_
      exact rn_retI rfl rfl rfl
    refine cons_c ?_ ?_
    · refine Eq.trans (rn_go 2 (pc' := 45) (L' := [.ref a0, .int x1]) (st' := [.int (0 : Int32), .ref a0]) rfl) ?_
      refine Eq.trans (rn_vir (L' := [.ref a0, .int x1]) (as := [.int (0 : Int32)]) (rest := []) rfl rfl rfl rfl rfl (Nat.le_of_ble_eq_true rfl) (by decide) (by decide)) ?_
      refine eC_c ?_
      refine Eq.trans (cW_I rfl rfl rfl) ?_
      refine cI_c (fun x_2 s_1 => ?_) (xh_nil rfl)
      exact rn_retI rfl rfl rfl
    rfl
  · refine Eq.trans (rn_go 1 (pc' := 50) (L' := [.ref a0, .int x1]) (st' := [.int (0 : Int32)]) rfl) ?_
    exact rn_retI rfl rfl rfl
theorem in_X6_most {B : Nat} (x0 : Int32) (s : am_S) : cl_ tb_ct tb_mt B K_X6_most [.int x0] s = rn_ tb_ct tb_mt B mm_X6_most 0 [.int x0] [] s := cl_in rfl rfl rfl rfl
theorem dc_X6_most_0 {B : Nat} (x0 : Int32) (s : am_S) : rn_ tb_ct tb_mt B mm_X6_most 0 [.int x0] [] s = sw x0.toInt (2) [some (.inl (some (.int (1000000 : Int32))), s), some (.inl (some (.int (1000 : Int32))), s), some (.inl (some (.int (9999 : Int32))), s), some (.inl (some (.int (9999 : Int32))), s)] (some (.inl (some (.int (999 : Int32))), s)) := by
  refine Eq.trans (rn_go 1 (pc' := 1) (L' := [.int x0]) (st' := [.int x0]) rfl) ?_
  refine Eq.trans (rn_tsw (L' := [.int x0]) (ts := [32, 35, 39, 43]) (td := 47) rfl rfl (by decide) rfl rfl) ?_
  refine sw_c ?_ ?_
  · refine cons_c ?_ ?_
    · refine Eq.trans (rn_go 1 (pc' := 34) (L' := [.int x0]) (st' := [.int (1000000 : Int32)]) rfl) ?_
      exact rn_retI rfl rfl rfl
    refine cons_c ?_ ?_
    · refine Eq.trans (rn_go 1 (pc' := 38) (L' := [.int x0]) (st' := [.int (1000 : Int32)]) rfl) ?_
      exact rn_retI rfl rfl rfl
    refine cons_c ?_ ?_
    · refine Eq.trans (rn_go 1 (pc' := 42) (L' := [.int x0]) (st' := [.int (9999 : Int32)]) rfl) ?_
      exact rn_retI rfl rfl rfl
    refine cons_c ?_ ?_
    · refine Eq.trans (rn_go 1 (pc' := 46) (L' := [.int x0]) (st' := [.int (9999 : Int32)]) rfl) ?_
      exact rn_retI rfl rfl rfl
    rfl
  · refine Eq.trans (rn_go 1 (pc' := 50) (L' := [.int x0]) (st' := [.int (999 : Int32)]) rfl) ?_
    exact rn_retI rfl rfl rfl
theorem in_X7_init {B : Nat} (a0 : Nat) (s : am_S) : cl_ tb_ct tb_mt B K_X7_init [.ref a0] s = rn_ tb_ct tb_mt B mm_X7_init 0 [.ref a0] [] s := cl_in rfl rfl rfl rfl
theorem dc_X7_init_0 {B : Nat} (a0 : Nat) (s : am_S) : rn_ tb_ct tb_mt B mm_X7_init 0 [.ref a0] [] s = nwI .int s (6 : Int32) (fun b_1 s_2 => eS (am_put tb_ct mm_X7_init B s_2 (.ref b_1) a0 6 0) (fun s_3 => nwI .int s_3 (6 : Int32) (fun b_4 s_5 => eS (am_put tb_ct mm_X7_init B s_5 (.ref b_4) a0 6 1) (fun s_6 => nwI .int s_6 (6 : Int32) (fun b_7 s_8 => eS (am_put tb_ct mm_X7_init B s_8 (.ref b_7) a0 6 2) (fun s_9 => some (.inl none, s_9))))))) := by
  refine Eq.trans (rn_go 1 (pc' := 1) (L' := [.ref a0]) (st' := [.ref a0]) rfl) ?_
  refine Eq.trans (rn_obj (L' := [.ref a0]) rfl rfl (Nat.le_of_ble_eq_true rfl)) ?_
  refine Eq.trans (rn_go 2 (pc' := 7) (L' := [.ref a0]) (st' := [.int (6 : Int32), .ref a0]) rfl) ?_
  refine Eq.trans (rn_nwI (L' := [.ref a0]) rfl rfl) ?_
  refine nwI_c (fun b_1 s_2 => ?_)
  refine Eq.trans (rn_pF (L' := [.ref a0]) rfl rfl) ?_
  refine eS_c (fun s_3 => ?_)
  refine Eq.trans (rn_go 2 (pc' := 15) (L' := [.ref a0]) (st' := [.int (6 : Int32), .ref a0]) rfl) ?_
  refine Eq.trans (rn_nwI (L' := [.ref a0]) rfl rfl) ?_
  refine nwI_c (fun b_4 s_5 => ?_)
  refine Eq.trans (rn_pF (L' := [.ref a0]) rfl rfl) ?_
  refine eS_c (fun s_6 => ?_)
  refine Eq.trans (rn_go 2 (pc' := 23) (L' := [.ref a0]) (st' := [.int (6 : Int32), .ref a0]) rfl) ?_
  refine Eq.trans (rn_nwI (L' := [.ref a0]) rfl rfl) ?_
  refine nwI_c (fun b_7 s_8 => ?_)
  refine Eq.trans (rn_pF (L' := [.ref a0]) rfl rfl) ?_
  refine eS_c (fun s_9 => ?_)
  exact rn_retV rfl rfl
theorem in_X7_add {B : Nat} (a0 : Nat) (x1 : Int32) (x2 : Int32) (x3 : Int32) (s : am_S) : cl_ tb_ct tb_mt B K_X7_add [.ref a0, .int x1, .int x2, .int x3] s = rn_ tb_ct tb_mt B mm_X7_add 0 [.ref a0, .int x1, .int x2, .int x3, am_un] [] s := cl_in rfl rfl rfl rfl
theorem dc_X7_add_0 {B : Nat} (a0 : Nat) (x1 : Int32) (x2 : Int32) (x3 : Int32) (s : am_S) : rn_ tb_ct tb_mt B mm_X7_add 0 [.ref a0, .int x1, .int x2, .int x3, am_un] [] s = eI (gI tb_ct s a0 6 3) (fun x_1 => if x_1 < 0 then some (.inl (some (.int (-(2 : Int32)))), s) else eI (gI tb_ct s a0 6 3) (fun x_2 => if x_2 < (6 : Int32) then rn_ tb_ct tb_mt B mm_X7_add 22 [.ref a0, .int x1, .int x2, .int x3, .int (0 : Int32)] [] s else some (.inl (some (.int (-(2 : Int32)))), s))) := by
  refine Eq.trans (rn_go 1 (pc' := 1) (L' := [.ref a0, .int x1, .int x2, .int x3, am_un]) (st' := [.ref a0]) rfl) ?_
  refine Eq.trans (rn_gI (L' := [.ref a0, .int x1, .int x2, .int x3, am_un]) rfl rfl rfl rfl) ?_
  refine eI_c (fun x_1 => ?_)
  refine Eq.trans (rn_iflt (L' := [.ref a0, .int x1, .int x2, .int x3, am_un]) rfl rfl) ?_
  refine if_c ?_ ?_
  · refine Eq.trans (rn_go 1 (pc' := 18) (L' := [.ref a0, .int x1, .int x2, .int x3, am_un]) (st' := [.int (-(2 : Int32))]) rfl) ?_
    exact rn_retI rfl rfl rfl
  · refine Eq.trans (rn_go 1 (pc' := 8) (L' := [.ref a0, .int x1, .int x2, .int x3, am_un]) (st' := [.ref a0]) rfl) ?_
    refine Eq.trans (rn_gI (L' := [.ref a0, .int x1, .int x2, .int x3, am_un]) rfl rfl rfl rfl) ?_
    refine eI_c (fun x_2 => ?_)
    refine Eq.trans (rn_go 1 (pc' := 13) (L' := [.ref a0, .int x1, .int x2, .int x3, am_un]) (st' := [.int (6 : Int32), .int x_2]) rfl) ?_
    refine Eq.trans (rn_iclt (L' := [.ref a0, .int x1, .int x2, .int x3, am_un]) rfl rfl) ?_
    refine if_c ?_ ?_
    · exact rn_go 2 (pc' := 22) (L' := [.ref a0, .int x1, .int x2, .int x3, .int (0 : Int32)]) (st' := []) rfl
    · refine Eq.trans (rn_go 1 (pc' := 18) (L' := [.ref a0, .int x1, .int x2, .int x3, am_un]) (st' := [.int (-(2 : Int32))]) rfl) ?_
      exact rn_retI rfl rfl rfl
theorem dc_X7_add_22 {B : Nat} (a0 : Nat) (x1 : Int32) (x2 : Int32) (x3 : Int32) (x4 : Int32) (s : am_S) : rn_ tb_ct tb_mt B mm_X7_add 22 [.ref a0, .int x1, .int x2, .int x3, .int x4] [] s = eI (gI tb_ct s a0 6 3) (fun x_1 => if x_1 ≤ x4 then eA (gA tb_ct s a0 6 0) (eI (gI tb_ct s a0 6 3) (fun x_3 => none)) (fun b_2 => eI (gI tb_ct s a0 6 3) (fun x_4 => eS (wI B s b_2 x_4 x1) (fun s_5 => eA (gA tb_ct s_5 a0 6 1) (eI (gI tb_ct s_5 a0 6 3) (fun x_7 => none)) (fun b_6 => eI (gI tb_ct s_5 a0 6 3) (fun x_8 => eS (wI B s_5 b_6 x_8 x2) (fun s_9 => eA (gA tb_ct s_9 a0 6 2) (eI (gI tb_ct s_9 a0 6 3) (fun x_11 => none)) (fun b_10 => eI (gI tb_ct s_9 a0 6 3) (fun x_12 => eS (wI B s_9 b_10 x_12 x3) (fun s_13 => eI (gI tb_ct s_13 a0 6 3) (fun x_14 => eS (am_put tb_ct mm_X7_add B s_13 (.int (x_14 + (1 : Int32))) a0 6 3) (fun s_15 => eI (gI tb_ct s_15 a0 6 3) (fun x_16 => some (.inl (some (.int x_16)), s_15))))))))))))) else eA (gA tb_ct s a0 6 1) (none) (fun b_17 => eI (aI s b_17 x4) (fun x_18 => if x_18 = x2 then some (.inl (some (.int (-(4 : Int32)))), s) else rn_ tb_ct tb_mt B mm_X7_add 22 [.ref a0, .int x1, .int x2, .int x3, .int (x4 + (1 : Int32))] [] s))) := by
  refine Eq.trans (rn_go 2 (pc' := 25) (L' := [.ref a0, .int x1, .int x2, .int x3, .int x4]) (st' := [.ref a0, .int x4]) rfl) ?_
  refine Eq.trans (rn_gI (L' := [.ref a0, .int x1, .int x2, .int x3, .int x4]) rfl rfl rfl rfl) ?_
  refine eI_c (fun x_1 => ?_)
  refine Eq.trans (rn_icge (L' := [.ref a0, .int x1, .int x2, .int x3, .int x4]) rfl rfl) ?_
  refine if_c ?_ ?_
  · refine Eq.trans (rn_go 1 (pc' := 52) (L' := [.ref a0, .int x1, .int x2, .int x3, .int x4]) (st' := [.ref a0]) rfl) ?_
    refine Eq.trans (rn_gA (L' := [.ref a0, .int x1, .int x2, .int x3, .int x4]) rfl rfl rfl rfl) ?_
    refine eA_c ?_ (fun b_2 => ?_)
    · refine Eq.trans (rn_go 1 (pc' := 56) (L' := [.ref a0, .int x1, .int x2, .int x3, .int x4]) (st' := [.ref a0, .null]) rfl) ?_
      refine Eq.trans (rn_gI (L' := [.ref a0, .int x1, .int x2, .int x3, .int x4]) rfl rfl rfl rfl) ?_
      refine eI_c (fun x_3 => ?_)
      refine Eq.trans (rn_go 1 (pc' := 60) (L' := [.ref a0, .int x1, .int x2, .int x3, .int x4]) (st' := [.int x1, .int x_3, .null]) rfl) ?_
      exact rn_z rfl rfl
    · refine Eq.trans (rn_go 1 (pc' := 56) (L' := [.ref a0, .int x1, .int x2, .int x3, .int x4]) (st' := [.ref a0, .ref b_2]) rfl) ?_
      refine Eq.trans (rn_gI (L' := [.ref a0, .int x1, .int x2, .int x3, .int x4]) rfl rfl rfl rfl) ?_
      refine eI_c (fun x_4 => ?_)
      refine Eq.trans (rn_go 1 (pc' := 60) (L' := [.ref a0, .int x1, .int x2, .int x3, .int x4]) (st' := [.int x1, .int x_4, .ref b_2]) rfl) ?_
      refine Eq.trans (rn_wI (L' := [.ref a0, .int x1, .int x2, .int x3, .int x4]) rfl rfl) ?_
      refine eS_c (fun s_5 => ?_)
      refine Eq.trans (rn_go 1 (pc' := 62) (L' := [.ref a0, .int x1, .int x2, .int x3, .int x4]) (st' := [.ref a0]) rfl) ?_
      refine Eq.trans (rn_gA (L' := [.ref a0, .int x1, .int x2, .int x3, .int x4]) rfl rfl rfl rfl) ?_
      refine eA_c ?_ (fun b_6 => ?_)
      · refine Eq.trans (rn_go 1 (pc' := 66) (L' := [.ref a0, .int x1, .int x2, .int x3, .int x4]) (st' := [.ref a0, .null]) rfl) ?_
        refine Eq.trans (rn_gI (L' := [.ref a0, .int x1, .int x2, .int x3, .int x4]) rfl rfl rfl rfl) ?_
        refine eI_c (fun x_7 => ?_)
        refine Eq.trans (rn_go 1 (pc' := 70) (L' := [.ref a0, .int x1, .int x2, .int x3, .int x4]) (st' := [.int x2, .int x_7, .null]) rfl) ?_
        exact rn_z rfl rfl
      · refine Eq.trans (rn_go 1 (pc' := 66) (L' := [.ref a0, .int x1, .int x2, .int x3, .int x4]) (st' := [.ref a0, .ref b_6]) rfl) ?_
        refine Eq.trans (rn_gI (L' := [.ref a0, .int x1, .int x2, .int x3, .int x4]) rfl rfl rfl rfl) ?_
        refine eI_c (fun x_8 => ?_)
        refine Eq.trans (rn_go 1 (pc' := 70) (L' := [.ref a0, .int x1, .int x2, .int x3, .int x4]) (st' := [.int x2, .int x_8, .ref b_6]) rfl) ?_
        refine Eq.trans (rn_wI (L' := [.ref a0, .int x1, .int x2, .int x3, .int x4]) rfl rfl) ?_
        refine eS_c (fun s_9 => ?_)
        refine Eq.trans (rn_go 1 (pc' := 72) (L' := [.ref a0, .int x1, .int x2, .int x3, .int x4]) (st' := [.ref a0]) rfl) ?_
        refine Eq.trans (rn_gA (L' := [.ref a0, .int x1, .int x2, .int x3, .int x4]) rfl rfl rfl rfl) ?_
        refine eA_c ?_ (fun b_10 => ?_)
        · refine Eq.trans (rn_go 1 (pc' := 76) (L' := [.ref a0, .int x1, .int x2, .int x3, .int x4]) (st' := [.ref a0, .null]) rfl) ?_
          refine Eq.trans (rn_gI (L' := [.ref a0, .int x1, .int x2, .int x3, .int x4]) rfl rfl rfl rfl) ?_
          refine eI_c (fun x_11 => ?_)
          refine Eq.trans (rn_go 1 (pc' := 80) (L' := [.ref a0, .int x1, .int x2, .int x3, .int x4]) (st' := [.int x3, .int x_11, .null]) rfl) ?_
          exact rn_z rfl rfl
        · refine Eq.trans (rn_go 1 (pc' := 76) (L' := [.ref a0, .int x1, .int x2, .int x3, .int x4]) (st' := [.ref a0, .ref b_10]) rfl) ?_
          refine Eq.trans (rn_gI (L' := [.ref a0, .int x1, .int x2, .int x3, .int x4]) rfl rfl rfl rfl) ?_
          refine eI_c (fun x_12 => ?_)
          refine Eq.trans (rn_go 1 (pc' := 80) (L' := [.ref a0, .int x1, .int x2, .int x3, .int x4]) (st' := [.int x3, .int x_12, .ref b_10]) rfl) ?_
          refine Eq.trans (rn_wI (L' := [.ref a0, .int x1, .int x2, .int x3, .int x4]) rfl rfl) ?_
          refine eS_c (fun s_13 => ?_)
          refine Eq.trans (rn_go 2 (pc' := 83) (L' := [.ref a0, .int x1, .int x2, .int x3, .int x4]) (st' := [.ref a0, .ref a0]) rfl) ?_
          refine Eq.trans (rn_gI (L' := [.ref a0, .int x1, .int x2, .int x3, .int x4]) rfl rfl rfl rfl) ?_
          refine eI_c (fun x_14 => ?_)
          refine Eq.trans (rn_go 2 (pc' := 88) (L' := [.ref a0, .int x1, .int x2, .int x3, .int x4]) (st' := [.int (x_14 + (1 : Int32)), .ref a0]) rfl) ?_
          refine Eq.trans (rn_pF (L' := [.ref a0, .int x1, .int x2, .int x3, .int x4]) rfl rfl) ?_
          refine eS_c (fun s_15 => ?_)
          refine Eq.trans (rn_go 1 (pc' := 92) (L' := [.ref a0, .int x1, .int x2, .int x3, .int x4]) (st' := [.ref a0]) rfl) ?_
          refine Eq.trans (rn_gI (L' := [.ref a0, .int x1, .int x2, .int x3, .int x4]) rfl rfl rfl rfl) ?_
          refine eI_c (fun x_16 => ?_)
          exact rn_retI rfl rfl rfl
  · refine Eq.trans (rn_go 1 (pc' := 32) (L' := [.ref a0, .int x1, .int x2, .int x3, .int x4]) (st' := [.ref a0]) rfl) ?_
    refine Eq.trans (rn_gA (L' := [.ref a0, .int x1, .int x2, .int x3, .int x4]) rfl rfl rfl rfl) ?_
    refine eA_c ?_ (fun b_17 => ?_)
    · refine Eq.trans (rn_go 1 (pc' := 37) (L' := [.ref a0, .int x1, .int x2, .int x3, .int x4]) (st' := [.int x4, .null]) rfl) ?_
      exact rn_z rfl rfl
    · refine Eq.trans (rn_go 1 (pc' := 37) (L' := [.ref a0, .int x1, .int x2, .int x3, .int x4]) (st' := [.int x4, .ref b_17]) rfl) ?_
      refine Eq.trans (rn_aI (L' := [.ref a0, .int x1, .int x2, .int x3, .int x4]) rfl rfl) ?_
      refine eI_c (fun x_18 => ?_)
      refine Eq.trans (rn_go 1 (pc' := 39) (L' := [.ref a0, .int x1, .int x2, .int x3, .int x4]) (st' := [.int x2, .int x_18]) rfl) ?_
      refine Eq.trans (rn_icne (L' := [.ref a0, .int x1, .int x2, .int x3, .int x4]) rfl rfl) ?_
      refine if_c ?_ ?_
      · refine Eq.trans (rn_go 1 (pc' := 44) (L' := [.ref a0, .int x1, .int x2, .int x3, .int x4]) (st' := [.int (-(4 : Int32))]) rfl) ?_
        exact rn_retI rfl rfl rfl
      · exact rn_go 2 (pc' := 22) (L' := [.ref a0, .int x1, .int x2, .int x3, .int (x4 + (1 : Int32))]) (st' := []) rfl
theorem in_X7_eventsOn {B : Nat} (a0 : Nat) (a1 : Nat) (s : am_S) : cl_ tb_ct tb_mt B K_X7_eventsOn [.ref a0, .ref a1] s = rn_ tb_ct tb_mt B mm_X7_eventsOn 0 [.ref a0, .ref a1, am_un, am_un] [] s := cl_in rfl rfl rfl rfl
theorem dc_X7_eventsOn_0 {B : Nat} (a0 : Nat) (a1 : Nat) (s : am_S) : rn_ tb_ct tb_mt B mm_X7_eventsOn 0 [.ref a0, .ref a1, am_un, am_un] [] s = rn_ tb_ct tb_mt B mm_X7_eventsOn 4 [.ref a0, .ref a1, .int (0 : Int32), .int (0 : Int32)] [] s := by
  exact rn_go 4 (pc' := 4) (L' := [.ref a0, .ref a1, .int (0 : Int32), .int (0 : Int32)]) (st' := []) rfl
theorem dc_X7_eventsOn_4 {B : Nat} (a0 : Nat) (a1 : Nat) (x2 : Int32) (x3 : Int32) (s : am_S) : rn_ tb_ct tb_mt B mm_X7_eventsOn 4 [.ref a0, .ref a1, .int x2, .int x3] [] s = eI (gI tb_ct s a0 6 3) (fun x_1 => if x_1 ≤ x3 then some (.inl (some (.int x2)), s) else if (6 : Int32) ≤ x3 then some (.inl (some (.int x2)), s) else eA (gA tb_ct s a0 6 0) (none) (fun b_2 => eI (aI s b_2 x3) (fun x_3 => if x_3 = 0 then rn_ tb_ct tb_mt B mm_X7_eventsOn 40 [.ref a0, .ref a1, .int x2, .int x3] [] s else eA (gA tb_ct s a0 6 1) (none) (fun b_4 => eI (aI s b_4 x3) (fun x_5 => eC (am_cls s a1) 3 (cA (cl_ tb_ct tb_mt B K_X4_find [.ref a1, .int x_5] s) (fun s_6 => rn_ tb_ct tb_mt B mm_X7_eventsOn 43 [.ref a0, .ref a1, .int x2, .int x3] [] s_6) (fun b_7 s_6 => rn_ tb_ct tb_mt B mm_X7_eventsOn 40 [.ref a0, .ref a1, .int x2, .int x3] [] s_6) xo)))))) := by
  refine Eq.trans (rn_go 2 (pc' := 6) (L' := [.ref a0, .ref a1, .int x2, .int x3]) (st' := [.ref a0, .int x3]) rfl) ?_
  refine Eq.trans (rn_gI (L' := [.ref a0, .ref a1, .int x2, .int x3]) rfl rfl rfl rfl) ?_
  refine eI_c (fun x_1 => ?_)
  refine Eq.trans (rn_icge (L' := [.ref a0, .ref a1, .int x2, .int x3]) rfl rfl) ?_
  refine if_c ?_ ?_
  · refine Eq.trans (rn_go 1 (pc' := 50) (L' := [.ref a0, .ref a1, .int x2, .int x3]) (st' := [.int x2]) rfl) ?_
    exact rn_retI rfl rfl rfl
  · refine Eq.trans (rn_go 2 (pc' := 15) (L' := [.ref a0, .ref a1, .int x2, .int x3]) (st' := [.int (6 : Int32), .int x3]) rfl) ?_
    refine Eq.trans (rn_icge (L' := [.ref a0, .ref a1, .int x2, .int x3]) rfl rfl) ?_
    refine if_c ?_ ?_
    · refine Eq.trans (rn_go 1 (pc' := 50) (L' := [.ref a0, .ref a1, .int x2, .int x3]) (st' := [.int x2]) rfl) ?_
      exact rn_retI rfl rfl rfl
    · refine Eq.trans (rn_go 1 (pc' := 19) (L' := [.ref a0, .ref a1, .int x2, .int x3]) (st' := [.ref a0]) rfl) ?_
      refine Eq.trans (rn_gA (L' := [.ref a0, .ref a1, .int x2, .int x3]) rfl rfl rfl rfl) ?_
      refine eA_c ?_ (fun b_2 => ?_)
      · refine Eq.trans (rn_go 1 (pc' := 23) (L' := [.ref a0, .ref a1, .int x2, .int x3]) (st' := [.int x3, .null]) rfl) ?_
        exact rn_z rfl rfl
      · refine Eq.trans (rn_go 1 (pc' := 23) (L' := [.ref a0, .ref a1, .int x2, .int x3]) (st' := [.int x3, .ref b_2]) rfl) ?_
        refine Eq.trans (rn_aI (L' := [.ref a0, .ref a1, .int x2, .int x3]) rfl rfl) ?_
        refine eI_c (fun x_3 => ?_)
        refine Eq.trans (rn_ifeq (L' := [.ref a0, .ref a1, .int x2, .int x3]) rfl rfl) ?_
        refine if_c ?_ ?_
        · rfl
        · refine Eq.trans (rn_go 2 (pc' := 29) (L' := [.ref a0, .ref a1, .int x2, .int x3]) (st' := [.ref a0, .ref a1]) rfl) ?_
          refine Eq.trans (rn_gA (L' := [.ref a0, .ref a1, .int x2, .int x3]) rfl rfl rfl rfl) ?_
          refine eA_c ?_ (fun b_4 => ?_)
          · refine Eq.trans (rn_go 1 (pc' := 33) (L' := [.ref a0, .ref a1, .int x2, .int x3]) (st' := [.int x3, .null, .ref a1]) rfl) ?_
            exact rn_z rfl rfl
          · refine Eq.trans (rn_go 1 (pc' := 33) (L' := [.ref a0, .ref a1, .int x2, .int x3]) (st' := [.int x3, .ref b_4, .ref a1]) rfl) ?_
            refine Eq.trans (rn_aI (L' := [.ref a0, .ref a1, .int x2, .int x3]) rfl rfl) ?_
            refine eI_c (fun x_5 => ?_)
            refine Eq.trans (rn_vir (L' := [.ref a0, .ref a1, .int x2, .int x3]) (as := [.int x_5]) (rest := []) rfl rfl rfl rfl rfl (Nat.le_of_ble_eq_true rfl) (by decide) (by decide)) ?_
            refine eC_c ?_
            refine Eq.trans (cW_A rfl rfl rfl) ?_
            refine cA_c (fun s_6 => ?_) (fun b_7 s_6 => ?_) (xh_nil rfl)
            · exact rn_go 1 (pc' := 43) (L' := [.ref a0, .ref a1, .int x2, .int x3]) (st' := []) rfl
            · exact rn_go 1 (pc' := 40) (L' := [.ref a0, .ref a1, .int x2, .int x3]) (st' := []) rfl
theorem dc_X7_eventsOn_40 {B : Nat} (a0 : Nat) (a1 : Nat) (x2 : Int32) (x3 : Int32) (s : am_S) : rn_ tb_ct tb_mt B mm_X7_eventsOn 40 [.ref a0, .ref a1, .int x2, .int x3] [] s = rn_ tb_ct tb_mt B mm_X7_eventsOn 43 [.ref a0, .ref a1, .int (x2 + (1 : Int32)), .int x3] [] s := by
  exact rn_go 1 (pc' := 43) (L' := [.ref a0, .ref a1, .int (x2 + (1 : Int32)), .int x3]) (st' := []) rfl
theorem dc_X7_eventsOn_43 {B : Nat} (a0 : Nat) (a1 : Nat) (x2 : Int32) (x3 : Int32) (s : am_S) : rn_ tb_ct tb_mt B mm_X7_eventsOn 43 [.ref a0, .ref a1, .int x2, .int x3] [] s = rn_ tb_ct tb_mt B mm_X7_eventsOn 4 [.ref a0, .ref a1, .int x2, .int (x3 + (1 : Int32))] [] s := by
  exact rn_go 2 (pc' := 4) (L' := [.ref a0, .ref a1, .int x2, .int (x3 + (1 : Int32))]) (st' := []) rfl
theorem in_X7_growthOf {B : Nat} (a0 : Nat) (a1 : Nat) (s : am_S) : cl_ tb_ct tb_mt B K_X7_growthOf [.ref a0, .ref a1] s = rn_ tb_ct tb_mt B mm_X7_growthOf 0 [.ref a0, .ref a1, am_un, am_un, am_un] [] s := cl_in rfl rfl rfl rfl
theorem dc_X7_growthOf_0 {B : Nat} (a0 : Nat) (a1 : Nat) (s : am_S) : rn_ tb_ct tb_mt B mm_X7_growthOf 0 [.ref a0, .ref a1, am_un, am_un, am_un] [] s = rn_ tb_ct tb_mt B mm_X7_growthOf 4 [.ref a0, .ref a1, .int (0 : Int32), .int (0 : Int32), am_un] [] s := by
  exact rn_go 4 (pc' := 4) (L' := [.ref a0, .ref a1, .int (0 : Int32), .int (0 : Int32), am_un]) (st' := []) rfl
theorem dc_X7_growthOf_4 {B : Nat} (a0 : Nat) (a1 : Nat) (x2 : Int32) (x3 : Int32) (s : am_S) : rn_ tb_ct tb_mt B mm_X7_growthOf 4 [.ref a0, .ref a1, .int x2, .int x3, am_un] [] s = eI (gI tb_ct s a0 6 3) (fun x_1 => if x_1 ≤ x3 then some (.inl (some (.int x2)), s) else if (6 : Int32) ≤ x3 then some (.inl (some (.int x2)), s) else eA (gA tb_ct s a0 6 1) (none) (fun b_2 => eI (aI s b_2 x3) (fun x_3 => eC (am_cls s a1) 3 (cA (cl_ tb_ct tb_mt B K_X4_find [.ref a1, .int x_3] s) (fun s_4 => rn_ tb_ct tb_mt B mm_X7_growthOf 36 [.ref a0, .ref a1, .int x2, .int x3, am_un] [.int (0 : Int32)] s_4) (fun b_5 s_4 => rn_ tb_ct tb_mt B mm_X7_growthOf 36 [.ref a0, .ref a1, .int x2, .int x3, am_un] [.int (1 : Int32)] s_4) xo)))) := by
  refine Eq.trans (rn_go 2 (pc' := 6) (L' := [.ref a0, .ref a1, .int x2, .int x3, am_un]) (st' := [.ref a0, .int x3]) rfl) ?_
  refine Eq.trans (rn_gI (L' := [.ref a0, .ref a1, .int x2, .int x3, am_un]) rfl rfl rfl rfl) ?_
  refine eI_c (fun x_1 => ?_)
  refine Eq.trans (rn_icge (L' := [.ref a0, .ref a1, .int x2, .int x3, am_un]) rfl rfl) ?_
  refine if_c ?_ ?_
  · refine Eq.trans (rn_go 1 (pc' := 83) (L' := [.ref a0, .ref a1, .int x2, .int x3, am_un]) (st' := [.int x2]) rfl) ?_
    exact rn_retI rfl rfl rfl
  · refine Eq.trans (rn_go 2 (pc' := 15) (L' := [.ref a0, .ref a1, .int x2, .int x3, am_un]) (st' := [.int (6 : Int32), .int x3]) rfl) ?_
    refine Eq.trans (rn_icge (L' := [.ref a0, .ref a1, .int x2, .int x3, am_un]) rfl rfl) ?_
    refine if_c ?_ ?_
    · refine Eq.trans (rn_go 1 (pc' := 83) (L' := [.ref a0, .ref a1, .int x2, .int x3, am_un]) (st' := [.int x2]) rfl) ?_
      exact rn_retI rfl rfl rfl
    · refine Eq.trans (rn_go 2 (pc' := 20) (L' := [.ref a0, .ref a1, .int x2, .int x3, am_un]) (st' := [.ref a0, .ref a1]) rfl) ?_
      refine Eq.trans (rn_gA (L' := [.ref a0, .ref a1, .int x2, .int x3, am_un]) rfl rfl rfl rfl) ?_
      refine eA_c ?_ (fun b_2 => ?_)
      · refine Eq.trans (rn_go 1 (pc' := 24) (L' := [.ref a0, .ref a1, .int x2, .int x3, am_un]) (st' := [.int x3, .null, .ref a1]) rfl) ?_
        exact rn_z rfl rfl
      · refine Eq.trans (rn_go 1 (pc' := 24) (L' := [.ref a0, .ref a1, .int x2, .int x3, am_un]) (st' := [.int x3, .ref b_2, .ref a1]) rfl) ?_
        refine Eq.trans (rn_aI (L' := [.ref a0, .ref a1, .int x2, .int x3, am_un]) rfl rfl) ?_
        refine eI_c (fun x_3 => ?_)
        refine Eq.trans (rn_vir (L' := [.ref a0, .ref a1, .int x2, .int x3, am_un]) (as := [.int x_3]) (rest := []) rfl rfl rfl rfl rfl (Nat.le_of_ble_eq_true rfl) (by decide) (by decide)) ?_
        refine eC_c ?_
        refine Eq.trans (cW_A rfl rfl rfl) ?_
        refine cA_c (fun s_4 => ?_) (fun b_5 s_4 => ?_) (xh_nil rfl)
        · exact rn_go 2 (pc' := 36) (L' := [.ref a0, .ref a1, .int x2, .int x3, am_un]) (st' := [.int (0 : Int32)]) rfl
        · exact rn_go 3 (pc' := 36) (L' := [.ref a0, .ref a1, .int x2, .int x3, am_un]) (st' := [.int (1 : Int32)]) rfl
theorem dc_X7_growthOf_36 {B : Nat} (a0 : Nat) (a1 : Nat) (x2 : Int32) (x3 : Int32) (xs0 : Int32) (s : am_S) : rn_ tb_ct tb_mt B mm_X7_growthOf 36 [.ref a0, .ref a1, .int x2, .int x3, am_un] [.int xs0] s = eA (gA tb_ct s a0 6 0) (none) (fun b_1 => eI (aI s b_1 x3) (fun x_2 => if x_2 = 0 then if xs0 = 0 then rn_ tb_ct tb_mt B mm_X7_growthOf 76 [.ref a0, .ref a1, .int (x2 + (1 : Int32)), .int x3, .int xs0] [] s else rn_ tb_ct tb_mt B mm_X7_growthOf 58 [.ref a0, .ref a1, .int x2, .int x3, .int xs0] [] s else rn_ tb_ct tb_mt B mm_X7_growthOf 58 [.ref a0, .ref a1, .int x2, .int x3, .int xs0] [] s)) := by
  refine Eq.trans (rn_go 2 (pc' := 39) (L' := [.ref a0, .ref a1, .int x2, .int x3, .int xs0]) (st' := [.ref a0]) rfl) ?_
  refine Eq.trans (rn_gA (L' := [.ref a0, .ref a1, .int x2, .int x3, .int xs0]) rfl rfl rfl rfl) ?_
  refine eA_c ?_ (fun b_1 => ?_)
  · refine Eq.trans (rn_go 1 (pc' := 43) (L' := [.ref a0, .ref a1, .int x2, .int x3, .int xs0]) (st' := [.int x3, .null]) rfl) ?_
    exact rn_z rfl rfl
  · refine Eq.trans (rn_go 1 (pc' := 43) (L' := [.ref a0, .ref a1, .int x2, .int x3, .int xs0]) (st' := [.int x3, .ref b_1]) rfl) ?_
    refine Eq.trans (rn_aI (L' := [.ref a0, .ref a1, .int x2, .int x3, .int xs0]) rfl rfl) ?_
    refine eI_c (fun x_2 => ?_)
    refine Eq.trans (rn_ifne (L' := [.ref a0, .ref a1, .int x2, .int x3, .int xs0]) rfl rfl) ?_
    refine if_c ?_ ?_
    · refine Eq.trans (rn_go 1 (pc' := 49) (L' := [.ref a0, .ref a1, .int x2, .int x3, .int xs0]) (st' := [.int xs0]) rfl) ?_
      refine Eq.trans (rn_ifne (L' := [.ref a0, .ref a1, .int x2, .int x3, .int xs0]) rfl rfl) ?_
      refine if_c ?_ ?_
      · exact rn_go 2 (pc' := 76) (L' := [.ref a0, .ref a1, .int (x2 + (1 : Int32)), .int x3, .int xs0]) (st' := []) rfl
      · rfl
    · rfl
theorem dc_X7_growthOf_58 {B : Nat} (a0 : Nat) (a1 : Nat) (x2 : Int32) (x3 : Int32) (x4 : Int32) (s : am_S) : rn_ tb_ct tb_mt B mm_X7_growthOf 58 [.ref a0, .ref a1, .int x2, .int x3, .int x4] [] s = eA (gA tb_ct s a0 6 0) (none) (fun b_1 => eI (aI s b_1 x3) (fun x_2 => if x_2 = (1 : Int32) then if x4 = 0 then rn_ tb_ct tb_mt B mm_X7_growthOf 76 [.ref a0, .ref a1, .int x2, .int x3, .int x4] [] s else rn_ tb_ct tb_mt B mm_X7_growthOf 76 [.ref a0, .ref a1, .int (x2 + (-(1 : Int32))), .int x3, .int x4] [] s else rn_ tb_ct tb_mt B mm_X7_growthOf 76 [.ref a0, .ref a1, .int x2, .int x3, .int x4] [] s)) := by
  refine Eq.trans (rn_go 1 (pc' := 59) (L' := [.ref a0, .ref a1, .int x2, .int x3, .int x4]) (st' := [.ref a0]) rfl) ?_
  refine Eq.trans (rn_gA (L' := [.ref a0, .ref a1, .int x2, .int x3, .int x4]) rfl rfl rfl rfl) ?_
  refine eA_c ?_ (fun b_1 => ?_)
  · refine Eq.trans (rn_go 1 (pc' := 63) (L' := [.ref a0, .ref a1, .int x2, .int x3, .int x4]) (st' := [.int x3, .null]) rfl) ?_
    exact rn_z rfl rfl
  · refine Eq.trans (rn_go 1 (pc' := 63) (L' := [.ref a0, .ref a1, .int x2, .int x3, .int x4]) (st' := [.int x3, .ref b_1]) rfl) ?_
    refine Eq.trans (rn_aI (L' := [.ref a0, .ref a1, .int x2, .int x3, .int x4]) rfl rfl) ?_
    refine eI_c (fun x_2 => ?_)
    refine Eq.trans (rn_go 1 (pc' := 65) (L' := [.ref a0, .ref a1, .int x2, .int x3, .int x4]) (st' := [.int (1 : Int32), .int x_2]) rfl) ?_
    refine Eq.trans (rn_icne (L' := [.ref a0, .ref a1, .int x2, .int x3, .int x4]) rfl rfl) ?_
    refine if_c ?_ ?_
    · refine Eq.trans (rn_go 1 (pc' := 70) (L' := [.ref a0, .ref a1, .int x2, .int x3, .int x4]) (st' := [.int x4]) rfl) ?_
      refine Eq.trans (rn_ifeq (L' := [.ref a0, .ref a1, .int x2, .int x3, .int x4]) rfl rfl) ?_
      refine if_c ?_ ?_
      · rfl
      · exact rn_go 1 (pc' := 76) (L' := [.ref a0, .ref a1, .int (x2 + (-(1 : Int32))), .int x3, .int x4]) (st' := []) rfl
    · rfl
theorem dc_X7_growthOf_76 {B : Nat} (a0 : Nat) (a1 : Nat) (x2 : Int32) (x3 : Int32) (w4 : Value) (s : am_S) : rn_ tb_ct tb_mt B mm_X7_growthOf 76 [.ref a0, .ref a1, .int x2, .int x3, w4] [] s = rn_ tb_ct tb_mt B mm_X7_growthOf 4 [.ref a0, .ref a1, .int x2, .int (x3 + (1 : Int32)), am_un] [] s := by
  exact rn_go 2 (pc' := 4) (L' := [.ref a0, .ref a1, .int x2, .int (x3 + (1 : Int32)), am_un]) (st' := []) rfl
theorem in_X7_copyFrom {B : Nat} (a0 : Nat) (a1 : Nat) (s : am_S) : cl_ tb_ct tb_mt B K_X7_copyFrom [.ref a0, .ref a1] s = rn_ tb_ct tb_mt B mm_X7_copyFrom 0 [.ref a0, .ref a1] [] s := cl_in rfl rfl rfl rfl
theorem dc_X7_copyFrom_0 {B : Nat} (a0 : Nat) (a1 : Nat) (s : am_S) : rn_ tb_ct tb_mt B mm_X7_copyFrom 0 [.ref a0, .ref a1] [] s = eI (gI tb_ct s a1 6 3) (fun x_1 => eS (am_put tb_ct mm_X7_copyFrom B s (.int x_1) a0 6 3) (fun s_2 => eA (gA tb_ct s_2 a1 6 0) (eA (gA tb_ct s_2 a0 6 0) (none) (fun b_4 => none)) (fun b_3 => eA (gA tb_ct s_2 a0 6 0) (none) (fun b_5 => eS (wC B .int s_2 b_3 (0 : Int32) b_5 (0 : Int32) (6 : Int32)) (fun s_6 => eA (gA tb_ct s_6 a1 6 1) (eA (gA tb_ct s_6 a0 6 1) (none) (fun b_8 => none)) (fun b_7 => eA (gA tb_ct s_6 a0 6 1) (none) (fun b_9 => eS (wC B .int s_6 b_7 (0 : Int32) b_9 (0 : Int32) (6 : Int32)) (fun s_10 => eA (gA tb_ct s_10 a1 6 2) (eA (gA tb_ct s_10 a0 6 2) (none) (fun b_12 => none)) (fun b_11 => eA (gA tb_ct s_10 a0 6 2) (none) (fun b_13 => eS (wC B .int s_10 b_11 (0 : Int32) b_13 (0 : Int32) (6 : Int32)) (fun s_14 => some (.inl none, s_14)))))))))))) := by
  refine Eq.trans (rn_go 2 (pc' := 2) (L' := [.ref a0, .ref a1]) (st' := [.ref a1, .ref a0]) rfl) ?_
  refine Eq.trans (rn_gI (L' := [.ref a0, .ref a1]) rfl rfl rfl rfl) ?_
  refine eI_c (fun x_1 => ?_)
  refine Eq.trans (rn_pF (L' := [.ref a0, .ref a1]) rfl rfl) ?_
  refine eS_c (fun s_2 => ?_)
  refine Eq.trans (rn_go 1 (pc' := 9) (L' := [.ref a0, .ref a1]) (st' := [.ref a1]) rfl) ?_
  refine Eq.trans (rn_gA (L' := [.ref a0, .ref a1]) rfl rfl rfl rfl) ?_
  refine eA_c ?_ (fun b_3 => ?_)
  · refine Eq.trans (rn_go 2 (pc' := 14) (L' := [.ref a0, .ref a1]) (st' := [.ref a0, .int (0 : Int32), .null]) rfl) ?_
    refine Eq.trans (rn_gA (L' := [.ref a0, .ref a1]) rfl rfl rfl rfl) ?_
    refine eA_c ?_ (fun b_4 => ?_)
    · refine Eq.trans (rn_go 2 (pc' := 20) (L' := [.ref a0, .ref a1]) (st' := [.int (6 : Int32), .int (0 : Int32), .null, .int (0 : Int32), .null]) rfl) ?_
      exact rn_z rfl rfl
    · refine Eq.trans (rn_go 2 (pc' := 20) (L' := [.ref a0, .ref a1]) (st' := [.int (6 : Int32), .int (0 : Int32), .ref b_4, .int (0 : Int32), .null]) rfl) ?_
      exact rn_z rfl rfl
  · refine Eq.trans (rn_go 2 (pc' := 14) (L' := [.ref a0, .ref a1]) (st' := [.ref a0, .int (0 : Int32), .ref b_3]) rfl) ?_
    refine Eq.trans (rn_gA (L' := [.ref a0, .ref a1]) rfl rfl rfl rfl) ?_
    refine eA_c ?_ (fun b_5 => ?_)
    · refine Eq.trans (rn_go 2 (pc' := 20) (L' := [.ref a0, .ref a1]) (st' := [.int (6 : Int32), .int (0 : Int32), .null, .int (0 : Int32), .ref b_3]) rfl) ?_
      exact rn_z rfl rfl
    · refine Eq.trans (rn_go 2 (pc' := 20) (L' := [.ref a0, .ref a1]) (st' := [.int (6 : Int32), .int (0 : Int32), .ref b_5, .int (0 : Int32), .ref b_3]) rfl) ?_
      refine Eq.trans (rn_cp (L' := [.ref a0, .ref a1]) (ty := .int) rfl rfl (by decide) (Nat.le_of_ble_eq_true rfl)) ?_
      refine eS_c (fun s_6 => ?_)
      refine Eq.trans (rn_go 1 (pc' := 24) (L' := [.ref a0, .ref a1]) (st' := [.ref a1]) rfl) ?_
      refine Eq.trans (rn_gA (L' := [.ref a0, .ref a1]) rfl rfl rfl rfl) ?_
      refine eA_c ?_ (fun b_7 => ?_)
      · refine Eq.trans (rn_go 2 (pc' := 29) (L' := [.ref a0, .ref a1]) (st' := [.ref a0, .int (0 : Int32), .null]) rfl) ?_
        refine Eq.trans (rn_gA (L' := [.ref a0, .ref a1]) rfl rfl rfl rfl) ?_
        refine eA_c ?_ (fun b_8 => ?_)
        · refine Eq.trans (rn_go 2 (pc' := 35) (L' := [.ref a0, .ref a1]) (st' := [.int (6 : Int32), .int (0 : Int32), .null, .int (0 : Int32), .null]) rfl) ?_
          exact rn_z rfl rfl
        · refine Eq.trans (rn_go 2 (pc' := 35) (L' := [.ref a0, .ref a1]) (st' := [.int (6 : Int32), .int (0 : Int32), .ref b_8, .int (0 : Int32), .null]) rfl) ?_
          exact rn_z rfl rfl
      · refine Eq.trans (rn_go 2 (pc' := 29) (L' := [.ref a0, .ref a1]) (st' := [.ref a0, .int (0 : Int32), .ref b_7]) rfl) ?_
        refine Eq.trans (rn_gA (L' := [.ref a0, .ref a1]) rfl rfl rfl rfl) ?_
        refine eA_c ?_ (fun b_9 => ?_)
        · refine Eq.trans (rn_go 2 (pc' := 35) (L' := [.ref a0, .ref a1]) (st' := [.int (6 : Int32), .int (0 : Int32), .null, .int (0 : Int32), .ref b_7]) rfl) ?_
          exact rn_z rfl rfl
        · refine Eq.trans (rn_go 2 (pc' := 35) (L' := [.ref a0, .ref a1]) (st' := [.int (6 : Int32), .int (0 : Int32), .ref b_9, .int (0 : Int32), .ref b_7]) rfl) ?_
          refine Eq.trans (rn_cp (L' := [.ref a0, .ref a1]) (ty := .int) rfl rfl (by decide) (Nat.le_of_ble_eq_true rfl)) ?_
          refine eS_c (fun s_10 => ?_)
          refine Eq.trans (rn_go 1 (pc' := 39) (L' := [.ref a0, .ref a1]) (st' := [.ref a1]) rfl) ?_
          refine Eq.trans (rn_gA (L' := [.ref a0, .ref a1]) rfl rfl rfl rfl) ?_
          refine eA_c ?_ (fun b_11 => ?_)
          · refine Eq.trans (rn_go 2 (pc' := 44) (L' := [.ref a0, .ref a1]) (st' := [.ref a0, .int (0 : Int32), .null]) rfl) ?_
            refine Eq.trans (rn_gA (L' := [.ref a0, .ref a1]) rfl rfl rfl rfl) ?_
            refine eA_c ?_ (fun b_12 => ?_)
            · refine Eq.trans (rn_go 2 (pc' := 50) (L' := [.ref a0, .ref a1]) (st' := [.int (6 : Int32), .int (0 : Int32), .null, .int (0 : Int32), .null]) rfl) ?_
              exact rn_z rfl rfl
            · refine Eq.trans (rn_go 2 (pc' := 50) (L' := [.ref a0, .ref a1]) (st' := [.int (6 : Int32), .int (0 : Int32), .ref b_12, .int (0 : Int32), .null]) rfl) ?_
              exact rn_z rfl rfl
          · refine Eq.trans (rn_go 2 (pc' := 44) (L' := [.ref a0, .ref a1]) (st' := [.ref a0, .int (0 : Int32), .ref b_11]) rfl) ?_
            refine Eq.trans (rn_gA (L' := [.ref a0, .ref a1]) rfl rfl rfl rfl) ?_
            refine eA_c ?_ (fun b_13 => ?_)
            · refine Eq.trans (rn_go 2 (pc' := 50) (L' := [.ref a0, .ref a1]) (st' := [.int (6 : Int32), .int (0 : Int32), .null, .int (0 : Int32), .ref b_11]) rfl) ?_
              exact rn_z rfl rfl
            · refine Eq.trans (rn_go 2 (pc' := 50) (L' := [.ref a0, .ref a1]) (st' := [.int (6 : Int32), .int (0 : Int32), .ref b_13, .int (0 : Int32), .ref b_11]) rfl) ?_
              refine Eq.trans (rn_cp (L' := [.ref a0, .ref a1]) (ty := .int) rfl rfl (by decide) (Nat.le_of_ble_eq_true rfl)) ?_
              refine eS_c (fun s_14 => ?_)
              exact rn_retV rfl rfl
theorem in_X8_init {B : Nat} (a0 : Nat) (s : am_S) : cl_ tb_ct tb_mt B K_X8_init [.ref a0] s = rn_ tb_ct tb_mt B mm_X8_init 0 [.ref a0, am_un] [] s := cl_in rfl rfl rfl rfl
theorem dc_X8_init_0 {B : Nat} (a0 : Nat) (s : am_S) : rn_ tb_ct tb_mt B mm_X8_init 0 [.ref a0, am_un] [] s = nwO tb_ct s 3 (fun b_1 s_2 => eC (am_cls s_2 b_1) 3 (cV (cl_ tb_ct tb_mt B K_X4_init [.ref b_1] s_2) (fun s_3 => eS (am_put tb_ct mm_X8_init B s_3 (.ref b_1) a0 7 0) (fun s_4 => nwO tb_ct s_4 1 (fun b_5 s_6 => eC (am_cls s_6 b_5) 1 (cV (cl_ tb_ct tb_mt B K_X2_init [.ref b_5] s_6) (fun s_7 => eS (am_put tb_ct mm_X8_init B s_7 (.ref b_5) a0 7 1) (fun s_8 => nwA "WatchedKeys$Watch" s_8 (8 : Int32) (fun b_9 s_10 => eS (am_put tb_ct mm_X8_init B s_10 (.ref b_9) a0 7 2) (fun s_11 => nwA "WatchedKeys$Lease" s_11 (8 : Int32) (fun b_12 s_13 => eS (am_put tb_ct mm_X8_init B s_13 (.ref b_12) a0 7 3) (fun s_14 => nwO tb_ct s_14 8 (fun b_15 s_16 => eC (am_cls s_16 b_15) 8 (cV (cl_ tb_ct tb_mt B K_X9_init [.ref b_15] s_16) (fun s_17 => eS (am_put tb_ct mm_X8_init B s_17 (.ref b_15) a0 7 4) (fun s_18 => eS (am_put tb_ct mm_X8_init B s_18 (.int (1 : Int32)) a0 7 5) (fun s_19 => rn_ tb_ct tb_mt B mm_X8_init 62 [.ref a0, .int (0 : Int32)] [] s_19))) xo)))))))) xo)))) xo)) := by
  refine Eq.trans (rn_go 1 (pc' := 1) (L' := [.ref a0, am_un]) (st' := [.ref a0]) rfl) ?_
  refine Eq.trans (rn_obj (L' := [.ref a0, am_un]) rfl rfl (Nat.le_of_ble_eq_true rfl)) ?_
  refine Eq.trans (rn_go 1 (pc' := 5) (L' := [.ref a0, am_un]) (st' := [.ref a0]) rfl) ?_
  refine Eq.trans (rn_new (L' := [.ref a0, am_un]) rfl rfl) ?_
  refine nwO_c (fun b_1 s_2 => ?_)
  refine Eq.trans (rn_go 1 (pc' := 9) (L' := [.ref a0, am_un]) (st' := [.ref b_1, .ref b_1, .ref a0]) rfl) ?_
  refine Eq.trans (rn_spe (L' := [.ref a0, am_un]) (as := []) (rest := [.ref b_1, .ref a0]) rfl rfl (by decide) rfl rfl rfl (Nat.le_of_ble_eq_true rfl) (by decide) (by decide)) ?_
  refine eC_c ?_
  refine Eq.trans (cW_V rfl rfl) ?_
  refine cV_c (fun s_3 => ?_) (xh_nil rfl)
  refine Eq.trans (rn_pF (L' := [.ref a0, am_un]) rfl rfl) ?_
  refine eS_c (fun s_4 => ?_)
  refine Eq.trans (rn_go 1 (pc' := 16) (L' := [.ref a0, am_un]) (st' := [.ref a0]) rfl) ?_
  refine Eq.trans (rn_new (L' := [.ref a0, am_un]) rfl rfl) ?_
  refine nwO_c (fun b_5 s_6 => ?_)
  refine Eq.trans (rn_go 1 (pc' := 20) (L' := [.ref a0, am_un]) (st' := [.ref b_5, .ref b_5, .ref a0]) rfl) ?_
  refine Eq.trans (rn_spe (L' := [.ref a0, am_un]) (as := []) (rest := [.ref b_5, .ref a0]) rfl rfl (by decide) rfl rfl rfl (Nat.le_of_ble_eq_true rfl) (by decide) (by decide)) ?_
  refine eC_c ?_
  refine Eq.trans (cW_V rfl rfl) ?_
  refine cV_c (fun s_7 => ?_) (xh_nil rfl)
  refine Eq.trans (rn_pF (L' := [.ref a0, am_un]) rfl rfl) ?_
  refine eS_c (fun s_8 => ?_)
  refine Eq.trans (rn_go 2 (pc' := 29) (L' := [.ref a0, am_un]) (st' := [.int (8 : Int32), .ref a0]) rfl) ?_
  refine Eq.trans (rn_nwA (L' := [.ref a0, am_un]) rfl rfl rfl) ?_
  refine nwA_c (fun b_9 s_10 => ?_)
  refine Eq.trans (rn_pF (L' := [.ref a0, am_un]) rfl rfl) ?_
  refine eS_c (fun s_11 => ?_)
  refine Eq.trans (rn_go 2 (pc' := 38) (L' := [.ref a0, am_un]) (st' := [.int (8 : Int32), .ref a0]) rfl) ?_
  refine Eq.trans (rn_nwA (L' := [.ref a0, am_un]) rfl rfl rfl) ?_
  refine nwA_c (fun b_12 s_13 => ?_)
  refine Eq.trans (rn_pF (L' := [.ref a0, am_un]) rfl rfl) ?_
  refine eS_c (fun s_14 => ?_)
  refine Eq.trans (rn_go 1 (pc' := 45) (L' := [.ref a0, am_un]) (st' := [.ref a0]) rfl) ?_
  refine Eq.trans (rn_new (L' := [.ref a0, am_un]) rfl rfl) ?_
  refine nwO_c (fun b_15 s_16 => ?_)
  refine Eq.trans (rn_go 1 (pc' := 49) (L' := [.ref a0, am_un]) (st' := [.ref b_15, .ref b_15, .ref a0]) rfl) ?_
  refine Eq.trans (rn_spe (L' := [.ref a0, am_un]) (as := []) (rest := [.ref b_15, .ref a0]) rfl rfl (by decide) rfl rfl rfl (Nat.le_of_ble_eq_true rfl) (by decide) (by decide)) ?_
  refine eC_c ?_
  refine Eq.trans (cW_V rfl rfl) ?_
  refine cV_c (fun s_17 => ?_) (xh_nil rfl)
  refine Eq.trans (rn_pF (L' := [.ref a0, am_un]) rfl rfl) ?_
  refine eS_c (fun s_18 => ?_)
  refine Eq.trans (rn_go 2 (pc' := 57) (L' := [.ref a0, am_un]) (st' := [.int (1 : Int32), .ref a0]) rfl) ?_
  refine Eq.trans (rn_pF (L' := [.ref a0, am_un]) rfl rfl) ?_
  refine eS_c (fun s_19 => ?_)
  exact rn_go 2 (pc' := 62) (L' := [.ref a0, .int (0 : Int32)]) (st' := []) rfl
theorem dc_X8_init_62 {B : Nat} (a0 : Nat) (x1 : Int32) (s : am_S) : rn_ tb_ct tb_mt B mm_X8_init 62 [.ref a0, .int x1] [] s = if (8 : Int32) ≤ x1 then rn_ tb_ct tb_mt B mm_X8_init 89 [.ref a0, .int (0 : Int32)] [] s else eA (gA tb_ct s a0 7 2) (nwO tb_ct s 9 (fun b_2 s_3 => eC (am_cls s_3 b_2) 9 (cV (cl_ tb_ct tb_mt B K_X11_init [.ref b_2] s_3) (fun s_4 => none) xo))) (fun b_1 => nwO tb_ct s 9 (fun b_5 s_6 => eC (am_cls s_6 b_5) 9 (cV (cl_ tb_ct tb_mt B K_X11_init [.ref b_5] s_6) (fun s_7 => eS (wA tb_ct B s_7 b_1 x1 b_5) (fun s_8 => rn_ tb_ct tb_mt B mm_X8_init 62 [.ref a0, .int (x1 + (1 : Int32))] [] s_8)) xo))) := by
  refine Eq.trans (rn_go 2 (pc' := 65) (L' := [.ref a0, .int x1]) (st' := [.int (8 : Int32), .int x1]) rfl) ?_
  refine Eq.trans (rn_icge (L' := [.ref a0, .int x1]) rfl rfl) ?_
  refine if_c ?_ ?_
  · exact rn_go 2 (pc' := 89) (L' := [.ref a0, .int (0 : Int32)]) (st' := []) rfl
  · refine Eq.trans (rn_go 1 (pc' := 69) (L' := [.ref a0, .int x1]) (st' := [.ref a0]) rfl) ?_
    refine Eq.trans (rn_gA (L' := [.ref a0, .int x1]) rfl rfl rfl rfl) ?_
    refine eA_c ?_ (fun b_1 => ?_)
    · refine Eq.trans (rn_go 1 (pc' := 73) (L' := [.ref a0, .int x1]) (st' := [.int x1, .null]) rfl) ?_
      refine Eq.trans (rn_new (L' := [.ref a0, .int x1]) rfl rfl) ?_
      refine nwO_c (fun b_2 s_3 => ?_)
      refine Eq.trans (rn_go 1 (pc' := 77) (L' := [.ref a0, .int x1]) (st' := [.ref b_2, .ref b_2, .int x1, .null]) rfl) ?_
      refine Eq.trans (rn_spe (L' := [.ref a0, .int x1]) (as := []) (rest := [.ref b_2, .int x1, .null]) rfl rfl (by decide) rfl rfl rfl (Nat.le_of_ble_eq_true rfl) (by decide) (by decide)) ?_
      refine eC_c ?_
      refine Eq.trans (cW_V rfl rfl) ?_
      refine cV_c (fun s_4 => ?_) (xh_nil rfl)
      exact rn_z rfl rfl
    · refine Eq.trans (rn_go 1 (pc' := 73) (L' := [.ref a0, .int x1]) (st' := [.int x1, .ref b_1]) rfl) ?_
      refine Eq.trans (rn_new (L' := [.ref a0, .int x1]) rfl rfl) ?_
      refine nwO_c (fun b_5 s_6 => ?_)
      refine Eq.trans (rn_go 1 (pc' := 77) (L' := [.ref a0, .int x1]) (st' := [.ref b_5, .ref b_5, .int x1, .ref b_1]) rfl) ?_
      refine Eq.trans (rn_spe (L' := [.ref a0, .int x1]) (as := []) (rest := [.ref b_5, .int x1, .ref b_1]) rfl rfl (by decide) rfl rfl rfl (Nat.le_of_ble_eq_true rfl) (by decide) (by decide)) ?_
      refine eC_c ?_
      refine Eq.trans (cW_V rfl rfl) ?_
      refine cV_c (fun s_7 => ?_) (xh_nil rfl)
      refine Eq.trans (rn_wA (L' := [.ref a0, .int x1]) rfl rfl) ?_
      refine eS_c (fun s_8 => ?_)
      exact rn_go 2 (pc' := 62) (L' := [.ref a0, .int (x1 + (1 : Int32))]) (st' := []) rfl
theorem dc_X8_init_89 {B : Nat} (a0 : Nat) (x1 : Int32) (s : am_S) : rn_ tb_ct tb_mt B mm_X8_init 89 [.ref a0, .int x1] [] s = if (8 : Int32) ≤ x1 then some (.inl none, s) else eA (gA tb_ct s a0 7 3) (nwO tb_ct s 4 (fun b_2 s_3 => eC (am_cls s_3 b_2) 4 (cV (cl_ tb_ct tb_mt B K_X5_init [.ref b_2] s_3) (fun s_4 => none) xo))) (fun b_1 => nwO tb_ct s 4 (fun b_5 s_6 => eC (am_cls s_6 b_5) 4 (cV (cl_ tb_ct tb_mt B K_X5_init [.ref b_5] s_6) (fun s_7 => eS (wA tb_ct B s_7 b_1 x1 b_5) (fun s_8 => rn_ tb_ct tb_mt B mm_X8_init 89 [.ref a0, .int (x1 + (1 : Int32))] [] s_8)) xo))) := by
  refine Eq.trans (rn_go 2 (pc' := 92) (L' := [.ref a0, .int x1]) (st' := [.int (8 : Int32), .int x1]) rfl) ?_
  refine Eq.trans (rn_icge (L' := [.ref a0, .int x1]) rfl rfl) ?_
  refine if_c ?_ ?_
  · exact rn_retV rfl rfl
  · refine Eq.trans (rn_go 1 (pc' := 96) (L' := [.ref a0, .int x1]) (st' := [.ref a0]) rfl) ?_
    refine Eq.trans (rn_gA (L' := [.ref a0, .int x1]) rfl rfl rfl rfl) ?_
    refine eA_c ?_ (fun b_1 => ?_)
    · refine Eq.trans (rn_go 1 (pc' := 100) (L' := [.ref a0, .int x1]) (st' := [.int x1, .null]) rfl) ?_
      refine Eq.trans (rn_new (L' := [.ref a0, .int x1]) rfl rfl) ?_
      refine nwO_c (fun b_2 s_3 => ?_)
      refine Eq.trans (rn_go 1 (pc' := 104) (L' := [.ref a0, .int x1]) (st' := [.ref b_2, .ref b_2, .int x1, .null]) rfl) ?_
      refine Eq.trans (rn_spe (L' := [.ref a0, .int x1]) (as := []) (rest := [.ref b_2, .int x1, .null]) rfl rfl (by decide) rfl rfl rfl (Nat.le_of_ble_eq_true rfl) (by decide) (by decide)) ?_
      refine eC_c ?_
      refine Eq.trans (cW_V rfl rfl) ?_
      refine cV_c (fun s_4 => ?_) (xh_nil rfl)
      exact rn_z rfl rfl
    · refine Eq.trans (rn_go 1 (pc' := 100) (L' := [.ref a0, .int x1]) (st' := [.int x1, .ref b_1]) rfl) ?_
      refine Eq.trans (rn_new (L' := [.ref a0, .int x1]) rfl rfl) ?_
      refine nwO_c (fun b_5 s_6 => ?_)
      refine Eq.trans (rn_go 1 (pc' := 104) (L' := [.ref a0, .int x1]) (st' := [.ref b_5, .ref b_5, .int x1, .ref b_1]) rfl) ?_
      refine Eq.trans (rn_spe (L' := [.ref a0, .int x1]) (as := []) (rest := [.ref b_5, .int x1, .ref b_1]) rfl rfl (by decide) rfl rfl rfl (Nat.le_of_ble_eq_true rfl) (by decide) (by decide)) ?_
      refine eC_c ?_
      refine Eq.trans (cW_V rfl rfl) ?_
      refine cV_c (fun s_7 => ?_) (xh_nil rfl)
      refine Eq.trans (rn_wA (L' := [.ref a0, .int x1]) rfl rfl) ?_
      refine eS_c (fun s_8 => ?_)
      exact rn_go 2 (pc' := 89) (L' := [.ref a0, .int (x1 + (1 : Int32))]) (st' := []) rfl
theorem in_X8_clear {B : Nat} (a0 : Nat) (s : am_S) : cl_ tb_ct tb_mt B K_X8_clear [.ref a0] s = rn_ tb_ct tb_mt B mm_X8_clear 0 [.ref a0] [] s := cl_in rfl rfl rfl rfl
theorem dc_X8_clear_0 {B : Nat} (a0 : Nat) (s : am_S) : rn_ tb_ct tb_mt B mm_X8_clear 0 [.ref a0] [] s = eA (gA tb_ct s a0 7 0) (none) (fun b_1 => eS (am_put tb_ct mm_X8_clear B s (.int (0 : Int32)) b_1 3 1) (fun s_2 => eA (gA tb_ct s_2 a0 7 1) (none) (fun b_3 => eS (am_put tb_ct mm_X8_clear B s_2 (.int (0 : Int32)) b_3 1 1) (fun s_4 => eA (gA tb_ct s_4 a0 7 4) (none) (fun b_5 => eC (am_cls s_4 b_5) 8 (cI (cl_ tb_ct tb_mt B K_X9_clear [.ref b_5] s_4) (fun x_7 s_6 => eS (am_put tb_ct mm_X8_clear B s_6 (.int (1 : Int32)) a0 7 5) (fun s_8 => eS (am_put tb_ct mm_X8_clear B s_8 (.int (0 : Int32)) a0 7 6) (fun s_9 => eS (am_put tb_ct mm_X8_clear B s_9 (.int (0 : Int32)) a0 7 7) (fun s_10 => eS (am_put tb_ct mm_X8_clear B s_10 (.int (0 : Int32)) a0 7 8) (fun s_11 => eS (am_put tb_ct mm_X8_clear B s_11 (.int (0 : Int32)) a0 7 9) (fun s_12 => eS (am_put tb_ct mm_X8_clear B s_12 (.int (0 : Int32)) a0 7 10) (fun s_13 => some (.inl none, s_13)))))))) xo)))))) := by
  refine Eq.trans (rn_go 1 (pc' := 1) (L' := [.ref a0]) (st' := [.ref a0]) rfl) ?_
  refine Eq.trans (rn_gA (L' := [.ref a0]) rfl rfl rfl rfl) ?_
  refine eA_c ?_ (fun b_1 => ?_)
  · refine Eq.trans (rn_go 1 (pc' := 5) (L' := [.ref a0]) (st' := [.int (0 : Int32), .null]) rfl) ?_
    exact rn_z rfl rfl
  · refine Eq.trans (rn_go 1 (pc' := 5) (L' := [.ref a0]) (st' := [.int (0 : Int32), .ref b_1]) rfl) ?_
    refine Eq.trans (rn_pF (L' := [.ref a0]) rfl rfl) ?_
    refine eS_c (fun s_2 => ?_)
    refine Eq.trans (rn_go 1 (pc' := 9) (L' := [.ref a0]) (st' := [.ref a0]) rfl) ?_
    refine Eq.trans (rn_gA (L' := [.ref a0]) rfl rfl rfl rfl) ?_
    refine eA_c ?_ (fun b_3 => ?_)
    · refine Eq.trans (rn_go 1 (pc' := 13) (L' := [.ref a0]) (st' := [.int (0 : Int32), .null]) rfl) ?_
      exact rn_z rfl rfl
    · refine Eq.trans (rn_go 1 (pc' := 13) (L' := [.ref a0]) (st' := [.int (0 : Int32), .ref b_3]) rfl) ?_
      refine Eq.trans (rn_pF (L' := [.ref a0]) rfl rfl) ?_
      refine eS_c (fun s_4 => ?_)
      refine Eq.trans (rn_go 1 (pc' := 17) (L' := [.ref a0]) (st' := [.ref a0]) rfl) ?_
      refine Eq.trans (rn_gA (L' := [.ref a0]) rfl rfl rfl rfl) ?_
      refine eA_c ?_ (fun b_5 => ?_)
      · exact rn_z rfl rfl
      · refine Eq.trans (rn_vir (L' := [.ref a0]) (as := []) (rest := []) rfl rfl rfl rfl rfl (Nat.le_of_ble_eq_true rfl) (by decide) (by decide)) ?_
        refine eC_c ?_
        refine Eq.trans (cW_I rfl rfl rfl) ?_
        refine cI_c (fun x_7 s_6 => ?_) (xh_nil rfl)
        refine Eq.trans (rn_go 3 (pc' := 26) (L' := [.ref a0]) (st' := [.int (1 : Int32), .ref a0]) rfl) ?_
        refine Eq.trans (rn_pF (L' := [.ref a0]) rfl rfl) ?_
        refine eS_c (fun s_8 => ?_)
        refine Eq.trans (rn_go 2 (pc' := 31) (L' := [.ref a0]) (st' := [.int (0 : Int32), .ref a0]) rfl) ?_
        refine Eq.trans (rn_pF (L' := [.ref a0]) rfl rfl) ?_
        refine eS_c (fun s_9 => ?_)
        refine Eq.trans (rn_go 2 (pc' := 36) (L' := [.ref a0]) (st' := [.int (0 : Int32), .ref a0]) rfl) ?_
        refine Eq.trans (rn_pF (L' := [.ref a0]) rfl rfl) ?_
        refine eS_c (fun s_10 => ?_)
        refine Eq.trans (rn_go 2 (pc' := 41) (L' := [.ref a0]) (st' := [.int (0 : Int32), .ref a0]) rfl) ?_
        refine Eq.trans (rn_pF (L' := [.ref a0]) rfl rfl) ?_
        refine eS_c (fun s_11 => ?_)
        refine Eq.trans (rn_go 2 (pc' := 46) (L' := [.ref a0]) (st' := [.int (0 : Int32), .ref a0]) rfl) ?_
        refine Eq.trans (rn_pF (L' := [.ref a0]) rfl rfl) ?_
        refine eS_c (fun s_12 => ?_)
        refine Eq.trans (rn_go 2 (pc' := 51) (L' := [.ref a0]) (st' := [.int (0 : Int32), .ref a0]) rfl) ?_
        refine Eq.trans (rn_pF (L' := [.ref a0]) rfl rfl) ?_
        refine eS_c (fun s_13 => ?_)
        exact rn_retV rfl rfl
theorem in_X8_copyFrom {B : Nat} (a0 : Nat) (a1 : Nat) (s : am_S) : cl_ tb_ct tb_mt B K_X8_copyFrom [.ref a0, .ref a1] s = rn_ tb_ct tb_mt B mm_X8_copyFrom 0 [.ref a0, .ref a1] [] s := cl_in rfl rfl rfl rfl
theorem dc_X8_copyFrom_0 {B : Nat} (a0 : Nat) (a1 : Nat) (s : am_S) : rn_ tb_ct tb_mt B mm_X8_copyFrom 0 [.ref a0, .ref a1] [] s = eA (gA tb_ct s a0 7 0) (eA (gA tb_ct s a1 7 0) (none) (fun b_2 => none)) (fun b_1 => eA (gA tb_ct s a1 7 0) (eC (am_cls s b_1) 3 (cV (cl_ tb_ct tb_mt B K_X4_copyFrom [.ref b_1, .null] s) (fun s_4 => eA (gA tb_ct s_4 a0 7 1) (eA (gA tb_ct s_4 a1 7 1) (none) (fun b_6 => none)) (fun b_5 => eA (gA tb_ct s_4 a1 7 1) (eC (am_cls s_4 b_5) 1 (cV (cl_ tb_ct tb_mt B K_X2_copyFrom [.ref b_5, .null] s_4) (fun s_8 => eA (gA tb_ct s_8 a0 7 4) (eA (gA tb_ct s_8 a1 7 4) (none) (fun b_10 => none)) (fun b_9 => eA (gA tb_ct s_8 a1 7 4) (eC (am_cls s_8 b_9) 8 (cV (cl_ tb_ct tb_mt B K_X9_copyFrom [.ref b_9, .null] s_8) (fun s_12 => eI (gI tb_ct s_12 a1 7 5) (fun x_13 => eS (am_put tb_ct mm_X8_copyFrom B s_12 (.int x_13) a0 7 5) (fun s_14 => eI (gI tb_ct s_14 a1 7 6) (fun x_15 => eS (am_put tb_ct mm_X8_copyFrom B s_14 (.int x_15) a0 7 6) (fun s_16 => eI (gI tb_ct s_16 a1 7 7) (fun x_17 => eS (am_put tb_ct mm_X8_copyFrom B s_16 (.int x_17) a0 7 7) (fun s_18 => eI (gI tb_ct s_18 a1 7 10) (fun x_19 => eS (am_put tb_ct mm_X8_copyFrom B s_18 (.int x_19) a0 7 10) (fun s_20 => eC (am_cls s_20 a0) 7 (cV (cl_ tb_ct tb_mt B K_X8_copyWatches [.ref a0, .ref a1] s_20) (fun s_21 => eC (am_cls s_21 a0) 7 (cV (cl_ tb_ct tb_mt B K_X8_copyLeases [.ref a0, .ref a1] s_21) (fun s_22 => some (.inl none, s_22)) xo)) xo)))))))))) xo)) (fun b_11 => eC (am_cls s_8 b_9) 8 (cV (cl_ tb_ct tb_mt B K_X9_copyFrom [.ref b_9, .ref b_11] s_8) (fun s_23 => eI (gI tb_ct s_23 a1 7 5) (fun x_24 => eS (am_put tb_ct mm_X8_copyFrom B s_23 (.int x_24) a0 7 5) (fun s_25 => eI (gI tb_ct s_25 a1 7 6) (fun x_26 => eS (am_put tb_ct mm_X8_copyFrom B s_25 (.int x_26) a0 7 6) (fun s_27 => eI (gI tb_ct s_27 a1 7 7) (fun x_28 => eS (am_put tb_ct mm_X8_copyFrom B s_27 (.int x_28) a0 7 7) (fun s_29 => eI (gI tb_ct s_29 a1 7 10) (fun x_30 => eS (am_put tb_ct mm_X8_copyFrom B s_29 (.int x_30) a0 7 10) (fun s_31 => eC (am_cls s_31 a0) 7 (cV (cl_ tb_ct tb_mt B K_X8_copyWatches [.ref a0, .ref a1] s_31) (fun s_32 => eC (am_cls s_32 a0) 7 (cV (cl_ tb_ct tb_mt B K_X8_copyLeases [.ref a0, .ref a1] s_32) (fun s_33 => some (.inl none, s_33)) xo)) xo)))))))))) xo)))) xo)) (fun b_7 => eC (am_cls s_4 b_5) 1 (cV (cl_ tb_ct tb_mt B K_X2_copyFrom [.ref b_5, .ref b_7] s_4) (fun s_34 => eA (gA tb_ct s_34 a0 7 4) (eA (gA tb_ct s_34 a1 7 4) (none) (fun b_36 => none)) (fun b_35 => eA (gA tb_ct s_34 a1 7 4) (eC (am_cls s_34 b_35) 8 (cV (cl_ tb_ct tb_mt B K_X9_copyFrom [.ref b_35, .null] s_34) (fun s_38 => eI (gI tb_ct s_38 a1 7 5) (fun x_39 => eS (am_put tb_ct mm_X8_copyFrom B s_38 (.int x_39) a0 7 5) (fun s_40 => eI (gI tb_ct s_40 a1 7 6) (fun x_41 => eS (am_put tb_ct mm_X8_copyFrom B s_40 (.int x_41) a0 7 6) (fun s_42 => eI (gI tb_ct s_42 a1 7 7) (fun x_43 => eS (am_put tb_ct mm_X8_copyFrom B s_42 (.int x_43) a0 7 7) (fun s_44 => eI (gI tb_ct s_44 a1 7 10) (fun x_45 => eS (am_put tb_ct mm_X8_copyFrom B s_44 (.int x_45) a0 7 10) (fun s_46 => eC (am_cls s_46 a0) 7 (cV (cl_ tb_ct tb_mt B K_X8_copyWatches [.ref a0, .ref a1] s_46) (fun s_47 => eC (am_cls s_47 a0) 7 (cV (cl_ tb_ct tb_mt B K_X8_copyLeases [.ref a0, .ref a1] s_47) (fun s_48 => some (.inl none, s_48)) xo)) xo)))))))))) xo)) (fun b_37 => eC (am_cls s_34 b_35) 8 (cV (cl_ tb_ct tb_mt B K_X9_copyFrom [.ref b_35, .ref b_37] s_34) (fun s_49 => eI (gI tb_ct s_49 a1 7 5) (fun x_50 => eS (am_put tb_ct mm_X8_copyFrom B s_49 (.int x_50) a0 7 5) (fun s_51 => eI (gI tb_ct s_51 a1 7 6) (fun x_52 => eS (am_put tb_ct mm_X8_copyFrom B s_51 (.int x_52) a0 7 6) (fun s_53 => eI (gI tb_ct s_53 a1 7 7) (fun x_54 => eS (am_put tb_ct mm_X8_copyFrom B s_53 (.int x_54) a0 7 7) (fun s_55 => eI (gI tb_ct s_55 a1 7 10) (fun x_56 => eS (am_put tb_ct mm_X8_copyFrom B s_55 (.int x_56) a0 7 10) (fun s_57 => eC (am_cls s_57 a0) 7 (cV (cl_ tb_ct tb_mt B K_X8_copyWatches [.ref a0, .ref a1] s_57) (fun s_58 => eC (am_cls s_58 a0) 7 (cV (cl_ tb_ct tb_mt B K_X8_copyLeases [.ref a0, .ref a1] s_58) (fun s_59 => some (.inl none, s_59)) xo)) xo)))))))))) xo)))) xo)))) xo)) (fun b_3 => eC (am_cls s b_1) 3 (cV (cl_ tb_ct tb_mt B K_X4_copyFrom [.ref b_1, .ref b_3] s) (fun s_60 => eA (gA tb_ct s_60 a0 7 1) (eA (gA tb_ct s_60 a1 7 1) (none) (fun b_62 => none)) (fun b_61 => eA (gA tb_ct s_60 a1 7 1) (eC (am_cls s_60 b_61) 1 (cV (cl_ tb_ct tb_mt B K_X2_copyFrom [.ref b_61, .null] s_60) (fun s_64 => eA (gA tb_ct s_64 a0 7 4) (eA (gA tb_ct s_64 a1 7 4) (none) (fun b_66 => none)) (fun b_65 => eA (gA tb_ct s_64 a1 7 4) (eC (am_cls s_64 b_65) 8 (cV (cl_ tb_ct tb_mt B K_X9_copyFrom [.ref b_65, .null] s_64) (fun s_68 => eI (gI tb_ct s_68 a1 7 5) (fun x_69 => eS (am_put tb_ct mm_X8_copyFrom B s_68 (.int x_69) a0 7 5) (fun s_70 => eI (gI tb_ct s_70 a1 7 6) (fun x_71 => eS (am_put tb_ct mm_X8_copyFrom B s_70 (.int x_71) a0 7 6) (fun s_72 => eI (gI tb_ct s_72 a1 7 7) (fun x_73 => eS (am_put tb_ct mm_X8_copyFrom B s_72 (.int x_73) a0 7 7) (fun s_74 => eI (gI tb_ct s_74 a1 7 10) (fun x_75 => eS (am_put tb_ct mm_X8_copyFrom B s_74 (.int x_75) a0 7 10) (fun s_76 => eC (am_cls s_76 a0) 7 (cV (cl_ tb_ct tb_mt B K_X8_copyWatches [.ref a0, .ref a1] s_76) (fun s_77 => eC (am_cls s_77 a0) 7 (cV (cl_ tb_ct tb_mt B K_X8_copyLeases [.ref a0, .ref a1] s_77) (fun s_78 => some (.inl none, s_78)) xo)) xo)))))))))) xo)) (fun b_67 => eC (am_cls s_64 b_65) 8 (cV (cl_ tb_ct tb_mt B K_X9_copyFrom [.ref b_65, .ref b_67] s_64) (fun s_79 => eI (gI tb_ct s_79 a1 7 5) (fun x_80 => eS (am_put tb_ct mm_X8_copyFrom B s_79 (.int x_80) a0 7 5) (fun s_81 => eI (gI tb_ct s_81 a1 7 6) (fun x_82 => eS (am_put tb_ct mm_X8_copyFrom B s_81 (.int x_82) a0 7 6) (fun s_83 => eI (gI tb_ct s_83 a1 7 7) (fun x_84 => eS (am_put tb_ct mm_X8_copyFrom B s_83 (.int x_84) a0 7 7) (fun s_85 => eI (gI tb_ct s_85 a1 7 10) (fun x_86 => eS (am_put tb_ct mm_X8_copyFrom B s_85 (.int x_86) a0 7 10) (fun s_87 => eC (am_cls s_87 a0) 7 (cV (cl_ tb_ct tb_mt B K_X8_copyWatches [.ref a0, .ref a1] s_87) (fun s_88 => eC (am_cls s_88 a0) 7 (cV (cl_ tb_ct tb_mt B K_X8_copyLeases [.ref a0, .ref a1] s_88) (fun s_89 => some (.inl none, s_89)) xo)) xo)))))))))) xo)))) xo)) (fun b_63 => eC (am_cls s_60 b_61) 1 (cV (cl_ tb_ct tb_mt B K_X2_copyFrom [.ref b_61, .ref b_63] s_60) (fun s_90 => eA (gA tb_ct s_90 a0 7 4) (eA (gA tb_ct s_90 a1 7 4) (none) (fun b_92 => none)) (fun b_91 => eA (gA tb_ct s_90 a1 7 4) (eC (am_cls s_90 b_91) 8 (cV (cl_ tb_ct tb_mt B K_X9_copyFrom [.ref b_91, .null] s_90) (fun s_94 => eI (gI tb_ct s_94 a1 7 5) (fun x_95 => eS (am_put tb_ct mm_X8_copyFrom B s_94 (.int x_95) a0 7 5) (fun s_96 => eI (gI tb_ct s_96 a1 7 6) (fun x_97 => eS (am_put tb_ct mm_X8_copyFrom B s_96 (.int x_97) a0 7 6) (fun s_98 => eI (gI tb_ct s_98 a1 7 7) (fun x_99 => eS (am_put tb_ct mm_X8_copyFrom B s_98 (.int x_99) a0 7 7) (fun s_100 => eI (gI tb_ct s_100 a1 7 10) (fun x_101 => eS (am_put tb_ct mm_X8_copyFrom B s_100 (.int x_101) a0 7 10) (fun s_102 => eC (am_cls s_102 a0) 7 (cV (cl_ tb_ct tb_mt B K_X8_copyWatches [.ref a0, .ref a1] s_102) (fun s_103 => eC (am_cls s_103 a0) 7 (cV (cl_ tb_ct tb_mt B K_X8_copyLeases [.ref a0, .ref a1] s_103) (fun s_104 => some (.inl none, s_104)) xo)) xo)))))))))) xo)) (fun b_93 => eC (am_cls s_90 b_91) 8 (cV (cl_ tb_ct tb_mt B K_X9_copyFrom [.ref b_91, .ref b_93] s_90) (fun s_105 => eI (gI tb_ct s_105 a1 7 5) (fun x_106 => eS (am_put tb_ct mm_X8_copyFrom B s_105 (.int x_106) a0 7 5) (fun s_107 => eI (gI tb_ct s_107 a1 7 6) (fun x_108 => eS (am_put tb_ct mm_X8_copyFrom B s_107 (.int x_108) a0 7 6) (fun s_109 => eI (gI tb_ct s_109 a1 7 7) (fun x_110 => eS (am_put tb_ct mm_X8_copyFrom B s_109 (.int x_110) a0 7 7) (fun s_111 => eI (gI tb_ct s_111 a1 7 10) (fun x_112 => eS (am_put tb_ct mm_X8_copyFrom B s_111 (.int x_112) a0 7 10) (fun s_113 => eC (am_cls s_113 a0) 7 (cV (cl_ tb_ct tb_mt B K_X8_copyWatches [.ref a0, .ref a1] s_113) (fun s_114 => eC (am_cls s_114 a0) 7 (cV (cl_ tb_ct tb_mt B K_X8_copyLeases [.ref a0, .ref a1] s_114) (fun s_115 => some (.inl none, s_115)) xo)) xo)))))))))) xo)))) xo)))) xo))) := by
  refine Eq.trans (rn_go 1 (pc' := 1) (L' := [.ref a0, .ref a1]) (st' := [.ref a0]) rfl) ?_
  refine Eq.trans (rn_gA (L' := [.ref a0, .ref a1]) rfl rfl rfl rfl) ?_
  refine eA_c ?_ (fun b_1 => ?_)
  · refine Eq.trans (rn_go 1 (pc' := 5) (L' := [.ref a0, .ref a1]) (st' := [.ref a1, .null]) rfl) ?_
    refine Eq.trans (rn_gA (L' := [.ref a0, .ref a1]) rfl rfl rfl rfl) ?_
    refine eA_c ?_ (fun b_2 => ?_)
    · exact rn_z rfl rfl
    · exact rn_z rfl rfl
  · refine Eq.trans (rn_go 1 (pc' := 5) (L' := [.ref a0, .ref a1]) (st' := [.ref a1, .ref b_1]) rfl) ?_
    refine Eq.trans (rn_gA (L' := [.ref a0, .ref a1]) rfl rfl rfl rfl) ?_
    refine eA_c ?_ (fun b_3 => ?_)
    · refine Eq.trans (rn_vir (L' := [.ref a0, .ref a1]) (as := [.null]) (rest := []) rfl rfl rfl rfl rfl (Nat.le_of_ble_eq_true rfl) (by decide) (by decide)) ?_
      refine eC_c ?_
      refine Eq.trans (cW_V rfl rfl) ?_
      refine cV_c (fun s_4 => ?_) (xh_nil rfl)
      refine Eq.trans (rn_go 1 (pc' := 12) (L' := [.ref a0, .ref a1]) (st' := [.ref a0]) rfl) ?_
      refine Eq.trans (rn_gA (L' := [.ref a0, .ref a1]) rfl rfl rfl rfl) ?_
      refine eA_c ?_ (fun b_5 => ?_)
      · refine Eq.trans (rn_go 1 (pc' := 16) (L' := [.ref a0, .ref a1]) (st' := [.ref a1, .null]) rfl) ?_
        refine Eq.trans (rn_gA (L' := [.ref a0, .ref a1]) rfl rfl rfl rfl) ?_
        refine eA_c ?_ (fun b_6 => ?_)
        · exact rn_z rfl rfl
        · exact rn_z rfl rfl
      · refine Eq.trans (rn_go 1 (pc' := 16) (L' := [.ref a0, .ref a1]) (st' := [.ref a1, .ref b_5]) rfl) ?_
        refine Eq.trans (rn_gA (L' := [.ref a0, .ref a1]) rfl rfl rfl rfl) ?_
        refine eA_c ?_ (fun b_7 => ?_)
        · refine Eq.trans (rn_vir (L' := [.ref a0, .ref a1]) (as := [.null]) (rest := []) rfl rfl rfl rfl rfl (Nat.le_of_ble_eq_true rfl) (by decide) (by decide)) ?_
          refine eC_c ?_
          refine Eq.trans (cW_V rfl rfl) ?_
          refine cV_c (fun s_8 => ?_) (xh_nil rfl)
          refine Eq.trans (rn_go 1 (pc' := 23) (L' := [.ref a0, .ref a1]) (st' := [.ref a0]) rfl) ?_
          refine Eq.trans (rn_gA (L' := [.ref a0, .ref a1]) rfl rfl rfl rfl) ?_
          refine eA_c ?_ (fun b_9 => ?_)
          · refine Eq.trans (rn_go 1 (pc' := 27) (L' := [.ref a0, .ref a1]) (st' := [.ref a1, .null]) rfl) ?_
            refine Eq.trans (rn_gA (L' := [.ref a0, .ref a1]) rfl rfl rfl rfl) ?_
            refine eA_c ?_ (fun b_10 => ?_)
            · exact rn_z rfl rfl
            · exact rn_z rfl rfl
          · refine Eq.trans (rn_go 1 (pc' := 27) (L' := [.ref a0, .ref a1]) (st' := [.ref a1, .ref b_9]) rfl) ?_
            refine Eq.trans (rn_gA (L' := [.ref a0, .ref a1]) rfl rfl rfl rfl) ?_
            refine eA_c ?_ (fun b_11 => ?_)
            · refine Eq.trans (rn_vir (L' := [.ref a0, .ref a1]) (as := [.null]) (rest := []) rfl rfl rfl rfl rfl (Nat.le_of_ble_eq_true rfl) (by decide) (by decide)) ?_
              refine eC_c ?_
              refine Eq.trans (cW_V rfl rfl) ?_
              refine cV_c (fun s_12 => ?_) (xh_nil rfl)
              refine Eq.trans (rn_go 2 (pc' := 35) (L' := [.ref a0, .ref a1]) (st' := [.ref a1, .ref a0]) rfl) ?_
              refine Eq.trans (rn_gI (L' := [.ref a0, .ref a1]) rfl rfl rfl rfl) ?_
              refine eI_c (fun x_13 => ?_)
              refine Eq.trans (rn_pF (L' := [.ref a0, .ref a1]) rfl rfl) ?_
              refine eS_c (fun s_14 => ?_)
              refine Eq.trans (rn_go 2 (pc' := 43) (L' := [.ref a0, .ref a1]) (st' := [.ref a1, .ref a0]) rfl) ?_
              refine Eq.trans (rn_gI (L' := [.ref a0, .ref a1]) rfl rfl rfl rfl) ?_
              refine eI_c (fun x_15 => ?_)
              refine Eq.trans (rn_pF (L' := [.ref a0, .ref a1]) rfl rfl) ?_
              refine eS_c (fun s_16 => ?_)
              refine Eq.trans (rn_go 2 (pc' := 51) (L' := [.ref a0, .ref a1]) (st' := [.ref a1, .ref a0]) rfl) ?_
              refine Eq.trans (rn_gI (L' := [.ref a0, .ref a1]) rfl rfl rfl rfl) ?_
              refine eI_c (fun x_17 => ?_)
              refine Eq.trans (rn_pF (L' := [.ref a0, .ref a1]) rfl rfl) ?_
              refine eS_c (fun s_18 => ?_)
              refine Eq.trans (rn_go 2 (pc' := 59) (L' := [.ref a0, .ref a1]) (st' := [.ref a1, .ref a0]) rfl) ?_
              refine Eq.trans (rn_gI (L' := [.ref a0, .ref a1]) rfl rfl rfl rfl) ?_
              refine eI_c (fun x_19 => ?_)
              refine Eq.trans (rn_pF (L' := [.ref a0, .ref a1]) rfl rfl) ?_
              refine eS_c (fun s_20 => ?_)
              refine Eq.trans (rn_go 2 (pc' := 67) (L' := [.ref a0, .ref a1]) (st' := [.ref a1, .ref a0]) rfl) ?_
              refine Eq.trans (rn_vir (L' := [.ref a0, .ref a1]) (as := [.ref a1]) (rest := []) rfl rfl rfl rfl rfl (Nat.le_of_ble_eq_true rfl) (by decide) (by decide)) ?_
              refine eC_c ?_
              refine Eq.trans (cW_V rfl rfl) ?_
              refine cV_c (fun s_21 => ?_) (xh_nil rfl)
              refine Eq.trans (rn_go 2 (pc' := 72) (L' := [.ref a0, .ref a1]) (st' := [.ref a1, .ref a0]) rfl) ?_
              refine Eq.trans (rn_vir (L' := [.ref a0, .ref a1]) (as := [.ref a1]) (rest := []) rfl rfl rfl rfl rfl (Nat.le_of_ble_eq_true rfl) (by decide) (by decide)) ?_
              refine eC_c ?_
              refine Eq.trans (cW_V rfl rfl) ?_
              refine cV_c (fun s_22 => ?_) (xh_nil rfl)
              exact rn_retV rfl rfl
            · refine Eq.trans (rn_vir (L' := [.ref a0, .ref a1]) (as := [.ref b_11]) (rest := []) rfl rfl rfl rfl rfl (Nat.le_of_ble_eq_true rfl) (by decide) (by decide)) ?_
              refine eC_c ?_
              refine Eq.trans (cW_V rfl rfl) ?_
              refine cV_c (fun s_23 => ?_) (xh_nil rfl)
              refine Eq.trans (rn_go 2 (pc' := 35) (L' := [.ref a0, .ref a1]) (st' := [.ref a1, .ref a0]) rfl) ?_
              refine Eq.trans (rn_gI (L' := [.ref a0, .ref a1]) rfl rfl rfl rfl) ?_
              refine eI_c (fun x_24 => ?_)
              refine Eq.trans (rn_pF (L' := [.ref a0, .ref a1]) rfl rfl) ?_
              refine eS_c (fun s_25 => ?_)
              refine Eq.trans (rn_go 2 (pc' := 43) (L' := [.ref a0, .ref a1]) (st' := [.ref a1, .ref a0]) rfl) ?_
              refine Eq.trans (rn_gI (L' := [.ref a0, .ref a1]) rfl rfl rfl rfl) ?_
              refine eI_c (fun x_26 => ?_)
              refine Eq.trans (rn_pF (L' := [.ref a0, .ref a1]) rfl rfl) ?_
              refine eS_c (fun s_27 => ?_)
              refine Eq.trans (rn_go 2 (pc' := 51) (L' := [.ref a0, .ref a1]) (st' := [.ref a1, .ref a0]) rfl) ?_
              refine Eq.trans (rn_gI (L' := [.ref a0, .ref a1]) rfl rfl rfl rfl) ?_
              refine eI_c (fun x_28 => ?_)
              refine Eq.trans (rn_pF (L' := [.ref a0, .ref a1]) rfl rfl) ?_
              refine eS_c (fun s_29 => ?_)
              refine Eq.trans (rn_go 2 (pc' := 59) (L' := [.ref a0, .ref a1]) (st' := [.ref a1, .ref a0]) rfl) ?_
              refine Eq.trans (rn_gI (L' := [.ref a0, .ref a1]) rfl rfl rfl rfl) ?_
              refine eI_c (fun x_30 => ?_)
              refine Eq.trans (rn_pF (L' := [.ref a0, .ref a1]) rfl rfl) ?_
              refine eS_c (fun s_31 => ?_)
              refine Eq.trans (rn_go 2 (pc' := 67) (L' := [.ref a0, .ref a1]) (st' := [.ref a1, .ref a0]) rfl) ?_
              refine Eq.trans (rn_vir (L' := [.ref a0, .ref a1]) (as := [.ref a1]) (rest := []) rfl rfl rfl rfl rfl (Nat.le_of_ble_eq_true rfl) (by decide) (by decide)) ?_
              refine eC_c ?_
              refine Eq.trans (cW_V rfl rfl) ?_
              refine cV_c (fun s_32 => ?_) (xh_nil rfl)
              refine Eq.trans (rn_go 2 (pc' := 72) (L' := [.ref a0, .ref a1]) (st' := [.ref a1, .ref a0]) rfl) ?_
              refine Eq.trans (rn_vir (L' := [.ref a0, .ref a1]) (as := [.ref a1]) (rest := []) rfl rfl rfl rfl rfl (Nat.le_of_ble_eq_true rfl) (by decide) (by decide)) ?_
              refine eC_c ?_
              refine Eq.trans (cW_V rfl rfl) ?_
              refine cV_c (fun s_33 => ?_) (xh_nil rfl)
              exact rn_retV rfl rfl
        · refine Eq.trans (rn_vir (L' := [.ref a0, .ref a1]) (as := [.ref b_7]) (rest := []) rfl rfl rfl rfl rfl (Nat.le_of_ble_eq_true rfl) (by decide) (by decide)) ?_
          refine eC_c ?_
          refine Eq.trans (cW_V rfl rfl) ?_
          refine cV_c (fun s_34 => ?_) (xh_nil rfl)
          refine Eq.trans (rn_go 1 (pc' := 23) (L' := [.ref a0, .ref a1]) (st' := [.ref a0]) rfl) ?_
          refine Eq.trans (rn_gA (L' := [.ref a0, .ref a1]) rfl rfl rfl rfl) ?_
          refine eA_c ?_ (fun b_35 => ?_)
          · refine Eq.trans (rn_go 1 (pc' := 27) (L' := [.ref a0, .ref a1]) (st' := [.ref a1, .null]) rfl) ?_
            refine Eq.trans (rn_gA (L' := [.ref a0, .ref a1]) rfl rfl rfl rfl) ?_
            refine eA_c ?_ (fun b_36 => ?_)
            · exact rn_z rfl rfl
            · exact rn_z rfl rfl
          · refine Eq.trans (rn_go 1 (pc' := 27) (L' := [.ref a0, .ref a1]) (st' := [.ref a1, .ref b_35]) rfl) ?_
            refine Eq.trans (rn_gA (L' := [.ref a0, .ref a1]) rfl rfl rfl rfl) ?_
            refine eA_c ?_ (fun b_37 => ?_)
            · refine Eq.trans (rn_vir (L' := [.ref a0, .ref a1]) (as := [.null]) (rest := []) rfl rfl rfl rfl rfl (Nat.le_of_ble_eq_true rfl) (by decide) (by decide)) ?_
              refine eC_c ?_
              refine Eq.trans (cW_V rfl rfl) ?_
              refine cV_c (fun s_38 => ?_) (xh_nil rfl)
              refine Eq.trans (rn_go 2 (pc' := 35) (L' := [.ref a0, .ref a1]) (st' := [.ref a1, .ref a0]) rfl) ?_
              refine Eq.trans (rn_gI (L' := [.ref a0, .ref a1]) rfl rfl rfl rfl) ?_
              refine eI_c (fun x_39 => ?_)
              refine Eq.trans (rn_pF (L' := [.ref a0, .ref a1]) rfl rfl) ?_
              refine eS_c (fun s_40 => ?_)
              refine Eq.trans (rn_go 2 (pc' := 43) (L' := [.ref a0, .ref a1]) (st' := [.ref a1, .ref a0]) rfl) ?_
              refine Eq.trans (rn_gI (L' := [.ref a0, .ref a1]) rfl rfl rfl rfl) ?_
              refine eI_c (fun x_41 => ?_)
              refine Eq.trans (rn_pF (L' := [.ref a0, .ref a1]) rfl rfl) ?_
              refine eS_c (fun s_42 => ?_)
              refine Eq.trans (rn_go 2 (pc' := 51) (L' := [.ref a0, .ref a1]) (st' := [.ref a1, .ref a0]) rfl) ?_
              refine Eq.trans (rn_gI (L' := [.ref a0, .ref a1]) rfl rfl rfl rfl) ?_
              refine eI_c (fun x_43 => ?_)
              refine Eq.trans (rn_pF (L' := [.ref a0, .ref a1]) rfl rfl) ?_
              refine eS_c (fun s_44 => ?_)
              refine Eq.trans (rn_go 2 (pc' := 59) (L' := [.ref a0, .ref a1]) (st' := [.ref a1, .ref a0]) rfl) ?_
              refine Eq.trans (rn_gI (L' := [.ref a0, .ref a1]) rfl rfl rfl rfl) ?_
              refine eI_c (fun x_45 => ?_)
              refine Eq.trans (rn_pF (L' := [.ref a0, .ref a1]) rfl rfl) ?_
              refine eS_c (fun s_46 => ?_)
              refine Eq.trans (rn_go 2 (pc' := 67) (L' := [.ref a0, .ref a1]) (st' := [.ref a1, .ref a0]) rfl) ?_
              refine Eq.trans (rn_vir (L' := [.ref a0, .ref a1]) (as := [.ref a1]) (rest := []) rfl rfl rfl rfl rfl (Nat.le_of_ble_eq_true rfl) (by decide) (by decide)) ?_
              refine eC_c ?_
              refine Eq.trans (cW_V rfl rfl) ?_
              refine cV_c (fun s_47 => ?_) (xh_nil rfl)
              refine Eq.trans (rn_go 2 (pc' := 72) (L' := [.ref a0, .ref a1]) (st' := [.ref a1, .ref a0]) rfl) ?_
              refine Eq.trans (rn_vir (L' := [.ref a0, .ref a1]) (as := [.ref a1]) (rest := []) rfl rfl rfl rfl rfl (Nat.le_of_ble_eq_true rfl) (by decide) (by decide)) ?_
              refine eC_c ?_
              refine Eq.trans (cW_V rfl rfl) ?_
              refine cV_c (fun s_48 => ?_) (xh_nil rfl)
              exact rn_retV rfl rfl
            · refine Eq.trans (rn_vir (L' := [.ref a0, .ref a1]) (as := [.ref b_37]) (rest := []) rfl rfl rfl rfl rfl (Nat.le_of_ble_eq_true rfl) (by decide) (by decide)) ?_
              refine eC_c ?_
              refine Eq.trans (cW_V rfl rfl) ?_
              refine cV_c (fun s_49 => ?_) (xh_nil rfl)
              refine Eq.trans (rn_go 2 (pc' := 35) (L' := [.ref a0, .ref a1]) (st' := [.ref a1, .ref a0]) rfl) ?_
              refine Eq.trans (rn_gI (L' := [.ref a0, .ref a1]) rfl rfl rfl rfl) ?_
              refine eI_c (fun x_50 => ?_)
              refine Eq.trans (rn_pF (L' := [.ref a0, .ref a1]) rfl rfl) ?_
              refine eS_c (fun s_51 => ?_)
              refine Eq.trans (rn_go 2 (pc' := 43) (L' := [.ref a0, .ref a1]) (st' := [.ref a1, .ref a0]) rfl) ?_
              refine Eq.trans (rn_gI (L' := [.ref a0, .ref a1]) rfl rfl rfl rfl) ?_
              refine eI_c (fun x_52 => ?_)
              refine Eq.trans (rn_pF (L' := [.ref a0, .ref a1]) rfl rfl) ?_
              refine eS_c (fun s_53 => ?_)
              refine Eq.trans (rn_go 2 (pc' := 51) (L' := [.ref a0, .ref a1]) (st' := [.ref a1, .ref a0]) rfl) ?_
              refine Eq.trans (rn_gI (L' := [.ref a0, .ref a1]) rfl rfl rfl rfl) ?_
              refine eI_c (fun x_54 => ?_)
              refine Eq.trans (rn_pF (L' := [.ref a0, .ref a1]) rfl rfl) ?_
              refine eS_c (fun s_55 => ?_)
              refine Eq.trans (rn_go 2 (pc' := 59) (L' := [.ref a0, .ref a1]) (st' := [.ref a1, .ref a0]) rfl) ?_
              refine Eq.trans (rn_gI (L' := [.ref a0, .ref a1]) rfl rfl rfl rfl) ?_
              refine eI_c (fun x_56 => ?_)
              refine Eq.trans (rn_pF (L' := [.ref a0, .ref a1]) rfl rfl) ?_
              refine eS_c (fun s_57 => ?_)
              refine Eq.trans (rn_go 2 (pc' := 67) (L' := [.ref a0, .ref a1]) (st' := [.ref a1, .ref a0]) rfl) ?_
              refine Eq.trans (rn_vir (L' := [.ref a0, .ref a1]) (as := [.ref a1]) (rest := []) rfl rfl rfl rfl rfl (Nat.le_of_ble_eq_true rfl) (by decide) (by decide)) ?_
              refine eC_c ?_
              refine Eq.trans (cW_V rfl rfl) ?_
              refine cV_c (fun s_58 => ?_) (xh_nil rfl)
              refine Eq.trans (rn_go 2 (pc' := 72) (L' := [.ref a0, .ref a1]) (st' := [.ref a1, .ref a0]) rfl) ?_
              refine Eq.trans (rn_vir (L' := [.ref a0, .ref a1]) (as := [.ref a1]) (rest := []) rfl rfl rfl rfl rfl (Nat.le_of_ble_eq_true rfl) (by decide) (by decide)) ?_
              refine eC_c ?_
              refine Eq.trans (cW_V rfl rfl) ?_
              refine cV_c (fun s_59 => ?_) (xh_nil rfl)
              exact rn_retV rfl rfl
    · refine Eq.trans (rn_vir (L' := [.ref a0, .ref a1]) (as := [.ref b_3]) (rest := []) rfl rfl rfl rfl rfl (Nat.le_of_ble_eq_true rfl) (by decide) (by decide)) ?_
      refine eC_c ?_
      refine Eq.trans (cW_V rfl rfl) ?_
      refine cV_c (fun s_60 => ?_) (xh_nil rfl)
      refine Eq.trans (rn_go 1 (pc' := 12) (L' := [.ref a0, .ref a1]) (st' := [.ref a0]) rfl) ?_
      refine Eq.trans (rn_gA (L' := [.ref a0, .ref a1]) rfl rfl rfl rfl) ?_
      refine eA_c ?_ (fun b_61 => ?_)
      · refine Eq.trans (rn_go 1 (pc' := 16) (L' := [.ref a0, .ref a1]) (st' := [.ref a1, .null]) rfl) ?_
        refine Eq.trans (rn_gA (L' := [.ref a0, .ref a1]) rfl rfl rfl rfl) ?_
        refine eA_c ?_ (fun b_62 => ?_)
        · exact rn_z rfl rfl
        · exact rn_z rfl rfl
      · refine Eq.trans (rn_go 1 (pc' := 16) (L' := [.ref a0, .ref a1]) (st' := [.ref a1, .ref b_61]) rfl) ?_
        refine Eq.trans (rn_gA (L' := [.ref a0, .ref a1]) rfl rfl rfl rfl) ?_
        refine eA_c ?_ (fun b_63 => ?_)
        · refine Eq.trans (rn_vir (L' := [.ref a0, .ref a1]) (as := [.null]) (rest := []) rfl rfl rfl rfl rfl (Nat.le_of_ble_eq_true rfl) (by decide) (by decide)) ?_
          refine eC_c ?_
          refine Eq.trans (cW_V rfl rfl) ?_
          refine cV_c (fun s_64 => ?_) (xh_nil rfl)
          refine Eq.trans (rn_go 1 (pc' := 23) (L' := [.ref a0, .ref a1]) (st' := [.ref a0]) rfl) ?_
          refine Eq.trans (rn_gA (L' := [.ref a0, .ref a1]) rfl rfl rfl rfl) ?_
          refine eA_c ?_ (fun b_65 => ?_)
          · refine Eq.trans (rn_go 1 (pc' := 27) (L' := [.ref a0, .ref a1]) (st' := [.ref a1, .null]) rfl) ?_
            refine Eq.trans (rn_gA (L' := [.ref a0, .ref a1]) rfl rfl rfl rfl) ?_
            refine eA_c ?_ (fun b_66 => ?_)
            · exact rn_z rfl rfl
            · exact rn_z rfl rfl
          · refine Eq.trans (rn_go 1 (pc' := 27) (L' := [.ref a0, .ref a1]) (st' := [.ref a1, .ref b_65]) rfl) ?_
            refine Eq.trans (rn_gA (L' := [.ref a0, .ref a1]) rfl rfl rfl rfl) ?_
            refine eA_c ?_ (fun b_67 => ?_)
            · refine Eq.trans (rn_vir (L' := [.ref a0, .ref a1]) (as := [.null]) (rest := []) rfl rfl rfl rfl rfl (Nat.le_of_ble_eq_true rfl) (by decide) (by decide)) ?_
              refine eC_c ?_
              refine Eq.trans (cW_V rfl rfl) ?_
              refine cV_c (fun s_68 => ?_) (xh_nil rfl)
              refine Eq.trans (rn_go 2 (pc' := 35) (L' := [.ref a0, .ref a1]) (st' := [.ref a1, .ref a0]) rfl) ?_
              refine Eq.trans (rn_gI (L' := [.ref a0, .ref a1]) rfl rfl rfl rfl) ?_
              refine eI_c (fun x_69 => ?_)
              refine Eq.trans (rn_pF (L' := [.ref a0, .ref a1]) rfl rfl) ?_
              refine eS_c (fun s_70 => ?_)
              refine Eq.trans (rn_go 2 (pc' := 43) (L' := [.ref a0, .ref a1]) (st' := [.ref a1, .ref a0]) rfl) ?_
              refine Eq.trans (rn_gI (L' := [.ref a0, .ref a1]) rfl rfl rfl rfl) ?_
              refine eI_c (fun x_71 => ?_)
              refine Eq.trans (rn_pF (L' := [.ref a0, .ref a1]) rfl rfl) ?_
              refine eS_c (fun s_72 => ?_)
              refine Eq.trans (rn_go 2 (pc' := 51) (L' := [.ref a0, .ref a1]) (st' := [.ref a1, .ref a0]) rfl) ?_
              refine Eq.trans (rn_gI (L' := [.ref a0, .ref a1]) rfl rfl rfl rfl) ?_
              refine eI_c (fun x_73 => ?_)
              refine Eq.trans (rn_pF (L' := [.ref a0, .ref a1]) rfl rfl) ?_
              refine eS_c (fun s_74 => ?_)
              refine Eq.trans (rn_go 2 (pc' := 59) (L' := [.ref a0, .ref a1]) (st' := [.ref a1, .ref a0]) rfl) ?_
              refine Eq.trans (rn_gI (L' := [.ref a0, .ref a1]) rfl rfl rfl rfl) ?_
              refine eI_c (fun x_75 => ?_)
              refine Eq.trans (rn_pF (L' := [.ref a0, .ref a1]) rfl rfl) ?_
              refine eS_c (fun s_76 => ?_)
              refine Eq.trans (rn_go 2 (pc' := 67) (L' := [.ref a0, .ref a1]) (st' := [.ref a1, .ref a0]) rfl) ?_
              refine Eq.trans (rn_vir (L' := [.ref a0, .ref a1]) (as := [.ref a1]) (rest := []) rfl rfl rfl rfl rfl (Nat.le_of_ble_eq_true rfl) (by decide) (by decide)) ?_
              refine eC_c ?_
              refine Eq.trans (cW_V rfl rfl) ?_
              refine cV_c (fun s_77 => ?_) (xh_nil rfl)
              refine Eq.trans (rn_go 2 (pc' := 72) (L' := [.ref a0, .ref a1]) (st' := [.ref a1, .ref a0]) rfl) ?_
              refine Eq.trans (rn_vir (L' := [.ref a0, .ref a1]) (as := [.ref a1]) (rest := []) rfl rfl rfl rfl rfl (Nat.le_of_ble_eq_true rfl) (by decide) (by decide)) ?_
              refine eC_c ?_
              refine Eq.trans (cW_V rfl rfl) ?_
              refine cV_c (fun s_78 => ?_) (xh_nil rfl)
              exact rn_retV rfl rfl
            · refine Eq.trans (rn_vir (L' := [.ref a0, .ref a1]) (as := [.ref b_67]) (rest := []) rfl rfl rfl rfl rfl (Nat.le_of_ble_eq_true rfl) (by decide) (by decide)) ?_
              refine eC_c ?_
              refine Eq.trans (cW_V rfl rfl) ?_
              refine cV_c (fun s_79 => ?_) (xh_nil rfl)
              refine Eq.trans (rn_go 2 (pc' := 35) (L' := [.ref a0, .ref a1]) (st' := [.ref a1, .ref a0]) rfl) ?_
              refine Eq.trans (rn_gI (L' := [.ref a0, .ref a1]) rfl rfl rfl rfl) ?_
              refine eI_c (fun x_80 => ?_)
              refine Eq.trans (rn_pF (L' := [.ref a0, .ref a1]) rfl rfl) ?_
              refine eS_c (fun s_81 => ?_)
              refine Eq.trans (rn_go 2 (pc' := 43) (L' := [.ref a0, .ref a1]) (st' := [.ref a1, .ref a0]) rfl) ?_
              refine Eq.trans (rn_gI (L' := [.ref a0, .ref a1]) rfl rfl rfl rfl) ?_
              refine eI_c (fun x_82 => ?_)
              refine Eq.trans (rn_pF (L' := [.ref a0, .ref a1]) rfl rfl) ?_
              refine eS_c (fun s_83 => ?_)
              refine Eq.trans (rn_go 2 (pc' := 51) (L' := [.ref a0, .ref a1]) (st' := [.ref a1, .ref a0]) rfl) ?_
              refine Eq.trans (rn_gI (L' := [.ref a0, .ref a1]) rfl rfl rfl rfl) ?_
              refine eI_c (fun x_84 => ?_)
              refine Eq.trans (rn_pF (L' := [.ref a0, .ref a1]) rfl rfl) ?_
              refine eS_c (fun s_85 => ?_)
              refine Eq.trans (rn_go 2 (pc' := 59) (L' := [.ref a0, .ref a1]) (st' := [.ref a1, .ref a0]) rfl) ?_
              refine Eq.trans (rn_gI (L' := [.ref a0, .ref a1]) rfl rfl rfl rfl) ?_
              refine eI_c (fun x_86 => ?_)
              refine Eq.trans (rn_pF (L' := [.ref a0, .ref a1]) rfl rfl) ?_
              refine eS_c (fun s_87 => ?_)
              refine Eq.trans (rn_go 2 (pc' := 67) (L' := [.ref a0, .ref a1]) (st' := [.ref a1, .ref a0]) rfl) ?_
              refine Eq.trans (rn_vir (L' := [.ref a0, .ref a1]) (as := [.ref a1]) (rest := []) rfl rfl rfl rfl rfl (Nat.le_of_ble_eq_true rfl) (by decide) (by decide)) ?_
              refine eC_c ?_
              refine Eq.trans (cW_V rfl rfl) ?_
              refine cV_c (fun s_88 => ?_) (xh_nil rfl)
              refine Eq.trans (rn_go 2 (pc' := 72) (L' := [.ref a0, .ref a1]) (st' := [.ref a1, .ref a0]) rfl) ?_
              refine Eq.trans (rn_vir (L' := [.ref a0, .ref a1]) (as := [.ref a1]) (rest := []) rfl rfl rfl rfl rfl (Nat.le_of_ble_eq_true rfl) (by decide) (by decide)) ?_
              refine eC_c ?_
              refine Eq.trans (cW_V rfl rfl) ?_
              refine cV_c (fun s_89 => ?_) (xh_nil rfl)
              exact rn_retV rfl rfl
        · refine Eq.trans (rn_vir (L' := [.ref a0, .ref a1]) (as := [.ref b_63]) (rest := []) rfl rfl rfl rfl rfl (Nat.le_of_ble_eq_true rfl) (by decide) (by decide)) ?_
          refine eC_c ?_
          refine Eq.trans (cW_V rfl rfl) ?_
          refine cV_c (fun s_90 => ?_) (xh_nil rfl)
          refine Eq.trans (rn_go 1 (pc' := 23) (L' := [.ref a0, .ref a1]) (st' := [.ref a0]) rfl) ?_
          refine Eq.trans (rn_gA (L' := [.ref a0, .ref a1]) rfl rfl rfl rfl) ?_
          refine eA_c ?_ (fun b_91 => ?_)
          · refine Eq.trans (rn_go 1 (pc' := 27) (L' := [.ref a0, .ref a1]) (st' := [.ref a1, .null]) rfl) ?_
            refine Eq.trans (rn_gA (L' := [.ref a0, .ref a1]) rfl rfl rfl rfl) ?_
            refine eA_c ?_ (fun b_92 => ?_)
            · exact rn_z rfl rfl
            · exact rn_z rfl rfl
          · refine Eq.trans (rn_go 1 (pc' := 27) (L' := [.ref a0, .ref a1]) (st' := [.ref a1, .ref b_91]) rfl) ?_
            refine Eq.trans (rn_gA (L' := [.ref a0, .ref a1]) rfl rfl rfl rfl) ?_
            refine eA_c ?_ (fun b_93 => ?_)
            · refine Eq.trans (rn_vir (L' := [.ref a0, .ref a1]) (as := [.null]) (rest := []) rfl rfl rfl rfl rfl (Nat.le_of_ble_eq_true rfl) (by decide) (by decide)) ?_
              refine eC_c ?_
              refine Eq.trans (cW_V rfl rfl) ?_
              refine cV_c (fun s_94 => ?_) (xh_nil rfl)
              refine Eq.trans (rn_go 2 (pc' := 35) (L' := [.ref a0, .ref a1]) (st' := [.ref a1, .ref a0]) rfl) ?_
              refine Eq.trans (rn_gI (L' := [.ref a0, .ref a1]) rfl rfl rfl rfl) ?_
              refine eI_c (fun x_95 => ?_)
              refine Eq.trans (rn_pF (L' := [.ref a0, .ref a1]) rfl rfl) ?_
              refine eS_c (fun s_96 => ?_)
              refine Eq.trans (rn_go 2 (pc' := 43) (L' := [.ref a0, .ref a1]) (st' := [.ref a1, .ref a0]) rfl) ?_
              refine Eq.trans (rn_gI (L' := [.ref a0, .ref a1]) rfl rfl rfl rfl) ?_
              refine eI_c (fun x_97 => ?_)
              refine Eq.trans (rn_pF (L' := [.ref a0, .ref a1]) rfl rfl) ?_
              refine eS_c (fun s_98 => ?_)
              refine Eq.trans (rn_go 2 (pc' := 51) (L' := [.ref a0, .ref a1]) (st' := [.ref a1, .ref a0]) rfl) ?_
              refine Eq.trans (rn_gI (L' := [.ref a0, .ref a1]) rfl rfl rfl rfl) ?_
              refine eI_c (fun x_99 => ?_)
              refine Eq.trans (rn_pF (L' := [.ref a0, .ref a1]) rfl rfl) ?_
              refine eS_c (fun s_100 => ?_)
              refine Eq.trans (rn_go 2 (pc' := 59) (L' := [.ref a0, .ref a1]) (st' := [.ref a1, .ref a0]) rfl) ?_
              refine Eq.trans (rn_gI (L' := [.ref a0, .ref a1]) rfl rfl rfl rfl) ?_
              refine eI_c (fun x_101 => ?_)
              refine Eq.trans (rn_pF (L' := [.ref a0, .ref a1]) rfl rfl) ?_
              refine eS_c (fun s_102 => ?_)
              refine Eq.trans (rn_go 2 (pc' := 67) (L' := [.ref a0, .ref a1]) (st' := [.ref a1, .ref a0]) rfl) ?_
              refine Eq.trans (rn_vir (L' := [.ref a0, .ref a1]) (as := [.ref a1]) (rest := []) rfl rfl rfl rfl rfl (Nat.le_of_ble_eq_true rfl) (by decide) (by decide)) ?_
              refine eC_c ?_
              refine Eq.trans (cW_V rfl rfl) ?_
              refine cV_c (fun s_103 => ?_) (xh_nil rfl)
              refine Eq.trans (rn_go 2 (pc' := 72) (L' := [.ref a0, .ref a1]) (st' := [.ref a1, .ref a0]) rfl) ?_
              refine Eq.trans (rn_vir (L' := [.ref a0, .ref a1]) (as := [.ref a1]) (rest := []) rfl rfl rfl rfl rfl (Nat.le_of_ble_eq_true rfl) (by decide) (by decide)) ?_
              refine eC_c ?_
              refine Eq.trans (cW_V rfl rfl) ?_
              refine cV_c (fun s_104 => ?_) (xh_nil rfl)
              exact rn_retV rfl rfl
            · refine Eq.trans (rn_vir (L' := [.ref a0, .ref a1]) (as := [.ref b_93]) (rest := []) rfl rfl rfl rfl rfl (Nat.le_of_ble_eq_true rfl) (by decide) (by decide)) ?_
              refine eC_c ?_
              refine Eq.trans (cW_V rfl rfl) ?_
              refine cV_c (fun s_105 => ?_) (xh_nil rfl)
              refine Eq.trans (rn_go 2 (pc' := 35) (L' := [.ref a0, .ref a1]) (st' := [.ref a1, .ref a0]) rfl) ?_
              refine Eq.trans (rn_gI (L' := [.ref a0, .ref a1]) rfl rfl rfl rfl) ?_
              refine eI_c (fun x_106 => ?_)
              refine Eq.trans (rn_pF (L' := [.ref a0, .ref a1]) rfl rfl) ?_
              refine eS_c (fun s_107 => ?_)
              refine Eq.trans (rn_go 2 (pc' := 43) (L' := [.ref a0, .ref a1]) (st' := [.ref a1, .ref a0]) rfl) ?_
              refine Eq.trans (rn_gI (L' := [.ref a0, .ref a1]) rfl rfl rfl rfl) ?_
              refine eI_c (fun x_108 => ?_)
              refine Eq.trans (rn_pF (L' := [.ref a0, .ref a1]) rfl rfl) ?_
              refine eS_c (fun s_109 => ?_)
              refine Eq.trans (rn_go 2 (pc' := 51) (L' := [.ref a0, .ref a1]) (st' := [.ref a1, .ref a0]) rfl) ?_
              refine Eq.trans (rn_gI (L' := [.ref a0, .ref a1]) rfl rfl rfl rfl) ?_
              refine eI_c (fun x_110 => ?_)
              refine Eq.trans (rn_pF (L' := [.ref a0, .ref a1]) rfl rfl) ?_
              refine eS_c (fun s_111 => ?_)
              refine Eq.trans (rn_go 2 (pc' := 59) (L' := [.ref a0, .ref a1]) (st' := [.ref a1, .ref a0]) rfl) ?_
              refine Eq.trans (rn_gI (L' := [.ref a0, .ref a1]) rfl rfl rfl rfl) ?_
              refine eI_c (fun x_112 => ?_)
              refine Eq.trans (rn_pF (L' := [.ref a0, .ref a1]) rfl rfl) ?_
              refine eS_c (fun s_113 => ?_)
              refine Eq.trans (rn_go 2 (pc' := 67) (L' := [.ref a0, .ref a1]) (st' := [.ref a1, .ref a0]) rfl) ?_
              refine Eq.trans (rn_vir (L' := [.ref a0, .ref a1]) (as := [.ref a1]) (rest := []) rfl rfl rfl rfl rfl (Nat.le_of_ble_eq_true rfl) (by decide) (by decide)) ?_
              refine eC_c ?_
              refine Eq.trans (cW_V rfl rfl) ?_
              refine cV_c (fun s_114 => ?_) (xh_nil rfl)
              refine Eq.trans (rn_go 2 (pc' := 72) (L' := [.ref a0, .ref a1]) (st' := [.ref a1, .ref a0]) rfl) ?_
              refine Eq.trans (rn_vir (L' := [.ref a0, .ref a1]) (as := [.ref a1]) (rest := []) rfl rfl rfl rfl rfl (Nat.le_of_ble_eq_true rfl) (by decide) (by decide)) ?_
              refine eC_c ?_
              refine Eq.trans (cW_V rfl rfl) ?_
              refine cV_c (fun s_115 => ?_) (xh_nil rfl)
              exact rn_retV rfl rfl
theorem in_X8_copyWatches {B : Nat} (a0 : Nat) (a1 : Nat) (s : am_S) : cl_ tb_ct tb_mt B K_X8_copyWatches [.ref a0, .ref a1] s = rn_ tb_ct tb_mt B mm_X8_copyWatches 0 [.ref a0, .ref a1, am_un, am_un, am_un] [] s := cl_in rfl rfl rfl rfl
theorem dc_X8_copyWatches_0 {B : Nat} (a0 : Nat) (a1 : Nat) (s : am_S) : rn_ tb_ct tb_mt B mm_X8_copyWatches 0 [.ref a0, .ref a1, am_un, am_un, am_un] [] s = eI (gI tb_ct s a1 7 8) (fun x_1 => eS (am_put tb_ct mm_X8_copyWatches B s (.int x_1) a0 7 8) (fun s_2 => rn_ tb_ct tb_mt B mm_X8_copyWatches 10 [.ref a0, .ref a1, .int (0 : Int32), am_un, am_un] [] s_2)) := by
  refine Eq.trans (rn_go 2 (pc' := 2) (L' := [.ref a0, .ref a1, am_un, am_un, am_un]) (st' := [.ref a1, .ref a0]) rfl) ?_
  refine Eq.trans (rn_gI (L' := [.ref a0, .ref a1, am_un, am_un, am_un]) rfl rfl rfl rfl) ?_
  refine eI_c (fun x_1 => ?_)
  refine Eq.trans (rn_pF (L' := [.ref a0, .ref a1, am_un, am_un, am_un]) rfl rfl) ?_
  refine eS_c (fun s_2 => ?_)
  exact rn_go 2 (pc' := 10) (L' := [.ref a0, .ref a1, .int (0 : Int32), am_un, am_un]) (st' := []) rfl
theorem dc_X8_copyWatches_10 {B : Nat} (a0 : Nat) (a1 : Nat) (x2 : Int32) (s : am_S) : rn_ tb_ct tb_mt B mm_X8_copyWatches 10 [.ref a0, .ref a1, .int x2, am_un, am_un] [] s = eI (gI tb_ct s a0 7 8) (fun x_1 => if x_1 ≤ x2 then some (.inl none, s) else eC (am_cls s a0) 7 (cA (cl_ tb_ct tb_mt B K_X8_watchAt [.ref a0, .int x2] s) (fun s_2 => eC (am_cls s_2 a1) 7 (cA (cl_ tb_ct tb_mt B K_X8_watchAt [.ref a1, .int x2] s_2) (fun s_4 => rn_ tb_ct tb_mt B mm_X8_copyWatches 46 [.ref a0, .ref a1, .int x2, va_rf none, va_rf none] [] s_4) (fun b_5 s_4 => rn_ tb_ct tb_mt B mm_X8_copyWatches 46 [.ref a0, .ref a1, .int x2, va_rf none, va_rf (some b_5)] [] s_4) xo)) (fun b_3 s_2 => eC (am_cls s_2 a1) 7 (cA (cl_ tb_ct tb_mt B K_X8_watchAt [.ref a1, .int x2] s_2) (fun s_6 => rn_ tb_ct tb_mt B mm_X8_copyWatches 46 [.ref a0, .ref a1, .int x2, va_rf (some b_3), va_rf none] [] s_6) (fun b_7 s_6 => eC (am_cls s_6 b_3) 9 (cV (cl_ tb_ct tb_mt B K_X11_copyFrom [.ref b_3, .ref b_7] s_6) (fun s_8 => rn_ tb_ct tb_mt B mm_X8_copyWatches 46 [.ref a0, .ref a1, .int x2, va_rf (some b_3), va_rf (some b_7)] [] s_8) xo)) xo)) xo)) := by
  refine Eq.trans (rn_go 2 (pc' := 12) (L' := [.ref a0, .ref a1, .int x2, am_un, am_un]) (st' := [.ref a0, .int x2]) rfl) ?_
  refine Eq.trans (rn_gI (L' := [.ref a0, .ref a1, .int x2, am_un, am_un]) rfl rfl rfl rfl) ?_
  refine eI_c (fun x_1 => ?_)
  refine Eq.trans (rn_icge (L' := [.ref a0, .ref a1, .int x2, am_un, am_un]) rfl rfl) ?_
  refine if_c ?_ ?_
  · exact rn_retV rfl rfl
  · refine Eq.trans (rn_go 2 (pc' := 20) (L' := [.ref a0, .ref a1, .int x2, am_un, am_un]) (st' := [.int x2, .ref a0]) rfl) ?_
    refine Eq.trans (rn_vir (L' := [.ref a0, .ref a1, .int x2, am_un, am_un]) (as := [.int x2]) (rest := []) rfl rfl rfl rfl rfl (Nat.le_of_ble_eq_true rfl) (by decide) (by decide)) ?_
    refine eC_c ?_
    refine Eq.trans (cW_A rfl rfl rfl) ?_
    refine cA_c (fun s_2 => ?_) (fun b_3 s_2 => ?_) (xh_nil rfl)
    · refine Eq.trans (rn_go 3 (pc' := 26) (L' := [.ref a0, .ref a1, .int x2, .null, am_un]) (st' := [.int x2, .ref a1]) rfl) ?_
      refine Eq.trans (rn_vir (L' := [.ref a0, .ref a1, .int x2, .null, am_un]) (as := [.int x2]) (rest := []) rfl rfl rfl rfl rfl (Nat.le_of_ble_eq_true rfl) (by decide) (by decide)) ?_
      refine eC_c ?_
      refine Eq.trans (cW_A rfl rfl rfl) ?_
      refine cA_c (fun s_4 => ?_) (fun b_5 s_4 => ?_) (xh_nil rfl)
      · exact rn_go 3 (pc' := 46) (L' := [.ref a0, .ref a1, .int x2, va_rf none, va_rf none]) (st' := []) rfl
      · exact rn_go 3 (pc' := 46) (L' := [.ref a0, .ref a1, .int x2, va_rf none, va_rf (some b_5)]) (st' := []) rfl
    · refine Eq.trans (rn_go 3 (pc' := 26) (L' := [.ref a0, .ref a1, .int x2, .ref b_3, am_un]) (st' := [.int x2, .ref a1]) rfl) ?_
      refine Eq.trans (rn_vir (L' := [.ref a0, .ref a1, .int x2, .ref b_3, am_un]) (as := [.int x2]) (rest := []) rfl rfl rfl rfl rfl (Nat.le_of_ble_eq_true rfl) (by decide) (by decide)) ?_
      refine eC_c ?_
      refine Eq.trans (cW_A rfl rfl rfl) ?_
      refine cA_c (fun s_6 => ?_) (fun b_7 s_6 => ?_) (xh_nil rfl)
      · exact rn_go 5 (pc' := 46) (L' := [.ref a0, .ref a1, .int x2, va_rf (some b_3), va_rf none]) (st' := []) rfl
      · refine Eq.trans (rn_go 7 (pc' := 43) (L' := [.ref a0, .ref a1, .int x2, .ref b_3, .ref b_7]) (st' := [.ref b_7, .ref b_3]) rfl) ?_
        refine Eq.trans (rn_vir (L' := [.ref a0, .ref a1, .int x2, .ref b_3, .ref b_7]) (as := [.ref b_7]) (rest := []) rfl rfl rfl rfl rfl (Nat.le_of_ble_eq_true rfl) (by decide) (by decide)) ?_
        refine eC_c ?_
        refine Eq.trans (cW_V rfl rfl) ?_
        refine cV_c (fun s_8 => ?_) (xh_nil rfl)
        rfl
theorem dc_X8_copyWatches_46 {B : Nat} (a0 : Nat) (a1 : Nat) (x2 : Int32) (w3 : Value) (w4 : Value) (s : am_S) : rn_ tb_ct tb_mt B mm_X8_copyWatches 46 [.ref a0, .ref a1, .int x2, w3, w4] [] s = rn_ tb_ct tb_mt B mm_X8_copyWatches 10 [.ref a0, .ref a1, .int (x2 + (1 : Int32)), am_un, am_un] [] s := by
  exact rn_go 2 (pc' := 10) (L' := [.ref a0, .ref a1, .int (x2 + (1 : Int32)), am_un, am_un]) (st' := []) rfl
theorem in_X8_copyLeases {B : Nat} (a0 : Nat) (a1 : Nat) (s : am_S) : cl_ tb_ct tb_mt B K_X8_copyLeases [.ref a0, .ref a1] s = rn_ tb_ct tb_mt B mm_X8_copyLeases 0 [.ref a0, .ref a1, am_un, am_un, am_un] [] s := cl_in rfl rfl rfl rfl
theorem dc_X8_copyLeases_0 {B : Nat} (a0 : Nat) (a1 : Nat) (s : am_S) : rn_ tb_ct tb_mt B mm_X8_copyLeases 0 [.ref a0, .ref a1, am_un, am_un, am_un] [] s = eI (gI tb_ct s a1 7 9) (fun x_1 => eS (am_put tb_ct mm_X8_copyLeases B s (.int x_1) a0 7 9) (fun s_2 => rn_ tb_ct tb_mt B mm_X8_copyLeases 10 [.ref a0, .ref a1, .int (0 : Int32), am_un, am_un] [] s_2)) := by
  refine Eq.trans (rn_go 2 (pc' := 2) (L' := [.ref a0, .ref a1, am_un, am_un, am_un]) (st' := [.ref a1, .ref a0]) rfl) ?_
  refine Eq.trans (rn_gI (L' := [.ref a0, .ref a1, am_un, am_un, am_un]) rfl rfl rfl rfl) ?_
  refine eI_c (fun x_1 => ?_)
  refine Eq.trans (rn_pF (L' := [.ref a0, .ref a1, am_un, am_un, am_un]) rfl rfl) ?_
  refine eS_c (fun s_2 => ?_)
  exact rn_go 2 (pc' := 10) (L' := [.ref a0, .ref a1, .int (0 : Int32), am_un, am_un]) (st' := []) rfl
theorem dc_X8_copyLeases_10 {B : Nat} (a0 : Nat) (a1 : Nat) (x2 : Int32) (s : am_S) : rn_ tb_ct tb_mt B mm_X8_copyLeases 10 [.ref a0, .ref a1, .int x2, am_un, am_un] [] s = eI (gI tb_ct s a0 7 9) (fun x_1 => if x_1 ≤ x2 then some (.inl none, s) else eC (am_cls s a0) 7 (cA (cl_ tb_ct tb_mt B K_X8_leaseAt [.ref a0, .int x2] s) (fun s_2 => eC (am_cls s_2 a1) 7 (cA (cl_ tb_ct tb_mt B K_X8_leaseAt [.ref a1, .int x2] s_2) (fun s_4 => rn_ tb_ct tb_mt B mm_X8_copyLeases 46 [.ref a0, .ref a1, .int x2, va_rf none, va_rf none] [] s_4) (fun b_5 s_4 => rn_ tb_ct tb_mt B mm_X8_copyLeases 46 [.ref a0, .ref a1, .int x2, va_rf none, va_rf (some b_5)] [] s_4) xo)) (fun b_3 s_2 => eC (am_cls s_2 a1) 7 (cA (cl_ tb_ct tb_mt B K_X8_leaseAt [.ref a1, .int x2] s_2) (fun s_6 => rn_ tb_ct tb_mt B mm_X8_copyLeases 46 [.ref a0, .ref a1, .int x2, va_rf (some b_3), va_rf none] [] s_6) (fun b_7 s_6 => eC (am_cls s_6 b_3) 4 (cV (cl_ tb_ct tb_mt B K_X5_copyFrom [.ref b_3, .ref b_7] s_6) (fun s_8 => rn_ tb_ct tb_mt B mm_X8_copyLeases 46 [.ref a0, .ref a1, .int x2, va_rf (some b_3), va_rf (some b_7)] [] s_8) xo)) xo)) xo)) := by
  refine Eq.trans (rn_go 2 (pc' := 12) (L' := [.ref a0, .ref a1, .int x2, am_un, am_un]) (st' := [.ref a0, .int x2]) rfl) ?_
  refine Eq.trans (rn_gI (L' := [.ref a0, .ref a1, .int x2, am_un, am_un]) rfl rfl rfl rfl) ?_
  refine eI_c (fun x_1 => ?_)
  refine Eq.trans (rn_icge (L' := [.ref a0, .ref a1, .int x2, am_un, am_un]) rfl rfl) ?_
  refine if_c ?_ ?_
  · exact rn_retV rfl rfl
  · refine Eq.trans (rn_go 2 (pc' := 20) (L' := [.ref a0, .ref a1, .int x2, am_un, am_un]) (st' := [.int x2, .ref a0]) rfl) ?_
    refine Eq.trans (rn_vir (L' := [.ref a0, .ref a1, .int x2, am_un, am_un]) (as := [.int x2]) (rest := []) rfl rfl rfl rfl rfl (Nat.le_of_ble_eq_true rfl) (by decide) (by decide)) ?_
    refine eC_c ?_
    refine Eq.trans (cW_A rfl rfl rfl) ?_
    refine cA_c (fun s_2 => ?_) (fun b_3 s_2 => ?_) (xh_nil rfl)
    · refine Eq.trans (rn_go 3 (pc' := 26) (L' := [.ref a0, .ref a1, .int x2, .null, am_un]) (st' := [.int x2, .ref a1]) rfl) ?_
      refine Eq.trans (rn_vir (L' := [.ref a0, .ref a1, .int x2, .null, am_un]) (as := [.int x2]) (rest := []) rfl rfl rfl rfl rfl (Nat.le_of_ble_eq_true rfl) (by decide) (by decide)) ?_
      refine eC_c ?_
      refine Eq.trans (cW_A rfl rfl rfl) ?_
      refine cA_c (fun s_4 => ?_) (fun b_5 s_4 => ?_) (xh_nil rfl)
      · exact rn_go 3 (pc' := 46) (L' := [.ref a0, .ref a1, .int x2, va_rf none, va_rf none]) (st' := []) rfl
      · exact rn_go 3 (pc' := 46) (L' := [.ref a0, .ref a1, .int x2, va_rf none, va_rf (some b_5)]) (st' := []) rfl
    · refine Eq.trans (rn_go 3 (pc' := 26) (L' := [.ref a0, .ref a1, .int x2, .ref b_3, am_un]) (st' := [.int x2, .ref a1]) rfl) ?_
      refine Eq.trans (rn_vir (L' := [.ref a0, .ref a1, .int x2, .ref b_3, am_un]) (as := [.int x2]) (rest := []) rfl rfl rfl rfl rfl (Nat.le_of_ble_eq_true rfl) (by decide) (by decide)) ?_
      refine eC_c ?_
      refine Eq.trans (cW_A rfl rfl rfl) ?_
      refine cA_c (fun s_6 => ?_) (fun b_7 s_6 => ?_) (xh_nil rfl)
      · exact rn_go 5 (pc' := 46) (L' := [.ref a0, .ref a1, .int x2, va_rf (some b_3), va_rf none]) (st' := []) rfl
      · refine Eq.trans (rn_go 7 (pc' := 43) (L' := [.ref a0, .ref a1, .int x2, .ref b_3, .ref b_7]) (st' := [.ref b_7, .ref b_3]) rfl) ?_
        refine Eq.trans (rn_vir (L' := [.ref a0, .ref a1, .int x2, .ref b_3, .ref b_7]) (as := [.ref b_7]) (rest := []) rfl rfl rfl rfl rfl (Nat.le_of_ble_eq_true rfl) (by decide) (by decide)) ?_
        refine eC_c ?_
        refine Eq.trans (cW_V rfl rfl) ?_
        refine cV_c (fun s_8 => ?_) (xh_nil rfl)
        rfl
theorem dc_X8_copyLeases_46 {B : Nat} (a0 : Nat) (a1 : Nat) (x2 : Int32) (w3 : Value) (w4 : Value) (s : am_S) : rn_ tb_ct tb_mt B mm_X8_copyLeases 46 [.ref a0, .ref a1, .int x2, w3, w4] [] s = rn_ tb_ct tb_mt B mm_X8_copyLeases 10 [.ref a0, .ref a1, .int (x2 + (1 : Int32)), am_un, am_un] [] s := by
  exact rn_go 2 (pc' := 10) (L' := [.ref a0, .ref a1, .int (x2 + (1 : Int32)), am_un, am_un]) (st' := []) rfl
theorem in_X8_recall {B : Nat} (a0 : Nat) (x1 : Int32) (a2 : Nat) (s : am_S) : cl_ tb_ct tb_mt B K_X8_recall [.ref a0, .int x1, .ref a2] s = rn_ tb_ct tb_mt B mm_X8_recall 0 [.ref a0, .int x1, .ref a2, am_un, am_un, am_un] [] s := cl_in rfl rfl rfl rfl
theorem dc_X8_recall_0 {B : Nat} (a0 : Nat) (x1 : Int32) (a2 : Nat) (s : am_S) : rn_ tb_ct tb_mt B mm_X8_recall 0 [.ref a0, .int x1, .ref a2, am_un, am_un, am_un] [] s = if x1 = 0 then eI (gI tb_ct s a0 7 5) (fun x_1 => rn_ tb_ct tb_mt B mm_X8_recall 12 [.ref a0, .int x1, .ref a2, am_un, am_un, am_un] [.int x_1] s) else rn_ tb_ct tb_mt B mm_X8_recall 12 [.ref a0, .int x1, .ref a2, am_un, am_un, am_un] [.int x1] s := by
  refine Eq.trans (rn_go 1 (pc' := 1) (L' := [.ref a0, .int x1, .ref a2, am_un, am_un, am_un]) (st' := [.int x1]) rfl) ?_
  refine Eq.trans (rn_ifne (L' := [.ref a0, .int x1, .ref a2, am_un, am_un, am_un]) rfl rfl) ?_
  refine if_c ?_ ?_
  · refine Eq.trans (rn_go 1 (pc' := 5) (L' := [.ref a0, .int x1, .ref a2, am_un, am_un, am_un]) (st' := [.ref a0]) rfl) ?_
    refine Eq.trans (rn_gI (L' := [.ref a0, .int x1, .ref a2, am_un, am_un, am_un]) rfl rfl rfl rfl) ?_
    refine eI_c (fun x_1 => ?_)
    exact rn_go 1 (pc' := 12) (L' := [.ref a0, .int x1, .ref a2, am_un, am_un, am_un]) (st' := [.int x_1]) rfl
  · exact rn_go 1 (pc' := 12) (L' := [.ref a0, .int x1, .ref a2, am_un, am_un, am_un]) (st' := [.int x1]) rfl
theorem dc_X8_recall_12 {B : Nat} (a0 : Nat) (w1 : Value) (a2 : Nat) (xs0 : Int32) (s : am_S) : rn_ tb_ct tb_mt B mm_X8_recall 12 [.ref a0, w1, .ref a2, am_un, am_un, am_un] [.int xs0] s = eI (gI tb_ct s a0 7 6) (fun x_1 => if x_1 ≤ xs0 then eI (gI tb_ct s a0 7 5) (fun x_2 => if xs0 ≤ x_2 then eA (gA tb_ct s a0 7 0) (eC (am_cls s a2) 3 (cV (cl_ tb_ct tb_mt B K_X4_copyFrom [.ref a2, .null] s) (fun s_4 => eA (gA tb_ct s_4 a0 7 1) (none) (fun b_5 => eI (gI tb_ct s_4 b_5 1 1) (fun x_6 => rn_ tb_ct tb_mt B mm_X8_recall 54 [.ref a0, am_un, .ref a2, .int xs0, .int (x_6 - (1 : Int32)), am_un] [] s_4))) xo)) (fun b_3 => eC (am_cls s a2) 3 (cV (cl_ tb_ct tb_mt B K_X4_copyFrom [.ref a2, .ref b_3] s) (fun s_7 => eA (gA tb_ct s_7 a0 7 1) (none) (fun b_8 => eI (gI tb_ct s_7 b_8 1 1) (fun x_9 => rn_ tb_ct tb_mt B mm_X8_recall 54 [.ref a0, am_un, .ref a2, .int xs0, .int (x_9 - (1 : Int32)), am_un] [] s_7))) xo)) else some (.inl (some (.int (-(2000000002 : Int32)))), s)) else some (.inl (some (.int (-(2000000001 : Int32)))), s)) := by
  refine Eq.trans (rn_go 3 (pc' := 15) (L' := [.ref a0, am_un, .ref a2, .int xs0, am_un, am_un]) (st' := [.ref a0, .int xs0]) rfl) ?_
  refine Eq.trans (rn_gI (L' := [.ref a0, am_un, .ref a2, .int xs0, am_un, am_un]) rfl rfl rfl rfl) ?_
  refine eI_c (fun x_1 => ?_)
  refine Eq.trans (rn_icge (L' := [.ref a0, am_un, .ref a2, .int xs0, am_un, am_un]) rfl rfl) ?_
  refine if_c ?_ ?_
  · refine Eq.trans (rn_go 2 (pc' := 26) (L' := [.ref a0, am_un, .ref a2, .int xs0, am_un, am_un]) (st' := [.ref a0, .int xs0]) rfl) ?_
    refine Eq.trans (rn_gI (L' := [.ref a0, am_un, .ref a2, .int xs0, am_un, am_un]) rfl rfl rfl rfl) ?_
    refine eI_c (fun x_2 => ?_)
    refine Eq.trans (rn_icle (L' := [.ref a0, am_un, .ref a2, .int xs0, am_un, am_un]) rfl rfl) ?_
    refine if_c ?_ ?_
    · refine Eq.trans (rn_go 2 (pc' := 37) (L' := [.ref a0, am_un, .ref a2, .int xs0, am_un, am_un]) (st' := [.ref a0, .ref a2]) rfl) ?_
      refine Eq.trans (rn_gA (L' := [.ref a0, am_un, .ref a2, .int xs0, am_un, am_un]) rfl rfl rfl rfl) ?_
      refine eA_c ?_ (fun b_3 => ?_)
      · refine Eq.trans (rn_vir (L' := [.ref a0, am_un, .ref a2, .int xs0, am_un, am_un]) (as := [.null]) (rest := []) rfl rfl rfl rfl rfl (Nat.le_of_ble_eq_true rfl) (by decide) (by decide)) ?_
        refine eC_c ?_
        refine Eq.trans (cW_V rfl rfl) ?_
        refine cV_c (fun s_4 => ?_) (xh_nil rfl)
        refine Eq.trans (rn_go 1 (pc' := 44) (L' := [.ref a0, am_un, .ref a2, .int xs0, am_un, am_un]) (st' := [.ref a0]) rfl) ?_
        refine Eq.trans (rn_gA (L' := [.ref a0, am_un, .ref a2, .int xs0, am_un, am_un]) rfl rfl rfl rfl) ?_
        refine eA_c ?_ (fun b_5 => ?_)
        · exact rn_z rfl rfl
        · refine Eq.trans (rn_gI (L' := [.ref a0, am_un, .ref a2, .int xs0, am_un, am_un]) rfl rfl rfl rfl) ?_
          refine eI_c (fun x_6 => ?_)
          exact rn_go 3 (pc' := 54) (L' := [.ref a0, am_un, .ref a2, .int xs0, .int (x_6 - (1 : Int32)), am_un]) (st' := []) rfl
      · refine Eq.trans (rn_vir (L' := [.ref a0, am_un, .ref a2, .int xs0, am_un, am_un]) (as := [.ref b_3]) (rest := []) rfl rfl rfl rfl rfl (Nat.le_of_ble_eq_true rfl) (by decide) (by decide)) ?_
        refine eC_c ?_
        refine Eq.trans (cW_V rfl rfl) ?_
        refine cV_c (fun s_7 => ?_) (xh_nil rfl)
        refine Eq.trans (rn_go 1 (pc' := 44) (L' := [.ref a0, am_un, .ref a2, .int xs0, am_un, am_un]) (st' := [.ref a0]) rfl) ?_
        refine Eq.trans (rn_gA (L' := [.ref a0, am_un, .ref a2, .int xs0, am_un, am_un]) rfl rfl rfl rfl) ?_
        refine eA_c ?_ (fun b_8 => ?_)
        · exact rn_z rfl rfl
        · refine Eq.trans (rn_gI (L' := [.ref a0, am_un, .ref a2, .int xs0, am_un, am_un]) rfl rfl rfl rfl) ?_
          refine eI_c (fun x_9 => ?_)
          exact rn_go 3 (pc' := 54) (L' := [.ref a0, am_un, .ref a2, .int xs0, .int (x_9 - (1 : Int32)), am_un]) (st' := []) rfl
    · refine Eq.trans (rn_go 1 (pc' := 34) (L' := [.ref a0, am_un, .ref a2, .int xs0, am_un, am_un]) (st' := [.int (-(2000000002 : Int32))]) rfl) ?_
      exact rn_retI rfl rfl rfl
  · refine Eq.trans (rn_go 1 (pc' := 23) (L' := [.ref a0, am_un, .ref a2, .int xs0, am_un, am_un]) (st' := [.int (-(2000000001 : Int32))]) rfl) ?_
    exact rn_retI rfl rfl rfl
theorem dc_X8_recall_54 {B : Nat} (a0 : Nat) (a2 : Nat) (x3 : Int32) (x4 : Int32) (w5 : Value) (s : am_S) : rn_ tb_ct tb_mt B mm_X8_recall 54 [.ref a0, am_un, .ref a2, .int x3, .int x4, w5] [] s = if x4 < 0 then some (.inl (some (.int (0 : Int32))), s) else eA (gA tb_ct s a0 7 1) (none) (fun b_1 => eC (am_cls s b_1) 1 (cA (cl_ tb_ct tb_mt B K_X2_at [.ref b_1, .int x4] s) (fun s_2 => some (.inl (some (.int (0 : Int32))), s_2)) (fun b_3 s_2 => eI (gI tb_ct s_2 b_3 0 0) (fun x_4 => if x3 < x_4 then cV (cl_ tb_ct tb_mt B K_X8_undo [.ref b_3, .ref a2] s_2) (fun s_5 => rn_ tb_ct tb_mt B mm_X8_recall 54 [.ref a0, am_un, .ref a2, .int x3, .int (x4 + (-(1 : Int32))), .ref b_3] [] s_5) xo else some (.inl (some (.int (0 : Int32))), s_2))) xo)) := by
  refine Eq.trans (rn_go 1 (pc' := 56) (L' := [.ref a0, am_un, .ref a2, .int x3, .int x4, am_un]) (st' := [.int x4]) rfl) ?_
  refine Eq.trans (rn_iflt (L' := [.ref a0, am_un, .ref a2, .int x3, .int x4, am_un]) rfl rfl) ?_
  refine if_c ?_ ?_
  · refine Eq.trans (rn_go 1 (pc' := 100) (L' := [.ref a0, am_un, .ref a2, .int x3, .int x4, am_un]) (st' := [.int (0 : Int32)]) rfl) ?_
    exact rn_retI rfl rfl rfl
  · refine Eq.trans (rn_go 1 (pc' := 60) (L' := [.ref a0, am_un, .ref a2, .int x3, .int x4, am_un]) (st' := [.ref a0]) rfl) ?_
    refine Eq.trans (rn_gA (L' := [.ref a0, am_un, .ref a2, .int x3, .int x4, am_un]) rfl rfl rfl rfl) ?_
    refine eA_c ?_ (fun b_1 => ?_)
    · refine Eq.trans (rn_go 1 (pc' := 65) (L' := [.ref a0, am_un, .ref a2, .int x3, .int x4, am_un]) (st' := [.int x4, .null]) rfl) ?_
      exact rn_z rfl rfl
    · refine Eq.trans (rn_go 1 (pc' := 65) (L' := [.ref a0, am_un, .ref a2, .int x3, .int x4, am_un]) (st' := [.int x4, .ref b_1]) rfl) ?_
      refine Eq.trans (rn_vir (L' := [.ref a0, am_un, .ref a2, .int x3, .int x4, am_un]) (as := [.int x4]) (rest := []) rfl rfl rfl rfl rfl (Nat.le_of_ble_eq_true rfl) (by decide) (by decide)) ?_
      refine eC_c ?_
      refine Eq.trans (cW_A rfl rfl rfl) ?_
      refine cA_c (fun s_2 => ?_) (fun b_3 s_2 => ?_) (xh_nil rfl)
      · refine Eq.trans (rn_go 4 (pc' := 100) (L' := [.ref a0, am_un, .ref a2, .int x3, .int x4, .null]) (st' := [.int (0 : Int32)]) rfl) ?_
        exact rn_retI rfl rfl rfl
      · refine Eq.trans (rn_go 4 (pc' := 77) (L' := [.ref a0, am_un, .ref a2, .int x3, .int x4, .ref b_3]) (st' := [.ref b_3]) rfl) ?_
        refine Eq.trans (rn_gI (L' := [.ref a0, am_un, .ref a2, .int x3, .int x4, .ref b_3]) rfl rfl rfl rfl) ?_
        refine eI_c (fun x_4 => ?_)
        refine Eq.trans (rn_go 1 (pc' := 81) (L' := [.ref a0, am_un, .ref a2, .int x3, .int x4, .ref b_3]) (st' := [.int x3, .int x_4]) rfl) ?_
        refine Eq.trans (rn_icgt (L' := [.ref a0, am_un, .ref a2, .int x3, .int x4, .ref b_3]) rfl rfl) ?_
        refine if_c ?_ ?_
        · refine Eq.trans (rn_go 2 (pc' := 90) (L' := [.ref a0, am_un, .ref a2, .int x3, .int x4, .ref b_3]) (st' := [.ref a2, .ref b_3]) rfl) ?_
          refine Eq.trans (rn_sta (L' := [.ref a0, am_un, .ref a2, .int x3, .int x4, .ref b_3]) (as := [.ref b_3, .ref a2]) (rest := []) rfl rfl rfl rfl rfl (Nat.le_of_ble_eq_true rfl) (by decide) rfl) ?_
          refine Eq.trans (cW_V rfl rfl) ?_
          refine cV_c (fun s_5 => ?_) (xh_nil rfl)
          exact rn_go 2 (pc' := 54) (L' := [.ref a0, am_un, .ref a2, .int x3, .int (x4 + (-(1 : Int32))), .ref b_3]) (st' := []) rfl
        · refine Eq.trans (rn_go 2 (pc' := 100) (L' := [.ref a0, am_un, .ref a2, .int x3, .int x4, .ref b_3]) (st' := [.int (0 : Int32)]) rfl) ?_
          exact rn_retI rfl rfl rfl
theorem in_X8_undo {B : Nat} (a0 : Nat) (a1 : Nat) (s : am_S) : cl_ tb_ct tb_mt B K_X8_undo [.ref a0, .ref a1] s = rn_ tb_ct tb_mt B mm_X8_undo 0 [.ref a0, .ref a1, am_un] [] s := cl_in rfl rfl rfl rfl
theorem dc_X8_undo_0 {B : Nat} (a0 : Nat) (a1 : Nat) (s : am_S) : rn_ tb_ct tb_mt B mm_X8_undo 0 [.ref a0, .ref a1, am_un] [] s = eI (gI tb_ct s a0 0 4) (fun x_1 => if x_1 = (-(2000000000 : Int32)) then eI (gI tb_ct s a0 0 2) (fun x_2 => eC (am_cls s a1) 3 (cI (cl_ tb_ct tb_mt B K_X4_indexOf [.ref a1, .int x_2] s) (fun x_4 s_3 => eC (am_cls s_3 a1) 3 (cV (cl_ tb_ct tb_mt B K_X4_removeAt [.ref a1, .int x_4] s_3) (fun s_5 => some (.inl none, s_5)) xo)) xo)) else eI (gI tb_ct s a0 0 2) (fun x_6 => eC (am_cls s a1) 3 (cA (cl_ tb_ct tb_mt B K_X4_find [.ref a1, .int x_6] s) (fun s_7 => eI (gI tb_ct s_7 a0 0 2) (fun x_9 => eC (am_cls s_7 a1) 3 (cA (cl_ tb_ct tb_mt B K_X4_insert [.ref a1, .int x_9] s_7) (fun s_10 => rn_ tb_ct tb_mt B mm_X8_undo 44 [.ref a0, .ref a1, va_rf none] [] s_10) (fun b_11 s_10 => rn_ tb_ct tb_mt B mm_X8_undo 44 [.ref a0, .ref a1, va_rf (some b_11)] [] s_10) xo))) (fun b_8 s_7 => rn_ tb_ct tb_mt B mm_X8_undo 44 [.ref a0, .ref a1, va_rf (some b_8)] [] s_7) xo))) := by
  refine Eq.trans (rn_go 1 (pc' := 1) (L' := [.ref a0, .ref a1, am_un]) (st' := [.ref a0]) rfl) ?_
  refine Eq.trans (rn_gI (L' := [.ref a0, .ref a1, am_un]) rfl rfl rfl rfl) ?_
  refine eI_c (fun x_1 => ?_)
  refine Eq.trans (rn_go 1 (pc' := 6) (L' := [.ref a0, .ref a1, am_un]) (st' := [.int (-(2000000000 : Int32)), .int x_1]) rfl) ?_
  refine Eq.trans (rn_icne (L' := [.ref a0, .ref a1, am_un]) rfl rfl) ?_
  refine if_c ?_ ?_
  · refine Eq.trans (rn_go 3 (pc' := 12) (L' := [.ref a0, .ref a1, am_un]) (st' := [.ref a0, .ref a1, .ref a1]) rfl) ?_
    refine Eq.trans (rn_gI (L' := [.ref a0, .ref a1, am_un]) rfl rfl rfl rfl) ?_
    refine eI_c (fun x_2 => ?_)
    refine Eq.trans (rn_vir (L' := [.ref a0, .ref a1, am_un]) (as := [.int x_2]) (rest := [.ref a1]) rfl rfl rfl rfl rfl (Nat.le_of_ble_eq_true rfl) (by decide) (by decide)) ?_
    refine eC_c ?_
    refine Eq.trans (cW_I rfl rfl rfl) ?_
    refine cI_c (fun x_4 s_3 => ?_) (xh_nil rfl)
    refine Eq.trans (rn_vir (L' := [.ref a0, .ref a1, am_un]) (as := [.int x_4]) (rest := []) rfl rfl rfl rfl rfl (Nat.le_of_ble_eq_true rfl) (by decide) (by decide)) ?_
    refine eC_c ?_
    refine Eq.trans (cW_V rfl rfl) ?_
    refine cV_c (fun s_5 => ?_) (xh_nil rfl)
    exact rn_retV rfl rfl
  · refine Eq.trans (rn_go 2 (pc' := 24) (L' := [.ref a0, .ref a1, am_un]) (st' := [.ref a0, .ref a1]) rfl) ?_
    refine Eq.trans (rn_gI (L' := [.ref a0, .ref a1, am_un]) rfl rfl rfl rfl) ?_
    refine eI_c (fun x_6 => ?_)
    refine Eq.trans (rn_vir (L' := [.ref a0, .ref a1, am_un]) (as := [.int x_6]) (rest := []) rfl rfl rfl rfl rfl (Nat.le_of_ble_eq_true rfl) (by decide) (by decide)) ?_
    refine eC_c ?_
    refine Eq.trans (cW_A rfl rfl rfl) ?_
    refine cA_c (fun s_7 => ?_) (fun b_8 s_7 => ?_) (xh_nil rfl)
    · refine Eq.trans (rn_go 5 (pc' := 37) (L' := [.ref a0, .ref a1, .null]) (st' := [.ref a0, .ref a1]) rfl) ?_
      refine Eq.trans (rn_gI (L' := [.ref a0, .ref a1, .null]) rfl rfl rfl rfl) ?_
      refine eI_c (fun x_9 => ?_)
      refine Eq.trans (rn_vir (L' := [.ref a0, .ref a1, .null]) (as := [.int x_9]) (rest := []) rfl rfl rfl rfl rfl (Nat.le_of_ble_eq_true rfl) (by decide) (by decide)) ?_
      refine eC_c ?_
      refine Eq.trans (cW_A rfl rfl rfl) ?_
      refine cA_c (fun s_10 => ?_) (fun b_11 s_10 => ?_) (xh_nil rfl)
      · exact rn_go 1 (pc' := 44) (L' := [.ref a0, .ref a1, va_rf none]) (st' := []) rfl
      · exact rn_go 1 (pc' := 44) (L' := [.ref a0, .ref a1, va_rf (some b_11)]) (st' := []) rfl
    · exact rn_go 3 (pc' := 44) (L' := [.ref a0, .ref a1, va_rf (some b_8)]) (st' := []) rfl
theorem dc_X8_undo_44 {B : Nat} (a0 : Nat) (w1 : Value) (r2 : Option Nat) (s : am_S) : rn_ tb_ct tb_mt B mm_X8_undo 44 [.ref a0, w1, va_rf r2] [] s = eA (some r2) (some (.inl none, s)) (fun b_1 => eI (gI tb_ct s a0 0 4) (fun x_2 => eS (am_put tb_ct mm_X8_undo B s (.int x_2) b_1 2 1) (fun s_3 => some (.inl none, s_3)))) := by
  rcases r2 with _ | b_1
  · rw [eA_n]
    refine Eq.trans (rn_go 2 (pc' := 56) (L' := [.ref a0, am_un, .null]) (st' := []) rfl) ?_
    exact rn_retV rfl rfl
  · rw [eA_s]
    refine Eq.trans (rn_go 4 (pc' := 50) (L' := [.ref a0, am_un, .ref b_1]) (st' := [.ref a0, .ref b_1]) rfl) ?_
    refine Eq.trans (rn_gI (L' := [.ref a0, am_un, .ref b_1]) rfl rfl rfl rfl) ?_
    refine eI_c (fun x_2 => ?_)
    refine Eq.trans (rn_pF (L' := [.ref a0, am_un, .ref b_1]) rfl rfl) ?_
    refine eS_c (fun s_3 => ?_)
    exact rn_retV rfl rfl
theorem in_X8_writeOne {B : Nat} (a0 : Nat) (x1 : Int32) (x2 : Int32) (x3 : Int32) (s : am_S) : cl_ tb_ct tb_mt B K_X8_writeOne [.ref a0, .int x1, .int x2, .int x3] s = rn_ tb_ct tb_mt B mm_X8_writeOne 0 [.ref a0, .int x1, .int x2, .int x3, am_un, am_un] [] s := cl_in rfl rfl rfl rfl
theorem dc_X8_writeOne_0 {B : Nat} (a0 : Nat) (x1 : Int32) (x2 : Int32) (x3 : Int32) (s : am_S) : rn_ tb_ct tb_mt B mm_X8_writeOne 0 [.ref a0, .int x1, .int x2, .int x3, am_un, am_un] [] s = eA (gA tb_ct s a0 7 0) (none) (fun b_1 => eC (am_cls s b_1) 3 (cA (cl_ tb_ct tb_mt B K_X4_find [.ref b_1, .int x1] s) (fun s_2 => rn_ tb_ct tb_mt B mm_X8_writeOne 25 [.ref a0, .int x1, .int x2, .int x3, va_rf none, am_un] [.int (-(2000000000 : Int32))] s_2) (fun b_3 s_2 => eI (gI tb_ct s_2 b_3 2 1) (fun x_4 => rn_ tb_ct tb_mt B mm_X8_writeOne 25 [.ref a0, .int x1, .int x2, .int x3, va_rf (some b_3), am_un] [.int x_4] s_2)) xo)) := by
  refine Eq.trans (rn_go 1 (pc' := 1) (L' := [.ref a0, .int x1, .int x2, .int x3, am_un, am_un]) (st' := [.ref a0]) rfl) ?_
  refine Eq.trans (rn_gA (L' := [.ref a0, .int x1, .int x2, .int x3, am_un, am_un]) rfl rfl rfl rfl) ?_
  refine eA_c ?_ (fun b_1 => ?_)
  · refine Eq.trans (rn_go 1 (pc' := 5) (L' := [.ref a0, .int x1, .int x2, .int x3, am_un, am_un]) (st' := [.int x1, .null]) rfl) ?_
    exact rn_z rfl rfl
  · refine Eq.trans (rn_go 1 (pc' := 5) (L' := [.ref a0, .int x1, .int x2, .int x3, am_un, am_un]) (st' := [.int x1, .ref b_1]) rfl) ?_
    refine Eq.trans (rn_vir (L' := [.ref a0, .int x1, .int x2, .int x3, am_un, am_un]) (as := [.int x1]) (rest := []) rfl rfl rfl rfl rfl (Nat.le_of_ble_eq_true rfl) (by decide) (by decide)) ?_
    refine eC_c ?_
    refine Eq.trans (cW_A rfl rfl rfl) ?_
    refine cA_c (fun s_2 => ?_) (fun b_3 s_2 => ?_) (xh_nil rfl)
    · exact rn_go 5 (pc' := 25) (L' := [.ref a0, .int x1, .int x2, .int x3, va_rf none, am_un]) (st' := [.int (-(2000000000 : Int32))]) rfl
    · refine Eq.trans (rn_go 4 (pc' := 22) (L' := [.ref a0, .int x1, .int x2, .int x3, .ref b_3, am_un]) (st' := [.ref b_3]) rfl) ?_
      refine Eq.trans (rn_gI (L' := [.ref a0, .int x1, .int x2, .int x3, .ref b_3, am_un]) rfl rfl rfl rfl) ?_
      refine eI_c (fun x_4 => ?_)
      rfl
theorem dc_X8_writeOne_25 {B : Nat} (a0 : Nat) (x1 : Int32) (x2 : Int32) (x3 : Int32) (r4 : Option Nat) (xs0 : Int32) (s : am_S) : rn_ tb_ct tb_mt B mm_X8_writeOne 25 [.ref a0, .int x1, .int x2, .int x3, va_rf r4, am_un] [.int xs0] s = eA (some r4) (eA (gA tb_ct s a0 7 0) (none) (fun b_2 => eC (am_cls s b_2) 3 (cA (cl_ tb_ct tb_mt B K_X4_insert [.ref b_2, .int x1] s) (fun s_3 => some (.inl none, s_3)) (fun b_4 s_3 => eI (gI tb_ct s_3 a0 7 5) (fun x_5 => eS (am_put tb_ct mm_X8_writeOne B s_3 (.int (x_5 + (1 : Int32))) b_4 2 2) (fun s_6 => rn_ tb_ct tb_mt B mm_X8_writeOne 59 [.ref a0, .int x1, .int x2, .int x3, .ref b_4, .int xs0] [] s_6))) xo))) (fun b_1 => rn_ tb_ct tb_mt B mm_X8_writeOne 59 [.ref a0, .int x1, .int x2, .int x3, .ref b_1, .int xs0] [] s) := by
  rcases r4 with _ | b_1
  · rw [eA_n]
    refine Eq.trans (rn_go 4 (pc' := 33) (L' := [.ref a0, .int x1, .int x2, .int x3, .null, .int xs0]) (st' := [.ref a0]) rfl) ?_
    refine Eq.trans (rn_gA (L' := [.ref a0, .int x1, .int x2, .int x3, .null, .int xs0]) rfl rfl rfl rfl) ?_
    refine eA_c ?_ (fun b_2 => ?_)
    · refine Eq.trans (rn_go 1 (pc' := 37) (L' := [.ref a0, .int x1, .int x2, .int x3, .null, .int xs0]) (st' := [.int x1, .null]) rfl) ?_
      exact rn_z rfl rfl
    · refine Eq.trans (rn_go 1 (pc' := 37) (L' := [.ref a0, .int x1, .int x2, .int x3, .null, .int xs0]) (st' := [.int x1, .ref b_2]) rfl) ?_
      refine Eq.trans (rn_vir (L' := [.ref a0, .int x1, .int x2, .int x3, .null, .int xs0]) (as := [.int x1]) (rest := []) rfl rfl rfl rfl rfl (Nat.le_of_ble_eq_true rfl) (by decide) (by decide)) ?_
      refine eC_c ?_
      refine Eq.trans (cW_A rfl rfl rfl) ?_
      refine cA_c (fun s_3 => ?_) (fun b_4 s_3 => ?_) (xh_nil rfl)
      · refine Eq.trans (rn_go 3 (pc' := 47) (L' := [.ref a0, .int x1, .int x2, .int x3, .null, .int xs0]) (st' := []) rfl) ?_
        exact rn_retV rfl rfl
      · refine Eq.trans (rn_go 5 (pc' := 51) (L' := [.ref a0, .int x1, .int x2, .int x3, .ref b_4, .int xs0]) (st' := [.ref a0, .ref b_4]) rfl) ?_
        refine Eq.trans (rn_gI (L' := [.ref a0, .int x1, .int x2, .int x3, .ref b_4, .int xs0]) rfl rfl rfl rfl) ?_
        refine eI_c (fun x_5 => ?_)
        refine Eq.trans (rn_go 2 (pc' := 56) (L' := [.ref a0, .int x1, .int x2, .int x3, .ref b_4, .int xs0]) (st' := [.int (x_5 + (1 : Int32)), .ref b_4]) rfl) ?_
        refine Eq.trans (rn_pF (L' := [.ref a0, .int x1, .int x2, .int x3, .ref b_4, .int xs0]) rfl rfl) ?_
        refine eS_c (fun s_6 => ?_)
        rfl
  · rw [eA_s]
    exact rn_go 3 (pc' := 59) (L' := [.ref a0, .int x1, .int x2, .int x3, .ref b_1, .int xs0]) (st' := []) rfl
theorem dc_X8_writeOne_59 {B : Nat} (a0 : Nat) (w1 : Value) (x2 : Int32) (x3 : Int32) (a4 : Nat) (x5 : Int32) (s : am_S) : rn_ tb_ct tb_mt B mm_X8_writeOne 59 [.ref a0, w1, .int x2, .int x3, .ref a4, .int x5] [] s = eS (am_put tb_ct mm_X8_writeOne B s (.int x2) a4 2 1) (fun s_1 => eS (am_put tb_ct mm_X8_writeOne B s_1 (.int x3) a4 2 5) (fun s_2 => eI (gI tb_ct s_2 a0 7 5) (fun x_3 => eS (am_put tb_ct mm_X8_writeOne B s_2 (.int (x_3 + (1 : Int32))) a4 2 3) (fun s_4 => eI (gI tb_ct s_4 a4 2 4) (fun x_5 => eS (am_put tb_ct mm_X8_writeOne B s_4 (.int (x_5 + (1 : Int32))) a4 2 4) (fun s_6 => eC (am_cls s_6 a0) 7 (cV (cl_ tb_ct tb_mt B K_X8_addEvent [.ref a0, .int (0 : Int32), .ref a4, .int x5] s_6) (fun s_7 => some (.inl none, s_7)) xo))))))) := by
  refine Eq.trans (rn_go 2 (pc' := 62) (L' := [.ref a0, am_un, .int x2, .int x3, .ref a4, .int x5]) (st' := [.int x2, .ref a4]) rfl) ?_
  refine Eq.trans (rn_pF (L' := [.ref a0, am_un, .int x2, .int x3, .ref a4, .int x5]) rfl rfl) ?_
  refine eS_c (fun s_1 => ?_)
  refine Eq.trans (rn_go 2 (pc' := 68) (L' := [.ref a0, am_un, .int x2, .int x3, .ref a4, .int x5]) (st' := [.int x3, .ref a4]) rfl) ?_
  refine Eq.trans (rn_pF (L' := [.ref a0, am_un, .int x2, .int x3, .ref a4, .int x5]) rfl rfl) ?_
  refine eS_c (fun s_2 => ?_)
  refine Eq.trans (rn_go 2 (pc' := 74) (L' := [.ref a0, am_un, .int x2, .int x3, .ref a4, .int x5]) (st' := [.ref a0, .ref a4]) rfl) ?_
  refine Eq.trans (rn_gI (L' := [.ref a0, am_un, .int x2, .int x3, .ref a4, .int x5]) rfl rfl rfl rfl) ?_
  refine eI_c (fun x_3 => ?_)
  refine Eq.trans (rn_go 2 (pc' := 79) (L' := [.ref a0, am_un, .int x2, .int x3, .ref a4, .int x5]) (st' := [.int (x_3 + (1 : Int32)), .ref a4]) rfl) ?_
  refine Eq.trans (rn_pF (L' := [.ref a0, am_un, .int x2, .int x3, .ref a4, .int x5]) rfl rfl) ?_
  refine eS_c (fun s_4 => ?_)
  refine Eq.trans (rn_go 2 (pc' := 85) (L' := [.ref a0, am_un, .int x2, .int x3, .ref a4, .int x5]) (st' := [.ref a4, .ref a4]) rfl) ?_
  refine Eq.trans (rn_gI (L' := [.ref a0, am_un, .int x2, .int x3, .ref a4, .int x5]) rfl rfl rfl rfl) ?_
  refine eI_c (fun x_5 => ?_)
  refine Eq.trans (rn_go 2 (pc' := 90) (L' := [.ref a0, am_un, .int x2, .int x3, .ref a4, .int x5]) (st' := [.int (x_5 + (1 : Int32)), .ref a4]) rfl) ?_
  refine Eq.trans (rn_pF (L' := [.ref a0, am_un, .int x2, .int x3, .ref a4, .int x5]) rfl rfl) ?_
  refine eS_c (fun s_6 => ?_)
  refine Eq.trans (rn_go 4 (pc' := 99) (L' := [.ref a0, am_un, .int x2, .int x3, .ref a4, .int x5]) (st' := [.int x5, .ref a4, .int (0 : Int32), .ref a0]) rfl) ?_
  refine Eq.trans (rn_vir (L' := [.ref a0, am_un, .int x2, .int x3, .ref a4, .int x5]) (as := [.int (0 : Int32), .ref a4, .int x5]) (rest := []) rfl rfl rfl rfl rfl (Nat.le_of_ble_eq_true rfl) (by decide) (by decide)) ?_
  refine eC_c ?_
  refine Eq.trans (cW_V rfl rfl) ?_
  refine cV_c (fun s_7 => ?_) (xh_nil rfl)
  exact rn_retV rfl rfl
theorem in_X8_deleteAt {B : Nat} (a0 : Nat) (x1 : Int32) (s : am_S) : cl_ tb_ct tb_mt B K_X8_deleteAt [.ref a0, .int x1] s = rn_ tb_ct tb_mt B mm_X8_deleteAt 0 [.ref a0, .int x1, am_un] [] s := cl_in rfl rfl rfl rfl
theorem dc_X8_deleteAt_0 {B : Nat} (a0 : Nat) (x1 : Int32) (s : am_S) : rn_ tb_ct tb_mt B mm_X8_deleteAt 0 [.ref a0, .int x1, am_un] [] s = eA (gA tb_ct s a0 7 0) (none) (fun b_1 => eC (am_cls s b_1) 3 (cA (cl_ tb_ct tb_mt B K_X4_at [.ref b_1, .int x1] s) (fun s_2 => some (.inl none, s_2)) (fun b_3 s_2 => eI (gI tb_ct s_2 b_3 2 1) (fun x_4 => eC (am_cls s_2 a0) 7 (cV (cl_ tb_ct tb_mt B K_X8_addEvent [.ref a0, .int (1 : Int32), .ref b_3, .int x_4] s_2) (fun s_5 => eA (gA tb_ct s_5 a0 7 0) (none) (fun b_6 => eC (am_cls s_5 b_6) 3 (cV (cl_ tb_ct tb_mt B K_X4_removeAt [.ref b_6, .int x1] s_5) (fun s_7 => some (.inl none, s_7)) xo))) xo))) xo)) := by
  refine Eq.trans (rn_go 1 (pc' := 1) (L' := [.ref a0, .int x1, am_un]) (st' := [.ref a0]) rfl) ?_
  refine Eq.trans (rn_gA (L' := [.ref a0, .int x1, am_un]) rfl rfl rfl rfl) ?_
  refine eA_c ?_ (fun b_1 => ?_)
  · refine Eq.trans (rn_go 1 (pc' := 5) (L' := [.ref a0, .int x1, am_un]) (st' := [.int x1, .null]) rfl) ?_
    exact rn_z rfl rfl
  · refine Eq.trans (rn_go 1 (pc' := 5) (L' := [.ref a0, .int x1, am_un]) (st' := [.int x1, .ref b_1]) rfl) ?_
    refine Eq.trans (rn_vir (L' := [.ref a0, .int x1, am_un]) (as := [.int x1]) (rest := []) rfl rfl rfl rfl rfl (Nat.le_of_ble_eq_true rfl) (by decide) (by decide)) ?_
    refine eC_c ?_
    refine Eq.trans (cW_A rfl rfl rfl) ?_
    refine cA_c (fun s_2 => ?_) (fun b_3 s_2 => ?_) (xh_nil rfl)
    · refine Eq.trans (rn_go 3 (pc' := 31) (L' := [.ref a0, .int x1, .null]) (st' := []) rfl) ?_
      exact rn_retV rfl rfl
    · refine Eq.trans (rn_go 7 (pc' := 17) (L' := [.ref a0, .int x1, .ref b_3]) (st' := [.ref b_3, .ref b_3, .int (1 : Int32), .ref a0]) rfl) ?_
      refine Eq.trans (rn_gI (L' := [.ref a0, .int x1, .ref b_3]) rfl rfl rfl rfl) ?_
      refine eI_c (fun x_4 => ?_)
      refine Eq.trans (rn_vir (L' := [.ref a0, .int x1, .ref b_3]) (as := [.int (1 : Int32), .ref b_3, .int x_4]) (rest := []) rfl rfl rfl rfl rfl (Nat.le_of_ble_eq_true rfl) (by decide) (by decide)) ?_
      refine eC_c ?_
      refine Eq.trans (cW_V rfl rfl) ?_
      refine cV_c (fun s_5 => ?_) (xh_nil rfl)
      refine Eq.trans (rn_go 1 (pc' := 24) (L' := [.ref a0, .int x1, .ref b_3]) (st' := [.ref a0]) rfl) ?_
      refine Eq.trans (rn_gA (L' := [.ref a0, .int x1, .ref b_3]) rfl rfl rfl rfl) ?_
      refine eA_c ?_ (fun b_6 => ?_)
      · refine Eq.trans (rn_go 1 (pc' := 28) (L' := [.ref a0, .int x1, .ref b_3]) (st' := [.int x1, .null]) rfl) ?_
        exact rn_z rfl rfl
      · refine Eq.trans (rn_go 1 (pc' := 28) (L' := [.ref a0, .int x1, .ref b_3]) (st' := [.int x1, .ref b_6]) rfl) ?_
        refine Eq.trans (rn_vir (L' := [.ref a0, .int x1, .ref b_3]) (as := [.int x1]) (rest := []) rfl rfl rfl rfl rfl (Nat.le_of_ble_eq_true rfl) (by decide) (by decide)) ?_
        refine eC_c ?_
        refine Eq.trans (cW_V rfl rfl) ?_
        refine cV_c (fun s_7 => ?_) (xh_nil rfl)
        exact rn_retV rfl rfl
theorem in_X8_addEvent {B : Nat} (a0 : Nat) (x1 : Int32) (a2 : Nat) (x3 : Int32) (s : am_S) : cl_ tb_ct tb_mt B K_X8_addEvent [.ref a0, .int x1, .ref a2, .int x3] s = rn_ tb_ct tb_mt B mm_X8_addEvent 0 [.ref a0, .int x1, .ref a2, .int x3, am_un] [] s := cl_in rfl rfl rfl rfl
theorem dc_X8_addEvent_0 {B : Nat} (a0 : Nat) (x1 : Int32) (a2 : Nat) (x3 : Int32) (s : am_S) : rn_ tb_ct tb_mt B mm_X8_addEvent 0 [.ref a0, .int x1, .ref a2, .int x3, am_un] [] s = eA (gA tb_ct s a0 7 1) (none) (fun b_1 => eC (am_cls s b_1) 1 (cA (cl_ tb_ct tb_mt B K_X2_add [.ref b_1] s) (fun s_2 => some (.inl none, s_2)) (fun b_3 s_2 => eI (gI tb_ct s_2 a0 7 5) (fun x_4 => eS (am_put tb_ct mm_X8_addEvent B s_2 (.int (x_4 + (1 : Int32))) b_3 0 0) (fun s_5 => eS (am_put tb_ct mm_X8_addEvent B s_5 (.int x1) b_3 0 1) (fun s_6 => eI (gI tb_ct s_6 a2 2 0) (fun x_7 => eS (am_put tb_ct mm_X8_addEvent B s_6 (.int x_7) b_3 0 2) (fun s_8 => if x1 = 0 then eI (gI tb_ct s_8 a2 2 1) (fun x_9 => rn_ tb_ct tb_mt B mm_X8_addEvent 54 [.ref a0, .int x1, .ref a2, .int x3, .ref b_3] [.int x_9, .ref b_3] s_8) else rn_ tb_ct tb_mt B mm_X8_addEvent 54 [.ref a0, .int x1, .ref a2, .int x3, .ref b_3] [.int (0 : Int32), .ref b_3] s_8)))))) xo)) := by
  refine Eq.trans (rn_go 1 (pc' := 1) (L' := [.ref a0, .int x1, .ref a2, .int x3, am_un]) (st' := [.ref a0]) rfl) ?_
  refine Eq.trans (rn_gA (L' := [.ref a0, .int x1, .ref a2, .int x3, am_un]) rfl rfl rfl rfl) ?_
  refine eA_c ?_ (fun b_1 => ?_)
  · exact rn_z rfl rfl
  · refine Eq.trans (rn_vir (L' := [.ref a0, .int x1, .ref a2, .int x3, am_un]) (as := []) (rest := []) rfl rfl rfl rfl rfl (Nat.le_of_ble_eq_true rfl) (by decide) (by decide)) ?_
    refine eC_c ?_
    refine Eq.trans (cW_A rfl rfl rfl) ?_
    refine cA_c (fun s_2 => ?_) (fun b_3 s_2 => ?_) (xh_nil rfl)
    · refine Eq.trans (rn_go 3 (pc' := 81) (L' := [.ref a0, .int x1, .ref a2, .int x3, .null]) (st' := []) rfl) ?_
      exact rn_retV rfl rfl
    · refine Eq.trans (rn_go 5 (pc' := 17) (L' := [.ref a0, .int x1, .ref a2, .int x3, .ref b_3]) (st' := [.ref a0, .ref b_3]) rfl) ?_
      refine Eq.trans (rn_gI (L' := [.ref a0, .int x1, .ref a2, .int x3, .ref b_3]) rfl rfl rfl rfl) ?_
      refine eI_c (fun x_4 => ?_)
      refine Eq.trans (rn_go 2 (pc' := 22) (L' := [.ref a0, .int x1, .ref a2, .int x3, .ref b_3]) (st' := [.int (x_4 + (1 : Int32)), .ref b_3]) rfl) ?_
      refine Eq.trans (rn_pF (L' := [.ref a0, .int x1, .ref a2, .int x3, .ref b_3]) rfl rfl) ?_
      refine eS_c (fun s_5 => ?_)
      refine Eq.trans (rn_go 2 (pc' := 28) (L' := [.ref a0, .int x1, .ref a2, .int x3, .ref b_3]) (st' := [.int x1, .ref b_3]) rfl) ?_
      refine Eq.trans (rn_pF (L' := [.ref a0, .int x1, .ref a2, .int x3, .ref b_3]) rfl rfl) ?_
      refine eS_c (fun s_6 => ?_)
      refine Eq.trans (rn_go 2 (pc' := 34) (L' := [.ref a0, .int x1, .ref a2, .int x3, .ref b_3]) (st' := [.ref a2, .ref b_3]) rfl) ?_
      refine Eq.trans (rn_gI (L' := [.ref a0, .int x1, .ref a2, .int x3, .ref b_3]) rfl rfl rfl rfl) ?_
      refine eI_c (fun x_7 => ?_)
      refine Eq.trans (rn_pF (L' := [.ref a0, .int x1, .ref a2, .int x3, .ref b_3]) rfl rfl) ?_
      refine eS_c (fun s_8 => ?_)
      refine Eq.trans (rn_go 2 (pc' := 43) (L' := [.ref a0, .int x1, .ref a2, .int x3, .ref b_3]) (st' := [.int x1, .ref b_3]) rfl) ?_
      refine Eq.trans (rn_ifne (L' := [.ref a0, .int x1, .ref a2, .int x3, .ref b_3]) rfl rfl) ?_
      refine if_c ?_ ?_
      · refine Eq.trans (rn_go 1 (pc' := 47) (L' := [.ref a0, .int x1, .ref a2, .int x3, .ref b_3]) (st' := [.ref a2, .ref b_3]) rfl) ?_
        refine Eq.trans (rn_gI (L' := [.ref a0, .int x1, .ref a2, .int x3, .ref b_3]) rfl rfl rfl rfl) ?_
        refine eI_c (fun x_9 => ?_)
        exact rn_go 1 (pc' := 54) (L' := [.ref a0, .int x1, .ref a2, .int x3, .ref b_3]) (st' := [.int x_9, .ref b_3]) rfl
      · exact rn_go 1 (pc' := 54) (L' := [.ref a0, .int x1, .ref a2, .int x3, .ref b_3]) (st' := [.int (0 : Int32), .ref b_3]) rfl
theorem dc_X8_addEvent_54 {B : Nat} (w0 : Value) (w1 : Value) (a2 : Nat) (x3 : Int32) (a4 : Nat) (xs0 : Int32) (as1 : Nat) (s : am_S) : rn_ tb_ct tb_mt B mm_X8_addEvent 54 [w0, w1, .ref a2, .int x3, .ref a4] [.int xs0, .ref as1] s = eS (am_put tb_ct mm_X8_addEvent B s (.int xs0) as1 0 3) (fun s_1 => eS (am_put tb_ct mm_X8_addEvent B s_1 (.int x3) a4 0 4) (fun s_2 => eI (gI tb_ct s_2 a2 2 5) (fun x_3 => eS (am_put tb_ct mm_X8_addEvent B s_2 (.int x_3) a4 0 5) (fun s_4 => eI (gI tb_ct s_4 a2 2 4) (fun x_5 => eS (am_put tb_ct mm_X8_addEvent B s_4 (.int x_5) a4 0 6) (fun s_6 => some (.inl none, s_6))))))) := by
  refine Eq.trans (rn_pF (L' := [am_un, am_un, .ref a2, .int x3, .ref a4]) rfl rfl) ?_
  refine eS_c (fun s_1 => ?_)
  refine Eq.trans (rn_go 2 (pc' := 60) (L' := [am_un, am_un, .ref a2, .int x3, .ref a4]) (st' := [.int x3, .ref a4]) rfl) ?_
  refine Eq.trans (rn_pF (L' := [am_un, am_un, .ref a2, .int x3, .ref a4]) rfl rfl) ?_
  refine eS_c (fun s_2 => ?_)
  refine Eq.trans (rn_go 2 (pc' := 66) (L' := [am_un, am_un, .ref a2, .int x3, .ref a4]) (st' := [.ref a2, .ref a4]) rfl) ?_
  refine Eq.trans (rn_gI (L' := [am_un, am_un, .ref a2, .int x3, .ref a4]) rfl rfl rfl rfl) ?_
  refine eI_c (fun x_3 => ?_)
  refine Eq.trans (rn_pF (L' := [am_un, am_un, .ref a2, .int x3, .ref a4]) rfl rfl) ?_
  refine eS_c (fun s_4 => ?_)
  refine Eq.trans (rn_go 2 (pc' := 75) (L' := [am_un, am_un, .ref a2, .int x3, .ref a4]) (st' := [.ref a2, .ref a4]) rfl) ?_
  refine Eq.trans (rn_gI (L' := [am_un, am_un, .ref a2, .int x3, .ref a4]) rfl rfl rfl rfl) ?_
  refine eI_c (fun x_5 => ?_)
  refine Eq.trans (rn_pF (L' := [am_un, am_un, .ref a2, .int x3, .ref a4]) rfl rfl) ?_
  refine eS_c (fun s_6 => ?_)
  exact rn_retV rfl rfl
theorem in_X8_endChange {B : Nat} (a0 : Nat) (s : am_S) : cl_ tb_ct tb_mt B K_X8_endChange [.ref a0] s = rn_ tb_ct tb_mt B mm_X8_endChange 0 [.ref a0, am_un, am_un, am_un] [] s := cl_in rfl rfl rfl rfl
theorem dc_X8_endChange_0 {B : Nat} (a0 : Nat) (s : am_S) : rn_ tb_ct tb_mt B mm_X8_endChange 0 [.ref a0, am_un, am_un, am_un] [] s = eA (gA tb_ct s a0 7 1) (eA (gA tb_ct s a0 7 1) (none) (fun b_2 => eI (gI tb_ct s b_2 1 1) (fun x_3 => none))) (fun b_1 => eA (gA tb_ct s a0 7 1) (none) (fun b_4 => eI (gI tb_ct s b_4 1 1) (fun x_5 => eC (am_cls s b_1) 1 (cA (cl_ tb_ct tb_mt B K_X2_at [.ref b_1, .int (x_5 - (1 : Int32))] s) (fun s_6 => some (.inl none, s_6)) (fun b_7 s_6 => eI (gI tb_ct s_6 b_7 0 0) (fun x_8 => eI (gI tb_ct s_6 a0 7 5) (fun x_9 => if x_9 < x_8 then eI (gI tb_ct s_6 a0 7 5) (fun x_10 => eS (am_put tb_ct mm_X8_endChange B s_6 (.int (x_10 + (1 : Int32))) a0 7 5) (fun s_11 => rn_ tb_ct tb_mt B mm_X8_endChange 45 [.ref a0, .ref b_7, .int (0 : Int32), am_un] [] s_11)) else some (.inl none, s_6)))) xo)))) := by
  refine Eq.trans (rn_go 1 (pc' := 1) (L' := [.ref a0, am_un, am_un, am_un]) (st' := [.ref a0]) rfl) ?_
  refine Eq.trans (rn_gA (L' := [.ref a0, am_un, am_un, am_un]) rfl rfl rfl rfl) ?_
  refine eA_c ?_ (fun b_1 => ?_)
  · refine Eq.trans (rn_go 1 (pc' := 5) (L' := [.ref a0, am_un, am_un, am_un]) (st' := [.ref a0, .null]) rfl) ?_
    refine Eq.trans (rn_gA (L' := [.ref a0, am_un, am_un, am_un]) rfl rfl rfl rfl) ?_
    refine eA_c ?_ (fun b_2 => ?_)
    · exact rn_z rfl rfl
    · refine Eq.trans (rn_gI (L' := [.ref a0, am_un, am_un, am_un]) rfl rfl rfl rfl) ?_
      refine eI_c (fun x_3 => ?_)
      refine Eq.trans (rn_go 2 (pc' := 13) (L' := [.ref a0, am_un, am_un, am_un]) (st' := [.int (x_3 - (1 : Int32)), .null]) rfl) ?_
      exact rn_z rfl rfl
  · refine Eq.trans (rn_go 1 (pc' := 5) (L' := [.ref a0, am_un, am_un, am_un]) (st' := [.ref a0, .ref b_1]) rfl) ?_
    refine Eq.trans (rn_gA (L' := [.ref a0, am_un, am_un, am_un]) rfl rfl rfl rfl) ?_
    refine eA_c ?_ (fun b_4 => ?_)
    · exact rn_z rfl rfl
    · refine Eq.trans (rn_gI (L' := [.ref a0, am_un, am_un, am_un]) rfl rfl rfl rfl) ?_
      refine eI_c (fun x_5 => ?_)
      refine Eq.trans (rn_go 2 (pc' := 13) (L' := [.ref a0, am_un, am_un, am_un]) (st' := [.int (x_5 - (1 : Int32)), .ref b_1]) rfl) ?_
      refine Eq.trans (rn_vir (L' := [.ref a0, am_un, am_un, am_un]) (as := [.int (x_5 - (1 : Int32))]) (rest := []) rfl rfl rfl rfl rfl (Nat.le_of_ble_eq_true rfl) (by decide) (by decide)) ?_
      refine eC_c ?_
      refine Eq.trans (cW_A rfl rfl rfl) ?_
      refine cA_c (fun s_6 => ?_) (fun b_7 s_6 => ?_) (xh_nil rfl)
      · refine Eq.trans (rn_go 3 (pc' := 32) (L' := [.ref a0, .null, am_un, am_un]) (st' := []) rfl) ?_
        exact rn_retV rfl rfl
      · refine Eq.trans (rn_go 4 (pc' := 22) (L' := [.ref a0, .ref b_7, am_un, am_un]) (st' := [.ref b_7]) rfl) ?_
        refine Eq.trans (rn_gI (L' := [.ref a0, .ref b_7, am_un, am_un]) rfl rfl rfl rfl) ?_
        refine eI_c (fun x_8 => ?_)
        refine Eq.trans (rn_go 1 (pc' := 26) (L' := [.ref a0, .ref b_7, am_un, am_un]) (st' := [.ref a0, .int x_8]) rfl) ?_
        refine Eq.trans (rn_gI (L' := [.ref a0, .ref b_7, am_un, am_un]) rfl rfl rfl rfl) ?_
        refine eI_c (fun x_9 => ?_)
        refine Eq.trans (rn_icgt (L' := [.ref a0, .ref b_7, am_un, am_un]) rfl rfl) ?_
        refine if_c ?_ ?_
        · refine Eq.trans (rn_go 2 (pc' := 35) (L' := [.ref a0, .ref b_7, am_un, am_un]) (st' := [.ref a0, .ref a0]) rfl) ?_
          refine Eq.trans (rn_gI (L' := [.ref a0, .ref b_7, am_un, am_un]) rfl rfl rfl rfl) ?_
          refine eI_c (fun x_10 => ?_)
          refine Eq.trans (rn_go 2 (pc' := 40) (L' := [.ref a0, .ref b_7, am_un, am_un]) (st' := [.int (x_10 + (1 : Int32)), .ref a0]) rfl) ?_
          refine Eq.trans (rn_pF (L' := [.ref a0, .ref b_7, am_un, am_un]) rfl rfl) ?_
          refine eS_c (fun s_11 => ?_)
          exact rn_go 2 (pc' := 45) (L' := [.ref a0, .ref b_7, .int (0 : Int32), am_un]) (st' := []) rfl
        · exact rn_retV rfl rfl
theorem dc_X8_endChange_45 {B : Nat} (a0 : Nat) (w1 : Value) (x2 : Int32) (s : am_S) : rn_ tb_ct tb_mt B mm_X8_endChange 45 [.ref a0, w1, .int x2, am_un] [] s = if (152 : Int32) ≤ x2 then some (.inl none, s) else eA (gA tb_ct s a0 7 1) (none) (fun b_1 => eI (gI tb_ct s b_1 1 1) (fun x_2 => if x_2 ≤ (120 : Int32) then some (.inl none, s) else eA (gA tb_ct s a0 7 1) (none) (fun b_3 => eC (am_cls s b_3) 1 (cA (cl_ tb_ct tb_mt B K_X2_at [.ref b_3, .int (0 : Int32)] s) (fun s_4 => rn_ tb_ct tb_mt B mm_X8_endChange 86 [.ref a0, am_un, .int x2, va_rf none] [] s_4) (fun b_5 s_4 => eI (gI tb_ct s_4 b_5 0 0) (fun x_6 => eC (am_cls s_4 a0) 7 (cI (cl_ tb_ct tb_mt B K_X8_compactTo [.ref a0, .int x_6] s_4) (fun x_8 s_7 => rn_ tb_ct tb_mt B mm_X8_endChange 86 [.ref a0, am_un, .int x2, va_rf (some b_5)] [] s_7) xo))) xo)))) := by
  refine Eq.trans (rn_go 2 (pc' := 49) (L' := [.ref a0, am_un, .int x2, am_un]) (st' := [.int (152 : Int32), .int x2]) rfl) ?_
  refine Eq.trans (rn_icge (L' := [.ref a0, am_un, .int x2, am_un]) rfl rfl) ?_
  refine if_c ?_ ?_
  · exact rn_retV rfl rfl
  · refine Eq.trans (rn_go 1 (pc' := 53) (L' := [.ref a0, am_un, .int x2, am_un]) (st' := [.ref a0]) rfl) ?_
    refine Eq.trans (rn_gA (L' := [.ref a0, am_un, .int x2, am_un]) rfl rfl rfl rfl) ?_
    refine eA_c ?_ (fun b_1 => ?_)
    · exact rn_z rfl rfl
    · refine Eq.trans (rn_gI (L' := [.ref a0, am_un, .int x2, am_un]) rfl rfl rfl rfl) ?_
      refine eI_c (fun x_2 => ?_)
      refine Eq.trans (rn_go 1 (pc' := 61) (L' := [.ref a0, am_un, .int x2, am_un]) (st' := [.int (120 : Int32), .int x_2]) rfl) ?_
      refine Eq.trans (rn_icle (L' := [.ref a0, am_un, .int x2, am_un]) rfl rfl) ?_
      refine if_c ?_ ?_
      · exact rn_retV rfl rfl
      · refine Eq.trans (rn_go 1 (pc' := 65) (L' := [.ref a0, am_un, .int x2, am_un]) (st' := [.ref a0]) rfl) ?_
        refine Eq.trans (rn_gA (L' := [.ref a0, am_un, .int x2, am_un]) rfl rfl rfl rfl) ?_
        refine eA_c ?_ (fun b_3 => ?_)
        · refine Eq.trans (rn_go 1 (pc' := 69) (L' := [.ref a0, am_un, .int x2, am_un]) (st' := [.int (0 : Int32), .null]) rfl) ?_
          exact rn_z rfl rfl
        · refine Eq.trans (rn_go 1 (pc' := 69) (L' := [.ref a0, am_un, .int x2, am_un]) (st' := [.int (0 : Int32), .ref b_3]) rfl) ?_
          refine Eq.trans (rn_vir (L' := [.ref a0, am_un, .int x2, am_un]) (as := [.int (0 : Int32)]) (rest := []) rfl rfl rfl rfl rfl (Nat.le_of_ble_eq_true rfl) (by decide) (by decide)) ?_
          refine eC_c ?_
          refine Eq.trans (cW_A rfl rfl rfl) ?_
          refine cA_c (fun s_4 => ?_) (fun b_5 s_4 => ?_) (xh_nil rfl)
          · exact rn_go 3 (pc' := 86) (L' := [.ref a0, am_un, .int x2, va_rf none]) (st' := []) rfl
          · refine Eq.trans (rn_go 5 (pc' := 79) (L' := [.ref a0, am_un, .int x2, .ref b_5]) (st' := [.ref b_5, .ref a0]) rfl) ?_
            refine Eq.trans (rn_gI (L' := [.ref a0, am_un, .int x2, .ref b_5]) rfl rfl rfl rfl) ?_
            refine eI_c (fun x_6 => ?_)
            refine Eq.trans (rn_vir (L' := [.ref a0, am_un, .int x2, .ref b_5]) (as := [.int x_6]) (rest := []) rfl rfl rfl rfl rfl (Nat.le_of_ble_eq_true rfl) (by decide) (by decide)) ?_
            refine eC_c ?_
            refine Eq.trans (cW_I rfl rfl rfl) ?_
            refine cI_c (fun x_8 s_7 => ?_) (xh_nil rfl)
            exact rn_go 1 (pc' := 86) (L' := [.ref a0, am_un, .int x2, va_rf (some b_5)]) (st' := []) rfl
theorem dc_X8_endChange_86 {B : Nat} (a0 : Nat) (x2 : Int32) (w3 : Value) (s : am_S) : rn_ tb_ct tb_mt B mm_X8_endChange 86 [.ref a0, am_un, .int x2, w3] [] s = rn_ tb_ct tb_mt B mm_X8_endChange 45 [.ref a0, am_un, .int (x2 + (1 : Int32)), am_un] [] s := by
  exact rn_go 2 (pc' := 45) (L' := [.ref a0, am_un, .int (x2 + (1 : Int32)), am_un]) (st' := []) rfl
theorem in_X8_compactTo {B : Nat} (a0 : Nat) (x1 : Int32) (s : am_S) : cl_ tb_ct tb_mt B K_X8_compactTo [.ref a0, .int x1] s = rn_ tb_ct tb_mt B mm_X8_compactTo 0 [.ref a0, .int x1, am_un, am_un, am_un] [] s := cl_in rfl rfl rfl rfl
theorem dc_X8_compactTo_0 {B : Nat} (a0 : Nat) (x1 : Int32) (s : am_S) : rn_ tb_ct tb_mt B mm_X8_compactTo 0 [.ref a0, .int x1, am_un, am_un, am_un] [] s = eA (gA tb_ct s a0 7 1) (none) (fun b_1 => eC (am_cls s b_1) 1 (cI (cl_ tb_ct tb_mt B K_X2_countTo [.ref b_1, .int x1] s) (fun x_3 s_2 => rn_ tb_ct tb_mt B mm_X8_compactTo 11 [.ref a0, .int x1, .int x_3, .int (0 : Int32), am_un] [] s_2) xo)) := by
  refine Eq.trans (rn_go 1 (pc' := 1) (L' := [.ref a0, .int x1, am_un, am_un, am_un]) (st' := [.ref a0]) rfl) ?_
  refine Eq.trans (rn_gA (L' := [.ref a0, .int x1, am_un, am_un, am_un]) rfl rfl rfl rfl) ?_
  refine eA_c ?_ (fun b_1 => ?_)
  · refine Eq.trans (rn_go 1 (pc' := 5) (L' := [.ref a0, .int x1, am_un, am_un, am_un]) (st' := [.int x1, .null]) rfl) ?_
    exact rn_z rfl rfl
  · refine Eq.trans (rn_go 1 (pc' := 5) (L' := [.ref a0, .int x1, am_un, am_un, am_un]) (st' := [.int x1, .ref b_1]) rfl) ?_
    refine Eq.trans (rn_vir (L' := [.ref a0, .int x1, am_un, am_un, am_un]) (as := [.int x1]) (rest := []) rfl rfl rfl rfl rfl (Nat.le_of_ble_eq_true rfl) (by decide) (by decide)) ?_
    refine eC_c ?_
    refine Eq.trans (cW_I rfl rfl rfl) ?_
    refine cI_c (fun x_3 s_2 => ?_) (xh_nil rfl)
    exact rn_go 3 (pc' := 11) (L' := [.ref a0, .int x1, .int x_3, .int (0 : Int32), am_un]) (st' := []) rfl
theorem dc_X8_compactTo_11 {B : Nat} (a0 : Nat) (x1 : Int32) (x2 : Int32) (x3 : Int32) (s : am_S) : rn_ tb_ct tb_mt B mm_X8_compactTo 11 [.ref a0, .int x1, .int x2, .int x3, am_un] [] s = eI (gI tb_ct s a0 7 8) (fun x_1 => if x_1 ≤ x3 then eA (gA tb_ct s a0 7 1) (none) (fun b_2 => eC (am_cls s b_2) 1 (cV (cl_ tb_ct tb_mt B K_X2_dropFirst [.ref b_2, .int x2] s) (fun s_3 => eS (am_put tb_ct mm_X8_compactTo B s_3 (.int x1) a0 7 6) (fun s_4 => some (.inl (some (.int x2)), s_4))) xo)) else eC (am_cls s a0) 7 (cA (cl_ tb_ct tb_mt B K_X8_watchAt [.ref a0, .int x3] s) (fun s_5 => rn_ tb_ct tb_mt B mm_X8_compactTo 41 [.ref a0, .int x1, .int x2, .int x3, va_rf none] [] s_5) (fun b_6 s_5 => eA (gA tb_ct s_5 a0 7 1) (eC (am_cls s_5 b_6) 9 (cV (cl_ tb_ct tb_mt B K_X11_loseFirst [.ref b_6, .int x2, .null] s_5) (fun s_8 => rn_ tb_ct tb_mt B mm_X8_compactTo 41 [.ref a0, .int x1, .int x2, .int x3, va_rf (some b_6)] [] s_8) xo)) (fun b_7 => eC (am_cls s_5 b_6) 9 (cV (cl_ tb_ct tb_mt B K_X11_loseFirst [.ref b_6, .int x2, .ref b_7] s_5) (fun s_9 => rn_ tb_ct tb_mt B mm_X8_compactTo 41 [.ref a0, .int x1, .int x2, .int x3, va_rf (some b_6)] [] s_9) xo))) xo)) := by
  refine Eq.trans (rn_go 2 (pc' := 13) (L' := [.ref a0, .int x1, .int x2, .int x3, am_un]) (st' := [.ref a0, .int x3]) rfl) ?_
  refine Eq.trans (rn_gI (L' := [.ref a0, .int x1, .int x2, .int x3, am_un]) rfl rfl rfl rfl) ?_
  refine eI_c (fun x_1 => ?_)
  refine Eq.trans (rn_icge (L' := [.ref a0, .int x1, .int x2, .int x3, am_un]) rfl rfl) ?_
  refine if_c ?_ ?_
  · refine Eq.trans (rn_go 1 (pc' := 48) (L' := [.ref a0, .int x1, .int x2, .int x3, am_un]) (st' := [.ref a0]) rfl) ?_
    refine Eq.trans (rn_gA (L' := [.ref a0, .int x1, .int x2, .int x3, am_un]) rfl rfl rfl rfl) ?_
    refine eA_c ?_ (fun b_2 => ?_)
    · refine Eq.trans (rn_go 1 (pc' := 52) (L' := [.ref a0, .int x1, .int x2, .int x3, am_un]) (st' := [.int x2, .null]) rfl) ?_
      exact rn_z rfl rfl
    · refine Eq.trans (rn_go 1 (pc' := 52) (L' := [.ref a0, .int x1, .int x2, .int x3, am_un]) (st' := [.int x2, .ref b_2]) rfl) ?_
      refine Eq.trans (rn_vir (L' := [.ref a0, .int x1, .int x2, .int x3, am_un]) (as := [.int x2]) (rest := []) rfl rfl rfl rfl rfl (Nat.le_of_ble_eq_true rfl) (by decide) (by decide)) ?_
      refine eC_c ?_
      refine Eq.trans (cW_V rfl rfl) ?_
      refine cV_c (fun s_3 => ?_) (xh_nil rfl)
      refine Eq.trans (rn_go 2 (pc' := 57) (L' := [.ref a0, .int x1, .int x2, .int x3, am_un]) (st' := [.int x1, .ref a0]) rfl) ?_
      refine Eq.trans (rn_pF (L' := [.ref a0, .int x1, .int x2, .int x3, am_un]) rfl rfl) ?_
      refine eS_c (fun s_4 => ?_)
      refine Eq.trans (rn_go 1 (pc' := 61) (L' := [.ref a0, .int x1, .int x2, .int x3, am_un]) (st' := [.int x2]) rfl) ?_
      exact rn_retI rfl rfl rfl
  · refine Eq.trans (rn_go 2 (pc' := 21) (L' := [.ref a0, .int x1, .int x2, .int x3, am_un]) (st' := [.int x3, .ref a0]) rfl) ?_
    refine Eq.trans (rn_vir (L' := [.ref a0, .int x1, .int x2, .int x3, am_un]) (as := [.int x3]) (rest := []) rfl rfl rfl rfl rfl (Nat.le_of_ble_eq_true rfl) (by decide) (by decide)) ?_
    refine eC_c ?_
    refine Eq.trans (cW_A rfl rfl rfl) ?_
    refine cA_c (fun s_5 => ?_) (fun b_6 s_5 => ?_) (xh_nil rfl)
    · exact rn_go 3 (pc' := 41) (L' := [.ref a0, .int x1, .int x2, .int x3, va_rf none]) (st' := []) rfl
    · refine Eq.trans (rn_go 6 (pc' := 35) (L' := [.ref a0, .int x1, .int x2, .int x3, .ref b_6]) (st' := [.ref a0, .int x2, .ref b_6]) rfl) ?_
      refine Eq.trans (rn_gA (L' := [.ref a0, .int x1, .int x2, .int x3, .ref b_6]) rfl rfl rfl rfl) ?_
      refine eA_c ?_ (fun b_7 => ?_)
      · refine Eq.trans (rn_vir (L' := [.ref a0, .int x1, .int x2, .int x3, .ref b_6]) (as := [.int x2, .null]) (rest := []) rfl rfl rfl rfl rfl (Nat.le_of_ble_eq_true rfl) (by decide) (by decide)) ?_
        refine eC_c ?_
        refine Eq.trans (cW_V rfl rfl) ?_
        refine cV_c (fun s_8 => ?_) (xh_nil rfl)
        rfl
      · refine Eq.trans (rn_vir (L' := [.ref a0, .int x1, .int x2, .int x3, .ref b_6]) (as := [.int x2, .ref b_7]) (rest := []) rfl rfl rfl rfl rfl (Nat.le_of_ble_eq_true rfl) (by decide) (by decide)) ?_
        refine eC_c ?_
        refine Eq.trans (cW_V rfl rfl) ?_
        refine cV_c (fun s_9 => ?_) (xh_nil rfl)
        rfl
theorem dc_X8_compactTo_41 {B : Nat} (a0 : Nat) (x1 : Int32) (x2 : Int32) (x3 : Int32) (w4 : Value) (s : am_S) : rn_ tb_ct tb_mt B mm_X8_compactTo 41 [.ref a0, .int x1, .int x2, .int x3, w4] [] s = rn_ tb_ct tb_mt B mm_X8_compactTo 11 [.ref a0, .int x1, .int x2, .int (x3 + (1 : Int32)), am_un] [] s := by
  exact rn_go 2 (pc' := 11) (L' := [.ref a0, .int x1, .int x2, .int (x3 + (1 : Int32)), am_un]) (st' := []) rfl
theorem in_X8_compactFor {B : Nat} (a0 : Nat) (x1 : Int32) (s : am_S) : cl_ tb_ct tb_mt B K_X8_compactFor [.ref a0, .int x1] s = rn_ tb_ct tb_mt B mm_X8_compactFor 0 [.ref a0, .int x1] [] s := cl_in rfl rfl rfl rfl
theorem dc_X8_compactFor_0 {B : Nat} (a0 : Nat) (x1 : Int32) (s : am_S) : rn_ tb_ct tb_mt B mm_X8_compactFor 0 [.ref a0, .int x1] [] s = eI (gI tb_ct s a0 7 6) (fun x_1 => if x_1 < x1 then eI (gI tb_ct s a0 7 5) (fun x_2 => if x1 ≤ x_2 then eC (am_cls s a0) 7 (cI (cl_ tb_ct tb_mt B K_X8_compactTo [.ref a0, .int x1] s) (fun x_4 s_3 => some (.inl (some (.int x_4)), s_3)) xo) else some (.inl (some (.int (-(2000000002 : Int32)))), s)) else some (.inl (some (.int (-(2000000001 : Int32)))), s)) := by
  refine Eq.trans (rn_go 2 (pc' := 2) (L' := [.ref a0, .int x1]) (st' := [.ref a0, .int x1]) rfl) ?_
  refine Eq.trans (rn_gI (L' := [.ref a0, .int x1]) rfl rfl rfl rfl) ?_
  refine eI_c (fun x_1 => ?_)
  refine Eq.trans (rn_icgt (L' := [.ref a0, .int x1]) rfl rfl) ?_
  refine if_c ?_ ?_
  · refine Eq.trans (rn_go 2 (pc' := 13) (L' := [.ref a0, .int x1]) (st' := [.ref a0, .int x1]) rfl) ?_
    refine Eq.trans (rn_gI (L' := [.ref a0, .int x1]) rfl rfl rfl rfl) ?_
    refine eI_c (fun x_2 => ?_)
    refine Eq.trans (rn_icle (L' := [.ref a0, .int x1]) rfl rfl) ?_
    refine if_c ?_ ?_
    · refine Eq.trans (rn_go 2 (pc' := 26) (L' := [.ref a0, .int x1]) (st' := [.int x1, .ref a0]) rfl) ?_
      refine Eq.trans (rn_vir (L' := [.ref a0, .int x1]) (as := [.int x1]) (rest := []) rfl rfl rfl rfl rfl (Nat.le_of_ble_eq_true rfl) (by decide) (by decide)) ?_
      refine eC_c ?_
      refine Eq.trans (cW_I rfl rfl rfl) ?_
      refine cI_c (fun x_4 s_3 => ?_) (xh_nil rfl)
      exact rn_retI rfl rfl rfl
    · refine Eq.trans (rn_go 2 (pc' := 29) (L' := [.ref a0, .int x1]) (st' := [.int (-(2000000002 : Int32))]) rfl) ?_
      exact rn_retI rfl rfl rfl
  · refine Eq.trans (rn_go 1 (pc' := 10) (L' := [.ref a0, .int x1]) (st' := [.int (-(2000000001 : Int32))]) rfl) ?_
    exact rn_retI rfl rfl rfl
theorem in_X8_putKey {B : Nat} (a0 : Nat) (x1 : Int32) (x2 : Int32) (x3 : Int32) (s : am_S) : cl_ tb_ct tb_mt B K_X8_putKey [.ref a0, .int x1, .int x2, .int x3] s = rn_ tb_ct tb_mt B mm_X8_putKey 0 [.ref a0, .int x1, .int x2, .int x3] [] s := cl_in rfl rfl rfl rfl
theorem dc_X8_putKey_0 {B : Nat} (a0 : Nat) (x1 : Int32) (x2 : Int32) (x3 : Int32) (s : am_S) : rn_ tb_ct tb_mt B mm_X8_putKey 0 [.ref a0, .int x1, .int x2, .int x3] [] s = eA (gA tb_ct s a0 7 0) (none) (fun b_1 => eI (gI tb_ct s b_1 3 1) (fun x_2 => if x_2 < (16 : Int32) then rn_ tb_ct tb_mt B mm_X8_putKey 26 [.ref a0, .int x1, .int x2, .int x3] [] s else eA (gA tb_ct s a0 7 0) (none) (fun b_3 => eC (am_cls s b_3) 3 (cA (cl_ tb_ct tb_mt B K_X4_find [.ref b_3, .int x1] s) (fun s_4 => some (.inl (some (.int (-(2 : Int32)))), s_4)) (fun b_5 s_4 => rn_ tb_ct tb_mt B mm_X8_putKey 26 [.ref a0, .int x1, .int x2, .int x3] [] s_4) xo)))) := by
  refine Eq.trans (rn_go 1 (pc' := 1) (L' := [.ref a0, .int x1, .int x2, .int x3]) (st' := [.ref a0]) rfl) ?_
  refine Eq.trans (rn_gA (L' := [.ref a0, .int x1, .int x2, .int x3]) rfl rfl rfl rfl) ?_
  refine eA_c ?_ (fun b_1 => ?_)
  · exact rn_z rfl rfl
  · refine Eq.trans (rn_gI (L' := [.ref a0, .int x1, .int x2, .int x3]) rfl rfl rfl rfl) ?_
    refine eI_c (fun x_2 => ?_)
    refine Eq.trans (rn_go 1 (pc' := 9) (L' := [.ref a0, .int x1, .int x2, .int x3]) (st' := [.int (16 : Int32), .int x_2]) rfl) ?_
    refine Eq.trans (rn_iclt (L' := [.ref a0, .int x1, .int x2, .int x3]) rfl rfl) ?_
    refine if_c ?_ ?_
    · rfl
    · refine Eq.trans (rn_go 1 (pc' := 13) (L' := [.ref a0, .int x1, .int x2, .int x3]) (st' := [.ref a0]) rfl) ?_
      refine Eq.trans (rn_gA (L' := [.ref a0, .int x1, .int x2, .int x3]) rfl rfl rfl rfl) ?_
      refine eA_c ?_ (fun b_3 => ?_)
      · refine Eq.trans (rn_go 1 (pc' := 17) (L' := [.ref a0, .int x1, .int x2, .int x3]) (st' := [.int x1, .null]) rfl) ?_
        exact rn_z rfl rfl
      · refine Eq.trans (rn_go 1 (pc' := 17) (L' := [.ref a0, .int x1, .int x2, .int x3]) (st' := [.int x1, .ref b_3]) rfl) ?_
        refine Eq.trans (rn_vir (L' := [.ref a0, .int x1, .int x2, .int x3]) (as := [.int x1]) (rest := []) rfl rfl rfl rfl rfl (Nat.le_of_ble_eq_true rfl) (by decide) (by decide)) ?_
        refine eC_c ?_
        refine Eq.trans (cW_A rfl rfl rfl) ?_
        refine cA_c (fun s_4 => ?_) (fun b_5 s_4 => ?_) (xh_nil rfl)
        · refine Eq.trans (rn_go 2 (pc' := 25) (L' := [.ref a0, .int x1, .int x2, .int x3]) (st' := [.int (-(2 : Int32))]) rfl) ?_
          exact rn_retI rfl rfl rfl
        · exact rn_go 1 (pc' := 26) (L' := [.ref a0, .int x1, .int x2, .int x3]) (st' := []) rfl
theorem dc_X8_putKey_26 {B : Nat} (a0 : Nat) (x1 : Int32) (x2 : Int32) (x3 : Int32) (s : am_S) : rn_ tb_ct tb_mt B mm_X8_putKey 26 [.ref a0, .int x1, .int x2, .int x3] [] s = if x3 = 0 then rn_ tb_ct tb_mt B mm_X8_putKey 42 [.ref a0, .int x1, .int x2, .int x3] [] s else eC (am_cls s a0) 7 (cI (cl_ tb_ct tb_mt B K_X8_findLease [.ref a0, .int x3] s) (fun x_2 s_1 => if x_2 = (-(1 : Int32)) then some (.inl (some (.int (-(3 : Int32)))), s_1) else rn_ tb_ct tb_mt B mm_X8_putKey 42 [.ref a0, .int x1, .int x2, .int x3] [] s_1) xo) := by
  refine Eq.trans (rn_go 1 (pc' := 27) (L' := [.ref a0, .int x1, .int x2, .int x3]) (st' := [.int x3]) rfl) ?_
  refine Eq.trans (rn_ifeq (L' := [.ref a0, .int x1, .int x2, .int x3]) rfl rfl) ?_
  refine if_c ?_ ?_
  · rfl
  · refine Eq.trans (rn_go 2 (pc' := 32) (L' := [.ref a0, .int x1, .int x2, .int x3]) (st' := [.int x3, .ref a0]) rfl) ?_
    refine Eq.trans (rn_vir (L' := [.ref a0, .int x1, .int x2, .int x3]) (as := [.int x3]) (rest := []) rfl rfl rfl rfl rfl (Nat.le_of_ble_eq_true rfl) (by decide) (by decide)) ?_
    refine eC_c ?_
    refine Eq.trans (cW_I rfl rfl rfl) ?_
    refine cI_c (fun x_2 s_1 => ?_) (xh_nil rfl)
    refine Eq.trans (rn_go 1 (pc' := 36) (L' := [.ref a0, .int x1, .int x2, .int x3]) (st' := [.int (-(1 : Int32)), .int x_2]) rfl) ?_
    refine Eq.trans (rn_icne (L' := [.ref a0, .int x1, .int x2, .int x3]) rfl rfl) ?_
    refine if_c ?_ ?_
    · refine Eq.trans (rn_go 1 (pc' := 41) (L' := [.ref a0, .int x1, .int x2, .int x3]) (st' := [.int (-(3 : Int32))]) rfl) ?_
      exact rn_retI rfl rfl rfl
    · rfl
theorem dc_X8_putKey_42 {B : Nat} (a0 : Nat) (x1 : Int32) (x2 : Int32) (x3 : Int32) (s : am_S) : rn_ tb_ct tb_mt B mm_X8_putKey 42 [.ref a0, .int x1, .int x2, .int x3] [] s = eC (am_cls s a0) 7 (cV (cl_ tb_ct tb_mt B K_X8_writeOne [.ref a0, .int x1, .int x2, .int x3] s) (fun s_1 => eC (am_cls s_1 a0) 7 (cV (cl_ tb_ct tb_mt B K_X8_endChange [.ref a0] s_1) (fun s_2 => eI (gI tb_ct s_2 a0 7 5) (fun x_3 => some (.inl (some (.int x_3)), s_2))) xo)) xo) := by
  refine Eq.trans (rn_go 4 (pc' := 46) (L' := [.ref a0, .int x1, .int x2, .int x3]) (st' := [.int x3, .int x2, .int x1, .ref a0]) rfl) ?_
  refine Eq.trans (rn_vir (L' := [.ref a0, .int x1, .int x2, .int x3]) (as := [.int x1, .int x2, .int x3]) (rest := []) rfl rfl rfl rfl rfl (Nat.le_of_ble_eq_true rfl) (by decide) (by decide)) ?_
  refine eC_c ?_
  refine Eq.trans (cW_V rfl rfl) ?_
  refine cV_c (fun s_1 => ?_) (xh_nil rfl)
  refine Eq.trans (rn_go 1 (pc' := 50) (L' := [.ref a0, .int x1, .int x2, .int x3]) (st' := [.ref a0]) rfl) ?_
  refine Eq.trans (rn_vir (L' := [.ref a0, .int x1, .int x2, .int x3]) (as := []) (rest := []) rfl rfl rfl rfl rfl (Nat.le_of_ble_eq_true rfl) (by decide) (by decide)) ?_
  refine eC_c ?_
  refine Eq.trans (cW_V rfl rfl) ?_
  refine cV_c (fun s_2 => ?_) (xh_nil rfl)
  refine Eq.trans (rn_go 1 (pc' := 54) (L' := [.ref a0, .int x1, .int x2, .int x3]) (st' := [.ref a0]) rfl) ?_
  refine Eq.trans (rn_gI (L' := [.ref a0, .int x1, .int x2, .int x3]) rfl rfl rfl rfl) ?_
  refine eI_c (fun x_3 => ?_)
  exact rn_retI rfl rfl rfl
theorem in_X8_deleteRange {B : Nat} (a0 : Nat) (x1 : Int32) (x2 : Int32) (s : am_S) : cl_ tb_ct tb_mt B K_X8_deleteRange [.ref a0, .int x1, .int x2] s = rn_ tb_ct tb_mt B mm_X8_deleteRange 0 [.ref a0, .int x1, .int x2, am_un, am_un, am_un] [] s := cl_in rfl rfl rfl rfl
theorem dc_X8_deleteRange_0 {B : Nat} (a0 : Nat) (x1 : Int32) (x2 : Int32) (s : am_S) : rn_ tb_ct tb_mt B mm_X8_deleteRange 0 [.ref a0, .int x1, .int x2, am_un, am_un, am_un] [] s = eA (gA tb_ct s a0 7 0) (none) (fun b_1 => eC (am_cls s b_1) 3 (cI (cl_ tb_ct tb_mt B K_X4_firstFrom [.ref b_1, .int x1] s) (fun x_3 s_2 => eA (gA tb_ct s_2 a0 7 0) (none) (fun b_4 => eC (am_cls s_2 b_4) 3 (cI (cl_ tb_ct tb_mt B K_X4_firstFrom [.ref b_4, .int (x2 + (1 : Int32))] s_2) (fun x_6 s_5 => rn_ tb_ct tb_mt B mm_X8_deleteRange 26 [.ref a0, .int x1, .int x2, .int x_3, .int (x_6 - x_3), .int (0 : Int32)] [] s_5) xo))) xo)) := by
  refine Eq.trans (rn_go 1 (pc' := 1) (L' := [.ref a0, .int x1, .int x2, am_un, am_un, am_un]) (st' := [.ref a0]) rfl) ?_
  refine Eq.trans (rn_gA (L' := [.ref a0, .int x1, .int x2, am_un, am_un, am_un]) rfl rfl rfl rfl) ?_
  refine eA_c ?_ (fun b_1 => ?_)
  · refine Eq.trans (rn_go 1 (pc' := 5) (L' := [.ref a0, .int x1, .int x2, am_un, am_un, am_un]) (st' := [.int x1, .null]) rfl) ?_
    exact rn_z rfl rfl
  · refine Eq.trans (rn_go 1 (pc' := 5) (L' := [.ref a0, .int x1, .int x2, am_un, am_un, am_un]) (st' := [.int x1, .ref b_1]) rfl) ?_
    refine Eq.trans (rn_vir (L' := [.ref a0, .int x1, .int x2, am_un, am_un, am_un]) (as := [.int x1]) (rest := []) rfl rfl rfl rfl rfl (Nat.le_of_ble_eq_true rfl) (by decide) (by decide)) ?_
    refine eC_c ?_
    refine Eq.trans (cW_I rfl rfl rfl) ?_
    refine cI_c (fun x_3 s_2 => ?_) (xh_nil rfl)
    refine Eq.trans (rn_go 2 (pc' := 10) (L' := [.ref a0, .int x1, .int x2, .int x_3, am_un, am_un]) (st' := [.ref a0]) rfl) ?_
    refine Eq.trans (rn_gA (L' := [.ref a0, .int x1, .int x2, .int x_3, am_un, am_un]) rfl rfl rfl rfl) ?_
    refine eA_c ?_ (fun b_4 => ?_)
    · refine Eq.trans (rn_go 3 (pc' := 16) (L' := [.ref a0, .int x1, .int x2, .int x_3, am_un, am_un]) (st' := [.int (x2 + (1 : Int32)), .null]) rfl) ?_
      exact rn_z rfl rfl
    · refine Eq.trans (rn_go 3 (pc' := 16) (L' := [.ref a0, .int x1, .int x2, .int x_3, am_un, am_un]) (st' := [.int (x2 + (1 : Int32)), .ref b_4]) rfl) ?_
      refine Eq.trans (rn_vir (L' := [.ref a0, .int x1, .int x2, .int x_3, am_un, am_un]) (as := [.int (x2 + (1 : Int32))]) (rest := []) rfl rfl rfl rfl rfl (Nat.le_of_ble_eq_true rfl) (by decide) (by decide)) ?_
      refine eC_c ?_
      refine Eq.trans (cW_I rfl rfl rfl) ?_
      refine cI_c (fun x_6 s_5 => ?_) (xh_nil rfl)
      exact rn_go 5 (pc' := 26) (L' := [.ref a0, .int x1, .int x2, .int x_3, .int (x_6 - x_3), .int (0 : Int32)]) (st' := []) rfl
theorem dc_X8_deleteRange_26 {B : Nat} (a0 : Nat) (w1 : Value) (w2 : Value) (x3 : Int32) (x4 : Int32) (x5 : Int32) (s : am_S) : rn_ tb_ct tb_mt B mm_X8_deleteRange 26 [.ref a0, w1, w2, .int x3, .int x4, .int x5] [] s = if x4 ≤ x5 then eC (am_cls s a0) 7 (cV (cl_ tb_ct tb_mt B K_X8_endChange [.ref a0] s) (fun s_1 => some (.inl (some (.int x4)), s_1)) xo) else eC (am_cls s a0) 7 (cV (cl_ tb_ct tb_mt B K_X8_deleteAt [.ref a0, .int x3] s) (fun s_2 => rn_ tb_ct tb_mt B mm_X8_deleteRange 26 [.ref a0, am_un, am_un, .int x3, .int x4, .int (x5 + (1 : Int32))] [] s_2) xo) := by
  refine Eq.trans (rn_go 2 (pc' := 30) (L' := [.ref a0, am_un, am_un, .int x3, .int x4, .int x5]) (st' := [.int x4, .int x5]) rfl) ?_
  refine Eq.trans (rn_icge (L' := [.ref a0, am_un, am_un, .int x3, .int x4, .int x5]) rfl rfl) ?_
  refine if_c ?_ ?_
  · refine Eq.trans (rn_go 1 (pc' := 45) (L' := [.ref a0, am_un, am_un, .int x3, .int x4, .int x5]) (st' := [.ref a0]) rfl) ?_
    refine Eq.trans (rn_vir (L' := [.ref a0, am_un, am_un, .int x3, .int x4, .int x5]) (as := []) (rest := []) rfl rfl rfl rfl rfl (Nat.le_of_ble_eq_true rfl) (by decide) (by decide)) ?_
    refine eC_c ?_
    refine Eq.trans (cW_V rfl rfl) ?_
    refine cV_c (fun s_1 => ?_) (xh_nil rfl)
    refine Eq.trans (rn_go 1 (pc' := 50) (L' := [.ref a0, am_un, am_un, .int x3, .int x4, .int x5]) (st' := [.int x4]) rfl) ?_
    exact rn_retI rfl rfl rfl
  · refine Eq.trans (rn_go 2 (pc' := 35) (L' := [.ref a0, am_un, am_un, .int x3, .int x4, .int x5]) (st' := [.int x3, .ref a0]) rfl) ?_
    refine Eq.trans (rn_vir (L' := [.ref a0, am_un, am_un, .int x3, .int x4, .int x5]) (as := [.int x3]) (rest := []) rfl rfl rfl rfl rfl (Nat.le_of_ble_eq_true rfl) (by decide) (by decide)) ?_
    refine eC_c ?_
    refine Eq.trans (cW_V rfl rfl) ?_
    refine cV_c (fun s_2 => ?_) (xh_nil rfl)
    exact rn_go 2 (pc' := 26) (L' := [.ref a0, am_un, am_un, .int x3, .int x4, .int (x5 + (1 : Int32))]) (st' := []) rfl
theorem in_X8_revertTo {B : Nat} (a0 : Nat) (x1 : Int32) (a2 : Nat) (s : am_S) : cl_ tb_ct tb_mt B K_X8_revertTo [.ref a0, .int x1, .ref a2] s = rn_ tb_ct tb_mt B mm_X8_revertTo 0 [.ref a0, .int x1, .ref a2, am_un, am_un, am_un] [] s := cl_in rfl rfl rfl rfl
theorem dc_X8_revertTo_0 {B : Nat} (a0 : Nat) (x1 : Int32) (a2 : Nat) (s : am_S) : rn_ tb_ct tb_mt B mm_X8_revertTo 0 [.ref a0, .int x1, .ref a2, am_un, am_un, am_un] [] s = eC (am_cls s a0) 7 (cI (cl_ tb_ct tb_mt B K_X8_recall [.ref a0, .int x1, .ref a2] s) (fun x_2 s_1 => if x_2 = 0 then eA (gA tb_ct s_1 a0 7 1) (none) (fun b_3 => eI (gI tb_ct s_1 b_3 1 1) (fun x_4 => eC (am_cls s_1 a0) 7 (cV (cl_ tb_ct tb_mt B K_X8_deleteAllBut [.ref a0, .ref a2] s_1) (fun s_5 => eC (am_cls s_5 a0) 7 (cV (cl_ tb_ct tb_mt B K_X8_writeUnlike [.ref a0, .ref a2] s_5) (fun s_6 => eA (gA tb_ct s_6 a0 7 1) (none) (fun b_7 => eI (gI tb_ct s_6 b_7 1 1) (fun x_8 => eC (am_cls s_6 a0) 7 (cV (cl_ tb_ct tb_mt B K_X8_endChange [.ref a0] s_6) (fun s_9 => some (.inl (some (.int (x_8 - x_4))), s_9)) xo)))) xo)) xo))) else some (.inl (some (.int x_2)), s_1)) xo) := by
  refine Eq.trans (rn_go 3 (pc' := 3) (L' := [.ref a0, .int x1, .ref a2, am_un, am_un, am_un]) (st' := [.ref a2, .int x1, .ref a0]) rfl) ?_
  refine Eq.trans (rn_vir (L' := [.ref a0, .int x1, .ref a2, am_un, am_un, am_un]) (as := [.int x1, .ref a2]) (rest := []) rfl rfl rfl rfl rfl (Nat.le_of_ble_eq_true rfl) (by decide) (by decide)) ?_
  refine eC_c ?_
  refine Eq.trans (cW_I rfl rfl rfl) ?_
  refine cI_c (fun x_2 s_1 => ?_) (xh_nil rfl)
  refine Eq.trans (rn_go 2 (pc' := 8) (L' := [.ref a0, .int x1, .ref a2, .int x_2, am_un, am_un]) (st' := [.int x_2]) rfl) ?_
  refine Eq.trans (rn_ifeq (L' := [.ref a0, .int x1, .ref a2, .int x_2, am_un, am_un]) rfl rfl) ?_
  refine if_c ?_ ?_
  · refine Eq.trans (rn_go 1 (pc' := 14) (L' := [.ref a0, .int x1, .ref a2, .int x_2, am_un, am_un]) (st' := [.ref a0]) rfl) ?_
    refine Eq.trans (rn_gA (L' := [.ref a0, .int x1, .ref a2, .int x_2, am_un, am_un]) rfl rfl rfl rfl) ?_
    refine eA_c ?_ (fun b_3 => ?_)
    · exact rn_z rfl rfl
    · refine Eq.trans (rn_gI (L' := [.ref a0, .int x1, .ref a2, .int x_2, am_un, am_un]) rfl rfl rfl rfl) ?_
      refine eI_c (fun x_4 => ?_)
      refine Eq.trans (rn_go 3 (pc' := 24) (L' := [.ref a0, .int x1, .ref a2, .int x_2, .int x_4, am_un]) (st' := [.ref a2, .ref a0]) rfl) ?_
      refine Eq.trans (rn_vir (L' := [.ref a0, .int x1, .ref a2, .int x_2, .int x_4, am_un]) (as := [.ref a2]) (rest := []) rfl rfl rfl rfl rfl (Nat.le_of_ble_eq_true rfl) (by decide) (by decide)) ?_
      refine eC_c ?_
      refine Eq.trans (cW_V rfl rfl) ?_
      refine cV_c (fun s_5 => ?_) (xh_nil rfl)
      refine Eq.trans (rn_go 2 (pc' := 29) (L' := [.ref a0, .int x1, .ref a2, .int x_2, .int x_4, am_un]) (st' := [.ref a2, .ref a0]) rfl) ?_
      refine Eq.trans (rn_vir (L' := [.ref a0, .int x1, .ref a2, .int x_2, .int x_4, am_un]) (as := [.ref a2]) (rest := []) rfl rfl rfl rfl rfl (Nat.le_of_ble_eq_true rfl) (by decide) (by decide)) ?_
      refine eC_c ?_
      refine Eq.trans (cW_V rfl rfl) ?_
      refine cV_c (fun s_6 => ?_) (xh_nil rfl)
      refine Eq.trans (rn_go 1 (pc' := 33) (L' := [.ref a0, .int x1, .ref a2, .int x_2, .int x_4, am_un]) (st' := [.ref a0]) rfl) ?_
      refine Eq.trans (rn_gA (L' := [.ref a0, .int x1, .ref a2, .int x_2, .int x_4, am_un]) rfl rfl rfl rfl) ?_
      refine eA_c ?_ (fun b_7 => ?_)
      · exact rn_z rfl rfl
      · refine Eq.trans (rn_gI (L' := [.ref a0, .int x1, .ref a2, .int x_2, .int x_4, am_un]) rfl rfl rfl rfl) ?_
        refine eI_c (fun x_8 => ?_)
        refine Eq.trans (rn_go 4 (pc' := 45) (L' := [.ref a0, .int x1, .ref a2, .int x_2, .int x_4, .int (x_8 - x_4)]) (st' := [.ref a0]) rfl) ?_
        refine Eq.trans (rn_vir (L' := [.ref a0, .int x1, .ref a2, .int x_2, .int x_4, .int (x_8 - x_4)]) (as := []) (rest := []) rfl rfl rfl rfl rfl (Nat.le_of_ble_eq_true rfl) (by decide) (by decide)) ?_
        refine eC_c ?_
        refine Eq.trans (cW_V rfl rfl) ?_
        refine cV_c (fun s_9 => ?_) (xh_nil rfl)
        refine Eq.trans (rn_go 1 (pc' := 50) (L' := [.ref a0, .int x1, .ref a2, .int x_2, .int x_4, .int (x_8 - x_4)]) (st' := [.int (x_8 - x_4)]) rfl) ?_
        exact rn_retI rfl rfl rfl
  · refine Eq.trans (rn_go 1 (pc' := 12) (L' := [.ref a0, .int x1, .ref a2, .int x_2, am_un, am_un]) (st' := [.int x_2]) rfl) ?_
    exact rn_retI rfl rfl rfl
theorem in_X8_deleteAllBut {B : Nat} (a0 : Nat) (a1 : Nat) (s : am_S) : cl_ tb_ct tb_mt B K_X8_deleteAllBut [.ref a0, .ref a1] s = rn_ tb_ct tb_mt B mm_X8_deleteAllBut 0 [.ref a0, .ref a1, am_un, am_un, am_un] [] s := cl_in rfl rfl rfl rfl
theorem dc_X8_deleteAllBut_0 {B : Nat} (a0 : Nat) (a1 : Nat) (s : am_S) : rn_ tb_ct tb_mt B mm_X8_deleteAllBut 0 [.ref a0, .ref a1, am_un, am_un, am_un] [] s = eA (gA tb_ct s a0 7 0) (none) (fun b_1 => eI (gI tb_ct s b_1 3 1) (fun x_2 => rn_ tb_ct tb_mt B mm_X8_deleteAllBut 10 [.ref a0, .ref a1, .int (0 : Int32), .int x_2, am_un] [] s)) := by
  refine Eq.trans (rn_go 3 (pc' := 3) (L' := [.ref a0, .ref a1, .int (0 : Int32), am_un, am_un]) (st' := [.ref a0]) rfl) ?_
  refine Eq.trans (rn_gA (L' := [.ref a0, .ref a1, .int (0 : Int32), am_un, am_un]) rfl rfl rfl rfl) ?_
  refine eA_c ?_ (fun b_1 => ?_)
  · exact rn_z rfl rfl
  · refine Eq.trans (rn_gI (L' := [.ref a0, .ref a1, .int (0 : Int32), am_un, am_un]) rfl rfl rfl rfl) ?_
    refine eI_c (fun x_2 => ?_)
    exact rn_go 1 (pc' := 10) (L' := [.ref a0, .ref a1, .int (0 : Int32), .int x_2, am_un]) (st' := []) rfl
theorem dc_X8_deleteAllBut_10 {B : Nat} (a0 : Nat) (a1 : Nat) (x2 : Int32) (x3 : Int32) (s : am_S) : rn_ tb_ct tb_mt B mm_X8_deleteAllBut 10 [.ref a0, .ref a1, .int x2, .int x3, am_un] [] s = if x3 ≤ 0 then some (.inl none, s) else eA (gA tb_ct s a0 7 0) (none) (fun b_1 => eC (am_cls s b_1) 3 (cA (cl_ tb_ct tb_mt B K_X4_at [.ref b_1, .int x2] s) (fun s_2 => rn_ tb_ct tb_mt B mm_X8_deleteAllBut 50 [.ref a0, .ref a1, .int x2, .int x3, va_rf none] [] s_2) (fun b_3 s_2 => eI (gI tb_ct s_2 b_3 2 0) (fun x_4 => eC (am_cls s_2 a1) 3 (cI (cl_ tb_ct tb_mt B K_X4_indexOf [.ref a1, .int x_4] s_2) (fun x_6 s_5 => if x_6 = (-(1 : Int32)) then eC (am_cls s_5 a0) 7 (cV (cl_ tb_ct tb_mt B K_X8_deleteAt [.ref a0, .int x2] s_5) (fun s_7 => rn_ tb_ct tb_mt B mm_X8_deleteAllBut 53 [.ref a0, .ref a1, .int x2, .int x3, .ref b_3] [] s_7) xo) else rn_ tb_ct tb_mt B mm_X8_deleteAllBut 50 [.ref a0, .ref a1, .int x2, .int x3, va_rf (some b_3)] [] s_5) xo))) xo)) := by
  refine Eq.trans (rn_go 1 (pc' := 11) (L' := [.ref a0, .ref a1, .int x2, .int x3, am_un]) (st' := [.int x3]) rfl) ?_
  refine Eq.trans (rn_ifle (L' := [.ref a0, .ref a1, .int x2, .int x3, am_un]) rfl rfl) ?_
  refine if_c ?_ ?_
  · exact rn_retV rfl rfl
  · refine Eq.trans (rn_go 1 (pc' := 15) (L' := [.ref a0, .ref a1, .int x2, .int x3, am_un]) (st' := [.ref a0]) rfl) ?_
    refine Eq.trans (rn_gA (L' := [.ref a0, .ref a1, .int x2, .int x3, am_un]) rfl rfl rfl rfl) ?_
    refine eA_c ?_ (fun b_1 => ?_)
    · refine Eq.trans (rn_go 1 (pc' := 19) (L' := [.ref a0, .ref a1, .int x2, .int x3, am_un]) (st' := [.int x2, .null]) rfl) ?_
      exact rn_z rfl rfl
    · refine Eq.trans (rn_go 1 (pc' := 19) (L' := [.ref a0, .ref a1, .int x2, .int x3, am_un]) (st' := [.int x2, .ref b_1]) rfl) ?_
      refine Eq.trans (rn_vir (L' := [.ref a0, .ref a1, .int x2, .int x3, am_un]) (as := [.int x2]) (rest := []) rfl rfl rfl rfl rfl (Nat.le_of_ble_eq_true rfl) (by decide) (by decide)) ?_
      refine eC_c ?_
      refine Eq.trans (cW_A rfl rfl rfl) ?_
      refine cA_c (fun s_2 => ?_) (fun b_3 s_2 => ?_) (xh_nil rfl)
      · exact rn_go 3 (pc' := 50) (L' := [.ref a0, .ref a1, .int x2, .int x3, va_rf none]) (st' := []) rfl
      · refine Eq.trans (rn_go 5 (pc' := 32) (L' := [.ref a0, .ref a1, .int x2, .int x3, .ref b_3]) (st' := [.ref b_3, .ref a1]) rfl) ?_
        refine Eq.trans (rn_gI (L' := [.ref a0, .ref a1, .int x2, .int x3, .ref b_3]) rfl rfl rfl rfl) ?_
        refine eI_c (fun x_4 => ?_)
        refine Eq.trans (rn_vir (L' := [.ref a0, .ref a1, .int x2, .int x3, .ref b_3]) (as := [.int x_4]) (rest := []) rfl rfl rfl rfl rfl (Nat.le_of_ble_eq_true rfl) (by decide) (by decide)) ?_
        refine eC_c ?_
        refine Eq.trans (cW_I rfl rfl rfl) ?_
        refine cI_c (fun x_6 s_5 => ?_) (xh_nil rfl)
        refine Eq.trans (rn_go 1 (pc' := 39) (L' := [.ref a0, .ref a1, .int x2, .int x3, .ref b_3]) (st' := [.int (-(1 : Int32)), .int x_6]) rfl) ?_
        refine Eq.trans (rn_icne (L' := [.ref a0, .ref a1, .int x2, .int x3, .ref b_3]) rfl rfl) ?_
        refine if_c ?_ ?_
        · refine Eq.trans (rn_go 2 (pc' := 44) (L' := [.ref a0, .ref a1, .int x2, .int x3, .ref b_3]) (st' := [.int x2, .ref a0]) rfl) ?_
          refine Eq.trans (rn_vir (L' := [.ref a0, .ref a1, .int x2, .int x3, .ref b_3]) (as := [.int x2]) (rest := []) rfl rfl rfl rfl rfl (Nat.le_of_ble_eq_true rfl) (by decide) (by decide)) ?_
          refine eC_c ?_
          refine Eq.trans (cW_V rfl rfl) ?_
          refine cV_c (fun s_7 => ?_) (xh_nil rfl)
          exact rn_go 1 (pc' := 53) (L' := [.ref a0, .ref a1, .int x2, .int x3, .ref b_3]) (st' := []) rfl
        · rfl
theorem dc_X8_deleteAllBut_50 {B : Nat} (a0 : Nat) (a1 : Nat) (x2 : Int32) (x3 : Int32) (w4 : Value) (s : am_S) : rn_ tb_ct tb_mt B mm_X8_deleteAllBut 50 [.ref a0, .ref a1, .int x2, .int x3, w4] [] s = rn_ tb_ct tb_mt B mm_X8_deleteAllBut 53 [.ref a0, .ref a1, .int (x2 + (1 : Int32)), .int x3, am_un] [] s := by
  exact rn_go 1 (pc' := 53) (L' := [.ref a0, .ref a1, .int (x2 + (1 : Int32)), .int x3, am_un]) (st' := []) rfl
theorem dc_X8_deleteAllBut_53 {B : Nat} (a0 : Nat) (a1 : Nat) (x2 : Int32) (x3 : Int32) (w4 : Value) (s : am_S) : rn_ tb_ct tb_mt B mm_X8_deleteAllBut 53 [.ref a0, .ref a1, .int x2, .int x3, w4] [] s = rn_ tb_ct tb_mt B mm_X8_deleteAllBut 10 [.ref a0, .ref a1, .int x2, .int (x3 + (-(1 : Int32))), am_un] [] s := by
  exact rn_go 2 (pc' := 10) (L' := [.ref a0, .ref a1, .int x2, .int (x3 + (-(1 : Int32))), am_un]) (st' := []) rfl
theorem in_X8_writeUnlike {B : Nat} (a0 : Nat) (a1 : Nat) (s : am_S) : cl_ tb_ct tb_mt B K_X8_writeUnlike [.ref a0, .ref a1] s = rn_ tb_ct tb_mt B mm_X8_writeUnlike 0 [.ref a0, .ref a1, am_un, am_un, am_un] [] s := cl_in rfl rfl rfl rfl
theorem dc_X8_writeUnlike_0 {B : Nat} (a0 : Nat) (a1 : Nat) (s : am_S) : rn_ tb_ct tb_mt B mm_X8_writeUnlike 0 [.ref a0, .ref a1, am_un, am_un, am_un] [] s = rn_ tb_ct tb_mt B mm_X8_writeUnlike 2 [.ref a0, .ref a1, .int (0 : Int32), am_un, am_un] [] s := by
  exact rn_go 2 (pc' := 2) (L' := [.ref a0, .ref a1, .int (0 : Int32), am_un, am_un]) (st' := []) rfl
theorem dc_X8_writeUnlike_2 {B : Nat} (a0 : Nat) (a1 : Nat) (x2 : Int32) (s : am_S) : rn_ tb_ct tb_mt B mm_X8_writeUnlike 2 [.ref a0, .ref a1, .int x2, am_un, am_un] [] s = eI (gI tb_ct s a1 3 1) (fun x_1 => if x_1 ≤ x2 then some (.inl none, s) else eC (am_cls s a1) 3 (cA (cl_ tb_ct tb_mt B K_X4_at [.ref a1, .int x2] s) (fun s_2 => rn_ tb_ct tb_mt B mm_X8_writeUnlike 35 [.ref a0, .ref a1, .int x2, va_rf none, am_un] [va_rf none] s_2) (fun b_3 s_2 => eA (gA tb_ct s_2 a0 7 0) (eI (gI tb_ct s_2 b_3 2 0) (fun x_5 => none)) (fun b_4 => eI (gI tb_ct s_2 b_3 2 0) (fun x_6 => eC (am_cls s_2 b_4) 3 (cA (cl_ tb_ct tb_mt B K_X4_find [.ref b_4, .int x_6] s_2) (fun s_7 => rn_ tb_ct tb_mt B mm_X8_writeUnlike 35 [.ref a0, .ref a1, .int x2, va_rf (some b_3), am_un] [va_rf none] s_7) (fun b_8 s_7 => rn_ tb_ct tb_mt B mm_X8_writeUnlike 35 [.ref a0, .ref a1, .int x2, va_rf (some b_3), am_un] [va_rf (some b_8)] s_7) xo)))) xo)) := by
  refine Eq.trans (rn_go 2 (pc' := 4) (L' := [.ref a0, .ref a1, .int x2, am_un, am_un]) (st' := [.ref a1, .int x2]) rfl) ?_
  refine Eq.trans (rn_gI (L' := [.ref a0, .ref a1, .int x2, am_un, am_un]) rfl rfl rfl rfl) ?_
  refine eI_c (fun x_1 => ?_)
  refine Eq.trans (rn_icge (L' := [.ref a0, .ref a1, .int x2, am_un, am_un]) rfl rfl) ?_
  refine if_c ?_ ?_
  · exact rn_retV rfl rfl
  · refine Eq.trans (rn_go 2 (pc' := 12) (L' := [.ref a0, .ref a1, .int x2, am_un, am_un]) (st' := [.int x2, .ref a1]) rfl) ?_
    refine Eq.trans (rn_vir (L' := [.ref a0, .ref a1, .int x2, am_un, am_un]) (as := [.int x2]) (rest := []) rfl rfl rfl rfl rfl (Nat.le_of_ble_eq_true rfl) (by decide) (by decide)) ?_
    refine eC_c ?_
    refine Eq.trans (cW_A rfl rfl rfl) ?_
    refine cA_c (fun s_2 => ?_) (fun b_3 s_2 => ?_) (xh_nil rfl)
    · exact rn_go 5 (pc' := 35) (L' := [.ref a0, .ref a1, .int x2, va_rf none, am_un]) (st' := [va_rf none]) rfl
    · refine Eq.trans (rn_go 4 (pc' := 25) (L' := [.ref a0, .ref a1, .int x2, .ref b_3, am_un]) (st' := [.ref a0]) rfl) ?_
      refine Eq.trans (rn_gA (L' := [.ref a0, .ref a1, .int x2, .ref b_3, am_un]) rfl rfl rfl rfl) ?_
      refine eA_c ?_ (fun b_4 => ?_)
      · refine Eq.trans (rn_go 1 (pc' := 29) (L' := [.ref a0, .ref a1, .int x2, .ref b_3, am_un]) (st' := [.ref b_3, .null]) rfl) ?_
        refine Eq.trans (rn_gI (L' := [.ref a0, .ref a1, .int x2, .ref b_3, am_un]) rfl rfl rfl rfl) ?_
        refine eI_c (fun x_5 => ?_)
        exact rn_z rfl rfl
      · refine Eq.trans (rn_go 1 (pc' := 29) (L' := [.ref a0, .ref a1, .int x2, .ref b_3, am_un]) (st' := [.ref b_3, .ref b_4]) rfl) ?_
        refine Eq.trans (rn_gI (L' := [.ref a0, .ref a1, .int x2, .ref b_3, am_un]) rfl rfl rfl rfl) ?_
        refine eI_c (fun x_6 => ?_)
        refine Eq.trans (rn_vir (L' := [.ref a0, .ref a1, .int x2, .ref b_3, am_un]) (as := [.int x_6]) (rest := []) rfl rfl rfl rfl rfl (Nat.le_of_ble_eq_true rfl) (by decide) (by decide)) ?_
        refine eC_c ?_
        refine Eq.trans (cW_A rfl rfl rfl) ?_
        refine cA_c (fun s_7 => ?_) (fun b_8 s_7 => ?_) (xh_nil rfl)
        · rfl
        · rfl
theorem dc_X8_writeUnlike_35 {B : Nat} (a0 : Nat) (a1 : Nat) (x2 : Int32) (r3 : Option Nat) (rs0 : Option Nat) (s : am_S) : rn_ tb_ct tb_mt B mm_X8_writeUnlike 35 [.ref a0, .ref a1, .int x2, va_rf r3, am_un] [va_rf rs0] s = eA (some r3) (eA (some rs0) (rn_ tb_ct tb_mt B mm_X8_writeUnlike 71 [.ref a0, .ref a1, .int x2, va_rf none, .null] [] s) (fun b_2 => rn_ tb_ct tb_mt B mm_X8_writeUnlike 71 [.ref a0, .ref a1, .int x2, va_rf none, .ref b_2] [] s)) (fun b_1 => eA (some rs0) (rn_ tb_ct tb_mt B mm_X8_writeUnlike 58 [.ref a0, .ref a1, .int x2, .ref b_1, va_rf none] [] s) (fun b_3 => eI (gI tb_ct s b_3 2 1) (fun x_4 => eI (gI tb_ct s b_1 2 1) (fun x_5 => if x_4 = x_5 then rn_ tb_ct tb_mt B mm_X8_writeUnlike 71 [.ref a0, .ref a1, .int x2, va_rf (some b_1), .ref b_3] [] s else rn_ tb_ct tb_mt B mm_X8_writeUnlike 58 [.ref a0, .ref a1, .int x2, .ref b_1, va_rf (some b_3)] [] s)))) := by
  rcases r3 with _ | b_1
  · rw [eA_n]
    rcases rs0 with _ | b_2
    · rw [eA_n]
      exact rn_go 3 (pc' := 71) (L' := [.ref a0, .ref a1, .int x2, va_rf none, .null]) (st' := []) rfl
    · rw [eA_s]
      exact rn_go 3 (pc' := 71) (L' := [.ref a0, .ref a1, .int x2, va_rf none, .ref b_2]) (st' := []) rfl
  · rw [eA_s]
    rcases rs0 with _ | b_3
    · rw [eA_n]
      exact rn_go 5 (pc' := 58) (L' := [.ref a0, .ref a1, .int x2, .ref b_1, va_rf none]) (st' := []) rfl
    · rw [eA_s]
      refine Eq.trans (rn_go 6 (pc' := 48) (L' := [.ref a0, .ref a1, .int x2, .ref b_1, .ref b_3]) (st' := [.ref b_3]) rfl) ?_
      refine Eq.trans (rn_gI (L' := [.ref a0, .ref a1, .int x2, .ref b_1, .ref b_3]) rfl rfl rfl rfl) ?_
      refine eI_c (fun x_4 => ?_)
      refine Eq.trans (rn_go 1 (pc' := 52) (L' := [.ref a0, .ref a1, .int x2, .ref b_1, .ref b_3]) (st' := [.ref b_1, .int x_4]) rfl) ?_
      refine Eq.trans (rn_gI (L' := [.ref a0, .ref a1, .int x2, .ref b_1, .ref b_3]) rfl rfl rfl rfl) ?_
      refine eI_c (fun x_5 => ?_)
      refine Eq.trans (rn_iceq (L' := [.ref a0, .ref a1, .int x2, .ref b_1, .ref b_3]) rfl rfl) ?_
      refine if_c ?_ ?_
      · rfl
      · rfl
theorem dc_X8_writeUnlike_58 {B : Nat} (a0 : Nat) (a1 : Nat) (x2 : Int32) (a3 : Nat) (w4 : Value) (s : am_S) : rn_ tb_ct tb_mt B mm_X8_writeUnlike 58 [.ref a0, .ref a1, .int x2, .ref a3, w4] [] s = eI (gI tb_ct s a3 2 0) (fun x_1 => eI (gI tb_ct s a3 2 1) (fun x_2 => eC (am_cls s a0) 7 (cV (cl_ tb_ct tb_mt B K_X8_writeOne [.ref a0, .int x_1, .int x_2, .int (0 : Int32)] s) (fun s_3 => rn_ tb_ct tb_mt B mm_X8_writeUnlike 71 [.ref a0, .ref a1, .int x2, va_rf (some a3), am_un] [] s_3) xo))) := by
  refine Eq.trans (rn_go 2 (pc' := 60) (L' := [.ref a0, .ref a1, .int x2, .ref a3, am_un]) (st' := [.ref a3, .ref a0]) rfl) ?_
  refine Eq.trans (rn_gI (L' := [.ref a0, .ref a1, .int x2, .ref a3, am_un]) rfl rfl rfl rfl) ?_
  refine eI_c (fun x_1 => ?_)
  refine Eq.trans (rn_go 1 (pc' := 64) (L' := [.ref a0, .ref a1, .int x2, .ref a3, am_un]) (st' := [.ref a3, .int x_1, .ref a0]) rfl) ?_
  refine Eq.trans (rn_gI (L' := [.ref a0, .ref a1, .int x2, .ref a3, am_un]) rfl rfl rfl rfl) ?_
  refine eI_c (fun x_2 => ?_)
  refine Eq.trans (rn_go 1 (pc' := 68) (L' := [.ref a0, .ref a1, .int x2, .ref a3, am_un]) (st' := [.int (0 : Int32), .int x_2, .int x_1, .ref a0]) rfl) ?_
  refine Eq.trans (rn_vir (L' := [.ref a0, .ref a1, .int x2, .ref a3, am_un]) (as := [.int x_1, .int x_2, .int (0 : Int32)]) (rest := []) rfl rfl rfl rfl rfl (Nat.le_of_ble_eq_true rfl) (by decide) (by decide)) ?_
  refine eC_c ?_
  refine Eq.trans (cW_V rfl rfl) ?_
  refine cV_c (fun s_3 => ?_) (xh_nil rfl)
  rfl
theorem dc_X8_writeUnlike_71 {B : Nat} (a0 : Nat) (a1 : Nat) (x2 : Int32) (w3 : Value) (w4 : Value) (s : am_S) : rn_ tb_ct tb_mt B mm_X8_writeUnlike 71 [.ref a0, .ref a1, .int x2, w3, w4] [] s = rn_ tb_ct tb_mt B mm_X8_writeUnlike 2 [.ref a0, .ref a1, .int (x2 + (1 : Int32)), am_un, am_un] [] s := by
  exact rn_go 2 (pc' := 2) (L' := [.ref a0, .ref a1, .int (x2 + (1 : Int32)), am_un, am_un]) (st' := []) rfl
theorem in_X8_attachKey {B : Nat} (a0 : Nat) (x1 : Int32) (x2 : Int32) (s : am_S) : cl_ tb_ct tb_mt B K_X8_attachKey [.ref a0, .int x1, .int x2] s = rn_ tb_ct tb_mt B mm_X8_attachKey 0 [.ref a0, .int x1, .int x2, am_un, am_un] [] s := cl_in rfl rfl rfl rfl
theorem dc_X8_attachKey_0 {B : Nat} (a0 : Nat) (x1 : Int32) (x2 : Int32) (s : am_S) : rn_ tb_ct tb_mt B mm_X8_attachKey 0 [.ref a0, .int x1, .int x2, am_un, am_un] [] s = eA (gA tb_ct s a0 7 0) (none) (fun b_1 => eC (am_cls s b_1) 3 (cA (cl_ tb_ct tb_mt B K_X4_find [.ref b_1, .int x1] s) (fun s_2 => some (.inl (some (.int (-(1 : Int32)))), s_2)) (fun b_3 s_2 => if x2 = 0 then rn_ tb_ct tb_mt B mm_X8_attachKey 31 [.ref a0, .int x1, .int x2, .ref b_3, am_un] [] s_2 else eC (am_cls s_2 a0) 7 (cI (cl_ tb_ct tb_mt B K_X8_findLease [.ref a0, .int x2] s_2) (fun x_5 s_4 => if x_5 = (-(1 : Int32)) then some (.inl (some (.int (-(3 : Int32)))), s_4) else rn_ tb_ct tb_mt B mm_X8_attachKey 31 [.ref a0, .int x1, .int x2, .ref b_3, am_un] [] s_4) xo)) xo)) := by
  refine Eq.trans (rn_go 1 (pc' := 1) (L' := [.ref a0, .int x1, .int x2, am_un, am_un]) (st' := [.ref a0]) rfl) ?_
  refine Eq.trans (rn_gA (L' := [.ref a0, .int x1, .int x2, am_un, am_un]) rfl rfl rfl rfl) ?_
  refine eA_c ?_ (fun b_1 => ?_)
  · refine Eq.trans (rn_go 1 (pc' := 5) (L' := [.ref a0, .int x1, .int x2, am_un, am_un]) (st' := [.int x1, .null]) rfl) ?_
    exact rn_z rfl rfl
  · refine Eq.trans (rn_go 1 (pc' := 5) (L' := [.ref a0, .int x1, .int x2, am_un, am_un]) (st' := [.int x1, .ref b_1]) rfl) ?_
    refine Eq.trans (rn_vir (L' := [.ref a0, .int x1, .int x2, am_un, am_un]) (as := [.int x1]) (rest := []) rfl rfl rfl rfl rfl (Nat.le_of_ble_eq_true rfl) (by decide) (by decide)) ?_
    refine eC_c ?_
    refine Eq.trans (cW_A rfl rfl rfl) ?_
    refine cA_c (fun s_2 => ?_) (fun b_3 s_2 => ?_) (xh_nil rfl)
    · refine Eq.trans (rn_go 4 (pc' := 14) (L' := [.ref a0, .int x1, .int x2, .null, am_un]) (st' := [.int (-(1 : Int32))]) rfl) ?_
      exact rn_retI rfl rfl rfl
    · refine Eq.trans (rn_go 4 (pc' := 16) (L' := [.ref a0, .int x1, .int x2, .ref b_3, am_un]) (st' := [.int x2]) rfl) ?_
      refine Eq.trans (rn_ifeq (L' := [.ref a0, .int x1, .int x2, .ref b_3, am_un]) rfl rfl) ?_
      refine if_c ?_ ?_
      · rfl
      · refine Eq.trans (rn_go 2 (pc' := 21) (L' := [.ref a0, .int x1, .int x2, .ref b_3, am_un]) (st' := [.int x2, .ref a0]) rfl) ?_
        refine Eq.trans (rn_vir (L' := [.ref a0, .int x1, .int x2, .ref b_3, am_un]) (as := [.int x2]) (rest := []) rfl rfl rfl rfl rfl (Nat.le_of_ble_eq_true rfl) (by decide) (by decide)) ?_
        refine eC_c ?_
        refine Eq.trans (cW_I rfl rfl rfl) ?_
        refine cI_c (fun x_5 s_4 => ?_) (xh_nil rfl)
        refine Eq.trans (rn_go 1 (pc' := 25) (L' := [.ref a0, .int x1, .int x2, .ref b_3, am_un]) (st' := [.int (-(1 : Int32)), .int x_5]) rfl) ?_
        refine Eq.trans (rn_icne (L' := [.ref a0, .int x1, .int x2, .ref b_3, am_un]) rfl rfl) ?_
        refine if_c ?_ ?_
        · refine Eq.trans (rn_go 1 (pc' := 30) (L' := [.ref a0, .int x1, .int x2, .ref b_3, am_un]) (st' := [.int (-(3 : Int32))]) rfl) ?_
          exact rn_retI rfl rfl rfl
        · rfl
theorem dc_X8_attachKey_31 {B : Nat} (w0 : Value) (w1 : Value) (x2 : Int32) (a3 : Nat) (s : am_S) : rn_ tb_ct tb_mt B mm_X8_attachKey 31 [w0, w1, .int x2, .ref a3, am_un] [] s = eI (gI tb_ct s a3 2 5) (fun x_1 => eS (am_put tb_ct mm_X8_attachKey B s (.int x2) a3 2 5) (fun s_2 => some (.inl (some (.int x_1)), s_2))) := by
  refine Eq.trans (rn_go 1 (pc' := 32) (L' := [am_un, am_un, .int x2, .ref a3, am_un]) (st' := [.ref a3]) rfl) ?_
  refine Eq.trans (rn_gI (L' := [am_un, am_un, .int x2, .ref a3, am_un]) rfl rfl rfl rfl) ?_
  refine eI_c (fun x_1 => ?_)
  refine Eq.trans (rn_go 3 (pc' := 39) (L' := [am_un, am_un, .int x2, .ref a3, .int x_1]) (st' := [.int x2, .ref a3]) rfl) ?_
  refine Eq.trans (rn_pF (L' := [am_un, am_un, .int x2, .ref a3, .int x_1]) rfl rfl) ?_
  refine eS_c (fun s_2 => ?_)
  refine Eq.trans (rn_go 1 (pc' := 44) (L' := [am_un, am_un, .int x2, .ref a3, .int x_1]) (st' := [.int x_1]) rfl) ?_
  exact rn_retI rfl rfl rfl
theorem in_X8_watchAt {B : Nat} (a0 : Nat) (x1 : Int32) (s : am_S) : cl_ tb_ct tb_mt B K_X8_watchAt [.ref a0, .int x1] s = rn_ tb_ct tb_mt B mm_X8_watchAt 0 [.ref a0, .int x1] [] s := cl_in rfl rfl rfl rfl
theorem dc_X8_watchAt_0 {B : Nat} (a0 : Nat) (x1 : Int32) (s : am_S) : rn_ tb_ct tb_mt B mm_X8_watchAt 0 [.ref a0, .int x1] [] s = if x1 < 0 then some (.inl (some .null), s) else eI (gI tb_ct s a0 7 8) (fun x_1 => if x_1 ≤ x1 then some (.inl (some .null), s) else if (8 : Int32) ≤ x1 then some (.inl (some .null), s) else eA (gA tb_ct s a0 7 2) (none) (fun b_2 => eA (aA s b_2 x1) (some (.inl (some .null), s)) (fun b_3 => some (.inl (some (.ref b_3)), s)))) := by
  refine Eq.trans (rn_go 1 (pc' := 1) (L' := [.ref a0, .int x1]) (st' := [.int x1]) rfl) ?_
  refine Eq.trans (rn_iflt (L' := [.ref a0, .int x1]) rfl rfl) ?_
  refine if_c ?_ ?_
  · refine Eq.trans (rn_go 1 (pc' := 28) (L' := [.ref a0, .int x1]) (st' := [.null]) rfl) ?_
    exact rn_retA rfl rfl rfl rfl
  · refine Eq.trans (rn_go 2 (pc' := 6) (L' := [.ref a0, .int x1]) (st' := [.ref a0, .int x1]) rfl) ?_
    refine Eq.trans (rn_gI (L' := [.ref a0, .int x1]) rfl rfl rfl rfl) ?_
    refine eI_c (fun x_1 => ?_)
    refine Eq.trans (rn_icge (L' := [.ref a0, .int x1]) rfl rfl) ?_
    refine if_c ?_ ?_
    · refine Eq.trans (rn_go 1 (pc' := 28) (L' := [.ref a0, .int x1]) (st' := [.null]) rfl) ?_
      exact rn_retA rfl rfl rfl rfl
    · refine Eq.trans (rn_go 2 (pc' := 15) (L' := [.ref a0, .int x1]) (st' := [.int (8 : Int32), .int x1]) rfl) ?_
      refine Eq.trans (rn_icge (L' := [.ref a0, .int x1]) rfl rfl) ?_
      refine if_c ?_ ?_
      · refine Eq.trans (rn_go 1 (pc' := 28) (L' := [.ref a0, .int x1]) (st' := [.null]) rfl) ?_
        exact rn_retA rfl rfl rfl rfl
      · refine Eq.trans (rn_go 1 (pc' := 19) (L' := [.ref a0, .int x1]) (st' := [.ref a0]) rfl) ?_
        refine Eq.trans (rn_gA (L' := [.ref a0, .int x1]) rfl rfl rfl rfl) ?_
        refine eA_c ?_ (fun b_2 => ?_)
        · refine Eq.trans (rn_go 1 (pc' := 23) (L' := [.ref a0, .int x1]) (st' := [.int x1, .null]) rfl) ?_
          exact rn_z rfl rfl
        · refine Eq.trans (rn_go 1 (pc' := 23) (L' := [.ref a0, .int x1]) (st' := [.int x1, .ref b_2]) rfl) ?_
          refine Eq.trans (rn_aA (L' := [.ref a0, .int x1]) rfl rfl) ?_
          refine eA_c ?_ (fun b_3 => ?_)
          · refine Eq.trans (rn_go 1 (pc' := 28) (L' := [.ref a0, .int x1]) (st' := [.null]) rfl) ?_
            exact rn_retA rfl rfl rfl rfl
          · refine Eq.trans (rn_go 1 (pc' := 28) (L' := [.ref a0, .int x1]) (st' := [.ref b_3]) rfl) ?_
            exact rn_retA rfl rfl rfl rfl
theorem in_X8_startsTooLate {B : Nat} (a0 : Nat) (x1 : Int32) (s : am_S) : cl_ tb_ct tb_mt B K_X8_startsTooLate [.ref a0, .int x1] s = rn_ tb_ct tb_mt B mm_X8_startsTooLate 0 [.ref a0, .int x1] [] s := cl_in rfl rfl rfl rfl
theorem dc_X8_startsTooLate_0 {B : Nat} (a0 : Nat) (x1 : Int32) (s : am_S) : rn_ tb_ct tb_mt B mm_X8_startsTooLate 0 [.ref a0, .int x1] [] s = eI (gI tb_ct s a0 7 5) (fun x_1 => if x1 ≤ (x_1 + (1 : Int32)) then some (.inl (some (.int (0 : Int32))), s) else some (.inl (some (.int (1 : Int32))), s)) := by
  refine Eq.trans (rn_go 2 (pc' := 2) (L' := [.ref a0, .int x1]) (st' := [.ref a0, .int x1]) rfl) ?_
  refine Eq.trans (rn_gI (L' := [.ref a0, .int x1]) rfl rfl rfl rfl) ?_
  refine eI_c (fun x_1 => ?_)
  refine Eq.trans (rn_go 2 (pc' := 7) (L' := [.ref a0, .int x1]) (st' := [.int (x_1 + (1 : Int32)), .int x1]) rfl) ?_
  refine Eq.trans (rn_icle (L' := [.ref a0, .int x1]) rfl rfl) ?_
  refine if_c ?_ ?_
  · refine Eq.trans (rn_go 1 (pc' := 15) (L' := [.ref a0, .int x1]) (st' := [.int (0 : Int32)]) rfl) ?_
    exact rn_retI rfl rfl rfl
  · refine Eq.trans (rn_go 2 (pc' := 15) (L' := [.ref a0, .int x1]) (st' := [.int (1 : Int32)]) rfl) ?_
    exact rn_retI rfl rfl rfl
theorem in_X8_firstEventFor {B : Nat} (a0 : Nat) (x1 : Int32) (s : am_S) : cl_ tb_ct tb_mt B K_X8_firstEventFor [.ref a0, .int x1] s = rn_ tb_ct tb_mt B mm_X8_firstEventFor 0 [.ref a0, .int x1] [] s := cl_in rfl rfl rfl rfl
theorem dc_X8_firstEventFor_0 {B : Nat} (a0 : Nat) (x1 : Int32) (s : am_S) : rn_ tb_ct tb_mt B mm_X8_firstEventFor 0 [.ref a0, .int x1] [] s = if x1 = 0 then eA (gA tb_ct s a0 7 1) (none) (fun b_1 => eI (gI tb_ct s b_1 1 1) (fun x_2 => some (.inl (some (.int x_2)), s))) else eA (gA tb_ct s a0 7 1) (none) (fun b_3 => eC (am_cls s b_3) 1 (cI (cl_ tb_ct tb_mt B K_X2_countTo [.ref b_3, .int (x1 - (1 : Int32))] s) (fun x_5 s_4 => some (.inl (some (.int x_5)), s_4)) xo)) := by
  refine Eq.trans (rn_go 1 (pc' := 1) (L' := [.ref a0, .int x1]) (st' := [.int x1]) rfl) ?_
  refine Eq.trans (rn_ifne (L' := [.ref a0, .int x1]) rfl rfl) ?_
  refine if_c ?_ ?_
  · refine Eq.trans (rn_go 1 (pc' := 5) (L' := [.ref a0, .int x1]) (st' := [.ref a0]) rfl) ?_
    refine Eq.trans (rn_gA (L' := [.ref a0, .int x1]) rfl rfl rfl rfl) ?_
    refine eA_c ?_ (fun b_1 => ?_)
    · exact rn_z rfl rfl
    · refine Eq.trans (rn_gI (L' := [.ref a0, .int x1]) rfl rfl rfl rfl) ?_
      refine eI_c (fun x_2 => ?_)
      refine Eq.trans (rn_go 1 (pc' := 24) (L' := [.ref a0, .int x1]) (st' := [.int x_2]) rfl) ?_
      exact rn_retI rfl rfl rfl
  · refine Eq.trans (rn_go 1 (pc' := 15) (L' := [.ref a0, .int x1]) (st' := [.ref a0]) rfl) ?_
    refine Eq.trans (rn_gA (L' := [.ref a0, .int x1]) rfl rfl rfl rfl) ?_
    refine eA_c ?_ (fun b_3 => ?_)
    · refine Eq.trans (rn_go 3 (pc' := 21) (L' := [.ref a0, .int x1]) (st' := [.int (x1 - (1 : Int32)), .null]) rfl) ?_
      exact rn_z rfl rfl
    · refine Eq.trans (rn_go 3 (pc' := 21) (L' := [.ref a0, .int x1]) (st' := [.int (x1 - (1 : Int32)), .ref b_3]) rfl) ?_
      refine Eq.trans (rn_vir (L' := [.ref a0, .int x1]) (as := [.int (x1 - (1 : Int32))]) (rest := []) rfl rfl rfl rfl rfl (Nat.le_of_ble_eq_true rfl) (by decide) (by decide)) ?_
      refine eC_c ?_
      refine Eq.trans (cW_I rfl rfl rfl) ?_
      refine cI_c (fun x_5 s_4 => ?_) (xh_nil rfl)
      exact rn_retI rfl rfl rfl
theorem in_X8_addWatch {B : Nat} (a0 : Nat) (x1 : Int32) (x2 : Int32) (x3 : Int32) (x4 : Int32) (s : am_S) : cl_ tb_ct tb_mt B K_X8_addWatch [.ref a0, .int x1, .int x2, .int x3, .int x4] s = rn_ tb_ct tb_mt B mm_X8_addWatch 0 [.ref a0, .int x1, .int x2, .int x3, .int x4, am_un] [] s := cl_in rfl rfl rfl rfl
theorem dc_X8_addWatch_0 {B : Nat} (a0 : Nat) (x1 : Int32) (x2 : Int32) (x3 : Int32) (x4 : Int32) (s : am_S) : rn_ tb_ct tb_mt B mm_X8_addWatch 0 [.ref a0, .int x1, .int x2, .int x3, .int x4, am_un] [] s = eI (gI tb_ct s a0 7 8) (fun x_1 => if x_1 < 0 then some (.inl (some (.int (-(2 : Int32)))), s) else eI (gI tb_ct s a0 7 8) (fun x_2 => if x_2 < (8 : Int32) then eC (am_cls s a0) 7 (cI (cl_ tb_ct tb_mt B K_X8_startsTooLate [.ref a0, .int x3] s) (fun x_4 s_3 => if x_4 = 0 then eA (gA tb_ct s_3 a0 7 2) (eI (gI tb_ct s_3 a0 7 8) (fun x_6 => none)) (fun b_5 => eI (gI tb_ct s_3 a0 7 8) (fun x_7 => eA (aA s_3 b_5 x_7) (some (.inl (some (.int (-(2 : Int32)))), s_3)) (fun b_8 => eS (am_put tb_ct mm_X8_addWatch B s_3 (.int x1) b_8 9 0) (fun s_9 => eS (am_put tb_ct mm_X8_addWatch B s_9 (.int x2) b_8 9 1) (fun s_10 => eS (am_put tb_ct mm_X8_addWatch B s_10 (.int x4) b_8 9 2) (fun s_11 => eS (am_put tb_ct mm_X8_addWatch B s_11 (.int (0 : Int32)) b_8 9 4) (fun s_12 => eC (am_cls s_12 a0) 7 (cI (cl_ tb_ct tb_mt B K_X8_firstEventFor [.ref a0, .int x3] s_12) (fun x_14 s_13 => eC (am_cls s_13 b_8) 9 (cV (cl_ tb_ct tb_mt B K_X11_beginAt [.ref b_8, .int x_14] s_13) (fun s_15 => eI (gI tb_ct s_15 a0 7 8) (fun x_16 => eS (am_put tb_ct mm_X8_addWatch B s_15 (.int (x_16 + (1 : Int32))) a0 7 8) (fun s_17 => eI (gI tb_ct s_17 a0 7 8) (fun x_18 => some (.inl (some (.int (x_18 - (1 : Int32)))), s_17))))) xo)) xo)))))))) else some (.inl (some (.int (-(2000000002 : Int32)))), s_3)) xo) else some (.inl (some (.int (-(2 : Int32)))), s))) := by
  refine Eq.trans (rn_go 1 (pc' := 1) (L' := [.ref a0, .int x1, .int x2, .int x3, .int x4, am_un]) (st' := [.ref a0]) rfl) ?_
  refine Eq.trans (rn_gI (L' := [.ref a0, .int x1, .int x2, .int x3, .int x4, am_un]) rfl rfl rfl rfl) ?_
  refine eI_c (fun x_1 => ?_)
  refine Eq.trans (rn_iflt (L' := [.ref a0, .int x1, .int x2, .int x3, .int x4, am_un]) rfl rfl) ?_
  refine if_c ?_ ?_
  · refine Eq.trans (rn_go 1 (pc' := 18) (L' := [.ref a0, .int x1, .int x2, .int x3, .int x4, am_un]) (st' := [.int (-(2 : Int32))]) rfl) ?_
    exact rn_retI rfl rfl rfl
  · refine Eq.trans (rn_go 1 (pc' := 8) (L' := [.ref a0, .int x1, .int x2, .int x3, .int x4, am_un]) (st' := [.ref a0]) rfl) ?_
    refine Eq.trans (rn_gI (L' := [.ref a0, .int x1, .int x2, .int x3, .int x4, am_un]) rfl rfl rfl rfl) ?_
    refine eI_c (fun x_2 => ?_)
    refine Eq.trans (rn_go 1 (pc' := 13) (L' := [.ref a0, .int x1, .int x2, .int x3, .int x4, am_un]) (st' := [.int (8 : Int32), .int x_2]) rfl) ?_
    refine Eq.trans (rn_iclt (L' := [.ref a0, .int x1, .int x2, .int x3, .int x4, am_un]) rfl rfl) ?_
    refine if_c ?_ ?_
    · refine Eq.trans (rn_go 2 (pc' := 21) (L' := [.ref a0, .int x1, .int x2, .int x3, .int x4, am_un]) (st' := [.int x3, .ref a0]) rfl) ?_
      refine Eq.trans (rn_vir (L' := [.ref a0, .int x1, .int x2, .int x3, .int x4, am_un]) (as := [.int x3]) (rest := []) rfl rfl rfl rfl rfl (Nat.le_of_ble_eq_true rfl) (by decide) (by decide)) ?_
      refine eC_c ?_
      refine Eq.trans (cW_I rfl rfl rfl) ?_
      refine cI_c (fun x_4 s_3 => ?_) (xh_nil rfl)
      refine Eq.trans (rn_ifeq (L' := [.ref a0, .int x1, .int x2, .int x3, .int x4, am_un]) rfl rfl) ?_
      refine if_c ?_ ?_
      · refine Eq.trans (rn_go 1 (pc' := 31) (L' := [.ref a0, .int x1, .int x2, .int x3, .int x4, am_un]) (st' := [.ref a0]) rfl) ?_
        refine Eq.trans (rn_gA (L' := [.ref a0, .int x1, .int x2, .int x3, .int x4, am_un]) rfl rfl rfl rfl) ?_
        refine eA_c ?_ (fun b_5 => ?_)
        · refine Eq.trans (rn_go 1 (pc' := 35) (L' := [.ref a0, .int x1, .int x2, .int x3, .int x4, am_un]) (st' := [.ref a0, .null]) rfl) ?_
          refine Eq.trans (rn_gI (L' := [.ref a0, .int x1, .int x2, .int x3, .int x4, am_un]) rfl rfl rfl rfl) ?_
          refine eI_c (fun x_6 => ?_)
          exact rn_z rfl rfl
        · refine Eq.trans (rn_go 1 (pc' := 35) (L' := [.ref a0, .int x1, .int x2, .int x3, .int x4, am_un]) (st' := [.ref a0, .ref b_5]) rfl) ?_
          refine Eq.trans (rn_gI (L' := [.ref a0, .int x1, .int x2, .int x3, .int x4, am_un]) rfl rfl rfl rfl) ?_
          refine eI_c (fun x_7 => ?_)
          refine Eq.trans (rn_aA (L' := [.ref a0, .int x1, .int x2, .int x3, .int x4, am_un]) rfl rfl) ?_
          refine eA_c ?_ (fun b_8 => ?_)
          · refine Eq.trans (rn_go 4 (pc' := 48) (L' := [.ref a0, .int x1, .int x2, .int x3, .int x4, .null]) (st' := [.int (-(2 : Int32))]) rfl) ?_
            exact rn_retI rfl rfl rfl
          · refine Eq.trans (rn_go 5 (pc' := 52) (L' := [.ref a0, .int x1, .int x2, .int x3, .int x4, .ref b_8]) (st' := [.int x1, .ref b_8]) rfl) ?_
            refine Eq.trans (rn_pF (L' := [.ref a0, .int x1, .int x2, .int x3, .int x4, .ref b_8]) rfl rfl) ?_
            refine eS_c (fun s_9 => ?_)
            refine Eq.trans (rn_go 2 (pc' := 58) (L' := [.ref a0, .int x1, .int x2, .int x3, .int x4, .ref b_8]) (st' := [.int x2, .ref b_8]) rfl) ?_
            refine Eq.trans (rn_pF (L' := [.ref a0, .int x1, .int x2, .int x3, .int x4, .ref b_8]) rfl rfl) ?_
            refine eS_c (fun s_10 => ?_)
            refine Eq.trans (rn_go 2 (pc' := 65) (L' := [.ref a0, .int x1, .int x2, .int x3, .int x4, .ref b_8]) (st' := [.int x4, .ref b_8]) rfl) ?_
            refine Eq.trans (rn_pF (L' := [.ref a0, .int x1, .int x2, .int x3, .int x4, .ref b_8]) rfl rfl) ?_
            refine eS_c (fun s_11 => ?_)
            refine Eq.trans (rn_go 2 (pc' := 71) (L' := [.ref a0, .int x1, .int x2, .int x3, .int x4, .ref b_8]) (st' := [.int (0 : Int32), .ref b_8]) rfl) ?_
            refine Eq.trans (rn_pF (L' := [.ref a0, .int x1, .int x2, .int x3, .int x4, .ref b_8]) rfl rfl) ?_
            refine eS_c (fun s_12 => ?_)
            refine Eq.trans (rn_go 3 (pc' := 78) (L' := [.ref a0, .int x1, .int x2, .int x3, .int x4, .ref b_8]) (st' := [.int x3, .ref a0, .ref b_8]) rfl) ?_
            refine Eq.trans (rn_vir (L' := [.ref a0, .int x1, .int x2, .int x3, .int x4, .ref b_8]) (as := [.int x3]) (rest := [.ref b_8]) rfl rfl rfl rfl rfl (Nat.le_of_ble_eq_true rfl) (by decide) (by decide)) ?_
            refine eC_c ?_
            refine Eq.trans (cW_I rfl rfl rfl) ?_
            refine cI_c (fun x_14 s_13 => ?_) (xh_nil rfl)
            refine Eq.trans (rn_vir (L' := [.ref a0, .int x1, .int x2, .int x3, .int x4, .ref b_8]) (as := [.int x_14]) (rest := []) rfl rfl rfl rfl rfl (Nat.le_of_ble_eq_true rfl) (by decide) (by decide)) ?_
            refine eC_c ?_
            refine Eq.trans (cW_V rfl rfl) ?_
            refine cV_c (fun s_15 => ?_) (xh_nil rfl)
            refine Eq.trans (rn_go 2 (pc' := 86) (L' := [.ref a0, .int x1, .int x2, .int x3, .int x4, .ref b_8]) (st' := [.ref a0, .ref a0]) rfl) ?_
            refine Eq.trans (rn_gI (L' := [.ref a0, .int x1, .int x2, .int x3, .int x4, .ref b_8]) rfl rfl rfl rfl) ?_
            refine eI_c (fun x_16 => ?_)
            refine Eq.trans (rn_go 2 (pc' := 91) (L' := [.ref a0, .int x1, .int x2, .int x3, .int x4, .ref b_8]) (st' := [.int (x_16 + (1 : Int32)), .ref a0]) rfl) ?_
            refine Eq.trans (rn_pF (L' := [.ref a0, .int x1, .int x2, .int x3, .int x4, .ref b_8]) rfl rfl) ?_
            refine eS_c (fun s_17 => ?_)
            refine Eq.trans (rn_go 1 (pc' := 95) (L' := [.ref a0, .int x1, .int x2, .int x3, .int x4, .ref b_8]) (st' := [.ref a0]) rfl) ?_
            refine Eq.trans (rn_gI (L' := [.ref a0, .int x1, .int x2, .int x3, .int x4, .ref b_8]) rfl rfl rfl rfl) ?_
            refine eI_c (fun x_18 => ?_)
            refine Eq.trans (rn_go 2 (pc' := 100) (L' := [.ref a0, .int x1, .int x2, .int x3, .int x4, .ref b_8]) (st' := [.int (x_18 - (1 : Int32))]) rfl) ?_
            exact rn_retI rfl rfl rfl
      · refine Eq.trans (rn_go 1 (pc' := 29) (L' := [.ref a0, .int x1, .int x2, .int x3, .int x4, am_un]) (st' := [.int (-(2000000002 : Int32))]) rfl) ?_
        exact rn_retI rfl rfl rfl
    · refine Eq.trans (rn_go 1 (pc' := 18) (L' := [.ref a0, .int x1, .int x2, .int x3, .int x4, am_un]) (st' := [.int (-(2 : Int32))]) rfl) ?_
      exact rn_retI rfl rfl rfl
theorem in_X8_removeWatch {B : Nat} (a0 : Nat) (x1 : Int32) (s : am_S) : cl_ tb_ct tb_mt B K_X8_removeWatch [.ref a0, .int x1] s = rn_ tb_ct tb_mt B mm_X8_removeWatch 0 [.ref a0, .int x1, am_un, am_un] [] s := cl_in rfl rfl rfl rfl
theorem dc_X8_removeWatch_0 {B : Nat} (a0 : Nat) (x1 : Int32) (s : am_S) : rn_ tb_ct tb_mt B mm_X8_removeWatch 0 [.ref a0, .int x1, am_un, am_un] [] s = eC (am_cls s a0) 7 (cA (cl_ tb_ct tb_mt B K_X8_watchAt [.ref a0, .int x1] s) (fun s_1 => some (.inl none, s_1)) (fun b_2 s_1 => rn_ tb_ct tb_mt B mm_X8_removeWatch 13 [.ref a0, .int x1, .ref b_2, .int x1] [] s_1) xo) := by
  refine Eq.trans (rn_go 2 (pc' := 2) (L' := [.ref a0, .int x1, am_un, am_un]) (st' := [.int x1, .ref a0]) rfl) ?_
  refine Eq.trans (rn_vir (L' := [.ref a0, .int x1, am_un, am_un]) (as := [.int x1]) (rest := []) rfl rfl rfl rfl rfl (Nat.le_of_ble_eq_true rfl) (by decide) (by decide)) ?_
  refine eC_c ?_
  refine Eq.trans (cW_A rfl rfl rfl) ?_
  refine cA_c (fun s_1 => ?_) (fun b_2 s_1 => ?_) (xh_nil rfl)
  · refine Eq.trans (rn_go 3 (pc' := 10) (L' := [.ref a0, .int x1, .null, am_un]) (st' := []) rfl) ?_
    exact rn_retV rfl rfl
  · exact rn_go 5 (pc' := 13) (L' := [.ref a0, .int x1, .ref b_2, .int x1]) (st' := []) rfl
theorem dc_X8_removeWatch_13 {B : Nat} (a0 : Nat) (w1 : Value) (a2 : Nat) (x3 : Int32) (s : am_S) : rn_ tb_ct tb_mt B mm_X8_removeWatch 13 [.ref a0, w1, .ref a2, .int x3] [] s = eI (gI tb_ct s a0 7 8) (fun x_1 => if x_1 ≤ (x3 + (1 : Int32)) then rn_ tb_ct tb_mt B mm_X8_removeWatch 51 [.ref a0, am_un, .ref a2, .int x3] [] s else if (8 : Int32) ≤ (x3 + (1 : Int32)) then rn_ tb_ct tb_mt B mm_X8_removeWatch 51 [.ref a0, am_un, .ref a2, .int x3] [] s else eA (gA tb_ct s a0 7 2) (eA (gA tb_ct s a0 7 2) (none) (fun b_3 => eA (aA s b_3 (x3 + (1 : Int32))) (none) (fun b_4 => none))) (fun b_2 => eA (gA tb_ct s a0 7 2) (none) (fun b_5 => eA (aA s b_5 (x3 + (1 : Int32))) (none) (fun b_6 => eS (wA tb_ct B s b_2 x3 b_6) (fun s_7 => rn_ tb_ct tb_mt B mm_X8_removeWatch 13 [.ref a0, am_un, .ref a2, .int (x3 + (1 : Int32))] [] s_7))))) := by
  refine Eq.trans (rn_go 4 (pc' := 17) (L' := [.ref a0, am_un, .ref a2, .int x3]) (st' := [.ref a0, .int (x3 + (1 : Int32))]) rfl) ?_
  refine Eq.trans (rn_gI (L' := [.ref a0, am_un, .ref a2, .int x3]) rfl rfl rfl rfl) ?_
  refine eI_c (fun x_1 => ?_)
  refine Eq.trans (rn_icge (L' := [.ref a0, am_un, .ref a2, .int x3]) rfl rfl) ?_
  refine if_c ?_ ?_
  · rfl
  · refine Eq.trans (rn_go 4 (pc' := 28) (L' := [.ref a0, am_un, .ref a2, .int x3]) (st' := [.int (8 : Int32), .int (x3 + (1 : Int32))]) rfl) ?_
    refine Eq.trans (rn_icge (L' := [.ref a0, am_un, .ref a2, .int x3]) rfl rfl) ?_
    refine if_c ?_ ?_
    · rfl
    · refine Eq.trans (rn_go 1 (pc' := 32) (L' := [.ref a0, am_un, .ref a2, .int x3]) (st' := [.ref a0]) rfl) ?_
      refine Eq.trans (rn_gA (L' := [.ref a0, am_un, .ref a2, .int x3]) rfl rfl rfl rfl) ?_
      refine eA_c ?_ (fun b_2 => ?_)
      · refine Eq.trans (rn_go 2 (pc' := 37) (L' := [.ref a0, am_un, .ref a2, .int x3]) (st' := [.ref a0, .int x3, .null]) rfl) ?_
        refine Eq.trans (rn_gA (L' := [.ref a0, am_un, .ref a2, .int x3]) rfl rfl rfl rfl) ?_
        refine eA_c ?_ (fun b_3 => ?_)
        · refine Eq.trans (rn_go 3 (pc' := 43) (L' := [.ref a0, am_un, .ref a2, .int x3]) (st' := [.int (x3 + (1 : Int32)), .null, .int x3, .null]) rfl) ?_
          exact rn_z rfl rfl
        · refine Eq.trans (rn_go 3 (pc' := 43) (L' := [.ref a0, am_un, .ref a2, .int x3]) (st' := [.int (x3 + (1 : Int32)), .ref b_3, .int x3, .null]) rfl) ?_
          refine Eq.trans (rn_aA (L' := [.ref a0, am_un, .ref a2, .int x3]) rfl rfl) ?_
          refine eA_c ?_ (fun b_4 => ?_)
          · exact rn_z rfl rfl
          · exact rn_z rfl rfl
      · refine Eq.trans (rn_go 2 (pc' := 37) (L' := [.ref a0, am_un, .ref a2, .int x3]) (st' := [.ref a0, .int x3, .ref b_2]) rfl) ?_
        refine Eq.trans (rn_gA (L' := [.ref a0, am_un, .ref a2, .int x3]) rfl rfl rfl rfl) ?_
        refine eA_c ?_ (fun b_5 => ?_)
        · refine Eq.trans (rn_go 3 (pc' := 43) (L' := [.ref a0, am_un, .ref a2, .int x3]) (st' := [.int (x3 + (1 : Int32)), .null, .int x3, .ref b_2]) rfl) ?_
          exact rn_z rfl rfl
        · refine Eq.trans (rn_go 3 (pc' := 43) (L' := [.ref a0, am_un, .ref a2, .int x3]) (st' := [.int (x3 + (1 : Int32)), .ref b_5, .int x3, .ref b_2]) rfl) ?_
          refine Eq.trans (rn_aA (L' := [.ref a0, am_un, .ref a2, .int x3]) rfl rfl) ?_
          refine eA_c ?_ (fun b_6 => ?_)
          · exact rn_z rfl rfl
          · refine Eq.trans (rn_wA (L' := [.ref a0, am_un, .ref a2, .int x3]) rfl rfl) ?_
            refine eS_c (fun s_7 => ?_)
            exact rn_go 2 (pc' := 13) (L' := [.ref a0, am_un, .ref a2, .int (x3 + (1 : Int32))]) (st' := []) rfl
theorem dc_X8_removeWatch_51 {B : Nat} (a0 : Nat) (a2 : Nat) (x3 : Int32) (s : am_S) : rn_ tb_ct tb_mt B mm_X8_removeWatch 51 [.ref a0, am_un, .ref a2, .int x3] [] s = eA (gA tb_ct s a0 7 2) (none) (fun b_1 => eS (wA tb_ct B s b_1 x3 a2) (fun s_2 => eI (gI tb_ct s_2 a0 7 8) (fun x_3 => eS (am_put tb_ct mm_X8_removeWatch B s_2 (.int (x_3 - (1 : Int32))) a0 7 8) (fun s_4 => some (.inl none, s_4))))) := by
  refine Eq.trans (rn_go 1 (pc' := 52) (L' := [.ref a0, am_un, .ref a2, .int x3]) (st' := [.ref a0]) rfl) ?_
  refine Eq.trans (rn_gA (L' := [.ref a0, am_un, .ref a2, .int x3]) rfl rfl rfl rfl) ?_
  refine eA_c ?_ (fun b_1 => ?_)
  · refine Eq.trans (rn_go 2 (pc' := 57) (L' := [.ref a0, am_un, .ref a2, .int x3]) (st' := [.ref a2, .int x3, .null]) rfl) ?_
    exact rn_z rfl rfl
  · refine Eq.trans (rn_go 2 (pc' := 57) (L' := [.ref a0, am_un, .ref a2, .int x3]) (st' := [.ref a2, .int x3, .ref b_1]) rfl) ?_
    refine Eq.trans (rn_wA (L' := [.ref a0, am_un, .ref a2, .int x3]) rfl rfl) ?_
    refine eS_c (fun s_2 => ?_)
    refine Eq.trans (rn_go 2 (pc' := 60) (L' := [.ref a0, am_un, .ref a2, .int x3]) (st' := [.ref a0, .ref a0]) rfl) ?_
    refine Eq.trans (rn_gI (L' := [.ref a0, am_un, .ref a2, .int x3]) rfl rfl rfl rfl) ?_
    refine eI_c (fun x_3 => ?_)
    refine Eq.trans (rn_go 2 (pc' := 65) (L' := [.ref a0, am_un, .ref a2, .int x3]) (st' := [.int (x_3 - (1 : Int32)), .ref a0]) rfl) ?_
    refine Eq.trans (rn_pF (L' := [.ref a0, am_un, .ref a2, .int x3]) rfl rfl) ?_
    refine eS_c (fun s_4 => ?_)
    exact rn_retV rfl rfl
theorem in_X8_leaseAt {B : Nat} (a0 : Nat) (x1 : Int32) (s : am_S) : cl_ tb_ct tb_mt B K_X8_leaseAt [.ref a0, .int x1] s = rn_ tb_ct tb_mt B mm_X8_leaseAt 0 [.ref a0, .int x1] [] s := cl_in rfl rfl rfl rfl
theorem dc_X8_leaseAt_0 {B : Nat} (a0 : Nat) (x1 : Int32) (s : am_S) : rn_ tb_ct tb_mt B mm_X8_leaseAt 0 [.ref a0, .int x1] [] s = if x1 < 0 then some (.inl (some .null), s) else eI (gI tb_ct s a0 7 9) (fun x_1 => if x_1 ≤ x1 then some (.inl (some .null), s) else if (8 : Int32) ≤ x1 then some (.inl (some .null), s) else eA (gA tb_ct s a0 7 3) (none) (fun b_2 => eA (aA s b_2 x1) (some (.inl (some .null), s)) (fun b_3 => some (.inl (some (.ref b_3)), s)))) := by
  refine Eq.trans (rn_go 1 (pc' := 1) (L' := [.ref a0, .int x1]) (st' := [.int x1]) rfl) ?_
  refine Eq.trans (rn_iflt (L' := [.ref a0, .int x1]) rfl rfl) ?_
  refine if_c ?_ ?_
  · refine Eq.trans (rn_go 1 (pc' := 28) (L' := [.ref a0, .int x1]) (st' := [.null]) rfl) ?_
    exact rn_retA rfl rfl rfl rfl
  · refine Eq.trans (rn_go 2 (pc' := 6) (L' := [.ref a0, .int x1]) (st' := [.ref a0, .int x1]) rfl) ?_
    refine Eq.trans (rn_gI (L' := [.ref a0, .int x1]) rfl rfl rfl rfl) ?_
    refine eI_c (fun x_1 => ?_)
    refine Eq.trans (rn_icge (L' := [.ref a0, .int x1]) rfl rfl) ?_
    refine if_c ?_ ?_
    · refine Eq.trans (rn_go 1 (pc' := 28) (L' := [.ref a0, .int x1]) (st' := [.null]) rfl) ?_
      exact rn_retA rfl rfl rfl rfl
    · refine Eq.trans (rn_go 2 (pc' := 15) (L' := [.ref a0, .int x1]) (st' := [.int (8 : Int32), .int x1]) rfl) ?_
      refine Eq.trans (rn_icge (L' := [.ref a0, .int x1]) rfl rfl) ?_
      refine if_c ?_ ?_
      · refine Eq.trans (rn_go 1 (pc' := 28) (L' := [.ref a0, .int x1]) (st' := [.null]) rfl) ?_
        exact rn_retA rfl rfl rfl rfl
      · refine Eq.trans (rn_go 1 (pc' := 19) (L' := [.ref a0, .int x1]) (st' := [.ref a0]) rfl) ?_
        refine Eq.trans (rn_gA (L' := [.ref a0, .int x1]) rfl rfl rfl rfl) ?_
        refine eA_c ?_ (fun b_2 => ?_)
        · refine Eq.trans (rn_go 1 (pc' := 23) (L' := [.ref a0, .int x1]) (st' := [.int x1, .null]) rfl) ?_
          exact rn_z rfl rfl
        · refine Eq.trans (rn_go 1 (pc' := 23) (L' := [.ref a0, .int x1]) (st' := [.int x1, .ref b_2]) rfl) ?_
          refine Eq.trans (rn_aA (L' := [.ref a0, .int x1]) rfl rfl) ?_
          refine eA_c ?_ (fun b_3 => ?_)
          · refine Eq.trans (rn_go 1 (pc' := 28) (L' := [.ref a0, .int x1]) (st' := [.null]) rfl) ?_
            exact rn_retA rfl rfl rfl rfl
          · refine Eq.trans (rn_go 1 (pc' := 28) (L' := [.ref a0, .int x1]) (st' := [.ref b_3]) rfl) ?_
            exact rn_retA rfl rfl rfl rfl
theorem in_X8_findLease {B : Nat} (a0 : Nat) (x1 : Int32) (s : am_S) : cl_ tb_ct tb_mt B K_X8_findLease [.ref a0, .int x1] s = rn_ tb_ct tb_mt B mm_X8_findLease 0 [.ref a0, .int x1, am_un, am_un] [] s := cl_in rfl rfl rfl rfl
theorem dc_X8_findLease_0 {B : Nat} (a0 : Nat) (x1 : Int32) (s : am_S) : rn_ tb_ct tb_mt B mm_X8_findLease 0 [.ref a0, .int x1, am_un, am_un] [] s = rn_ tb_ct tb_mt B mm_X8_findLease 2 [.ref a0, .int x1, .int (0 : Int32), am_un] [] s := by
  exact rn_go 2 (pc' := 2) (L' := [.ref a0, .int x1, .int (0 : Int32), am_un]) (st' := []) rfl
theorem dc_X8_findLease_2 {B : Nat} (a0 : Nat) (x1 : Int32) (x2 : Int32) (s : am_S) : rn_ tb_ct tb_mt B mm_X8_findLease 2 [.ref a0, .int x1, .int x2, am_un] [] s = eI (gI tb_ct s a0 7 9) (fun x_1 => if x_1 ≤ x2 then some (.inl (some (.int (-(1 : Int32)))), s) else eC (am_cls s a0) 7 (cA (cl_ tb_ct tb_mt B K_X8_leaseAt [.ref a0, .int x2] s) (fun s_2 => rn_ tb_ct tb_mt B mm_X8_findLease 30 [.ref a0, .int x1, .int x2, va_rf none] [] s_2) (fun b_3 s_2 => eI (gI tb_ct s_2 b_3 4 0) (fun x_4 => if x_4 = x1 then some (.inl (some (.int x2)), s_2) else rn_ tb_ct tb_mt B mm_X8_findLease 30 [.ref a0, .int x1, .int x2, va_rf (some b_3)] [] s_2)) xo)) := by
  refine Eq.trans (rn_go 2 (pc' := 4) (L' := [.ref a0, .int x1, .int x2, am_un]) (st' := [.ref a0, .int x2]) rfl) ?_
  refine Eq.trans (rn_gI (L' := [.ref a0, .int x1, .int x2, am_un]) rfl rfl rfl rfl) ?_
  refine eI_c (fun x_1 => ?_)
  refine Eq.trans (rn_icge (L' := [.ref a0, .int x1, .int x2, am_un]) rfl rfl) ?_
  refine if_c ?_ ?_
  · refine Eq.trans (rn_go 1 (pc' := 37) (L' := [.ref a0, .int x1, .int x2, am_un]) (st' := [.int (-(1 : Int32))]) rfl) ?_
    exact rn_retI rfl rfl rfl
  · refine Eq.trans (rn_go 2 (pc' := 12) (L' := [.ref a0, .int x1, .int x2, am_un]) (st' := [.int x2, .ref a0]) rfl) ?_
    refine Eq.trans (rn_vir (L' := [.ref a0, .int x1, .int x2, am_un]) (as := [.int x2]) (rest := []) rfl rfl rfl rfl rfl (Nat.le_of_ble_eq_true rfl) (by decide) (by decide)) ?_
    refine eC_c ?_
    refine Eq.trans (cW_A rfl rfl rfl) ?_
    refine cA_c (fun s_2 => ?_) (fun b_3 s_2 => ?_) (xh_nil rfl)
    · exact rn_go 3 (pc' := 30) (L' := [.ref a0, .int x1, .int x2, va_rf none]) (st' := []) rfl
    · refine Eq.trans (rn_go 4 (pc' := 21) (L' := [.ref a0, .int x1, .int x2, .ref b_3]) (st' := [.ref b_3]) rfl) ?_
      refine Eq.trans (rn_gI (L' := [.ref a0, .int x1, .int x2, .ref b_3]) rfl rfl rfl rfl) ?_
      refine eI_c (fun x_4 => ?_)
      refine Eq.trans (rn_go 1 (pc' := 25) (L' := [.ref a0, .int x1, .int x2, .ref b_3]) (st' := [.int x1, .int x_4]) rfl) ?_
      refine Eq.trans (rn_icne (L' := [.ref a0, .int x1, .int x2, .ref b_3]) rfl rfl) ?_
      refine if_c ?_ ?_
      · refine Eq.trans (rn_go 1 (pc' := 29) (L' := [.ref a0, .int x1, .int x2, .ref b_3]) (st' := [.int x2]) rfl) ?_
        exact rn_retI rfl rfl rfl
      · rfl
theorem dc_X8_findLease_30 {B : Nat} (a0 : Nat) (x1 : Int32) (x2 : Int32) (w3 : Value) (s : am_S) : rn_ tb_ct tb_mt B mm_X8_findLease 30 [.ref a0, .int x1, .int x2, w3] [] s = rn_ tb_ct tb_mt B mm_X8_findLease 2 [.ref a0, .int x1, .int (x2 + (1 : Int32)), am_un] [] s := by
  exact rn_go 2 (pc' := 2) (L' := [.ref a0, .int x1, .int (x2 + (1 : Int32)), am_un]) (st' := []) rfl
theorem in_X8_firstToEnd {B : Nat} (a0 : Nat) (s : am_S) : cl_ tb_ct tb_mt B K_X8_firstToEnd [.ref a0] s = rn_ tb_ct tb_mt B mm_X8_firstToEnd 0 [.ref a0, am_un, am_un, am_un, am_un] [] s := cl_in rfl rfl rfl rfl
theorem dc_X8_firstToEnd_0 {B : Nat} (a0 : Nat) (s : am_S) : rn_ tb_ct tb_mt B mm_X8_firstToEnd 0 [.ref a0, am_un, am_un, am_un, am_un] [] s = rn_ tb_ct tb_mt B mm_X8_firstToEnd 6 [.ref a0, .int (-(1 : Int32)), .int (0 : Int32), .int (0 : Int32), am_un] [] s := by
  exact rn_go 6 (pc' := 6) (L' := [.ref a0, .int (-(1 : Int32)), .int (0 : Int32), .int (0 : Int32), am_un]) (st' := []) rfl
theorem dc_X8_firstToEnd_6 {B : Nat} (a0 : Nat) (x1 : Int32) (x2 : Int32) (x3 : Int32) (s : am_S) : rn_ tb_ct tb_mt B mm_X8_firstToEnd 6 [.ref a0, .int x1, .int x2, .int x3, am_un] [] s = eI (gI tb_ct s a0 7 9) (fun x_1 => if x_1 ≤ x3 then some (.inl (some (.int x1)), s) else eC (am_cls s a0) 7 (cA (cl_ tb_ct tb_mt B K_X8_leaseAt [.ref a0, .int x3] s) (fun s_2 => rn_ tb_ct tb_mt B mm_X8_firstToEnd 48 [.ref a0, .int x1, .int x2, .int x3, va_rf none] [] s_2) (fun b_3 s_2 => if x1 = (-(1 : Int32)) then rn_ tb_ct tb_mt B mm_X8_firstToEnd 40 [.ref a0, .int x1, .int x2, .int x3, .ref b_3] [] s_2 else eI (gI tb_ct s_2 b_3 4 2) (fun x_4 => if x2 ≤ x_4 then rn_ tb_ct tb_mt B mm_X8_firstToEnd 48 [.ref a0, .int x1, .int x2, .int x3, va_rf (some b_3)] [] s_2 else rn_ tb_ct tb_mt B mm_X8_firstToEnd 40 [.ref a0, .int x1, .int x2, .int x3, .ref b_3] [] s_2)) xo)) := by
  refine Eq.trans (rn_go 2 (pc' := 8) (L' := [.ref a0, .int x1, .int x2, .int x3, am_un]) (st' := [.ref a0, .int x3]) rfl) ?_
  refine Eq.trans (rn_gI (L' := [.ref a0, .int x1, .int x2, .int x3, am_un]) rfl rfl rfl rfl) ?_
  refine eI_c (fun x_1 => ?_)
  refine Eq.trans (rn_icge (L' := [.ref a0, .int x1, .int x2, .int x3, am_un]) rfl rfl) ?_
  refine if_c ?_ ?_
  · refine Eq.trans (rn_go 1 (pc' := 55) (L' := [.ref a0, .int x1, .int x2, .int x3, am_un]) (st' := [.int x1]) rfl) ?_
    exact rn_retI rfl rfl rfl
  · refine Eq.trans (rn_go 2 (pc' := 16) (L' := [.ref a0, .int x1, .int x2, .int x3, am_un]) (st' := [.int x3, .ref a0]) rfl) ?_
    refine Eq.trans (rn_vir (L' := [.ref a0, .int x1, .int x2, .int x3, am_un]) (as := [.int x3]) (rest := []) rfl rfl rfl rfl rfl (Nat.le_of_ble_eq_true rfl) (by decide) (by decide)) ?_
    refine eC_c ?_
    refine Eq.trans (cW_A rfl rfl rfl) ?_
    refine cA_c (fun s_2 => ?_) (fun b_3 s_2 => ?_) (xh_nil rfl)
    · exact rn_go 3 (pc' := 48) (L' := [.ref a0, .int x1, .int x2, .int x3, va_rf none]) (st' := []) rfl
    · refine Eq.trans (rn_go 5 (pc' := 28) (L' := [.ref a0, .int x1, .int x2, .int x3, .ref b_3]) (st' := [.int (-(1 : Int32)), .int x1]) rfl) ?_
      refine Eq.trans (rn_iceq (L' := [.ref a0, .int x1, .int x2, .int x3, .ref b_3]) rfl rfl) ?_
      refine if_c ?_ ?_
      · rfl
      · refine Eq.trans (rn_go 1 (pc' := 33) (L' := [.ref a0, .int x1, .int x2, .int x3, .ref b_3]) (st' := [.ref b_3]) rfl) ?_
        refine Eq.trans (rn_gI (L' := [.ref a0, .int x1, .int x2, .int x3, .ref b_3]) rfl rfl rfl rfl) ?_
        refine eI_c (fun x_4 => ?_)
        refine Eq.trans (rn_go 1 (pc' := 37) (L' := [.ref a0, .int x1, .int x2, .int x3, .ref b_3]) (st' := [.int x2, .int x_4]) rfl) ?_
        refine Eq.trans (rn_icge (L' := [.ref a0, .int x1, .int x2, .int x3, .ref b_3]) rfl rfl) ?_
        refine if_c ?_ ?_
        · rfl
        · rfl
theorem dc_X8_firstToEnd_40 {B : Nat} (a0 : Nat) (w1 : Value) (w2 : Value) (x3 : Int32) (a4 : Nat) (s : am_S) : rn_ tb_ct tb_mt B mm_X8_firstToEnd 40 [.ref a0, w1, w2, .int x3, .ref a4] [] s = eI (gI tb_ct s a4 4 2) (fun x_1 => rn_ tb_ct tb_mt B mm_X8_firstToEnd 48 [.ref a0, .int x3, .int x_1, .int x3, va_rf (some a4)] [] s) := by
  refine Eq.trans (rn_go 3 (pc' := 44) (L' := [.ref a0, .int x3, am_un, .int x3, .ref a4]) (st' := [.ref a4]) rfl) ?_
  refine Eq.trans (rn_gI (L' := [.ref a0, .int x3, am_un, .int x3, .ref a4]) rfl rfl rfl rfl) ?_
  refine eI_c (fun x_1 => ?_)
  exact rn_go 1 (pc' := 48) (L' := [.ref a0, .int x3, .int x_1, .int x3, va_rf (some a4)]) (st' := []) rfl
theorem dc_X8_firstToEnd_48 {B : Nat} (a0 : Nat) (x1 : Int32) (x2 : Int32) (x3 : Int32) (w4 : Value) (s : am_S) : rn_ tb_ct tb_mt B mm_X8_firstToEnd 48 [.ref a0, .int x1, .int x2, .int x3, w4] [] s = rn_ tb_ct tb_mt B mm_X8_firstToEnd 6 [.ref a0, .int x1, .int x2, .int (x3 + (1 : Int32)), am_un] [] s := by
  exact rn_go 2 (pc' := 6) (L' := [.ref a0, .int x1, .int x2, .int (x3 + (1 : Int32)), am_un]) (st' := []) rfl
theorem in_X8_addLease {B : Nat} (a0 : Nat) (x1 : Int32) (s : am_S) : cl_ tb_ct tb_mt B K_X8_addLease [.ref a0, .int x1] s = rn_ tb_ct tb_mt B mm_X8_addLease 0 [.ref a0, .int x1, am_un] [] s := cl_in rfl rfl rfl rfl
theorem dc_X8_addLease_0 {B : Nat} (a0 : Nat) (x1 : Int32) (s : am_S) : rn_ tb_ct tb_mt B mm_X8_addLease 0 [.ref a0, .int x1, am_un] [] s = eI (gI tb_ct s a0 7 9) (fun x_1 => if x_1 < 0 then some (.inl (some (.int (-(2 : Int32)))), s) else eI (gI tb_ct s a0 7 9) (fun x_2 => if x_2 < (8 : Int32) then eA (gA tb_ct s a0 7 3) (eI (gI tb_ct s a0 7 9) (fun x_4 => none)) (fun b_3 => eI (gI tb_ct s a0 7 9) (fun x_5 => eA (aA s b_3 x_5) (some (.inl (some (.int (-(2 : Int32)))), s)) (fun b_6 => eI (gI tb_ct s a0 7 10) (fun x_7 => eS (am_put tb_ct mm_X8_addLease B s (.int (x_7 + (1 : Int32))) a0 7 10) (fun s_8 => eI (gI tb_ct s_8 a0 7 9) (fun x_9 => eS (am_put tb_ct mm_X8_addLease B s_8 (.int (x_9 + (1 : Int32))) a0 7 9) (fun s_10 => eI (gI tb_ct s_10 a0 7 10) (fun x_11 => eS (am_put tb_ct mm_X8_addLease B s_10 (.int x_11) b_6 4 0) (fun s_12 => eS (am_put tb_ct mm_X8_addLease B s_12 (.int x1) b_6 4 1) (fun s_13 => eS (am_put tb_ct mm_X8_addLease B s_13 (.int x1) b_6 4 2) (fun s_14 => eI (gI tb_ct s_14 a0 7 10) (fun x_15 => some (.inl (some (.int x_15)), s_14))))))))))))) else some (.inl (some (.int (-(2 : Int32)))), s))) := by
  refine Eq.trans (rn_go 1 (pc' := 1) (L' := [.ref a0, .int x1, am_un]) (st' := [.ref a0]) rfl) ?_
  refine Eq.trans (rn_gI (L' := [.ref a0, .int x1, am_un]) rfl rfl rfl rfl) ?_
  refine eI_c (fun x_1 => ?_)
  refine Eq.trans (rn_iflt (L' := [.ref a0, .int x1, am_un]) rfl rfl) ?_
  refine if_c ?_ ?_
  · refine Eq.trans (rn_go 1 (pc' := 18) (L' := [.ref a0, .int x1, am_un]) (st' := [.int (-(2 : Int32))]) rfl) ?_
    exact rn_retI rfl rfl rfl
  · refine Eq.trans (rn_go 1 (pc' := 8) (L' := [.ref a0, .int x1, am_un]) (st' := [.ref a0]) rfl) ?_
    refine Eq.trans (rn_gI (L' := [.ref a0, .int x1, am_un]) rfl rfl rfl rfl) ?_
    refine eI_c (fun x_2 => ?_)
    refine Eq.trans (rn_go 1 (pc' := 13) (L' := [.ref a0, .int x1, am_un]) (st' := [.int (8 : Int32), .int x_2]) rfl) ?_
    refine Eq.trans (rn_iclt (L' := [.ref a0, .int x1, am_un]) rfl rfl) ?_
    refine if_c ?_ ?_
    · refine Eq.trans (rn_go 1 (pc' := 20) (L' := [.ref a0, .int x1, am_un]) (st' := [.ref a0]) rfl) ?_
      refine Eq.trans (rn_gA (L' := [.ref a0, .int x1, am_un]) rfl rfl rfl rfl) ?_
      refine eA_c ?_ (fun b_3 => ?_)
      · refine Eq.trans (rn_go 1 (pc' := 24) (L' := [.ref a0, .int x1, am_un]) (st' := [.ref a0, .null]) rfl) ?_
        refine Eq.trans (rn_gI (L' := [.ref a0, .int x1, am_un]) rfl rfl rfl rfl) ?_
        refine eI_c (fun x_4 => ?_)
        exact rn_z rfl rfl
      · refine Eq.trans (rn_go 1 (pc' := 24) (L' := [.ref a0, .int x1, am_un]) (st' := [.ref a0, .ref b_3]) rfl) ?_
        refine Eq.trans (rn_gI (L' := [.ref a0, .int x1, am_un]) rfl rfl rfl rfl) ?_
        refine eI_c (fun x_5 => ?_)
        refine Eq.trans (rn_aA (L' := [.ref a0, .int x1, am_un]) rfl rfl) ?_
        refine eA_c ?_ (fun b_6 => ?_)
        · refine Eq.trans (rn_go 4 (pc' := 35) (L' := [.ref a0, .int x1, .null]) (st' := [.int (-(2 : Int32))]) rfl) ?_
          exact rn_retI rfl rfl rfl
        · refine Eq.trans (rn_go 5 (pc' := 38) (L' := [.ref a0, .int x1, .ref b_6]) (st' := [.ref a0, .ref a0]) rfl) ?_
          refine Eq.trans (rn_gI (L' := [.ref a0, .int x1, .ref b_6]) rfl rfl rfl rfl) ?_
          refine eI_c (fun x_7 => ?_)
          refine Eq.trans (rn_go 2 (pc' := 43) (L' := [.ref a0, .int x1, .ref b_6]) (st' := [.int (x_7 + (1 : Int32)), .ref a0]) rfl) ?_
          refine Eq.trans (rn_pF (L' := [.ref a0, .int x1, .ref b_6]) rfl rfl) ?_
          refine eS_c (fun s_8 => ?_)
          refine Eq.trans (rn_go 2 (pc' := 48) (L' := [.ref a0, .int x1, .ref b_6]) (st' := [.ref a0, .ref a0]) rfl) ?_
          refine Eq.trans (rn_gI (L' := [.ref a0, .int x1, .ref b_6]) rfl rfl rfl rfl) ?_
          refine eI_c (fun x_9 => ?_)
          refine Eq.trans (rn_go 2 (pc' := 53) (L' := [.ref a0, .int x1, .ref b_6]) (st' := [.int (x_9 + (1 : Int32)), .ref a0]) rfl) ?_
          refine Eq.trans (rn_pF (L' := [.ref a0, .int x1, .ref b_6]) rfl rfl) ?_
          refine eS_c (fun s_10 => ?_)
          refine Eq.trans (rn_go 2 (pc' := 58) (L' := [.ref a0, .int x1, .ref b_6]) (st' := [.ref a0, .ref b_6]) rfl) ?_
          refine Eq.trans (rn_gI (L' := [.ref a0, .int x1, .ref b_6]) rfl rfl rfl rfl) ?_
          refine eI_c (fun x_11 => ?_)
          refine Eq.trans (rn_pF (L' := [.ref a0, .int x1, .ref b_6]) rfl rfl) ?_
          refine eS_c (fun s_12 => ?_)
          refine Eq.trans (rn_go 2 (pc' := 66) (L' := [.ref a0, .int x1, .ref b_6]) (st' := [.int x1, .ref b_6]) rfl) ?_
          refine Eq.trans (rn_pF (L' := [.ref a0, .int x1, .ref b_6]) rfl rfl) ?_
          refine eS_c (fun s_13 => ?_)
          refine Eq.trans (rn_go 2 (pc' := 71) (L' := [.ref a0, .int x1, .ref b_6]) (st' := [.int x1, .ref b_6]) rfl) ?_
          refine Eq.trans (rn_pF (L' := [.ref a0, .int x1, .ref b_6]) rfl rfl) ?_
          refine eS_c (fun s_14 => ?_)
          refine Eq.trans (rn_go 1 (pc' := 75) (L' := [.ref a0, .int x1, .ref b_6]) (st' := [.ref a0]) rfl) ?_
          refine Eq.trans (rn_gI (L' := [.ref a0, .int x1, .ref b_6]) rfl rfl rfl rfl) ?_
          refine eI_c (fun x_15 => ?_)
          exact rn_retI rfl rfl rfl
    · refine Eq.trans (rn_go 1 (pc' := 18) (L' := [.ref a0, .int x1, am_un]) (st' := [.int (-(2 : Int32))]) rfl) ?_
      exact rn_retI rfl rfl rfl
theorem in_X8_renew {B : Nat} (a0 : Nat) (x1 : Int32) (s : am_S) : cl_ tb_ct tb_mt B K_X8_renew [.ref a0, .int x1] s = rn_ tb_ct tb_mt B mm_X8_renew 0 [.ref a0, .int x1, am_un] [] s := cl_in rfl rfl rfl rfl
theorem dc_X8_renew_0 {B : Nat} (a0 : Nat) (x1 : Int32) (s : am_S) : rn_ tb_ct tb_mt B mm_X8_renew 0 [.ref a0, .int x1, am_un] [] s = eC (am_cls s a0) 7 (cI (cl_ tb_ct tb_mt B K_X8_findLease [.ref a0, .int x1] s) (fun x_2 s_1 => eC (am_cls s_1 a0) 7 (cA (cl_ tb_ct tb_mt B K_X8_leaseAt [.ref a0, .int x_2] s_1) (fun s_3 => some (.inl (some (.int (-(3 : Int32)))), s_3)) (fun b_4 s_3 => eI (gI tb_ct s_3 b_4 4 1) (fun x_5 => eS (am_put tb_ct mm_X8_renew B s_3 (.int x_5) b_4 4 2) (fun s_6 => eI (gI tb_ct s_6 b_4 4 1) (fun x_7 => some (.inl (some (.int x_7)), s_6))))) xo)) xo) := by
  refine Eq.trans (rn_go 3 (pc' := 3) (L' := [.ref a0, .int x1, am_un]) (st' := [.int x1, .ref a0, .ref a0]) rfl) ?_
  refine Eq.trans (rn_vir (L' := [.ref a0, .int x1, am_un]) (as := [.int x1]) (rest := [.ref a0]) rfl rfl rfl rfl rfl (Nat.le_of_ble_eq_true rfl) (by decide) (by decide)) ?_
  refine eC_c ?_
  refine Eq.trans (cW_I rfl rfl rfl) ?_
  refine cI_c (fun x_2 s_1 => ?_) (xh_nil rfl)
  refine Eq.trans (rn_vir (L' := [.ref a0, .int x1, am_un]) (as := [.int x_2]) (rest := []) rfl rfl rfl rfl rfl (Nat.le_of_ble_eq_true rfl) (by decide) (by decide)) ?_
  refine eC_c ?_
  refine Eq.trans (cW_A rfl rfl rfl) ?_
  refine cA_c (fun s_3 => ?_) (fun b_4 s_3 => ?_) (xh_nil rfl)
  · refine Eq.trans (rn_go 4 (pc' := 16) (L' := [.ref a0, .int x1, .null]) (st' := [.int (-(3 : Int32))]) rfl) ?_
    exact rn_retI rfl rfl rfl
  · refine Eq.trans (rn_go 5 (pc' := 19) (L' := [.ref a0, .int x1, .ref b_4]) (st' := [.ref b_4, .ref b_4]) rfl) ?_
    refine Eq.trans (rn_gI (L' := [.ref a0, .int x1, .ref b_4]) rfl rfl rfl rfl) ?_
    refine eI_c (fun x_5 => ?_)
    refine Eq.trans (rn_pF (L' := [.ref a0, .int x1, .ref b_4]) rfl rfl) ?_
    refine eS_c (fun s_6 => ?_)
    refine Eq.trans (rn_go 1 (pc' := 26) (L' := [.ref a0, .int x1, .ref b_4]) (st' := [.ref b_4]) rfl) ?_
    refine Eq.trans (rn_gI (L' := [.ref a0, .int x1, .ref b_4]) rfl rfl rfl rfl) ?_
    refine eI_c (fun x_7 => ?_)
    exact rn_retI rfl rfl rfl
theorem in_X8_endLease {B : Nat} (a0 : Nat) (x1 : Int32) (s : am_S) : cl_ tb_ct tb_mt B K_X8_endLease [.ref a0, .int x1] s = rn_ tb_ct tb_mt B mm_X8_endLease 0 [.ref a0, .int x1, am_un, am_un] [] s := cl_in rfl rfl rfl rfl
theorem dc_X8_endLease_0 {B : Nat} (a0 : Nat) (x1 : Int32) (s : am_S) : rn_ tb_ct tb_mt B mm_X8_endLease 0 [.ref a0, .int x1, am_un, am_un] [] s = eC (am_cls s a0) 7 (cI (cl_ tb_ct tb_mt B K_X8_findLease [.ref a0, .int x1] s) (fun x_2 s_1 => if x_2 = (-(1 : Int32)) then some (.inl (some (.int (-(3 : Int32)))), s_1) else eC (am_cls s_1 a0) 7 (cV (cl_ tb_ct tb_mt B K_X8_removeLease [.ref a0, .int x_2] s_1) (fun s_3 => eC (am_cls s_3 a0) 7 (cI (cl_ tb_ct tb_mt B K_X8_deleteLeased [.ref a0, .int x1] s_3) (fun x_5 s_4 => eC (am_cls s_4 a0) 7 (cV (cl_ tb_ct tb_mt B K_X8_endChange [.ref a0] s_4) (fun s_6 => some (.inl (some (.int x_5)), s_6)) xo)) xo)) xo)) xo) := by
  refine Eq.trans (rn_go 2 (pc' := 2) (L' := [.ref a0, .int x1, am_un, am_un]) (st' := [.int x1, .ref a0]) rfl) ?_
  refine Eq.trans (rn_vir (L' := [.ref a0, .int x1, am_un, am_un]) (as := [.int x1]) (rest := []) rfl rfl rfl rfl rfl (Nat.le_of_ble_eq_true rfl) (by decide) (by decide)) ?_
  refine eC_c ?_
  refine Eq.trans (cW_I rfl rfl rfl) ?_
  refine cI_c (fun x_2 s_1 => ?_) (xh_nil rfl)
  refine Eq.trans (rn_go 3 (pc' := 8) (L' := [.ref a0, .int x1, .int x_2, am_un]) (st' := [.int (-(1 : Int32)), .int x_2]) rfl) ?_
  refine Eq.trans (rn_icne (L' := [.ref a0, .int x1, .int x_2, am_un]) rfl rfl) ?_
  refine if_c ?_ ?_
  · refine Eq.trans (rn_go 1 (pc' := 13) (L' := [.ref a0, .int x1, .int x_2, am_un]) (st' := [.int (-(3 : Int32))]) rfl) ?_
    exact rn_retI rfl rfl rfl
  · refine Eq.trans (rn_go 2 (pc' := 16) (L' := [.ref a0, .int x1, .int x_2, am_un]) (st' := [.int x_2, .ref a0]) rfl) ?_
    refine Eq.trans (rn_vir (L' := [.ref a0, .int x1, .int x_2, am_un]) (as := [.int x_2]) (rest := []) rfl rfl rfl rfl rfl (Nat.le_of_ble_eq_true rfl) (by decide) (by decide)) ?_
    refine eC_c ?_
    refine Eq.trans (cW_V rfl rfl) ?_
    refine cV_c (fun s_3 => ?_) (xh_nil rfl)
    refine Eq.trans (rn_go 2 (pc' := 21) (L' := [.ref a0, .int x1, .int x_2, am_un]) (st' := [.int x1, .ref a0]) rfl) ?_
    refine Eq.trans (rn_vir (L' := [.ref a0, .int x1, .int x_2, am_un]) (as := [.int x1]) (rest := []) rfl rfl rfl rfl rfl (Nat.le_of_ble_eq_true rfl) (by decide) (by decide)) ?_
    refine eC_c ?_
    refine Eq.trans (cW_I rfl rfl rfl) ?_
    refine cI_c (fun x_5 s_4 => ?_) (xh_nil rfl)
    refine Eq.trans (rn_go 2 (pc' := 26) (L' := [.ref a0, .int x1, .int x_2, .int x_5]) (st' := [.ref a0]) rfl) ?_
    refine Eq.trans (rn_vir (L' := [.ref a0, .int x1, .int x_2, .int x_5]) (as := []) (rest := []) rfl rfl rfl rfl rfl (Nat.le_of_ble_eq_true rfl) (by decide) (by decide)) ?_
    refine eC_c ?_
    refine Eq.trans (cW_V rfl rfl) ?_
    refine cV_c (fun s_6 => ?_) (xh_nil rfl)
    refine Eq.trans (rn_go 1 (pc' := 30) (L' := [.ref a0, .int x1, .int x_2, .int x_5]) (st' := [.int x_5]) rfl) ?_
    exact rn_retI rfl rfl rfl
theorem in_X8_removeLease {B : Nat} (a0 : Nat) (x1 : Int32) (s : am_S) : cl_ tb_ct tb_mt B K_X8_removeLease [.ref a0, .int x1] s = rn_ tb_ct tb_mt B mm_X8_removeLease 0 [.ref a0, .int x1, am_un, am_un] [] s := cl_in rfl rfl rfl rfl
theorem dc_X8_removeLease_0 {B : Nat} (a0 : Nat) (x1 : Int32) (s : am_S) : rn_ tb_ct tb_mt B mm_X8_removeLease 0 [.ref a0, .int x1, am_un, am_un] [] s = eC (am_cls s a0) 7 (cA (cl_ tb_ct tb_mt B K_X8_leaseAt [.ref a0, .int x1] s) (fun s_1 => some (.inl none, s_1)) (fun b_2 s_1 => rn_ tb_ct tb_mt B mm_X8_removeLease 13 [.ref a0, .int x1, .ref b_2, .int x1] [] s_1) xo) := by
  refine Eq.trans (rn_go 2 (pc' := 2) (L' := [.ref a0, .int x1, am_un, am_un]) (st' := [.int x1, .ref a0]) rfl) ?_
  refine Eq.trans (rn_vir (L' := [.ref a0, .int x1, am_un, am_un]) (as := [.int x1]) (rest := []) rfl rfl rfl rfl rfl (Nat.le_of_ble_eq_true rfl) (by decide) (by decide)) ?_
  refine eC_c ?_
  refine Eq.trans (cW_A rfl rfl rfl) ?_
  refine cA_c (fun s_1 => ?_) (fun b_2 s_1 => ?_) (xh_nil rfl)
  · refine Eq.trans (rn_go 3 (pc' := 10) (L' := [.ref a0, .int x1, .null, am_un]) (st' := []) rfl) ?_
    exact rn_retV rfl rfl
  · exact rn_go 5 (pc' := 13) (L' := [.ref a0, .int x1, .ref b_2, .int x1]) (st' := []) rfl
theorem dc_X8_removeLease_13 {B : Nat} (a0 : Nat) (w1 : Value) (a2 : Nat) (x3 : Int32) (s : am_S) : rn_ tb_ct tb_mt B mm_X8_removeLease 13 [.ref a0, w1, .ref a2, .int x3] [] s = eI (gI tb_ct s a0 7 9) (fun x_1 => if x_1 ≤ (x3 + (1 : Int32)) then rn_ tb_ct tb_mt B mm_X8_removeLease 51 [.ref a0, am_un, .ref a2, .int x3] [] s else if (8 : Int32) ≤ (x3 + (1 : Int32)) then rn_ tb_ct tb_mt B mm_X8_removeLease 51 [.ref a0, am_un, .ref a2, .int x3] [] s else eA (gA tb_ct s a0 7 3) (eA (gA tb_ct s a0 7 3) (none) (fun b_3 => eA (aA s b_3 (x3 + (1 : Int32))) (none) (fun b_4 => none))) (fun b_2 => eA (gA tb_ct s a0 7 3) (none) (fun b_5 => eA (aA s b_5 (x3 + (1 : Int32))) (none) (fun b_6 => eS (wA tb_ct B s b_2 x3 b_6) (fun s_7 => rn_ tb_ct tb_mt B mm_X8_removeLease 13 [.ref a0, am_un, .ref a2, .int (x3 + (1 : Int32))] [] s_7))))) := by
  refine Eq.trans (rn_go 4 (pc' := 17) (L' := [.ref a0, am_un, .ref a2, .int x3]) (st' := [.ref a0, .int (x3 + (1 : Int32))]) rfl) ?_
  refine Eq.trans (rn_gI (L' := [.ref a0, am_un, .ref a2, .int x3]) rfl rfl rfl rfl) ?_
  refine eI_c (fun x_1 => ?_)
  refine Eq.trans (rn_icge (L' := [.ref a0, am_un, .ref a2, .int x3]) rfl rfl) ?_
  refine if_c ?_ ?_
  · rfl
  · refine Eq.trans (rn_go 4 (pc' := 28) (L' := [.ref a0, am_un, .ref a2, .int x3]) (st' := [.int (8 : Int32), .int (x3 + (1 : Int32))]) rfl) ?_
    refine Eq.trans (rn_icge (L' := [.ref a0, am_un, .ref a2, .int x3]) rfl rfl) ?_
    refine if_c ?_ ?_
    · rfl
    · refine Eq.trans (rn_go 1 (pc' := 32) (L' := [.ref a0, am_un, .ref a2, .int x3]) (st' := [.ref a0]) rfl) ?_
      refine Eq.trans (rn_gA (L' := [.ref a0, am_un, .ref a2, .int x3]) rfl rfl rfl rfl) ?_
      refine eA_c ?_ (fun b_2 => ?_)
      · refine Eq.trans (rn_go 2 (pc' := 37) (L' := [.ref a0, am_un, .ref a2, .int x3]) (st' := [.ref a0, .int x3, .null]) rfl) ?_
        refine Eq.trans (rn_gA (L' := [.ref a0, am_un, .ref a2, .int x3]) rfl rfl rfl rfl) ?_
        refine eA_c ?_ (fun b_3 => ?_)
        · refine Eq.trans (rn_go 3 (pc' := 43) (L' := [.ref a0, am_un, .ref a2, .int x3]) (st' := [.int (x3 + (1 : Int32)), .null, .int x3, .null]) rfl) ?_
          exact rn_z rfl rfl
        · refine Eq.trans (rn_go 3 (pc' := 43) (L' := [.ref a0, am_un, .ref a2, .int x3]) (st' := [.int (x3 + (1 : Int32)), .ref b_3, .int x3, .null]) rfl) ?_
          refine Eq.trans (rn_aA (L' := [.ref a0, am_un, .ref a2, .int x3]) rfl rfl) ?_
          refine eA_c ?_ (fun b_4 => ?_)
          · exact rn_z rfl rfl
          · exact rn_z rfl rfl
      · refine Eq.trans (rn_go 2 (pc' := 37) (L' := [.ref a0, am_un, .ref a2, .int x3]) (st' := [.ref a0, .int x3, .ref b_2]) rfl) ?_
        refine Eq.trans (rn_gA (L' := [.ref a0, am_un, .ref a2, .int x3]) rfl rfl rfl rfl) ?_
        refine eA_c ?_ (fun b_5 => ?_)
        · refine Eq.trans (rn_go 3 (pc' := 43) (L' := [.ref a0, am_un, .ref a2, .int x3]) (st' := [.int (x3 + (1 : Int32)), .null, .int x3, .ref b_2]) rfl) ?_
          exact rn_z rfl rfl
        · refine Eq.trans (rn_go 3 (pc' := 43) (L' := [.ref a0, am_un, .ref a2, .int x3]) (st' := [.int (x3 + (1 : Int32)), .ref b_5, .int x3, .ref b_2]) rfl) ?_
          refine Eq.trans (rn_aA (L' := [.ref a0, am_un, .ref a2, .int x3]) rfl rfl) ?_
          refine eA_c ?_ (fun b_6 => ?_)
          · exact rn_z rfl rfl
          · refine Eq.trans (rn_wA (L' := [.ref a0, am_un, .ref a2, .int x3]) rfl rfl) ?_
            refine eS_c (fun s_7 => ?_)
            exact rn_go 2 (pc' := 13) (L' := [.ref a0, am_un, .ref a2, .int (x3 + (1 : Int32))]) (st' := []) rfl
theorem dc_X8_removeLease_51 {B : Nat} (a0 : Nat) (a2 : Nat) (x3 : Int32) (s : am_S) : rn_ tb_ct tb_mt B mm_X8_removeLease 51 [.ref a0, am_un, .ref a2, .int x3] [] s = eA (gA tb_ct s a0 7 3) (none) (fun b_1 => eS (wA tb_ct B s b_1 x3 a2) (fun s_2 => eI (gI tb_ct s_2 a0 7 9) (fun x_3 => eS (am_put tb_ct mm_X8_removeLease B s_2 (.int (x_3 - (1 : Int32))) a0 7 9) (fun s_4 => some (.inl none, s_4))))) := by
  refine Eq.trans (rn_go 1 (pc' := 52) (L' := [.ref a0, am_un, .ref a2, .int x3]) (st' := [.ref a0]) rfl) ?_
  refine Eq.trans (rn_gA (L' := [.ref a0, am_un, .ref a2, .int x3]) rfl rfl rfl rfl) ?_
  refine eA_c ?_ (fun b_1 => ?_)
  · refine Eq.trans (rn_go 2 (pc' := 57) (L' := [.ref a0, am_un, .ref a2, .int x3]) (st' := [.ref a2, .int x3, .null]) rfl) ?_
    exact rn_z rfl rfl
  · refine Eq.trans (rn_go 2 (pc' := 57) (L' := [.ref a0, am_un, .ref a2, .int x3]) (st' := [.ref a2, .int x3, .ref b_1]) rfl) ?_
    refine Eq.trans (rn_wA (L' := [.ref a0, am_un, .ref a2, .int x3]) rfl rfl) ?_
    refine eS_c (fun s_2 => ?_)
    refine Eq.trans (rn_go 2 (pc' := 60) (L' := [.ref a0, am_un, .ref a2, .int x3]) (st' := [.ref a0, .ref a0]) rfl) ?_
    refine Eq.trans (rn_gI (L' := [.ref a0, am_un, .ref a2, .int x3]) rfl rfl rfl rfl) ?_
    refine eI_c (fun x_3 => ?_)
    refine Eq.trans (rn_go 2 (pc' := 65) (L' := [.ref a0, am_un, .ref a2, .int x3]) (st' := [.int (x_3 - (1 : Int32)), .ref a0]) rfl) ?_
    refine Eq.trans (rn_pF (L' := [.ref a0, am_un, .ref a2, .int x3]) rfl rfl) ?_
    refine eS_c (fun s_4 => ?_)
    exact rn_retV rfl rfl
theorem in_X8_deleteLeased {B : Nat} (a0 : Nat) (x1 : Int32) (s : am_S) : cl_ tb_ct tb_mt B K_X8_deleteLeased [.ref a0, .int x1] s = rn_ tb_ct tb_mt B mm_X8_deleteLeased 0 [.ref a0, .int x1, am_un, am_un, am_un, am_un] [] s := cl_in rfl rfl rfl rfl
theorem dc_X8_deleteLeased_0 {B : Nat} (a0 : Nat) (x1 : Int32) (s : am_S) : rn_ tb_ct tb_mt B mm_X8_deleteLeased 0 [.ref a0, .int x1, am_un, am_un, am_un, am_un] [] s = eA (gA tb_ct s a0 7 0) (none) (fun b_1 => eI (gI tb_ct s b_1 3 1) (fun x_2 => rn_ tb_ct tb_mt B mm_X8_deleteLeased 13 [.ref a0, .int x1, .int (0 : Int32), .int (0 : Int32), .int x_2, am_un] [] s)) := by
  refine Eq.trans (rn_go 5 (pc' := 5) (L' := [.ref a0, .int x1, .int (0 : Int32), .int (0 : Int32), am_un, am_un]) (st' := [.ref a0]) rfl) ?_
  refine Eq.trans (rn_gA (L' := [.ref a0, .int x1, .int (0 : Int32), .int (0 : Int32), am_un, am_un]) rfl rfl rfl rfl) ?_
  refine eA_c ?_ (fun b_1 => ?_)
  · exact rn_z rfl rfl
  · refine Eq.trans (rn_gI (L' := [.ref a0, .int x1, .int (0 : Int32), .int (0 : Int32), am_un, am_un]) rfl rfl rfl rfl) ?_
    refine eI_c (fun x_2 => ?_)
    exact rn_go 1 (pc' := 13) (L' := [.ref a0, .int x1, .int (0 : Int32), .int (0 : Int32), .int x_2, am_un]) (st' := []) rfl
theorem dc_X8_deleteLeased_13 {B : Nat} (a0 : Nat) (x1 : Int32) (x2 : Int32) (x3 : Int32) (x4 : Int32) (s : am_S) : rn_ tb_ct tb_mt B mm_X8_deleteLeased 13 [.ref a0, .int x1, .int x2, .int x3, .int x4, am_un] [] s = if x4 ≤ 0 then some (.inl (some (.int x2)), s) else eA (gA tb_ct s a0 7 0) (none) (fun b_1 => eC (am_cls s b_1) 3 (cA (cl_ tb_ct tb_mt B K_X4_at [.ref b_1, .int x3] s) (fun s_2 => rn_ tb_ct tb_mt B mm_X8_deleteLeased 53 [.ref a0, .int x1, .int x2, .int x3, .int x4, va_rf none] [] s_2) (fun b_3 s_2 => eI (gI tb_ct s_2 b_3 2 5) (fun x_4 => if x_4 = x1 then eC (am_cls s_2 a0) 7 (cV (cl_ tb_ct tb_mt B K_X8_deleteAt [.ref a0, .int x3] s_2) (fun s_5 => rn_ tb_ct tb_mt B mm_X8_deleteLeased 56 [.ref a0, .int x1, .int (x2 + (1 : Int32)), .int x3, .int x4, .ref b_3] [] s_5) xo) else rn_ tb_ct tb_mt B mm_X8_deleteLeased 53 [.ref a0, .int x1, .int x2, .int x3, .int x4, va_rf (some b_3)] [] s_2)) xo)) := by
  refine Eq.trans (rn_go 1 (pc' := 15) (L' := [.ref a0, .int x1, .int x2, .int x3, .int x4, am_un]) (st' := [.int x4]) rfl) ?_
  refine Eq.trans (rn_ifle (L' := [.ref a0, .int x1, .int x2, .int x3, .int x4, am_un]) rfl rfl) ?_
  refine if_c ?_ ?_
  · refine Eq.trans (rn_go 1 (pc' := 63) (L' := [.ref a0, .int x1, .int x2, .int x3, .int x4, am_un]) (st' := [.int x2]) rfl) ?_
    exact rn_retI rfl rfl rfl
  · refine Eq.trans (rn_go 1 (pc' := 19) (L' := [.ref a0, .int x1, .int x2, .int x3, .int x4, am_un]) (st' := [.ref a0]) rfl) ?_
    refine Eq.trans (rn_gA (L' := [.ref a0, .int x1, .int x2, .int x3, .int x4, am_un]) rfl rfl rfl rfl) ?_
    refine eA_c ?_ (fun b_1 => ?_)
    · refine Eq.trans (rn_go 1 (pc' := 23) (L' := [.ref a0, .int x1, .int x2, .int x3, .int x4, am_un]) (st' := [.int x3, .null]) rfl) ?_
      exact rn_z rfl rfl
    · refine Eq.trans (rn_go 1 (pc' := 23) (L' := [.ref a0, .int x1, .int x2, .int x3, .int x4, am_un]) (st' := [.int x3, .ref b_1]) rfl) ?_
      refine Eq.trans (rn_vir (L' := [.ref a0, .int x1, .int x2, .int x3, .int x4, am_un]) (as := [.int x3]) (rest := []) rfl rfl rfl rfl rfl (Nat.le_of_ble_eq_true rfl) (by decide) (by decide)) ?_
      refine eC_c ?_
      refine Eq.trans (cW_A rfl rfl rfl) ?_
      refine cA_c (fun s_2 => ?_) (fun b_3 s_2 => ?_) (xh_nil rfl)
      · exact rn_go 3 (pc' := 53) (L' := [.ref a0, .int x1, .int x2, .int x3, .int x4, va_rf none]) (st' := []) rfl
      · refine Eq.trans (rn_go 4 (pc' := 35) (L' := [.ref a0, .int x1, .int x2, .int x3, .int x4, .ref b_3]) (st' := [.ref b_3]) rfl) ?_
        refine Eq.trans (rn_gI (L' := [.ref a0, .int x1, .int x2, .int x3, .int x4, .ref b_3]) rfl rfl rfl rfl) ?_
        refine eI_c (fun x_4 => ?_)
        refine Eq.trans (rn_go 1 (pc' := 39) (L' := [.ref a0, .int x1, .int x2, .int x3, .int x4, .ref b_3]) (st' := [.int x1, .int x_4]) rfl) ?_
        refine Eq.trans (rn_icne (L' := [.ref a0, .int x1, .int x2, .int x3, .int x4, .ref b_3]) rfl rfl) ?_
        refine if_c ?_ ?_
        · refine Eq.trans (rn_go 2 (pc' := 44) (L' := [.ref a0, .int x1, .int x2, .int x3, .int x4, .ref b_3]) (st' := [.int x3, .ref a0]) rfl) ?_
          refine Eq.trans (rn_vir (L' := [.ref a0, .int x1, .int x2, .int x3, .int x4, .ref b_3]) (as := [.int x3]) (rest := []) rfl rfl rfl rfl rfl (Nat.le_of_ble_eq_true rfl) (by decide) (by decide)) ?_
          refine eC_c ?_
          refine Eq.trans (cW_V rfl rfl) ?_
          refine cV_c (fun s_5 => ?_) (xh_nil rfl)
          exact rn_go 2 (pc' := 56) (L' := [.ref a0, .int x1, .int (x2 + (1 : Int32)), .int x3, .int x4, .ref b_3]) (st' := []) rfl
        · rfl
theorem dc_X8_deleteLeased_53 {B : Nat} (a0 : Nat) (x1 : Int32) (x2 : Int32) (x3 : Int32) (x4 : Int32) (w5 : Value) (s : am_S) : rn_ tb_ct tb_mt B mm_X8_deleteLeased 53 [.ref a0, .int x1, .int x2, .int x3, .int x4, w5] [] s = rn_ tb_ct tb_mt B mm_X8_deleteLeased 56 [.ref a0, .int x1, .int x2, .int (x3 + (1 : Int32)), .int x4, am_un] [] s := by
  exact rn_go 1 (pc' := 56) (L' := [.ref a0, .int x1, .int x2, .int (x3 + (1 : Int32)), .int x4, am_un]) (st' := []) rfl
theorem dc_X8_deleteLeased_56 {B : Nat} (a0 : Nat) (x1 : Int32) (x2 : Int32) (x3 : Int32) (x4 : Int32) (w5 : Value) (s : am_S) : rn_ tb_ct tb_mt B mm_X8_deleteLeased 56 [.ref a0, .int x1, .int x2, .int x3, .int x4, w5] [] s = rn_ tb_ct tb_mt B mm_X8_deleteLeased 13 [.ref a0, .int x1, .int x2, .int x3, .int (x4 + (-(1 : Int32))), am_un] [] s := by
  exact rn_go 2 (pc' := 13) (L' := [.ref a0, .int x1, .int x2, .int x3, .int (x4 + (-(1 : Int32))), am_un]) (st' := []) rfl
theorem in_X8_letPass {B : Nat} (a0 : Nat) (x1 : Int32) (s : am_S) : cl_ tb_ct tb_mt B K_X8_letPass [.ref a0, .int x1] s = rn_ tb_ct tb_mt B mm_X8_letPass 0 [.ref a0, .int x1, am_un, am_un, am_un, am_un] [] s := cl_in rfl rfl rfl rfl
theorem dc_X8_letPass_0 {B : Nat} (a0 : Nat) (x1 : Int32) (s : am_S) : rn_ tb_ct tb_mt B mm_X8_letPass 0 [.ref a0, .int x1, am_un, am_un, am_un, am_un] [] s = rn_ tb_ct tb_mt B mm_X8_letPass 4 [.ref a0, .int x1, .int x1, .int (0 : Int32), am_un, am_un] [] s := by
  exact rn_go 4 (pc' := 4) (L' := [.ref a0, .int x1, .int x1, .int (0 : Int32), am_un, am_un]) (st' := []) rfl
theorem dc_X8_letPass_4 {B : Nat} (a0 : Nat) (x1 : Int32) (x2 : Int32) (x3 : Int32) (w4 : Value) (w5 : Value) (s : am_S) : rn_ tb_ct tb_mt B mm_X8_letPass 4 [.ref a0, .int x1, .int x2, .int x3, w4, w5] [] s = if (8 : Int32) < x3 then rn_ tb_ct tb_mt B mm_X8_letPass 84 [.ref a0, .int x1, .int x2, .int x3, am_un, am_un] [] s else eC (am_cls s a0) 7 (cI (cl_ tb_ct tb_mt B K_X8_firstToEnd [.ref a0] s) (fun x_2 s_1 => eC (am_cls s_1 a0) 7 (cA (cl_ tb_ct tb_mt B K_X8_leaseAt [.ref a0, .int x_2] s_1) (fun s_3 => rn_ tb_ct tb_mt B mm_X8_letPass 84 [.ref a0, .int x1, .int x2, .int x3, .int x_2, .null] [] s_3) (fun b_4 s_3 => eI (gI tb_ct s_3 b_4 4 2) (fun x_5 => if x_5 ≤ x2 then eI (gI tb_ct s_3 b_4 4 2) (fun x_6 => eI (gI tb_ct s_3 b_4 4 2) (fun x_7 => eC (am_cls s_3 a0) 7 (cV (cl_ tb_ct tb_mt B K_X8_age [.ref a0, .int x_7] s_3) (fun s_8 => eC (am_cls s_8 a0) 7 (cV (cl_ tb_ct tb_mt B K_X8_removeLease [.ref a0, .int x_2] s_8) (fun s_9 => eI (gI tb_ct s_9 b_4 4 0) (fun x_10 => eC (am_cls s_9 a0) 7 (cI (cl_ tb_ct tb_mt B K_X8_deleteLeased [.ref a0, .int x_10] s_9) (fun x_12 s_11 => eC (am_cls s_11 a0) 7 (cV (cl_ tb_ct tb_mt B K_X8_endChange [.ref a0] s_11) (fun s_13 => rn_ tb_ct tb_mt B mm_X8_letPass 4 [.ref a0, .int x1, .int (x2 - x_6), .int (x3 + (1 : Int32)), .int x_2, .ref b_4] [] s_13) xo)) xo))) xo)) xo))) else rn_ tb_ct tb_mt B mm_X8_letPass 84 [.ref a0, .int x1, .int x2, .int x3, .int x_2, .ref b_4] [] s_3)) xo)) xo) := by
  refine Eq.trans (rn_go 2 (pc' := 7) (L' := [.ref a0, .int x1, .int x2, .int x3, am_un, am_un]) (st' := [.int (8 : Int32), .int x3]) rfl) ?_
  refine Eq.trans (rn_icgt (L' := [.ref a0, .int x1, .int x2, .int x3, am_un, am_un]) rfl rfl) ?_
  refine if_c ?_ ?_
  · rfl
  · refine Eq.trans (rn_go 1 (pc' := 11) (L' := [.ref a0, .int x1, .int x2, .int x3, am_un, am_un]) (st' := [.ref a0]) rfl) ?_
    refine Eq.trans (rn_vir (L' := [.ref a0, .int x1, .int x2, .int x3, am_un, am_un]) (as := []) (rest := []) rfl rfl rfl rfl rfl (Nat.le_of_ble_eq_true rfl) (by decide) (by decide)) ?_
    refine eC_c ?_
    refine Eq.trans (cW_I rfl rfl rfl) ?_
    refine cI_c (fun x_2 s_1 => ?_) (xh_nil rfl)
    refine Eq.trans (rn_go 3 (pc' := 19) (L' := [.ref a0, .int x1, .int x2, .int x3, .int x_2, am_un]) (st' := [.int x_2, .ref a0]) rfl) ?_
    refine Eq.trans (rn_vir (L' := [.ref a0, .int x1, .int x2, .int x3, .int x_2, am_un]) (as := [.int x_2]) (rest := []) rfl rfl rfl rfl rfl (Nat.le_of_ble_eq_true rfl) (by decide) (by decide)) ?_
    refine eC_c ?_
    refine Eq.trans (cW_A rfl rfl rfl) ?_
    refine cA_c (fun s_3 => ?_) (fun b_4 s_3 => ?_) (xh_nil rfl)
    · exact rn_go 3 (pc' := 84) (L' := [.ref a0, .int x1, .int x2, .int x3, .int x_2, .null]) (st' := []) rfl
    · refine Eq.trans (rn_go 4 (pc' := 31) (L' := [.ref a0, .int x1, .int x2, .int x3, .int x_2, .ref b_4]) (st' := [.ref b_4]) rfl) ?_
      refine Eq.trans (rn_gI (L' := [.ref a0, .int x1, .int x2, .int x3, .int x_2, .ref b_4]) rfl rfl rfl rfl) ?_
      refine eI_c (fun x_5 => ?_)
      refine Eq.trans (rn_go 1 (pc' := 35) (L' := [.ref a0, .int x1, .int x2, .int x3, .int x_2, .ref b_4]) (st' := [.int x2, .int x_5]) rfl) ?_
      refine Eq.trans (rn_icle (L' := [.ref a0, .int x1, .int x2, .int x3, .int x_2, .ref b_4]) rfl rfl) ?_
      refine if_c ?_ ?_
      · refine Eq.trans (rn_go 2 (pc' := 44) (L' := [.ref a0, .int x1, .int x2, .int x3, .int x_2, .ref b_4]) (st' := [.ref b_4, .int x2]) rfl) ?_
        refine Eq.trans (rn_gI (L' := [.ref a0, .int x1, .int x2, .int x3, .int x_2, .ref b_4]) rfl rfl rfl rfl) ?_
        refine eI_c (fun x_6 => ?_)
        refine Eq.trans (rn_go 4 (pc' := 52) (L' := [.ref a0, .int x1, .int (x2 - x_6), .int x3, .int x_2, .ref b_4]) (st' := [.ref b_4, .ref a0]) rfl) ?_
        refine Eq.trans (rn_gI (L' := [.ref a0, .int x1, .int (x2 - x_6), .int x3, .int x_2, .ref b_4]) rfl rfl rfl rfl) ?_
        refine eI_c (fun x_7 => ?_)
        refine Eq.trans (rn_vir (L' := [.ref a0, .int x1, .int (x2 - x_6), .int x3, .int x_2, .ref b_4]) (as := [.int x_7]) (rest := []) rfl rfl rfl rfl rfl (Nat.le_of_ble_eq_true rfl) (by decide) (by decide)) ?_
        refine eC_c ?_
        refine Eq.trans (cW_V rfl rfl) ?_
        refine cV_c (fun s_8 => ?_) (xh_nil rfl)
        refine Eq.trans (rn_go 2 (pc' := 61) (L' := [.ref a0, .int x1, .int (x2 - x_6), .int x3, .int x_2, .ref b_4]) (st' := [.int x_2, .ref a0]) rfl) ?_
        refine Eq.trans (rn_vir (L' := [.ref a0, .int x1, .int (x2 - x_6), .int x3, .int x_2, .ref b_4]) (as := [.int x_2]) (rest := []) rfl rfl rfl rfl rfl (Nat.le_of_ble_eq_true rfl) (by decide) (by decide)) ?_
        refine eC_c ?_
        refine Eq.trans (cW_V rfl rfl) ?_
        refine cV_c (fun s_9 => ?_) (xh_nil rfl)
        refine Eq.trans (rn_go 2 (pc' := 67) (L' := [.ref a0, .int x1, .int (x2 - x_6), .int x3, .int x_2, .ref b_4]) (st' := [.ref b_4, .ref a0]) rfl) ?_
        refine Eq.trans (rn_gI (L' := [.ref a0, .int x1, .int (x2 - x_6), .int x3, .int x_2, .ref b_4]) rfl rfl rfl rfl) ?_
        refine eI_c (fun x_10 => ?_)
        refine Eq.trans (rn_vir (L' := [.ref a0, .int x1, .int (x2 - x_6), .int x3, .int x_2, .ref b_4]) (as := [.int x_10]) (rest := []) rfl rfl rfl rfl rfl (Nat.le_of_ble_eq_true rfl) (by decide) (by decide)) ?_
        refine eC_c ?_
        refine Eq.trans (cW_I rfl rfl rfl) ?_
        refine cI_c (fun x_12 s_11 => ?_) (xh_nil rfl)
        refine Eq.trans (rn_go 2 (pc' := 75) (L' := [.ref a0, .int x1, .int (x2 - x_6), .int x3, .int x_2, .ref b_4]) (st' := [.ref a0]) rfl) ?_
        refine Eq.trans (rn_vir (L' := [.ref a0, .int x1, .int (x2 - x_6), .int x3, .int x_2, .ref b_4]) (as := []) (rest := []) rfl rfl rfl rfl rfl (Nat.le_of_ble_eq_true rfl) (by decide) (by decide)) ?_
        refine eC_c ?_
        refine Eq.trans (cW_V rfl rfl) ?_
        refine cV_c (fun s_13 => ?_) (xh_nil rfl)
        exact rn_go 2 (pc' := 4) (L' := [.ref a0, .int x1, .int (x2 - x_6), .int (x3 + (1 : Int32)), .int x_2, .ref b_4]) (st' := []) rfl
      · exact rn_go 1 (pc' := 84) (L' := [.ref a0, .int x1, .int x2, .int x3, .int x_2, .ref b_4]) (st' := []) rfl
theorem dc_X8_letPass_84 {B : Nat} (a0 : Nat) (x1 : Int32) (x2 : Int32) (w3 : Value) (w4 : Value) (w5 : Value) (s : am_S) : rn_ tb_ct tb_mt B mm_X8_letPass 84 [.ref a0, .int x1, .int x2, w3, w4, w5] [] s = eC (am_cls s a0) 7 (cV (cl_ tb_ct tb_mt B K_X8_age [.ref a0, .int x2] s) (fun s_1 => eI (gI tb_ct s_1 a0 7 7) (fun x_2 => eS (am_put tb_ct mm_X8_letPass B s_1 (.int (x_2 + x1)) a0 7 7) (fun s_3 => eI (gI tb_ct s_3 a0 7 7) (fun x_4 => some (.inl (some (.int x_4)), s_3))))) xo) := by
  refine Eq.trans (rn_go 2 (pc' := 86) (L' := [.ref a0, .int x1, .int x2, am_un, am_un, am_un]) (st' := [.int x2, .ref a0]) rfl) ?_
  refine Eq.trans (rn_vir (L' := [.ref a0, .int x1, .int x2, am_un, am_un, am_un]) (as := [.int x2]) (rest := []) rfl rfl rfl rfl rfl (Nat.le_of_ble_eq_true rfl) (by decide) (by decide)) ?_
  refine eC_c ?_
  refine Eq.trans (cW_V rfl rfl) ?_
  refine cV_c (fun s_1 => ?_) (xh_nil rfl)
  refine Eq.trans (rn_go 2 (pc' := 91) (L' := [.ref a0, .int x1, .int x2, am_un, am_un, am_un]) (st' := [.ref a0, .ref a0]) rfl) ?_
  refine Eq.trans (rn_gI (L' := [.ref a0, .int x1, .int x2, am_un, am_un, am_un]) rfl rfl rfl rfl) ?_
  refine eI_c (fun x_2 => ?_)
  refine Eq.trans (rn_go 2 (pc' := 96) (L' := [.ref a0, .int x1, .int x2, am_un, am_un, am_un]) (st' := [.int (x_2 + x1), .ref a0]) rfl) ?_
  refine Eq.trans (rn_pF (L' := [.ref a0, .int x1, .int x2, am_un, am_un, am_un]) rfl rfl) ?_
  refine eS_c (fun s_3 => ?_)
  refine Eq.trans (rn_go 1 (pc' := 100) (L' := [.ref a0, .int x1, .int x2, am_un, am_un, am_un]) (st' := [.ref a0]) rfl) ?_
  refine Eq.trans (rn_gI (L' := [.ref a0, .int x1, .int x2, am_un, am_un, am_un]) rfl rfl rfl rfl) ?_
  refine eI_c (fun x_4 => ?_)
  exact rn_retI rfl rfl rfl
theorem in_X8_age {B : Nat} (a0 : Nat) (x1 : Int32) (s : am_S) : cl_ tb_ct tb_mt B K_X8_age [.ref a0, .int x1] s = rn_ tb_ct tb_mt B mm_X8_age 0 [.ref a0, .int x1, am_un, am_un] [] s := cl_in rfl rfl rfl rfl
theorem dc_X8_age_0 {B : Nat} (a0 : Nat) (x1 : Int32) (s : am_S) : rn_ tb_ct tb_mt B mm_X8_age 0 [.ref a0, .int x1, am_un, am_un] [] s = rn_ tb_ct tb_mt B mm_X8_age 2 [.ref a0, .int x1, .int (0 : Int32), am_un] [] s := by
  exact rn_go 2 (pc' := 2) (L' := [.ref a0, .int x1, .int (0 : Int32), am_un]) (st' := []) rfl
theorem dc_X8_age_2 {B : Nat} (a0 : Nat) (x1 : Int32) (x2 : Int32) (s : am_S) : rn_ tb_ct tb_mt B mm_X8_age 2 [.ref a0, .int x1, .int x2, am_un] [] s = eI (gI tb_ct s a0 7 9) (fun x_1 => if x_1 ≤ x2 then some (.inl none, s) else eC (am_cls s a0) 7 (cA (cl_ tb_ct tb_mt B K_X8_leaseAt [.ref a0, .int x2] s) (fun s_2 => rn_ tb_ct tb_mt B mm_X8_age 30 [.ref a0, .int x1, .int x2, va_rf none] [] s_2) (fun b_3 s_2 => eI (gI tb_ct s_2 b_3 4 2) (fun x_4 => eS (am_put tb_ct mm_X8_age B s_2 (.int (x_4 - x1)) b_3 4 2) (fun s_5 => rn_ tb_ct tb_mt B mm_X8_age 30 [.ref a0, .int x1, .int x2, va_rf (some b_3)] [] s_5))) xo)) := by
  refine Eq.trans (rn_go 2 (pc' := 4) (L' := [.ref a0, .int x1, .int x2, am_un]) (st' := [.ref a0, .int x2]) rfl) ?_
  refine Eq.trans (rn_gI (L' := [.ref a0, .int x1, .int x2, am_un]) rfl rfl rfl rfl) ?_
  refine eI_c (fun x_1 => ?_)
  refine Eq.trans (rn_icge (L' := [.ref a0, .int x1, .int x2, am_un]) rfl rfl) ?_
  refine if_c ?_ ?_
  · exact rn_retV rfl rfl
  · refine Eq.trans (rn_go 2 (pc' := 12) (L' := [.ref a0, .int x1, .int x2, am_un]) (st' := [.int x2, .ref a0]) rfl) ?_
    refine Eq.trans (rn_vir (L' := [.ref a0, .int x1, .int x2, am_un]) (as := [.int x2]) (rest := []) rfl rfl rfl rfl rfl (Nat.le_of_ble_eq_true rfl) (by decide) (by decide)) ?_
    refine eC_c ?_
    refine Eq.trans (cW_A rfl rfl rfl) ?_
    refine cA_c (fun s_2 => ?_) (fun b_3 s_2 => ?_) (xh_nil rfl)
    · exact rn_go 3 (pc' := 30) (L' := [.ref a0, .int x1, .int x2, va_rf none]) (st' := []) rfl
    · refine Eq.trans (rn_go 5 (pc' := 22) (L' := [.ref a0, .int x1, .int x2, .ref b_3]) (st' := [.ref b_3, .ref b_3]) rfl) ?_
      refine Eq.trans (rn_gI (L' := [.ref a0, .int x1, .int x2, .ref b_3]) rfl rfl rfl rfl) ?_
      refine eI_c (fun x_4 => ?_)
      refine Eq.trans (rn_go 2 (pc' := 27) (L' := [.ref a0, .int x1, .int x2, .ref b_3]) (st' := [.int (x_4 - x1), .ref b_3]) rfl) ?_
      refine Eq.trans (rn_pF (L' := [.ref a0, .int x1, .int x2, .ref b_3]) rfl rfl) ?_
      refine eS_c (fun s_5 => ?_)
      rfl
theorem dc_X8_age_30 {B : Nat} (a0 : Nat) (x1 : Int32) (x2 : Int32) (w3 : Value) (s : am_S) : rn_ tb_ct tb_mt B mm_X8_age 30 [.ref a0, .int x1, .int x2, w3] [] s = rn_ tb_ct tb_mt B mm_X8_age 2 [.ref a0, .int x1, .int (x2 + (1 : Int32)), am_un] [] s := by
  exact rn_go 2 (pc' := 2) (L' := [.ref a0, .int x1, .int (x2 + (1 : Int32)), am_un]) (st' := []) rfl
theorem in_X8_doTransaction {B : Nat} (a0 : Nat) (s : am_S) : cl_ tb_ct tb_mt B K_X8_doTransaction [.ref a0] s = rn_ tb_ct tb_mt B mm_X8_doTransaction 0 [.ref a0, am_un, am_un, am_un] [] s := cl_in rfl rfl rfl rfl
theorem dc_X8_doTransaction_0 {B : Nat} (a0 : Nat) (s : am_S) : rn_ tb_ct tb_mt B mm_X8_doTransaction 0 [.ref a0, am_un, am_un, am_un] [] s = eA (gA tb_ct s a0 7 4) (eA (gA tb_ct s a0 7 0) (none) (fun b_2 => none)) (fun b_1 => eA (gA tb_ct s a0 7 0) (eC (am_cls s b_1) 8 (cA (cl_ tb_ct tb_mt B K_X9_stepsFor [.ref b_1, .null] s) (fun s_4 => eA (gA tb_ct s_4 a0 7 4) (none) (fun b_6 => eA (gA tb_ct s_4 b_6 8 5) (rn_ tb_ct tb_mt B mm_X8_doTransaction 28 [.ref a0, va_rf none, am_un, am_un] [.int (1 : Int32)] s_4) (fun b_7 => rn_ tb_ct tb_mt B mm_X8_doTransaction 28 [.ref a0, va_rf none, am_un, am_un] [.int (0 : Int32)] s_4))) (fun b_5 s_4 => eA (gA tb_ct s_4 a0 7 4) (none) (fun b_8 => eA (gA tb_ct s_4 b_8 8 5) (rn_ tb_ct tb_mt B mm_X8_doTransaction 28 [.ref a0, va_rf (some b_5), am_un, am_un] [.int (0 : Int32)] s_4) (fun b_9 => if b_5 = b_9 then rn_ tb_ct tb_mt B mm_X8_doTransaction 28 [.ref a0, va_rf (some b_5), am_un, am_un] [.int (1 : Int32)] s_4 else rn_ tb_ct tb_mt B mm_X8_doTransaction 28 [.ref a0, va_rf (some b_5), am_un, am_un] [.int (0 : Int32)] s_4))) xo)) (fun b_3 => eC (am_cls s b_1) 8 (cA (cl_ tb_ct tb_mt B K_X9_stepsFor [.ref b_1, .ref b_3] s) (fun s_10 => eA (gA tb_ct s_10 a0 7 4) (none) (fun b_12 => eA (gA tb_ct s_10 b_12 8 5) (rn_ tb_ct tb_mt B mm_X8_doTransaction 28 [.ref a0, va_rf none, am_un, am_un] [.int (1 : Int32)] s_10) (fun b_13 => rn_ tb_ct tb_mt B mm_X8_doTransaction 28 [.ref a0, va_rf none, am_un, am_un] [.int (0 : Int32)] s_10))) (fun b_11 s_10 => eA (gA tb_ct s_10 a0 7 4) (none) (fun b_14 => eA (gA tb_ct s_10 b_14 8 5) (rn_ tb_ct tb_mt B mm_X8_doTransaction 28 [.ref a0, va_rf (some b_11), am_un, am_un] [.int (0 : Int32)] s_10) (fun b_15 => if b_11 = b_15 then rn_ tb_ct tb_mt B mm_X8_doTransaction 28 [.ref a0, va_rf (some b_11), am_un, am_un] [.int (1 : Int32)] s_10 else rn_ tb_ct tb_mt B mm_X8_doTransaction 28 [.ref a0, va_rf (some b_11), am_un, am_un] [.int (0 : Int32)] s_10))) xo))) := by
  refine Eq.trans (rn_go 1 (pc' := 1) (L' := [.ref a0, am_un, am_un, am_un]) (st' := [.ref a0]) rfl) ?_
  refine Eq.trans (rn_gA (L' := [.ref a0, am_un, am_un, am_un]) rfl rfl rfl rfl) ?_
  refine eA_c ?_ (fun b_1 => ?_)
  · refine Eq.trans (rn_go 1 (pc' := 5) (L' := [.ref a0, am_un, am_un, am_un]) (st' := [.ref a0, .null]) rfl) ?_
    refine Eq.trans (rn_gA (L' := [.ref a0, am_un, am_un, am_un]) rfl rfl rfl rfl) ?_
    refine eA_c ?_ (fun b_2 => ?_)
    · exact rn_z rfl rfl
    · exact rn_z rfl rfl
  · refine Eq.trans (rn_go 1 (pc' := 5) (L' := [.ref a0, am_un, am_un, am_un]) (st' := [.ref a0, .ref b_1]) rfl) ?_
    refine Eq.trans (rn_gA (L' := [.ref a0, am_un, am_un, am_un]) rfl rfl rfl rfl) ?_
    refine eA_c ?_ (fun b_3 => ?_)
    · refine Eq.trans (rn_vir (L' := [.ref a0, am_un, am_un, am_un]) (as := [.null]) (rest := []) rfl rfl rfl rfl rfl (Nat.le_of_ble_eq_true rfl) (by decide) (by decide)) ?_
      refine eC_c ?_
      refine Eq.trans (cW_A rfl rfl rfl) ?_
      refine cA_c (fun s_4 => ?_) (fun b_5 s_4 => ?_) (xh_nil rfl)
      · refine Eq.trans (rn_go 3 (pc' := 14) (L' := [.ref a0, .null, am_un, am_un]) (st' := [.ref a0, .null]) rfl) ?_
        refine Eq.trans (rn_gA (L' := [.ref a0, .null, am_un, am_un]) rfl rfl rfl rfl) ?_
        refine eA_c ?_ (fun b_6 => ?_)
        · exact rn_z rfl rfl
        · refine Eq.trans (rn_gA (L' := [.ref a0, .null, am_un, am_un]) rfl rfl rfl rfl) ?_
          refine eA_c ?_ (fun b_7 => ?_)
          · exact rn_go 3 (pc' := 28) (L' := [.ref a0, va_rf none, am_un, am_un]) (st' := [.int (1 : Int32)]) rfl
          · exact rn_go 2 (pc' := 28) (L' := [.ref a0, va_rf none, am_un, am_un]) (st' := [.int (0 : Int32)]) rfl
      · refine Eq.trans (rn_go 3 (pc' := 14) (L' := [.ref a0, .ref b_5, am_un, am_un]) (st' := [.ref a0, .ref b_5]) rfl) ?_
        refine Eq.trans (rn_gA (L' := [.ref a0, .ref b_5, am_un, am_un]) rfl rfl rfl rfl) ?_
        refine eA_c ?_ (fun b_8 => ?_)
        · exact rn_z rfl rfl
        · refine Eq.trans (rn_gA (L' := [.ref a0, .ref b_5, am_un, am_un]) rfl rfl rfl rfl) ?_
          refine eA_c ?_ (fun b_9 => ?_)
          · exact rn_go 2 (pc' := 28) (L' := [.ref a0, va_rf (some b_5), am_un, am_un]) (st' := [.int (0 : Int32)]) rfl
          · refine Eq.trans (rn_acne (L' := [.ref a0, .ref b_5, am_un, am_un]) rfl rfl) ?_
            refine if_c ?_ ?_
            · exact rn_go 2 (pc' := 28) (L' := [.ref a0, va_rf (some b_5), am_un, am_un]) (st' := [.int (1 : Int32)]) rfl
            · exact rn_go 1 (pc' := 28) (L' := [.ref a0, va_rf (some b_5), am_un, am_un]) (st' := [.int (0 : Int32)]) rfl
    · refine Eq.trans (rn_vir (L' := [.ref a0, am_un, am_un, am_un]) (as := [.ref b_3]) (rest := []) rfl rfl rfl rfl rfl (Nat.le_of_ble_eq_true rfl) (by decide) (by decide)) ?_
      refine eC_c ?_
      refine Eq.trans (cW_A rfl rfl rfl) ?_
      refine cA_c (fun s_10 => ?_) (fun b_11 s_10 => ?_) (xh_nil rfl)
      · refine Eq.trans (rn_go 3 (pc' := 14) (L' := [.ref a0, .null, am_un, am_un]) (st' := [.ref a0, .null]) rfl) ?_
        refine Eq.trans (rn_gA (L' := [.ref a0, .null, am_un, am_un]) rfl rfl rfl rfl) ?_
        refine eA_c ?_ (fun b_12 => ?_)
        · exact rn_z rfl rfl
        · refine Eq.trans (rn_gA (L' := [.ref a0, .null, am_un, am_un]) rfl rfl rfl rfl) ?_
          refine eA_c ?_ (fun b_13 => ?_)
          · exact rn_go 3 (pc' := 28) (L' := [.ref a0, va_rf none, am_un, am_un]) (st' := [.int (1 : Int32)]) rfl
          · exact rn_go 2 (pc' := 28) (L' := [.ref a0, va_rf none, am_un, am_un]) (st' := [.int (0 : Int32)]) rfl
      · refine Eq.trans (rn_go 3 (pc' := 14) (L' := [.ref a0, .ref b_11, am_un, am_un]) (st' := [.ref a0, .ref b_11]) rfl) ?_
        refine Eq.trans (rn_gA (L' := [.ref a0, .ref b_11, am_un, am_un]) rfl rfl rfl rfl) ?_
        refine eA_c ?_ (fun b_14 => ?_)
        · exact rn_z rfl rfl
        · refine Eq.trans (rn_gA (L' := [.ref a0, .ref b_11, am_un, am_un]) rfl rfl rfl rfl) ?_
          refine eA_c ?_ (fun b_15 => ?_)
          · exact rn_go 2 (pc' := 28) (L' := [.ref a0, va_rf (some b_11), am_un, am_un]) (st' := [.int (0 : Int32)]) rfl
          · refine Eq.trans (rn_acne (L' := [.ref a0, .ref b_11, am_un, am_un]) rfl rfl) ?_
            refine if_c ?_ ?_
            · exact rn_go 2 (pc' := 28) (L' := [.ref a0, va_rf (some b_11), am_un, am_un]) (st' := [.int (1 : Int32)]) rfl
            · exact rn_go 1 (pc' := 28) (L' := [.ref a0, va_rf (some b_11), am_un, am_un]) (st' := [.int (0 : Int32)]) rfl
theorem dc_X8_doTransaction_28 {B : Nat} (a0 : Nat) (r1 : Option Nat) (xs0 : Int32) (s : am_S) : rn_ tb_ct tb_mt B mm_X8_doTransaction 28 [.ref a0, va_rf r1, am_un, am_un] [.int xs0] s = eA (some r1) (eA (gA tb_ct s a0 7 0) (none) (fun b_2 => eI (gI tb_ct s b_2 3 1) (fun x_3 => eA (gA tb_ct s a0 7 0) (none) (fun b_4 => none)))) (fun b_1 => eA (gA tb_ct s a0 7 0) (none) (fun b_5 => eI (gI tb_ct s b_5 3 1) (fun x_6 => eA (gA tb_ct s a0 7 0) (eC (am_cls s b_1) 6 (cI (cl_ tb_ct tb_mt B K_X7_growthOf [.ref b_1, .null] s) (fun x_9 s_8 => if (x_6 + x_9) ≤ (16 : Int32) then rn_ tb_ct tb_mt B mm_X8_doTransaction 55 [.ref a0, .ref b_1, .int xs0, .int (0 : Int32)] [] s_8 else some (.inl (some (.int (-(2 : Int32)))), s_8)) xo)) (fun b_7 => eC (am_cls s b_1) 6 (cI (cl_ tb_ct tb_mt B K_X7_growthOf [.ref b_1, .ref b_7] s) (fun x_11 s_10 => if (x_6 + x_11) ≤ (16 : Int32) then rn_ tb_ct tb_mt B mm_X8_doTransaction 55 [.ref a0, .ref b_1, .int xs0, .int (0 : Int32)] [] s_10 else some (.inl (some (.int (-(2 : Int32)))), s_10)) xo))))) := by
  rcases r1 with _ | b_1
  · rw [eA_n]
    refine Eq.trans (rn_go 2 (pc' := 30) (L' := [.ref a0, .null, .int xs0, am_un]) (st' := [.ref a0]) rfl) ?_
    refine Eq.trans (rn_gA (L' := [.ref a0, .null, .int xs0, am_un]) rfl rfl rfl rfl) ?_
    refine eA_c ?_ (fun b_2 => ?_)
    · exact rn_z rfl rfl
    · refine Eq.trans (rn_gI (L' := [.ref a0, .null, .int xs0, am_un]) rfl rfl rfl rfl) ?_
      refine eI_c (fun x_3 => ?_)
      refine Eq.trans (rn_go 2 (pc' := 38) (L' := [.ref a0, .null, .int xs0, am_un]) (st' := [.ref a0, .null, .int x_3]) rfl) ?_
      refine Eq.trans (rn_gA (L' := [.ref a0, .null, .int xs0, am_un]) rfl rfl rfl rfl) ?_
      refine eA_c ?_ (fun b_4 => ?_)
      · exact rn_z rfl rfl
      · exact rn_z rfl rfl
  · rw [eA_s]
    refine Eq.trans (rn_go 2 (pc' := 30) (L' := [.ref a0, .ref b_1, .int xs0, am_un]) (st' := [.ref a0]) rfl) ?_
    refine Eq.trans (rn_gA (L' := [.ref a0, .ref b_1, .int xs0, am_un]) rfl rfl rfl rfl) ?_
    refine eA_c ?_ (fun b_5 => ?_)
    · exact rn_z rfl rfl
    · refine Eq.trans (rn_gI (L' := [.ref a0, .ref b_1, .int xs0, am_un]) rfl rfl rfl rfl) ?_
      refine eI_c (fun x_6 => ?_)
      refine Eq.trans (rn_go 2 (pc' := 38) (L' := [.ref a0, .ref b_1, .int xs0, am_un]) (st' := [.ref a0, .ref b_1, .int x_6]) rfl) ?_
      refine Eq.trans (rn_gA (L' := [.ref a0, .ref b_1, .int xs0, am_un]) rfl rfl rfl rfl) ?_
      refine eA_c ?_ (fun b_7 => ?_)
      · refine Eq.trans (rn_vir (L' := [.ref a0, .ref b_1, .int xs0, am_un]) (as := [.null]) (rest := [.int x_6]) rfl rfl rfl rfl rfl (Nat.le_of_ble_eq_true rfl) (by decide) (by decide)) ?_
        refine eC_c ?_
        refine Eq.trans (cW_I rfl rfl rfl) ?_
        refine cI_c (fun x_9 s_8 => ?_) (xh_nil rfl)
        refine Eq.trans (rn_go 2 (pc' := 47) (L' := [.ref a0, .ref b_1, .int xs0, am_un]) (st' := [.int (16 : Int32), .int (x_6 + x_9)]) rfl) ?_
        refine Eq.trans (rn_icle (L' := [.ref a0, .ref b_1, .int xs0, am_un]) rfl rfl) ?_
        refine if_c ?_ ?_
        · exact rn_go 2 (pc' := 55) (L' := [.ref a0, .ref b_1, .int xs0, .int (0 : Int32)]) (st' := []) rfl
        · refine Eq.trans (rn_go 1 (pc' := 52) (L' := [.ref a0, .ref b_1, .int xs0, am_un]) (st' := [.int (-(2 : Int32))]) rfl) ?_
          exact rn_retI rfl rfl rfl
      · refine Eq.trans (rn_vir (L' := [.ref a0, .ref b_1, .int xs0, am_un]) (as := [.ref b_7]) (rest := [.int x_6]) rfl rfl rfl rfl rfl (Nat.le_of_ble_eq_true rfl) (by decide) (by decide)) ?_
        refine eC_c ?_
        refine Eq.trans (cW_I rfl rfl rfl) ?_
        refine cI_c (fun x_11 s_10 => ?_) (xh_nil rfl)
        refine Eq.trans (rn_go 2 (pc' := 47) (L' := [.ref a0, .ref b_1, .int xs0, am_un]) (st' := [.int (16 : Int32), .int (x_6 + x_11)]) rfl) ?_
        refine Eq.trans (rn_icle (L' := [.ref a0, .ref b_1, .int xs0, am_un]) rfl rfl) ?_
        refine if_c ?_ ?_
        · exact rn_go 2 (pc' := 55) (L' := [.ref a0, .ref b_1, .int xs0, .int (0 : Int32)]) (st' := []) rfl
        · refine Eq.trans (rn_go 1 (pc' := 52) (L' := [.ref a0, .ref b_1, .int xs0, am_un]) (st' := [.int (-(2 : Int32))]) rfl) ?_
          exact rn_retI rfl rfl rfl
theorem dc_X8_doTransaction_55 {B : Nat} (a0 : Nat) (a1 : Nat) (x2 : Int32) (x3 : Int32) (s : am_S) : rn_ tb_ct tb_mt B mm_X8_doTransaction 55 [.ref a0, .ref a1, .int x2, .int x3] [] s = eI (gI tb_ct s a1 6 3) (fun x_1 => if x_1 ≤ x3 then rn_ tb_ct tb_mt B mm_X8_doTransaction 121 [.ref a0, .ref a1, .int x2, .int x3] [] s else if (6 : Int32) ≤ x3 then rn_ tb_ct tb_mt B mm_X8_doTransaction 121 [.ref a0, .ref a1, .int x2, .int x3] [] s else eA (gA tb_ct s a1 6 0) (none) (fun b_2 => eI (aI s b_2 x3) (fun x_3 => if x_3 = 0 then eA (gA tb_ct s a1 6 1) (none) (fun b_4 => eI (aI s b_4 x3) (fun x_5 => eA (gA tb_ct s a1 6 2) (none) (fun b_6 => eI (aI s b_6 x3) (fun x_7 => eC (am_cls s a0) 7 (cV (cl_ tb_ct tb_mt B K_X8_writeOne [.ref a0, .int x_5, .int x_7, .int (0 : Int32)] s) (fun s_8 => rn_ tb_ct tb_mt B mm_X8_doTransaction 115 [.ref a0, .ref a1, .int x2, .int x3] [] s_8) xo))))) else eA (gA tb_ct s a0 7 0) (eA (gA tb_ct s a1 6 1) (none) (fun b_10 => eI (aI s b_10 x3) (fun x_11 => none))) (fun b_9 => eA (gA tb_ct s a1 6 1) (none) (fun b_12 => eI (aI s b_12 x3) (fun x_13 => eC (am_cls s b_9) 3 (cI (cl_ tb_ct tb_mt B K_X4_indexOf [.ref b_9, .int x_13] s) (fun x_15 s_14 => eC (am_cls s_14 a0) 7 (cV (cl_ tb_ct tb_mt B K_X8_deleteAt [.ref a0, .int x_15] s_14) (fun s_16 => rn_ tb_ct tb_mt B mm_X8_doTransaction 115 [.ref a0, .ref a1, .int x2, .int x3] [] s_16) xo)) xo))))))) := by
  refine Eq.trans (rn_go 2 (pc' := 57) (L' := [.ref a0, .ref a1, .int x2, .int x3]) (st' := [.ref a1, .int x3]) rfl) ?_
  refine Eq.trans (rn_gI (L' := [.ref a0, .ref a1, .int x2, .int x3]) rfl rfl rfl rfl) ?_
  refine eI_c (fun x_1 => ?_)
  refine Eq.trans (rn_icge (L' := [.ref a0, .ref a1, .int x2, .int x3]) rfl rfl) ?_
  refine if_c ?_ ?_
  · rfl
  · refine Eq.trans (rn_go 2 (pc' := 66) (L' := [.ref a0, .ref a1, .int x2, .int x3]) (st' := [.int (6 : Int32), .int x3]) rfl) ?_
    refine Eq.trans (rn_icge (L' := [.ref a0, .ref a1, .int x2, .int x3]) rfl rfl) ?_
    refine if_c ?_ ?_
    · rfl
    · refine Eq.trans (rn_go 1 (pc' := 70) (L' := [.ref a0, .ref a1, .int x2, .int x3]) (st' := [.ref a1]) rfl) ?_
      refine Eq.trans (rn_gA (L' := [.ref a0, .ref a1, .int x2, .int x3]) rfl rfl rfl rfl) ?_
      refine eA_c ?_ (fun b_2 => ?_)
      · refine Eq.trans (rn_go 1 (pc' := 74) (L' := [.ref a0, .ref a1, .int x2, .int x3]) (st' := [.int x3, .null]) rfl) ?_
        exact rn_z rfl rfl
      · refine Eq.trans (rn_go 1 (pc' := 74) (L' := [.ref a0, .ref a1, .int x2, .int x3]) (st' := [.int x3, .ref b_2]) rfl) ?_
        refine Eq.trans (rn_aI (L' := [.ref a0, .ref a1, .int x2, .int x3]) rfl rfl) ?_
        refine eI_c (fun x_3 => ?_)
        refine Eq.trans (rn_ifne (L' := [.ref a0, .ref a1, .int x2, .int x3]) rfl rfl) ?_
        refine if_c ?_ ?_
        · refine Eq.trans (rn_go 2 (pc' := 80) (L' := [.ref a0, .ref a1, .int x2, .int x3]) (st' := [.ref a1, .ref a0]) rfl) ?_
          refine Eq.trans (rn_gA (L' := [.ref a0, .ref a1, .int x2, .int x3]) rfl rfl rfl rfl) ?_
          refine eA_c ?_ (fun b_4 => ?_)
          · refine Eq.trans (rn_go 1 (pc' := 84) (L' := [.ref a0, .ref a1, .int x2, .int x3]) (st' := [.int x3, .null, .ref a0]) rfl) ?_
            exact rn_z rfl rfl
          · refine Eq.trans (rn_go 1 (pc' := 84) (L' := [.ref a0, .ref a1, .int x2, .int x3]) (st' := [.int x3, .ref b_4, .ref a0]) rfl) ?_
            refine Eq.trans (rn_aI (L' := [.ref a0, .ref a1, .int x2, .int x3]) rfl rfl) ?_
            refine eI_c (fun x_5 => ?_)
            refine Eq.trans (rn_go 1 (pc' := 86) (L' := [.ref a0, .ref a1, .int x2, .int x3]) (st' := [.ref a1, .int x_5, .ref a0]) rfl) ?_
            refine Eq.trans (rn_gA (L' := [.ref a0, .ref a1, .int x2, .int x3]) rfl rfl rfl rfl) ?_
            refine eA_c ?_ (fun b_6 => ?_)
            · refine Eq.trans (rn_go 1 (pc' := 90) (L' := [.ref a0, .ref a1, .int x2, .int x3]) (st' := [.int x3, .null, .int x_5, .ref a0]) rfl) ?_
              exact rn_z rfl rfl
            · refine Eq.trans (rn_go 1 (pc' := 90) (L' := [.ref a0, .ref a1, .int x2, .int x3]) (st' := [.int x3, .ref b_6, .int x_5, .ref a0]) rfl) ?_
              refine Eq.trans (rn_aI (L' := [.ref a0, .ref a1, .int x2, .int x3]) rfl rfl) ?_
              refine eI_c (fun x_7 => ?_)
              refine Eq.trans (rn_go 1 (pc' := 92) (L' := [.ref a0, .ref a1, .int x2, .int x3]) (st' := [.int (0 : Int32), .int x_7, .int x_5, .ref a0]) rfl) ?_
              refine Eq.trans (rn_vir (L' := [.ref a0, .ref a1, .int x2, .int x3]) (as := [.int x_5, .int x_7, .int (0 : Int32)]) (rest := []) rfl rfl rfl rfl rfl (Nat.le_of_ble_eq_true rfl) (by decide) (by decide)) ?_
              refine eC_c ?_
              refine Eq.trans (cW_V rfl rfl) ?_
              refine cV_c (fun s_8 => ?_) (xh_nil rfl)
              exact rn_go 1 (pc' := 115) (L' := [.ref a0, .ref a1, .int x2, .int x3]) (st' := []) rfl
        · refine Eq.trans (rn_go 2 (pc' := 100) (L' := [.ref a0, .ref a1, .int x2, .int x3]) (st' := [.ref a0, .ref a0]) rfl) ?_
          refine Eq.trans (rn_gA (L' := [.ref a0, .ref a1, .int x2, .int x3]) rfl rfl rfl rfl) ?_
          refine eA_c ?_ (fun b_9 => ?_)
          · refine Eq.trans (rn_go 1 (pc' := 104) (L' := [.ref a0, .ref a1, .int x2, .int x3]) (st' := [.ref a1, .null, .ref a0]) rfl) ?_
            refine Eq.trans (rn_gA (L' := [.ref a0, .ref a1, .int x2, .int x3]) rfl rfl rfl rfl) ?_
            refine eA_c ?_ (fun b_10 => ?_)
            · refine Eq.trans (rn_go 1 (pc' := 108) (L' := [.ref a0, .ref a1, .int x2, .int x3]) (st' := [.int x3, .null, .null, .ref a0]) rfl) ?_
              exact rn_z rfl rfl
            · refine Eq.trans (rn_go 1 (pc' := 108) (L' := [.ref a0, .ref a1, .int x2, .int x3]) (st' := [.int x3, .ref b_10, .null, .ref a0]) rfl) ?_
              refine Eq.trans (rn_aI (L' := [.ref a0, .ref a1, .int x2, .int x3]) rfl rfl) ?_
              refine eI_c (fun x_11 => ?_)
              exact rn_z rfl rfl
          · refine Eq.trans (rn_go 1 (pc' := 104) (L' := [.ref a0, .ref a1, .int x2, .int x3]) (st' := [.ref a1, .ref b_9, .ref a0]) rfl) ?_
            refine Eq.trans (rn_gA (L' := [.ref a0, .ref a1, .int x2, .int x3]) rfl rfl rfl rfl) ?_
            refine eA_c ?_ (fun b_12 => ?_)
            · refine Eq.trans (rn_go 1 (pc' := 108) (L' := [.ref a0, .ref a1, .int x2, .int x3]) (st' := [.int x3, .null, .ref b_9, .ref a0]) rfl) ?_
              exact rn_z rfl rfl
            · refine Eq.trans (rn_go 1 (pc' := 108) (L' := [.ref a0, .ref a1, .int x2, .int x3]) (st' := [.int x3, .ref b_12, .ref b_9, .ref a0]) rfl) ?_
              refine Eq.trans (rn_aI (L' := [.ref a0, .ref a1, .int x2, .int x3]) rfl rfl) ?_
              refine eI_c (fun x_13 => ?_)
              refine Eq.trans (rn_vir (L' := [.ref a0, .ref a1, .int x2, .int x3]) (as := [.int x_13]) (rest := [.ref a0]) rfl rfl rfl rfl rfl (Nat.le_of_ble_eq_true rfl) (by decide) (by decide)) ?_
              refine eC_c ?_
              refine Eq.trans (cW_I rfl rfl rfl) ?_
              refine cI_c (fun x_15 s_14 => ?_) (xh_nil rfl)
              refine Eq.trans (rn_vir (L' := [.ref a0, .ref a1, .int x2, .int x3]) (as := [.int x_15]) (rest := []) rfl rfl rfl rfl rfl (Nat.le_of_ble_eq_true rfl) (by decide) (by decide)) ?_
              refine eC_c ?_
              refine Eq.trans (cW_V rfl rfl) ?_
              refine cV_c (fun s_16 => ?_) (xh_nil rfl)
              rfl
theorem dc_X8_doTransaction_115 {B : Nat} (a0 : Nat) (a1 : Nat) (x2 : Int32) (x3 : Int32) (s : am_S) : rn_ tb_ct tb_mt B mm_X8_doTransaction 115 [.ref a0, .ref a1, .int x2, .int x3] [] s = rn_ tb_ct tb_mt B mm_X8_doTransaction 55 [.ref a0, .ref a1, .int x2, .int (x3 + (1 : Int32))] [] s := by
  exact rn_go 2 (pc' := 55) (L' := [.ref a0, .ref a1, .int x2, .int (x3 + (1 : Int32))]) (st' := []) rfl
theorem dc_X8_doTransaction_121 {B : Nat} (a0 : Nat) (w1 : Value) (x2 : Int32) (w3 : Value) (s : am_S) : rn_ tb_ct tb_mt B mm_X8_doTransaction 121 [.ref a0, w1, .int x2, w3] [] s = eC (am_cls s a0) 7 (cV (cl_ tb_ct tb_mt B K_X8_endChange [.ref a0] s) (fun s_1 => eA (gA tb_ct s_1 a0 7 4) (none) (fun b_2 => eC (am_cls s_1 b_2) 8 (cI (cl_ tb_ct tb_mt B K_X9_clear [.ref b_2] s_1) (fun x_4 s_3 => some (.inl (some (.int x2)), s_3)) xo))) xo) := by
  refine Eq.trans (rn_go 1 (pc' := 122) (L' := [.ref a0, am_un, .int x2, am_un]) (st' := [.ref a0]) rfl) ?_
  refine Eq.trans (rn_vir (L' := [.ref a0, am_un, .int x2, am_un]) (as := []) (rest := []) rfl rfl rfl rfl rfl (Nat.le_of_ble_eq_true rfl) (by decide) (by decide)) ?_
  refine eC_c ?_
  refine Eq.trans (cW_V rfl rfl) ?_
  refine cV_c (fun s_1 => ?_) (xh_nil rfl)
  refine Eq.trans (rn_go 1 (pc' := 126) (L' := [.ref a0, am_un, .int x2, am_un]) (st' := [.ref a0]) rfl) ?_
  refine Eq.trans (rn_gA (L' := [.ref a0, am_un, .int x2, am_un]) rfl rfl rfl rfl) ?_
  refine eA_c ?_ (fun b_2 => ?_)
  · exact rn_z rfl rfl
  · refine Eq.trans (rn_vir (L' := [.ref a0, am_un, .int x2, am_un]) (as := []) (rest := []) rfl rfl rfl rfl rfl (Nat.le_of_ble_eq_true rfl) (by decide) (by decide)) ?_
    refine eC_c ?_
    refine Eq.trans (cW_I rfl rfl rfl) ?_
    refine cI_c (fun x_4 s_3 => ?_) (xh_nil rfl)
    refine Eq.trans (rn_go 2 (pc' := 134) (L' := [.ref a0, am_un, .int x2, am_un]) (st' := [.int x2]) rfl) ?_
    exact rn_retI rfl rfl rfl
theorem in_X9_init {B : Nat} (a0 : Nat) (s : am_S) : cl_ tb_ct tb_mt B K_X9_init [.ref a0] s = rn_ tb_ct tb_mt B mm_X9_init 0 [.ref a0] [] s := cl_in rfl rfl rfl rfl
theorem dc_X9_init_0 {B : Nat} (a0 : Nat) (s : am_S) : rn_ tb_ct tb_mt B mm_X9_init 0 [.ref a0] [] s = nwI .int s (6 : Int32) (fun b_1 s_2 => eS (am_put tb_ct mm_X9_init B s_2 (.ref b_1) a0 8 0) (fun s_3 => nwI .int s_3 (6 : Int32) (fun b_4 s_5 => eS (am_put tb_ct mm_X9_init B s_5 (.ref b_4) a0 8 1) (fun s_6 => nwI .int s_6 (6 : Int32) (fun b_7 s_8 => eS (am_put tb_ct mm_X9_init B s_8 (.ref b_7) a0 8 2) (fun s_9 => nwI .int s_9 (6 : Int32) (fun b_10 s_11 => eS (am_put tb_ct mm_X9_init B s_11 (.ref b_10) a0 8 3) (fun s_12 => nwO tb_ct s_12 6 (fun b_13 s_14 => eC (am_cls s_14 b_13) 6 (cV (cl_ tb_ct tb_mt B K_X7_init [.ref b_13] s_14) (fun s_15 => eS (am_put tb_ct mm_X9_init B s_15 (.ref b_13) a0 8 5) (fun s_16 => nwO tb_ct s_16 6 (fun b_17 s_18 => eC (am_cls s_18 b_17) 6 (cV (cl_ tb_ct tb_mt B K_X7_init [.ref b_17] s_18) (fun s_19 => eS (am_put tb_ct mm_X9_init B s_19 (.ref b_17) a0 8 6) (fun s_20 => some (.inl none, s_20))) xo)))) xo)))))))))) := by
  refine Eq.trans (rn_go 1 (pc' := 1) (L' := [.ref a0]) (st' := [.ref a0]) rfl) ?_
  refine Eq.trans (rn_obj (L' := [.ref a0]) rfl rfl (Nat.le_of_ble_eq_true rfl)) ?_
  refine Eq.trans (rn_go 2 (pc' := 7) (L' := [.ref a0]) (st' := [.int (6 : Int32), .ref a0]) rfl) ?_
  refine Eq.trans (rn_nwI (L' := [.ref a0]) rfl rfl) ?_
  refine nwI_c (fun b_1 s_2 => ?_)
  refine Eq.trans (rn_pF (L' := [.ref a0]) rfl rfl) ?_
  refine eS_c (fun s_3 => ?_)
  refine Eq.trans (rn_go 2 (pc' := 15) (L' := [.ref a0]) (st' := [.int (6 : Int32), .ref a0]) rfl) ?_
  refine Eq.trans (rn_nwI (L' := [.ref a0]) rfl rfl) ?_
  refine nwI_c (fun b_4 s_5 => ?_)
  refine Eq.trans (rn_pF (L' := [.ref a0]) rfl rfl) ?_
  refine eS_c (fun s_6 => ?_)
  refine Eq.trans (rn_go 2 (pc' := 23) (L' := [.ref a0]) (st' := [.int (6 : Int32), .ref a0]) rfl) ?_
  refine Eq.trans (rn_nwI (L' := [.ref a0]) rfl rfl) ?_
  refine nwI_c (fun b_7 s_8 => ?_)
  refine Eq.trans (rn_pF (L' := [.ref a0]) rfl rfl) ?_
  refine eS_c (fun s_9 => ?_)
  refine Eq.trans (rn_go 2 (pc' := 31) (L' := [.ref a0]) (st' := [.int (6 : Int32), .ref a0]) rfl) ?_
  refine Eq.trans (rn_nwI (L' := [.ref a0]) rfl rfl) ?_
  refine nwI_c (fun b_10 s_11 => ?_)
  refine Eq.trans (rn_pF (L' := [.ref a0]) rfl rfl) ?_
  refine eS_c (fun s_12 => ?_)
  refine Eq.trans (rn_go 1 (pc' := 37) (L' := [.ref a0]) (st' := [.ref a0]) rfl) ?_
  refine Eq.trans (rn_new (L' := [.ref a0]) rfl rfl) ?_
  refine nwO_c (fun b_13 s_14 => ?_)
  refine Eq.trans (rn_go 1 (pc' := 41) (L' := [.ref a0]) (st' := [.ref b_13, .ref b_13, .ref a0]) rfl) ?_
  refine Eq.trans (rn_spe (L' := [.ref a0]) (as := []) (rest := [.ref b_13, .ref a0]) rfl rfl (by decide) rfl rfl rfl (Nat.le_of_ble_eq_true rfl) (by decide) (by decide)) ?_
  refine eC_c ?_
  refine Eq.trans (cW_V rfl rfl) ?_
  refine cV_c (fun s_15 => ?_) (xh_nil rfl)
  refine Eq.trans (rn_pF (L' := [.ref a0]) rfl rfl) ?_
  refine eS_c (fun s_16 => ?_)
  refine Eq.trans (rn_go 1 (pc' := 48) (L' := [.ref a0]) (st' := [.ref a0]) rfl) ?_
  refine Eq.trans (rn_new (L' := [.ref a0]) rfl rfl) ?_
  refine nwO_c (fun b_17 s_18 => ?_)
  refine Eq.trans (rn_go 1 (pc' := 52) (L' := [.ref a0]) (st' := [.ref b_17, .ref b_17, .ref a0]) rfl) ?_
  refine Eq.trans (rn_spe (L' := [.ref a0]) (as := []) (rest := [.ref b_17, .ref a0]) rfl rfl (by decide) rfl rfl rfl (Nat.le_of_ble_eq_true rfl) (by decide) (by decide)) ?_
  refine eC_c ?_
  refine Eq.trans (cW_V rfl rfl) ?_
  refine cV_c (fun s_19 => ?_) (xh_nil rfl)
  refine Eq.trans (rn_pF (L' := [.ref a0]) rfl rfl) ?_
  refine eS_c (fun s_20 => ?_)
  exact rn_retV rfl rfl
theorem in_X9_addCondition {B : Nat} (a0 : Nat) (x1 : Int32) (x2 : Int32) (x3 : Int32) (x4 : Int32) (s : am_S) : cl_ tb_ct tb_mt B K_X9_addCondition [.ref a0, .int x1, .int x2, .int x3, .int x4] s = rn_ tb_ct tb_mt B mm_X9_addCondition 0 [.ref a0, .int x1, .int x2, .int x3, .int x4] [] s := cl_in rfl rfl rfl rfl
theorem dc_X9_addCondition_0 {B : Nat} (a0 : Nat) (x1 : Int32) (x2 : Int32) (x3 : Int32) (x4 : Int32) (s : am_S) : rn_ tb_ct tb_mt B mm_X9_addCondition 0 [.ref a0, .int x1, .int x2, .int x3, .int x4] [] s = eI (gI tb_ct s a0 8 4) (fun x_1 => if x_1 < 0 then some (.inl (some (.int (-(2 : Int32)))), s) else eI (gI tb_ct s a0 8 4) (fun x_2 => if x_2 < (6 : Int32) then eA (gA tb_ct s a0 8 0) (eI (gI tb_ct s a0 8 4) (fun x_4 => none)) (fun b_3 => eI (gI tb_ct s a0 8 4) (fun x_5 => eS (wI B s b_3 x_5 x1) (fun s_6 => eA (gA tb_ct s_6 a0 8 1) (eI (gI tb_ct s_6 a0 8 4) (fun x_8 => none)) (fun b_7 => eI (gI tb_ct s_6 a0 8 4) (fun x_9 => eS (wI B s_6 b_7 x_9 x2) (fun s_10 => eA (gA tb_ct s_10 a0 8 2) (eI (gI tb_ct s_10 a0 8 4) (fun x_12 => none)) (fun b_11 => eI (gI tb_ct s_10 a0 8 4) (fun x_13 => eS (wI B s_10 b_11 x_13 x3) (fun s_14 => eA (gA tb_ct s_14 a0 8 3) (eI (gI tb_ct s_14 a0 8 4) (fun x_16 => none)) (fun b_15 => eI (gI tb_ct s_14 a0 8 4) (fun x_17 => eS (wI B s_14 b_15 x_17 x4) (fun s_18 => eI (gI tb_ct s_18 a0 8 4) (fun x_19 => eS (am_put tb_ct mm_X9_addCondition B s_18 (.int (x_19 + (1 : Int32))) a0 8 4) (fun s_20 => eI (gI tb_ct s_20 a0 8 4) (fun x_21 => some (.inl (some (.int x_21)), s_20)))))))))))))))) else some (.inl (some (.int (-(2 : Int32)))), s))) := by
  refine Eq.trans (rn_go 1 (pc' := 1) (L' := [.ref a0, .int x1, .int x2, .int x3, .int x4]) (st' := [.ref a0]) rfl) ?_
  refine Eq.trans (rn_gI (L' := [.ref a0, .int x1, .int x2, .int x3, .int x4]) rfl rfl rfl rfl) ?_
  refine eI_c (fun x_1 => ?_)
  refine Eq.trans (rn_iflt (L' := [.ref a0, .int x1, .int x2, .int x3, .int x4]) rfl rfl) ?_
  refine if_c ?_ ?_
  · refine Eq.trans (rn_go 1 (pc' := 18) (L' := [.ref a0, .int x1, .int x2, .int x3, .int x4]) (st' := [.int (-(2 : Int32))]) rfl) ?_
    exact rn_retI rfl rfl rfl
  · refine Eq.trans (rn_go 1 (pc' := 8) (L' := [.ref a0, .int x1, .int x2, .int x3, .int x4]) (st' := [.ref a0]) rfl) ?_
    refine Eq.trans (rn_gI (L' := [.ref a0, .int x1, .int x2, .int x3, .int x4]) rfl rfl rfl rfl) ?_
    refine eI_c (fun x_2 => ?_)
    refine Eq.trans (rn_go 1 (pc' := 13) (L' := [.ref a0, .int x1, .int x2, .int x3, .int x4]) (st' := [.int (6 : Int32), .int x_2]) rfl) ?_
    refine Eq.trans (rn_iclt (L' := [.ref a0, .int x1, .int x2, .int x3, .int x4]) rfl rfl) ?_
    refine if_c ?_ ?_
    · refine Eq.trans (rn_go 1 (pc' := 20) (L' := [.ref a0, .int x1, .int x2, .int x3, .int x4]) (st' := [.ref a0]) rfl) ?_
      refine Eq.trans (rn_gA (L' := [.ref a0, .int x1, .int x2, .int x3, .int x4]) rfl rfl rfl rfl) ?_
      refine eA_c ?_ (fun b_3 => ?_)
      · refine Eq.trans (rn_go 1 (pc' := 24) (L' := [.ref a0, .int x1, .int x2, .int x3, .int x4]) (st' := [.ref a0, .null]) rfl) ?_
        refine Eq.trans (rn_gI (L' := [.ref a0, .int x1, .int x2, .int x3, .int x4]) rfl rfl rfl rfl) ?_
        refine eI_c (fun x_4 => ?_)
        refine Eq.trans (rn_go 1 (pc' := 28) (L' := [.ref a0, .int x1, .int x2, .int x3, .int x4]) (st' := [.int x1, .int x_4, .null]) rfl) ?_
        exact rn_z rfl rfl
      · refine Eq.trans (rn_go 1 (pc' := 24) (L' := [.ref a0, .int x1, .int x2, .int x3, .int x4]) (st' := [.ref a0, .ref b_3]) rfl) ?_
        refine Eq.trans (rn_gI (L' := [.ref a0, .int x1, .int x2, .int x3, .int x4]) rfl rfl rfl rfl) ?_
        refine eI_c (fun x_5 => ?_)
        refine Eq.trans (rn_go 1 (pc' := 28) (L' := [.ref a0, .int x1, .int x2, .int x3, .int x4]) (st' := [.int x1, .int x_5, .ref b_3]) rfl) ?_
        refine Eq.trans (rn_wI (L' := [.ref a0, .int x1, .int x2, .int x3, .int x4]) rfl rfl) ?_
        refine eS_c (fun s_6 => ?_)
        refine Eq.trans (rn_go 1 (pc' := 30) (L' := [.ref a0, .int x1, .int x2, .int x3, .int x4]) (st' := [.ref a0]) rfl) ?_
        refine Eq.trans (rn_gA (L' := [.ref a0, .int x1, .int x2, .int x3, .int x4]) rfl rfl rfl rfl) ?_
        refine eA_c ?_ (fun b_7 => ?_)
        · refine Eq.trans (rn_go 1 (pc' := 34) (L' := [.ref a0, .int x1, .int x2, .int x3, .int x4]) (st' := [.ref a0, .null]) rfl) ?_
          refine Eq.trans (rn_gI (L' := [.ref a0, .int x1, .int x2, .int x3, .int x4]) rfl rfl rfl rfl) ?_
          refine eI_c (fun x_8 => ?_)
          refine Eq.trans (rn_go 1 (pc' := 38) (L' := [.ref a0, .int x1, .int x2, .int x3, .int x4]) (st' := [.int x2, .int x_8, .null]) rfl) ?_
          exact rn_z rfl rfl
        · refine Eq.trans (rn_go 1 (pc' := 34) (L' := [.ref a0, .int x1, .int x2, .int x3, .int x4]) (st' := [.ref a0, .ref b_7]) rfl) ?_
          refine Eq.trans (rn_gI (L' := [.ref a0, .int x1, .int x2, .int x3, .int x4]) rfl rfl rfl rfl) ?_
          refine eI_c (fun x_9 => ?_)
          refine Eq.trans (rn_go 1 (pc' := 38) (L' := [.ref a0, .int x1, .int x2, .int x3, .int x4]) (st' := [.int x2, .int x_9, .ref b_7]) rfl) ?_
          refine Eq.trans (rn_wI (L' := [.ref a0, .int x1, .int x2, .int x3, .int x4]) rfl rfl) ?_
          refine eS_c (fun s_10 => ?_)
          refine Eq.trans (rn_go 1 (pc' := 40) (L' := [.ref a0, .int x1, .int x2, .int x3, .int x4]) (st' := [.ref a0]) rfl) ?_
          refine Eq.trans (rn_gA (L' := [.ref a0, .int x1, .int x2, .int x3, .int x4]) rfl rfl rfl rfl) ?_
          refine eA_c ?_ (fun b_11 => ?_)
          · refine Eq.trans (rn_go 1 (pc' := 44) (L' := [.ref a0, .int x1, .int x2, .int x3, .int x4]) (st' := [.ref a0, .null]) rfl) ?_
            refine Eq.trans (rn_gI (L' := [.ref a0, .int x1, .int x2, .int x3, .int x4]) rfl rfl rfl rfl) ?_
            refine eI_c (fun x_12 => ?_)
            refine Eq.trans (rn_go 1 (pc' := 48) (L' := [.ref a0, .int x1, .int x2, .int x3, .int x4]) (st' := [.int x3, .int x_12, .null]) rfl) ?_
            exact rn_z rfl rfl
          · refine Eq.trans (rn_go 1 (pc' := 44) (L' := [.ref a0, .int x1, .int x2, .int x3, .int x4]) (st' := [.ref a0, .ref b_11]) rfl) ?_
            refine Eq.trans (rn_gI (L' := [.ref a0, .int x1, .int x2, .int x3, .int x4]) rfl rfl rfl rfl) ?_
            refine eI_c (fun x_13 => ?_)
            refine Eq.trans (rn_go 1 (pc' := 48) (L' := [.ref a0, .int x1, .int x2, .int x3, .int x4]) (st' := [.int x3, .int x_13, .ref b_11]) rfl) ?_
            refine Eq.trans (rn_wI (L' := [.ref a0, .int x1, .int x2, .int x3, .int x4]) rfl rfl) ?_
            refine eS_c (fun s_14 => ?_)
            refine Eq.trans (rn_go 1 (pc' := 50) (L' := [.ref a0, .int x1, .int x2, .int x3, .int x4]) (st' := [.ref a0]) rfl) ?_
            refine Eq.trans (rn_gA (L' := [.ref a0, .int x1, .int x2, .int x3, .int x4]) rfl rfl rfl rfl) ?_
            refine eA_c ?_ (fun b_15 => ?_)
            · refine Eq.trans (rn_go 1 (pc' := 54) (L' := [.ref a0, .int x1, .int x2, .int x3, .int x4]) (st' := [.ref a0, .null]) rfl) ?_
              refine Eq.trans (rn_gI (L' := [.ref a0, .int x1, .int x2, .int x3, .int x4]) rfl rfl rfl rfl) ?_
              refine eI_c (fun x_16 => ?_)
              refine Eq.trans (rn_go 1 (pc' := 59) (L' := [.ref a0, .int x1, .int x2, .int x3, .int x4]) (st' := [.int x4, .int x_16, .null]) rfl) ?_
              exact rn_z rfl rfl
            · refine Eq.trans (rn_go 1 (pc' := 54) (L' := [.ref a0, .int x1, .int x2, .int x3, .int x4]) (st' := [.ref a0, .ref b_15]) rfl) ?_
              refine Eq.trans (rn_gI (L' := [.ref a0, .int x1, .int x2, .int x3, .int x4]) rfl rfl rfl rfl) ?_
              refine eI_c (fun x_17 => ?_)
              refine Eq.trans (rn_go 1 (pc' := 59) (L' := [.ref a0, .int x1, .int x2, .int x3, .int x4]) (st' := [.int x4, .int x_17, .ref b_15]) rfl) ?_
              refine Eq.trans (rn_wI (L' := [.ref a0, .int x1, .int x2, .int x3, .int x4]) rfl rfl) ?_
              refine eS_c (fun s_18 => ?_)
              refine Eq.trans (rn_go 2 (pc' := 62) (L' := [.ref a0, .int x1, .int x2, .int x3, .int x4]) (st' := [.ref a0, .ref a0]) rfl) ?_
              refine Eq.trans (rn_gI (L' := [.ref a0, .int x1, .int x2, .int x3, .int x4]) rfl rfl rfl rfl) ?_
              refine eI_c (fun x_19 => ?_)
              refine Eq.trans (rn_go 2 (pc' := 67) (L' := [.ref a0, .int x1, .int x2, .int x3, .int x4]) (st' := [.int (x_19 + (1 : Int32)), .ref a0]) rfl) ?_
              refine Eq.trans (rn_pF (L' := [.ref a0, .int x1, .int x2, .int x3, .int x4]) rfl rfl) ?_
              refine eS_c (fun s_20 => ?_)
              refine Eq.trans (rn_go 1 (pc' := 71) (L' := [.ref a0, .int x1, .int x2, .int x3, .int x4]) (st' := [.ref a0]) rfl) ?_
              refine Eq.trans (rn_gI (L' := [.ref a0, .int x1, .int x2, .int x3, .int x4]) rfl rfl rfl rfl) ?_
              refine eI_c (fun x_21 => ?_)
              exact rn_retI rfl rfl rfl
    · refine Eq.trans (rn_go 1 (pc' := 18) (L' := [.ref a0, .int x1, .int x2, .int x3, .int x4]) (st' := [.int (-(2 : Int32))]) rfl) ?_
      exact rn_retI rfl rfl rfl
theorem in_X9_firstFailing {B : Nat} (a0 : Nat) (a1 : Nat) (s : am_S) : cl_ tb_ct tb_mt B K_X9_firstFailing [.ref a0, .ref a1] s = rn_ tb_ct tb_mt B mm_X9_firstFailing 0 [.ref a0, .ref a1, am_un, am_un, am_un, am_un] [] s := cl_in rfl rfl rfl rfl
theorem dc_X9_firstFailing_0 {B : Nat} (a0 : Nat) (a1 : Nat) (s : am_S) : rn_ tb_ct tb_mt B mm_X9_firstFailing 0 [.ref a0, .ref a1, am_un, am_un, am_un, am_un] [] s = rn_ tb_ct tb_mt B mm_X9_firstFailing 2 [.ref a0, .ref a1, .int (0 : Int32), am_un, am_un, am_un] [] s := by
  exact rn_go 2 (pc' := 2) (L' := [.ref a0, .ref a1, .int (0 : Int32), am_un, am_un, am_un]) (st' := []) rfl
theorem dc_X9_firstFailing_2 {B : Nat} (a0 : Nat) (a1 : Nat) (x2 : Int32) (w4 : Value) (w5 : Value) (s : am_S) : rn_ tb_ct tb_mt B mm_X9_firstFailing 2 [.ref a0, .ref a1, .int x2, am_un, w4, w5] [] s = eI (gI tb_ct s a0 8 4) (fun x_1 => if x_1 ≤ x2 then some (.inl (some (.int (-(1 : Int32)))), s) else if (6 : Int32) ≤ x2 then some (.inl (some (.int (-(1 : Int32)))), s) else eA (gA tb_ct s a0 8 0) (none) (fun b_2 => eI (aI s b_2 x2) (fun x_3 => eC (am_cls s a1) 3 (cA (cl_ tb_ct tb_mt B K_X4_find [.ref a1, .int x_3] s) (fun s_4 => eA (gA tb_ct s_4 a0 8 1) (none) (fun b_6 => eI (aI s_4 b_6 x2) (fun x_7 => if x_7 = 0 then rn_ tb_ct tb_mt B mm_X9_firstFailing 45 [.ref a0, .ref a1, .int x2, va_rf none, am_un, am_un] [.int (0 : Int32)] s_4 else rn_ tb_ct tb_mt B mm_X9_firstFailing 40 [.ref a0, .ref a1, .int x2, va_rf none, am_un, am_un] [] s_4))) (fun b_5 s_4 => rn_ tb_ct tb_mt B mm_X9_firstFailing 40 [.ref a0, .ref a1, .int x2, va_rf (some b_5), am_un, am_un] [] s_4) xo)))) := by
  refine Eq.trans (rn_go 2 (pc' := 4) (L' := [.ref a0, .ref a1, .int x2, am_un, am_un, am_un]) (st' := [.ref a0, .int x2]) rfl) ?_
  refine Eq.trans (rn_gI (L' := [.ref a0, .ref a1, .int x2, am_un, am_un, am_un]) rfl rfl rfl rfl) ?_
  refine eI_c (fun x_1 => ?_)
  refine Eq.trans (rn_icge (L' := [.ref a0, .ref a1, .int x2, am_un, am_un, am_un]) rfl rfl) ?_
  refine if_c ?_ ?_
  · refine Eq.trans (rn_go 1 (pc' := 101) (L' := [.ref a0, .ref a1, .int x2, am_un, am_un, am_un]) (st' := [.int (-(1 : Int32))]) rfl) ?_
    exact rn_retI rfl rfl rfl
  · refine Eq.trans (rn_go 2 (pc' := 13) (L' := [.ref a0, .ref a1, .int x2, am_un, am_un, am_un]) (st' := [.int (6 : Int32), .int x2]) rfl) ?_
    refine Eq.trans (rn_icge (L' := [.ref a0, .ref a1, .int x2, am_un, am_un, am_un]) rfl rfl) ?_
    refine if_c ?_ ?_
    · refine Eq.trans (rn_go 1 (pc' := 101) (L' := [.ref a0, .ref a1, .int x2, am_un, am_un, am_un]) (st' := [.int (-(1 : Int32))]) rfl) ?_
      exact rn_retI rfl rfl rfl
    · refine Eq.trans (rn_go 2 (pc' := 18) (L' := [.ref a0, .ref a1, .int x2, am_un, am_un, am_un]) (st' := [.ref a0, .ref a1]) rfl) ?_
      refine Eq.trans (rn_gA (L' := [.ref a0, .ref a1, .int x2, am_un, am_un, am_un]) rfl rfl rfl rfl) ?_
      refine eA_c ?_ (fun b_2 => ?_)
      · refine Eq.trans (rn_go 1 (pc' := 22) (L' := [.ref a0, .ref a1, .int x2, am_un, am_un, am_un]) (st' := [.int x2, .null, .ref a1]) rfl) ?_
        exact rn_z rfl rfl
      · refine Eq.trans (rn_go 1 (pc' := 22) (L' := [.ref a0, .ref a1, .int x2, am_un, am_un, am_un]) (st' := [.int x2, .ref b_2, .ref a1]) rfl) ?_
        refine Eq.trans (rn_aI (L' := [.ref a0, .ref a1, .int x2, am_un, am_un, am_un]) rfl rfl) ?_
        refine eI_c (fun x_3 => ?_)
        refine Eq.trans (rn_vir (L' := [.ref a0, .ref a1, .int x2, am_un, am_un, am_un]) (as := [.int x_3]) (rest := []) rfl rfl rfl rfl rfl (Nat.le_of_ble_eq_true rfl) (by decide) (by decide)) ?_
        refine eC_c ?_
        refine Eq.trans (cW_A rfl rfl rfl) ?_
        refine cA_c (fun s_4 => ?_) (fun b_5 s_4 => ?_) (xh_nil rfl)
        · refine Eq.trans (rn_go 4 (pc' := 32) (L' := [.ref a0, .ref a1, .int x2, .null, am_un, am_un]) (st' := [.ref a0]) rfl) ?_
          refine Eq.trans (rn_gA (L' := [.ref a0, .ref a1, .int x2, .null, am_un, am_un]) rfl rfl rfl rfl) ?_
          refine eA_c ?_ (fun b_6 => ?_)
          · refine Eq.trans (rn_go 1 (pc' := 36) (L' := [.ref a0, .ref a1, .int x2, .null, am_un, am_un]) (st' := [.int x2, .null]) rfl) ?_
            exact rn_z rfl rfl
          · refine Eq.trans (rn_go 1 (pc' := 36) (L' := [.ref a0, .ref a1, .int x2, .null, am_un, am_un]) (st' := [.int x2, .ref b_6]) rfl) ?_
            refine Eq.trans (rn_aI (L' := [.ref a0, .ref a1, .int x2, .null, am_un, am_un]) rfl rfl) ?_
            refine eI_c (fun x_7 => ?_)
            refine Eq.trans (rn_ifeq (L' := [.ref a0, .ref a1, .int x2, .null, am_un, am_un]) rfl rfl) ?_
            refine if_c ?_ ?_
            · exact rn_go 1 (pc' := 45) (L' := [.ref a0, .ref a1, .int x2, va_rf none, am_un, am_un]) (st' := [.int (0 : Int32)]) rfl
            · rfl
        · exact rn_go 3 (pc' := 40) (L' := [.ref a0, .ref a1, .int x2, va_rf (some b_5), am_un, am_un]) (st' := []) rfl
theorem dc_X9_firstFailing_40 {B : Nat} (a0 : Nat) (a1 : Nat) (x2 : Int32) (r3 : Option Nat) (s : am_S) : rn_ tb_ct tb_mt B mm_X9_firstFailing 40 [.ref a0, .ref a1, .int x2, va_rf r3, am_un, am_un] [] s = eA (some r3) (rn_ tb_ct tb_mt B mm_X9_firstFailing 45 [.ref a0, .ref a1, .int x2, va_rf none, am_un, am_un] [.int (1 : Int32)] s) (fun b_1 => rn_ tb_ct tb_mt B mm_X9_firstFailing 45 [.ref a0, .ref a1, .int x2, va_rf (some b_1), am_un, am_un] [.int (1 : Int32)] s) := by
  rcases r3 with _ | b_1
  · rw [eA_n]
    exact rn_go 2 (pc' := 45) (L' := [.ref a0, .ref a1, .int x2, va_rf none, am_un, am_un]) (st' := [.int (1 : Int32)]) rfl
  · rw [eA_s]
    exact rn_go 2 (pc' := 45) (L' := [.ref a0, .ref a1, .int x2, va_rf (some b_1), am_un, am_un]) (st' := [.int (1 : Int32)]) rfl
theorem dc_X9_firstFailing_45 {B : Nat} (a0 : Nat) (a1 : Nat) (x2 : Int32) (r3 : Option Nat) (xs0 : Int32) (s : am_S) : rn_ tb_ct tb_mt B mm_X9_firstFailing 45 [.ref a0, .ref a1, .int x2, va_rf r3, am_un, am_un] [.int xs0] s = eA (some r3) (rn_ tb_ct tb_mt B mm_X9_firstFailing 65 [.ref a0, .ref a1, .int x2, va_rf none, .int xs0, am_un] [.int (0 : Int32)] s) (fun b_1 => eA (gA tb_ct s a0 8 1) (none) (fun b_2 => eI (aI s b_2 x2) (fun x_3 => eC (am_cls s b_1) 2 (cI (cl_ tb_ct tb_mt B K_X3_number [.ref b_1, .int x_3] s) (fun x_5 s_4 => rn_ tb_ct tb_mt B mm_X9_firstFailing 65 [.ref a0, .ref a1, .int x2, va_rf (some b_1), .int xs0, am_un] [.int x_5] s_4) xo)))) := by
  rcases r3 with _ | b_1
  · rw [eA_n]
    exact rn_go 5 (pc' := 65) (L' := [.ref a0, .ref a1, .int x2, va_rf none, .int xs0, am_un]) (st' := [.int (0 : Int32)]) rfl
  · rw [eA_s]
    refine Eq.trans (rn_go 5 (pc' := 57) (L' := [.ref a0, .ref a1, .int x2, .ref b_1, .int xs0, am_un]) (st' := [.ref a0, .ref b_1]) rfl) ?_
    refine Eq.trans (rn_gA (L' := [.ref a0, .ref a1, .int x2, .ref b_1, .int xs0, am_un]) rfl rfl rfl rfl) ?_
    refine eA_c ?_ (fun b_2 => ?_)
    · refine Eq.trans (rn_go 1 (pc' := 61) (L' := [.ref a0, .ref a1, .int x2, .ref b_1, .int xs0, am_un]) (st' := [.int x2, .null, .ref b_1]) rfl) ?_
      exact rn_z rfl rfl
    · refine Eq.trans (rn_go 1 (pc' := 61) (L' := [.ref a0, .ref a1, .int x2, .ref b_1, .int xs0, am_un]) (st' := [.int x2, .ref b_2, .ref b_1]) rfl) ?_
      refine Eq.trans (rn_aI (L' := [.ref a0, .ref a1, .int x2, .ref b_1, .int xs0, am_un]) rfl rfl) ?_
      refine eI_c (fun x_3 => ?_)
      refine Eq.trans (rn_vir (L' := [.ref a0, .ref a1, .int x2, .ref b_1, .int xs0, am_un]) (as := [.int x_3]) (rest := []) rfl rfl rfl rfl rfl (Nat.le_of_ble_eq_true rfl) (by decide) (by decide)) ?_
      refine eC_c ?_
      refine Eq.trans (cW_I rfl rfl rfl) ?_
      refine cI_c (fun x_5 s_4 => ?_) (xh_nil rfl)
      rfl
theorem dc_X9_firstFailing_65 {B : Nat} (a0 : Nat) (a1 : Nat) (x2 : Int32) (w3 : Value) (x4 : Int32) (xs0 : Int32) (s : am_S) : rn_ tb_ct tb_mt B mm_X9_firstFailing 65 [.ref a0, .ref a1, .int x2, w3, .int x4, am_un] [.int xs0] s = if x4 = 0 then some (.inl (some (.int x2)), s) else eA (gA tb_ct s a0 8 2) (none) (fun b_1 => eI (aI s b_1 x2) (fun x_2 => eA (gA tb_ct s a0 8 3) (none) (fun b_3 => eI (aI s b_3 x2) (fun x_4 => cI (cl_ tb_ct tb_mt B K_X9_relates [.int xs0, .int x_2, .int x_4] s) (fun x_6 s_5 => if x_6 = 0 then some (.inl (some (.int x2)), s_5) else rn_ tb_ct tb_mt B mm_X9_firstFailing 2 [.ref a0, .ref a1, .int (x2 + (1 : Int32)), am_un, .int x4, .int xs0] [] s_5) xo)))) := by
  refine Eq.trans (rn_go 2 (pc' := 69) (L' := [.ref a0, .ref a1, .int x2, am_un, .int x4, .int xs0]) (st' := [.int x4]) rfl) ?_
  refine Eq.trans (rn_ifeq (L' := [.ref a0, .ref a1, .int x2, am_un, .int x4, .int xs0]) rfl rfl) ?_
  refine if_c ?_ ?_
  · refine Eq.trans (rn_go 1 (pc' := 93) (L' := [.ref a0, .ref a1, .int x2, am_un, .int x4, .int xs0]) (st' := [.int x2]) rfl) ?_
    exact rn_retI rfl rfl rfl
  · refine Eq.trans (rn_go 2 (pc' := 75) (L' := [.ref a0, .ref a1, .int x2, am_un, .int x4, .int xs0]) (st' := [.ref a0, .int xs0]) rfl) ?_
    refine Eq.trans (rn_gA (L' := [.ref a0, .ref a1, .int x2, am_un, .int x4, .int xs0]) rfl rfl rfl rfl) ?_
    refine eA_c ?_ (fun b_1 => ?_)
    · refine Eq.trans (rn_go 1 (pc' := 79) (L' := [.ref a0, .ref a1, .int x2, am_un, .int x4, .int xs0]) (st' := [.int x2, .null, .int xs0]) rfl) ?_
      exact rn_z rfl rfl
    · refine Eq.trans (rn_go 1 (pc' := 79) (L' := [.ref a0, .ref a1, .int x2, am_un, .int x4, .int xs0]) (st' := [.int x2, .ref b_1, .int xs0]) rfl) ?_
      refine Eq.trans (rn_aI (L' := [.ref a0, .ref a1, .int x2, am_un, .int x4, .int xs0]) rfl rfl) ?_
      refine eI_c (fun x_2 => ?_)
      refine Eq.trans (rn_go 1 (pc' := 81) (L' := [.ref a0, .ref a1, .int x2, am_un, .int x4, .int xs0]) (st' := [.ref a0, .int x_2, .int xs0]) rfl) ?_
      refine Eq.trans (rn_gA (L' := [.ref a0, .ref a1, .int x2, am_un, .int x4, .int xs0]) rfl rfl rfl rfl) ?_
      refine eA_c ?_ (fun b_3 => ?_)
      · refine Eq.trans (rn_go 1 (pc' := 85) (L' := [.ref a0, .ref a1, .int x2, am_un, .int x4, .int xs0]) (st' := [.int x2, .null, .int x_2, .int xs0]) rfl) ?_
        exact rn_z rfl rfl
      · refine Eq.trans (rn_go 1 (pc' := 85) (L' := [.ref a0, .ref a1, .int x2, am_un, .int x4, .int xs0]) (st' := [.int x2, .ref b_3, .int x_2, .int xs0]) rfl) ?_
        refine Eq.trans (rn_aI (L' := [.ref a0, .ref a1, .int x2, am_un, .int x4, .int xs0]) rfl rfl) ?_
        refine eI_c (fun x_4 => ?_)
        refine Eq.trans (rn_sta (L' := [.ref a0, .ref a1, .int x2, am_un, .int x4, .int xs0]) (as := [.int xs0, .int x_2, .int x_4]) (rest := []) rfl rfl rfl rfl rfl (Nat.le_of_ble_eq_true rfl) (by decide) rfl) ?_
        refine Eq.trans (cW_I rfl rfl rfl) ?_
        refine cI_c (fun x_6 s_5 => ?_) (xh_nil rfl)
        refine Eq.trans (rn_ifne (L' := [.ref a0, .ref a1, .int x2, am_un, .int x4, .int xs0]) rfl rfl) ?_
        refine if_c ?_ ?_
        · refine Eq.trans (rn_go 1 (pc' := 93) (L' := [.ref a0, .ref a1, .int x2, am_un, .int x4, .int xs0]) (st' := [.int x2]) rfl) ?_
          exact rn_retI rfl rfl rfl
        · exact rn_go 2 (pc' := 2) (L' := [.ref a0, .ref a1, .int (x2 + (1 : Int32)), am_un, .int x4, .int xs0]) (st' := []) rfl
theorem in_X9_relates {B : Nat} (x0 : Int32) (x1 : Int32) (x2 : Int32) (s : am_S) : cl_ tb_ct tb_mt B K_X9_relates [.int x0, .int x1, .int x2] s = rn_ tb_ct tb_mt B mm_X9_relates 0 [.int x0, .int x1, .int x2] [] s := cl_in rfl rfl rfl rfl
theorem dc_X9_relates_0 {B : Nat} (x0 : Int32) (x1 : Int32) (x2 : Int32) (s : am_S) : rn_ tb_ct tb_mt B mm_X9_relates 0 [.int x0, .int x1, .int x2] [] s = sw x1.toInt (0) [if x0 = x2 then some (.inl (some (.int (1 : Int32))), s) else some (.inl (some (.int (0 : Int32))), s), if x0 = x2 then some (.inl (some (.int (0 : Int32))), s) else some (.inl (some (.int (1 : Int32))), s), if x2 ≤ x0 then some (.inl (some (.int (0 : Int32))), s) else some (.inl (some (.int (1 : Int32))), s)] (if x0 ≤ x2 then some (.inl (some (.int (0 : Int32))), s) else some (.inl (some (.int (1 : Int32))), s)) := by
  refine Eq.trans (rn_go 1 (pc' := 1) (L' := [.int x0, .int x1, .int x2]) (st' := [.int x1]) rfl) ?_
  refine Eq.trans (rn_tsw (L' := [.int x0, .int x1, .int x2]) (ts := [28, 39, 50]) (td := 61) rfl rfl (by decide) rfl rfl) ?_
  refine sw_c ?_ ?_
  · refine cons_c ?_ ?_
    · refine Eq.trans (rn_go 2 (pc' := 30) (L' := [.int x0, .int x1, .int x2]) (st' := [.int x2, .int x0]) rfl) ?_
      refine Eq.trans (rn_icne (L' := [.int x0, .int x1, .int x2]) rfl rfl) ?_
      refine if_c ?_ ?_
      · refine Eq.trans (rn_go 2 (pc' := 38) (L' := [.int x0, .int x1, .int x2]) (st' := [.int (1 : Int32)]) rfl) ?_
        exact rn_retI rfl rfl rfl
      · refine Eq.trans (rn_go 1 (pc' := 38) (L' := [.int x0, .int x1, .int x2]) (st' := [.int (0 : Int32)]) rfl) ?_
        exact rn_retI rfl rfl rfl
    refine cons_c ?_ ?_
    · refine Eq.trans (rn_go 2 (pc' := 41) (L' := [.int x0, .int x1, .int x2]) (st' := [.int x2, .int x0]) rfl) ?_
      refine Eq.trans (rn_iceq (L' := [.int x0, .int x1, .int x2]) rfl rfl) ?_
      refine if_c ?_ ?_
      · refine Eq.trans (rn_go 1 (pc' := 49) (L' := [.int x0, .int x1, .int x2]) (st' := [.int (0 : Int32)]) rfl) ?_
        exact rn_retI rfl rfl rfl
      · refine Eq.trans (rn_go 2 (pc' := 49) (L' := [.int x0, .int x1, .int x2]) (st' := [.int (1 : Int32)]) rfl) ?_
        exact rn_retI rfl rfl rfl
    refine cons_c ?_ ?_
    · refine Eq.trans (rn_go 2 (pc' := 52) (L' := [.int x0, .int x1, .int x2]) (st' := [.int x2, .int x0]) rfl) ?_
      refine Eq.trans (rn_icge (L' := [.int x0, .int x1, .int x2]) rfl rfl) ?_
      refine if_c ?_ ?_
      · refine Eq.trans (rn_go 1 (pc' := 60) (L' := [.int x0, .int x1, .int x2]) (st' := [.int (0 : Int32)]) rfl) ?_
        exact rn_retI rfl rfl rfl
      · refine Eq.trans (rn_go 2 (pc' := 60) (L' := [.int x0, .int x1, .int x2]) (st' := [.int (1 : Int32)]) rfl) ?_
        exact rn_retI rfl rfl rfl
    rfl
  · refine Eq.trans (rn_go 2 (pc' := 63) (L' := [.int x0, .int x1, .int x2]) (st' := [.int x2, .int x0]) rfl) ?_
    refine Eq.trans (rn_icle (L' := [.int x0, .int x1, .int x2]) rfl rfl) ?_
    refine if_c ?_ ?_
    · refine Eq.trans (rn_go 1 (pc' := 71) (L' := [.int x0, .int x1, .int x2]) (st' := [.int (0 : Int32)]) rfl) ?_
      exact rn_retI rfl rfl rfl
    · refine Eq.trans (rn_go 2 (pc' := 71) (L' := [.int x0, .int x1, .int x2]) (st' := [.int (1 : Int32)]) rfl) ?_
      exact rn_retI rfl rfl rfl
theorem in_X9_stepsFor {B : Nat} (a0 : Nat) (a1 : Nat) (s : am_S) : cl_ tb_ct tb_mt B K_X9_stepsFor [.ref a0, .ref a1] s = rn_ tb_ct tb_mt B mm_X9_stepsFor 0 [.ref a0, .ref a1] [] s := cl_in rfl rfl rfl rfl
theorem dc_X9_stepsFor_0 {B : Nat} (a0 : Nat) (a1 : Nat) (s : am_S) : rn_ tb_ct tb_mt B mm_X9_stepsFor 0 [.ref a0, .ref a1] [] s = eC (am_cls s a0) 8 (cI (cl_ tb_ct tb_mt B K_X9_firstFailing [.ref a0, .ref a1] s) (fun x_2 s_1 => if x_2 = (-(1 : Int32)) then eA (gA tb_ct s_1 a0 8 5) (some (.inl (some .null), s_1)) (fun b_3 => some (.inl (some (.ref b_3)), s_1)) else eA (gA tb_ct s_1 a0 8 6) (some (.inl (some .null), s_1)) (fun b_4 => some (.inl (some (.ref b_4)), s_1))) xo) := by
  refine Eq.trans (rn_go 2 (pc' := 2) (L' := [.ref a0, .ref a1]) (st' := [.ref a1, .ref a0]) rfl) ?_
  refine Eq.trans (rn_vir (L' := [.ref a0, .ref a1]) (as := [.ref a1]) (rest := []) rfl rfl rfl rfl rfl (Nat.le_of_ble_eq_true rfl) (by decide) (by decide)) ?_
  refine eC_c ?_
  refine Eq.trans (cW_I rfl rfl rfl) ?_
  refine cI_c (fun x_2 s_1 => ?_) (xh_nil rfl)
  refine Eq.trans (rn_go 1 (pc' := 6) (L' := [.ref a0, .ref a1]) (st' := [.int (-(1 : Int32)), .int x_2]) rfl) ?_
  refine Eq.trans (rn_icne (L' := [.ref a0, .ref a1]) rfl rfl) ?_
  refine if_c ?_ ?_
  · refine Eq.trans (rn_go 1 (pc' := 10) (L' := [.ref a0, .ref a1]) (st' := [.ref a0]) rfl) ?_
    refine Eq.trans (rn_gA (L' := [.ref a0, .ref a1]) rfl rfl rfl rfl) ?_
    refine eA_c ?_ (fun b_3 => ?_)
    · refine Eq.trans (rn_go 1 (pc' := 20) (L' := [.ref a0, .ref a1]) (st' := [.null]) rfl) ?_
      exact rn_retA rfl rfl rfl rfl
    · refine Eq.trans (rn_go 1 (pc' := 20) (L' := [.ref a0, .ref a1]) (st' := [.ref b_3]) rfl) ?_
      exact rn_retA rfl rfl rfl rfl
  · refine Eq.trans (rn_go 1 (pc' := 17) (L' := [.ref a0, .ref a1]) (st' := [.ref a0]) rfl) ?_
    refine Eq.trans (rn_gA (L' := [.ref a0, .ref a1]) rfl rfl rfl rfl) ?_
    refine eA_c ?_ (fun b_4 => ?_)
    · exact rn_retA rfl rfl rfl rfl
    · exact rn_retA rfl rfl rfl rfl
theorem in_X9_clear {B : Nat} (a0 : Nat) (s : am_S) : cl_ tb_ct tb_mt B K_X9_clear [.ref a0] s = rn_ tb_ct tb_mt B mm_X9_clear 0 [.ref a0, am_un] [] s := cl_in rfl rfl rfl rfl
theorem dc_X9_clear_0 {B : Nat} (a0 : Nat) (s : am_S) : rn_ tb_ct tb_mt B mm_X9_clear 0 [.ref a0, am_un] [] s = eI (gI tb_ct s a0 8 4) (fun x_1 => eA (gA tb_ct s a0 8 5) (none) (fun b_2 => eI (gI tb_ct s b_2 6 3) (fun x_3 => eA (gA tb_ct s a0 8 6) (none) (fun b_4 => eI (gI tb_ct s b_4 6 3) (fun x_5 => eS (am_put tb_ct mm_X9_clear B s (.int (0 : Int32)) a0 8 4) (fun s_6 => eA (gA tb_ct s_6 a0 8 5) (none) (fun b_7 => eS (am_put tb_ct mm_X9_clear B s_6 (.int (0 : Int32)) b_7 6 3) (fun s_8 => eA (gA tb_ct s_8 a0 8 6) (none) (fun b_9 => eS (am_put tb_ct mm_X9_clear B s_8 (.int (0 : Int32)) b_9 6 3) (fun s_10 => some (.inl (some (.int ((x_1 + x_3) + x_5))), s_10))))))))))) := by
  refine Eq.trans (rn_go 1 (pc' := 1) (L' := [.ref a0, am_un]) (st' := [.ref a0]) rfl) ?_
  refine Eq.trans (rn_gI (L' := [.ref a0, am_un]) rfl rfl rfl rfl) ?_
  refine eI_c (fun x_1 => ?_)
  refine Eq.trans (rn_go 1 (pc' := 5) (L' := [.ref a0, am_un]) (st' := [.ref a0, .int x_1]) rfl) ?_
  refine Eq.trans (rn_gA (L' := [.ref a0, am_un]) rfl rfl rfl rfl) ?_
  refine eA_c ?_ (fun b_2 => ?_)
  · exact rn_z rfl rfl
  · refine Eq.trans (rn_gI (L' := [.ref a0, am_un]) rfl rfl rfl rfl) ?_
    refine eI_c (fun x_3 => ?_)
    refine Eq.trans (rn_go 2 (pc' := 13) (L' := [.ref a0, am_un]) (st' := [.ref a0, .int (x_1 + x_3)]) rfl) ?_
    refine Eq.trans (rn_gA (L' := [.ref a0, am_un]) rfl rfl rfl rfl) ?_
    refine eA_c ?_ (fun b_4 => ?_)
    · exact rn_z rfl rfl
    · refine Eq.trans (rn_gI (L' := [.ref a0, am_un]) rfl rfl rfl rfl) ?_
      refine eI_c (fun x_5 => ?_)
      refine Eq.trans (rn_go 4 (pc' := 23) (L' := [.ref a0, .int ((x_1 + x_3) + x_5)]) (st' := [.int (0 : Int32), .ref a0]) rfl) ?_
      refine Eq.trans (rn_pF (L' := [.ref a0, .int ((x_1 + x_3) + x_5)]) rfl rfl) ?_
      refine eS_c (fun s_6 => ?_)
      refine Eq.trans (rn_go 1 (pc' := 27) (L' := [.ref a0, .int ((x_1 + x_3) + x_5)]) (st' := [.ref a0]) rfl) ?_
      refine Eq.trans (rn_gA (L' := [.ref a0, .int ((x_1 + x_3) + x_5)]) rfl rfl rfl rfl) ?_
      refine eA_c ?_ (fun b_7 => ?_)
      · refine Eq.trans (rn_go 1 (pc' := 31) (L' := [.ref a0, .int ((x_1 + x_3) + x_5)]) (st' := [.int (0 : Int32), .null]) rfl) ?_
        exact rn_z rfl rfl
      · refine Eq.trans (rn_go 1 (pc' := 31) (L' := [.ref a0, .int ((x_1 + x_3) + x_5)]) (st' := [.int (0 : Int32), .ref b_7]) rfl) ?_
        refine Eq.trans (rn_pF (L' := [.ref a0, .int ((x_1 + x_3) + x_5)]) rfl rfl) ?_
        refine eS_c (fun s_8 => ?_)
        refine Eq.trans (rn_go 1 (pc' := 35) (L' := [.ref a0, .int ((x_1 + x_3) + x_5)]) (st' := [.ref a0]) rfl) ?_
        refine Eq.trans (rn_gA (L' := [.ref a0, .int ((x_1 + x_3) + x_5)]) rfl rfl rfl rfl) ?_
        refine eA_c ?_ (fun b_9 => ?_)
        · refine Eq.trans (rn_go 1 (pc' := 39) (L' := [.ref a0, .int ((x_1 + x_3) + x_5)]) (st' := [.int (0 : Int32), .null]) rfl) ?_
          exact rn_z rfl rfl
        · refine Eq.trans (rn_go 1 (pc' := 39) (L' := [.ref a0, .int ((x_1 + x_3) + x_5)]) (st' := [.int (0 : Int32), .ref b_9]) rfl) ?_
          refine Eq.trans (rn_pF (L' := [.ref a0, .int ((x_1 + x_3) + x_5)]) rfl rfl) ?_
          refine eS_c (fun s_10 => ?_)
          refine Eq.trans (rn_go 1 (pc' := 43) (L' := [.ref a0, .int ((x_1 + x_3) + x_5)]) (st' := [.int ((x_1 + x_3) + x_5)]) rfl) ?_
          exact rn_retI rfl rfl rfl
theorem in_X9_copyFrom {B : Nat} (a0 : Nat) (a1 : Nat) (s : am_S) : cl_ tb_ct tb_mt B K_X9_copyFrom [.ref a0, .ref a1] s = rn_ tb_ct tb_mt B mm_X9_copyFrom 0 [.ref a0, .ref a1] [] s := cl_in rfl rfl rfl rfl
theorem dc_X9_copyFrom_0 {B : Nat} (a0 : Nat) (a1 : Nat) (s : am_S) : rn_ tb_ct tb_mt B mm_X9_copyFrom 0 [.ref a0, .ref a1] [] s = eI (gI tb_ct s a1 8 4) (fun x_1 => eS (am_put tb_ct mm_X9_copyFrom B s (.int x_1) a0 8 4) (fun s_2 => eA (gA tb_ct s_2 a1 8 0) (eA (gA tb_ct s_2 a0 8 0) (none) (fun b_4 => none)) (fun b_3 => eA (gA tb_ct s_2 a0 8 0) (none) (fun b_5 => eS (wC B .int s_2 b_3 (0 : Int32) b_5 (0 : Int32) (6 : Int32)) (fun s_6 => eA (gA tb_ct s_6 a1 8 1) (eA (gA tb_ct s_6 a0 8 1) (none) (fun b_8 => none)) (fun b_7 => eA (gA tb_ct s_6 a0 8 1) (none) (fun b_9 => eS (wC B .int s_6 b_7 (0 : Int32) b_9 (0 : Int32) (6 : Int32)) (fun s_10 => eA (gA tb_ct s_10 a1 8 2) (eA (gA tb_ct s_10 a0 8 2) (none) (fun b_12 => none)) (fun b_11 => eA (gA tb_ct s_10 a0 8 2) (none) (fun b_13 => eS (wC B .int s_10 b_11 (0 : Int32) b_13 (0 : Int32) (6 : Int32)) (fun s_14 => eA (gA tb_ct s_14 a1 8 3) (eA (gA tb_ct s_14 a0 8 3) (none) (fun b_16 => none)) (fun b_15 => eA (gA tb_ct s_14 a0 8 3) (none) (fun b_17 => eS (wC B .int s_14 b_15 (0 : Int32) b_17 (0 : Int32) (6 : Int32)) (fun s_18 => eA (gA tb_ct s_18 a0 8 5) (eA (gA tb_ct s_18 a1 8 5) (none) (fun b_20 => none)) (fun b_19 => eA (gA tb_ct s_18 a1 8 5) (eC (am_cls s_18 b_19) 6 (cV (cl_ tb_ct tb_mt B K_X7_copyFrom [.ref b_19, .null] s_18) (fun s_22 => eA (gA tb_ct s_22 a0 8 6) (eA (gA tb_ct s_22 a1 8 6) (none) (fun b_24 => none)) (fun b_23 => eA (gA tb_ct s_22 a1 8 6) (eC (am_cls s_22 b_23) 6 (cV (cl_ tb_ct tb_mt B K_X7_copyFrom [.ref b_23, .null] s_22) (fun s_26 => some (.inl none, s_26)) xo)) (fun b_25 => eC (am_cls s_22 b_23) 6 (cV (cl_ tb_ct tb_mt B K_X7_copyFrom [.ref b_23, .ref b_25] s_22) (fun s_27 => some (.inl none, s_27)) xo)))) xo)) (fun b_21 => eC (am_cls s_18 b_19) 6 (cV (cl_ tb_ct tb_mt B K_X7_copyFrom [.ref b_19, .ref b_21] s_18) (fun s_28 => eA (gA tb_ct s_28 a0 8 6) (eA (gA tb_ct s_28 a1 8 6) (none) (fun b_30 => none)) (fun b_29 => eA (gA tb_ct s_28 a1 8 6) (eC (am_cls s_28 b_29) 6 (cV (cl_ tb_ct tb_mt B K_X7_copyFrom [.ref b_29, .null] s_28) (fun s_32 => some (.inl none, s_32)) xo)) (fun b_31 => eC (am_cls s_28 b_29) 6 (cV (cl_ tb_ct tb_mt B K_X7_copyFrom [.ref b_29, .ref b_31] s_28) (fun s_33 => some (.inl none, s_33)) xo)))) xo))))))))))))))))) := by
  refine Eq.trans (rn_go 2 (pc' := 2) (L' := [.ref a0, .ref a1]) (st' := [.ref a1, .ref a0]) rfl) ?_
  refine Eq.trans (rn_gI (L' := [.ref a0, .ref a1]) rfl rfl rfl rfl) ?_
  refine eI_c (fun x_1 => ?_)
  refine Eq.trans (rn_pF (L' := [.ref a0, .ref a1]) rfl rfl) ?_
  refine eS_c (fun s_2 => ?_)
  refine Eq.trans (rn_go 1 (pc' := 9) (L' := [.ref a0, .ref a1]) (st' := [.ref a1]) rfl) ?_
  refine Eq.trans (rn_gA (L' := [.ref a0, .ref a1]) rfl rfl rfl rfl) ?_
  refine eA_c ?_ (fun b_3 => ?_)
  · refine Eq.trans (rn_go 2 (pc' := 14) (L' := [.ref a0, .ref a1]) (st' := [.ref a0, .int (0 : Int32), .null]) rfl) ?_
    refine Eq.trans (rn_gA (L' := [.ref a0, .ref a1]) rfl rfl rfl rfl) ?_
    refine eA_c ?_ (fun b_4 => ?_)
    · refine Eq.trans (rn_go 2 (pc' := 20) (L' := [.ref a0, .ref a1]) (st' := [.int (6 : Int32), .int (0 : Int32), .null, .int (0 : Int32), .null]) rfl) ?_
      exact rn_z rfl rfl
    · refine Eq.trans (rn_go 2 (pc' := 20) (L' := [.ref a0, .ref a1]) (st' := [.int (6 : Int32), .int (0 : Int32), .ref b_4, .int (0 : Int32), .null]) rfl) ?_
      exact rn_z rfl rfl
  · refine Eq.trans (rn_go 2 (pc' := 14) (L' := [.ref a0, .ref a1]) (st' := [.ref a0, .int (0 : Int32), .ref b_3]) rfl) ?_
    refine Eq.trans (rn_gA (L' := [.ref a0, .ref a1]) rfl rfl rfl rfl) ?_
    refine eA_c ?_ (fun b_5 => ?_)
    · refine Eq.trans (rn_go 2 (pc' := 20) (L' := [.ref a0, .ref a1]) (st' := [.int (6 : Int32), .int (0 : Int32), .null, .int (0 : Int32), .ref b_3]) rfl) ?_
      exact rn_z rfl rfl
    · refine Eq.trans (rn_go 2 (pc' := 20) (L' := [.ref a0, .ref a1]) (st' := [.int (6 : Int32), .int (0 : Int32), .ref b_5, .int (0 : Int32), .ref b_3]) rfl) ?_
      refine Eq.trans (rn_cp (L' := [.ref a0, .ref a1]) (ty := .int) rfl rfl (by decide) (Nat.le_of_ble_eq_true rfl)) ?_
      refine eS_c (fun s_6 => ?_)
      refine Eq.trans (rn_go 1 (pc' := 24) (L' := [.ref a0, .ref a1]) (st' := [.ref a1]) rfl) ?_
      refine Eq.trans (rn_gA (L' := [.ref a0, .ref a1]) rfl rfl rfl rfl) ?_
      refine eA_c ?_ (fun b_7 => ?_)
      · refine Eq.trans (rn_go 2 (pc' := 29) (L' := [.ref a0, .ref a1]) (st' := [.ref a0, .int (0 : Int32), .null]) rfl) ?_
        refine Eq.trans (rn_gA (L' := [.ref a0, .ref a1]) rfl rfl rfl rfl) ?_
        refine eA_c ?_ (fun b_8 => ?_)
        · refine Eq.trans (rn_go 2 (pc' := 35) (L' := [.ref a0, .ref a1]) (st' := [.int (6 : Int32), .int (0 : Int32), .null, .int (0 : Int32), .null]) rfl) ?_
          exact rn_z rfl rfl
        · refine Eq.trans (rn_go 2 (pc' := 35) (L' := [.ref a0, .ref a1]) (st' := [.int (6 : Int32), .int (0 : Int32), .ref b_8, .int (0 : Int32), .null]) rfl) ?_
          exact rn_z rfl rfl
      · refine Eq.trans (rn_go 2 (pc' := 29) (L' := [.ref a0, .ref a1]) (st' := [.ref a0, .int (0 : Int32), .ref b_7]) rfl) ?_
        refine Eq.trans (rn_gA (L' := [.ref a0, .ref a1]) rfl rfl rfl rfl) ?_
        refine eA_c ?_ (fun b_9 => ?_)
        · refine Eq.trans (rn_go 2 (pc' := 35) (L' := [.ref a0, .ref a1]) (st' := [.int (6 : Int32), .int (0 : Int32), .null, .int (0 : Int32), .ref b_7]) rfl) ?_
          exact rn_z rfl rfl
        · refine Eq.trans (rn_go 2 (pc' := 35) (L' := [.ref a0, .ref a1]) (st' := [.int (6 : Int32), .int (0 : Int32), .ref b_9, .int (0 : Int32), .ref b_7]) rfl) ?_
          refine Eq.trans (rn_cp (L' := [.ref a0, .ref a1]) (ty := .int) rfl rfl (by decide) (Nat.le_of_ble_eq_true rfl)) ?_
          refine eS_c (fun s_10 => ?_)
          refine Eq.trans (rn_go 1 (pc' := 39) (L' := [.ref a0, .ref a1]) (st' := [.ref a1]) rfl) ?_
          refine Eq.trans (rn_gA (L' := [.ref a0, .ref a1]) rfl rfl rfl rfl) ?_
          refine eA_c ?_ (fun b_11 => ?_)
          · refine Eq.trans (rn_go 2 (pc' := 44) (L' := [.ref a0, .ref a1]) (st' := [.ref a0, .int (0 : Int32), .null]) rfl) ?_
            refine Eq.trans (rn_gA (L' := [.ref a0, .ref a1]) rfl rfl rfl rfl) ?_
            refine eA_c ?_ (fun b_12 => ?_)
            · refine Eq.trans (rn_go 2 (pc' := 50) (L' := [.ref a0, .ref a1]) (st' := [.int (6 : Int32), .int (0 : Int32), .null, .int (0 : Int32), .null]) rfl) ?_
              exact rn_z rfl rfl
            · refine Eq.trans (rn_go 2 (pc' := 50) (L' := [.ref a0, .ref a1]) (st' := [.int (6 : Int32), .int (0 : Int32), .ref b_12, .int (0 : Int32), .null]) rfl) ?_
              exact rn_z rfl rfl
          · refine Eq.trans (rn_go 2 (pc' := 44) (L' := [.ref a0, .ref a1]) (st' := [.ref a0, .int (0 : Int32), .ref b_11]) rfl) ?_
            refine Eq.trans (rn_gA (L' := [.ref a0, .ref a1]) rfl rfl rfl rfl) ?_
            refine eA_c ?_ (fun b_13 => ?_)
            · refine Eq.trans (rn_go 2 (pc' := 50) (L' := [.ref a0, .ref a1]) (st' := [.int (6 : Int32), .int (0 : Int32), .null, .int (0 : Int32), .ref b_11]) rfl) ?_
              exact rn_z rfl rfl
            · refine Eq.trans (rn_go 2 (pc' := 50) (L' := [.ref a0, .ref a1]) (st' := [.int (6 : Int32), .int (0 : Int32), .ref b_13, .int (0 : Int32), .ref b_11]) rfl) ?_
              refine Eq.trans (rn_cp (L' := [.ref a0, .ref a1]) (ty := .int) rfl rfl (by decide) (Nat.le_of_ble_eq_true rfl)) ?_
              refine eS_c (fun s_14 => ?_)
              refine Eq.trans (rn_go 1 (pc' := 54) (L' := [.ref a0, .ref a1]) (st' := [.ref a1]) rfl) ?_
              refine Eq.trans (rn_gA (L' := [.ref a0, .ref a1]) rfl rfl rfl rfl) ?_
              refine eA_c ?_ (fun b_15 => ?_)
              · refine Eq.trans (rn_go 2 (pc' := 59) (L' := [.ref a0, .ref a1]) (st' := [.ref a0, .int (0 : Int32), .null]) rfl) ?_
                refine Eq.trans (rn_gA (L' := [.ref a0, .ref a1]) rfl rfl rfl rfl) ?_
                refine eA_c ?_ (fun b_16 => ?_)
                · refine Eq.trans (rn_go 2 (pc' := 65) (L' := [.ref a0, .ref a1]) (st' := [.int (6 : Int32), .int (0 : Int32), .null, .int (0 : Int32), .null]) rfl) ?_
                  exact rn_z rfl rfl
                · refine Eq.trans (rn_go 2 (pc' := 65) (L' := [.ref a0, .ref a1]) (st' := [.int (6 : Int32), .int (0 : Int32), .ref b_16, .int (0 : Int32), .null]) rfl) ?_
                  exact rn_z rfl rfl
              · refine Eq.trans (rn_go 2 (pc' := 59) (L' := [.ref a0, .ref a1]) (st' := [.ref a0, .int (0 : Int32), .ref b_15]) rfl) ?_
                refine Eq.trans (rn_gA (L' := [.ref a0, .ref a1]) rfl rfl rfl rfl) ?_
                refine eA_c ?_ (fun b_17 => ?_)
                · refine Eq.trans (rn_go 2 (pc' := 65) (L' := [.ref a0, .ref a1]) (st' := [.int (6 : Int32), .int (0 : Int32), .null, .int (0 : Int32), .ref b_15]) rfl) ?_
                  exact rn_z rfl rfl
                · refine Eq.trans (rn_go 2 (pc' := 65) (L' := [.ref a0, .ref a1]) (st' := [.int (6 : Int32), .int (0 : Int32), .ref b_17, .int (0 : Int32), .ref b_15]) rfl) ?_
                  refine Eq.trans (rn_cp (L' := [.ref a0, .ref a1]) (ty := .int) rfl rfl (by decide) (Nat.le_of_ble_eq_true rfl)) ?_
                  refine eS_c (fun s_18 => ?_)
                  refine Eq.trans (rn_go 1 (pc' := 69) (L' := [.ref a0, .ref a1]) (st' := [.ref a0]) rfl) ?_
                  refine Eq.trans (rn_gA (L' := [.ref a0, .ref a1]) rfl rfl rfl rfl) ?_
                  refine eA_c ?_ (fun b_19 => ?_)
                  · refine Eq.trans (rn_go 1 (pc' := 73) (L' := [.ref a0, .ref a1]) (st' := [.ref a1, .null]) rfl) ?_
                    refine Eq.trans (rn_gA (L' := [.ref a0, .ref a1]) rfl rfl rfl rfl) ?_
                    refine eA_c ?_ (fun b_20 => ?_)
                    · exact rn_z rfl rfl
                    · exact rn_z rfl rfl
                  · refine Eq.trans (rn_go 1 (pc' := 73) (L' := [.ref a0, .ref a1]) (st' := [.ref a1, .ref b_19]) rfl) ?_
                    refine Eq.trans (rn_gA (L' := [.ref a0, .ref a1]) rfl rfl rfl rfl) ?_
                    refine eA_c ?_ (fun b_21 => ?_)
                    · refine Eq.trans (rn_vir (L' := [.ref a0, .ref a1]) (as := [.null]) (rest := []) rfl rfl rfl rfl rfl (Nat.le_of_ble_eq_true rfl) (by decide) (by decide)) ?_
                      refine eC_c ?_
                      refine Eq.trans (cW_V rfl rfl) ?_
                      refine cV_c (fun s_22 => ?_) (xh_nil rfl)
                      refine Eq.trans (rn_go 1 (pc' := 80) (L' := [.ref a0, .ref a1]) (st' := [.ref a0]) rfl) ?_
                      refine Eq.trans (rn_gA (L' := [.ref a0, .ref a1]) rfl rfl rfl rfl) ?_
                      refine eA_c ?_ (fun b_23 => ?_)
                      · refine Eq.trans (rn_go 1 (pc' := 84) (L' := [.ref a0, .ref a1]) (st' := [.ref a1, .null]) rfl) ?_
                        refine Eq.trans (rn_gA (L' := [.ref a0, .ref a1]) rfl rfl rfl rfl) ?_
                        refine eA_c ?_ (fun b_24 => ?_)
                        · exact rn_z rfl rfl
                        · exact rn_z rfl rfl
                      · refine Eq.trans (rn_go 1 (pc' := 84) (L' := [.ref a0, .ref a1]) (st' := [.ref a1, .ref b_23]) rfl) ?_
                        refine Eq.trans (rn_gA (L' := [.ref a0, .ref a1]) rfl rfl rfl rfl) ?_
                        refine eA_c ?_ (fun b_25 => ?_)
                        · refine Eq.trans (rn_vir (L' := [.ref a0, .ref a1]) (as := [.null]) (rest := []) rfl rfl rfl rfl rfl (Nat.le_of_ble_eq_true rfl) (by decide) (by decide)) ?_
                          refine eC_c ?_
                          refine Eq.trans (cW_V rfl rfl) ?_
                          refine cV_c (fun s_26 => ?_) (xh_nil rfl)
                          exact rn_retV rfl rfl
                        · refine Eq.trans (rn_vir (L' := [.ref a0, .ref a1]) (as := [.ref b_25]) (rest := []) rfl rfl rfl rfl rfl (Nat.le_of_ble_eq_true rfl) (by decide) (by decide)) ?_
                          refine eC_c ?_
                          refine Eq.trans (cW_V rfl rfl) ?_
                          refine cV_c (fun s_27 => ?_) (xh_nil rfl)
                          exact rn_retV rfl rfl
                    · refine Eq.trans (rn_vir (L' := [.ref a0, .ref a1]) (as := [.ref b_21]) (rest := []) rfl rfl rfl rfl rfl (Nat.le_of_ble_eq_true rfl) (by decide) (by decide)) ?_
                      refine eC_c ?_
                      refine Eq.trans (cW_V rfl rfl) ?_
                      refine cV_c (fun s_28 => ?_) (xh_nil rfl)
                      refine Eq.trans (rn_go 1 (pc' := 80) (L' := [.ref a0, .ref a1]) (st' := [.ref a0]) rfl) ?_
                      refine Eq.trans (rn_gA (L' := [.ref a0, .ref a1]) rfl rfl rfl rfl) ?_
                      refine eA_c ?_ (fun b_29 => ?_)
                      · refine Eq.trans (rn_go 1 (pc' := 84) (L' := [.ref a0, .ref a1]) (st' := [.ref a1, .null]) rfl) ?_
                        refine Eq.trans (rn_gA (L' := [.ref a0, .ref a1]) rfl rfl rfl rfl) ?_
                        refine eA_c ?_ (fun b_30 => ?_)
                        · exact rn_z rfl rfl
                        · exact rn_z rfl rfl
                      · refine Eq.trans (rn_go 1 (pc' := 84) (L' := [.ref a0, .ref a1]) (st' := [.ref a1, .ref b_29]) rfl) ?_
                        refine Eq.trans (rn_gA (L' := [.ref a0, .ref a1]) rfl rfl rfl rfl) ?_
                        refine eA_c ?_ (fun b_31 => ?_)
                        · refine Eq.trans (rn_vir (L' := [.ref a0, .ref a1]) (as := [.null]) (rest := []) rfl rfl rfl rfl rfl (Nat.le_of_ble_eq_true rfl) (by decide) (by decide)) ?_
                          refine eC_c ?_
                          refine Eq.trans (cW_V rfl rfl) ?_
                          refine cV_c (fun s_32 => ?_) (xh_nil rfl)
                          exact rn_retV rfl rfl
                        · refine Eq.trans (rn_vir (L' := [.ref a0, .ref a1]) (as := [.ref b_31]) (rest := []) rfl rfl rfl rfl rfl (Nat.le_of_ble_eq_true rfl) (by decide) (by decide)) ?_
                          refine eC_c ?_
                          refine Eq.trans (cW_V rfl rfl) ?_
                          refine cV_c (fun s_33 => ?_) (xh_nil rfl)
                          exact rn_retV rfl rfl
theorem in_X10_numberKind {B : Nat} (a0 : Nat) (x1 : Int32) (s : am_S) : cl_ tb_ct tb_mt B K_X10_numberKind [.ref a0, .int x1] s = rn_ tb_ct tb_mt B mm_X10_numberKind 0 [.ref a0, .int x1] [] s := cl_in rfl rfl rfl rfl
theorem dc_X10_numberKind_0 {B : Nat} (a0 : Nat) (x1 : Int32) (s : am_S) : rn_ tb_ct tb_mt B mm_X10_numberKind 0 [.ref a0, .int x1] [] s = sw x1.toInt (0) [eI (gI tb_ct s a0 14 2) (fun x_1 => some (.inl (some (.int x_1)), s)), eI (gI tb_ct s a0 14 3) (fun x_2 => some (.inl (some (.int x_2)), s)), eI (gI tb_ct s a0 14 4) (fun x_3 => some (.inl (some (.int x_3)), s))] (some (.inl (some (.int (0 : Int32))), s)) := by
  refine Eq.trans (rn_go 1 (pc' := 1) (L' := [.ref a0, .int x1]) (st' := [.int x1]) rfl) ?_
  refine Eq.trans (rn_tsw (L' := [.ref a0, .int x1]) (ts := [28, 33, 38]) (td := 43) rfl rfl (by decide) rfl rfl) ?_
  refine sw_c ?_ ?_
  · refine cons_c ?_ ?_
    · refine Eq.trans (rn_go 1 (pc' := 29) (L' := [.ref a0, .int x1]) (st' := [.ref a0]) rfl) ?_
      refine Eq.trans (rn_gI (L' := [.ref a0, .int x1]) rfl rfl rfl rfl) ?_
      refine eI_c (fun x_1 => ?_)
      exact rn_retI rfl rfl rfl
    refine cons_c ?_ ?_
    · refine Eq.trans (rn_go 1 (pc' := 34) (L' := [.ref a0, .int x1]) (st' := [.ref a0]) rfl) ?_
      refine Eq.trans (rn_gI (L' := [.ref a0, .int x1]) rfl rfl rfl rfl) ?_
      refine eI_c (fun x_2 => ?_)
      exact rn_retI rfl rfl rfl
    refine cons_c ?_ ?_
    · refine Eq.trans (rn_go 1 (pc' := 39) (L' := [.ref a0, .int x1]) (st' := [.ref a0]) rfl) ?_
      refine Eq.trans (rn_gI (L' := [.ref a0, .int x1]) rfl rfl rfl rfl) ?_
      refine eI_c (fun x_3 => ?_)
      exact rn_retI rfl rfl rfl
    rfl
  · refine Eq.trans (rn_go 1 (pc' := 44) (L' := [.ref a0, .int x1]) (st' := [.int (0 : Int32)]) rfl) ?_
    exact rn_retI rfl rfl rfl
theorem in_X11_init {B : Nat} (a0 : Nat) (s : am_S) : cl_ tb_ct tb_mt B K_X11_init [.ref a0] s = rn_ tb_ct tb_mt B mm_X11_init 0 [.ref a0] [] s := cl_in rfl rfl rfl rfl
theorem dc_X11_init_0 {B : Nat} (a0 : Nat) (s : am_S) : rn_ tb_ct tb_mt B mm_X11_init 0 [.ref a0] [] s = nwO tb_ct s 0 (fun b_1 s_2 => eC (am_cls s_2 b_1) 0 (cV (cl_ tb_ct tb_mt B K_X1_init [.ref b_1] s_2) (fun s_3 => eS (am_put tb_ct mm_X11_init B s_3 (.ref b_1) a0 9 6) (fun s_4 => some (.inl none, s_4))) xo)) := by
  refine Eq.trans (rn_go 1 (pc' := 1) (L' := [.ref a0]) (st' := [.ref a0]) rfl) ?_
  refine Eq.trans (rn_obj (L' := [.ref a0]) rfl rfl (Nat.le_of_ble_eq_true rfl)) ?_
  refine Eq.trans (rn_go 1 (pc' := 5) (L' := [.ref a0]) (st' := [.ref a0]) rfl) ?_
  refine Eq.trans (rn_new (L' := [.ref a0]) rfl rfl) ?_
  refine nwO_c (fun b_1 s_2 => ?_)
  refine Eq.trans (rn_go 1 (pc' := 9) (L' := [.ref a0]) (st' := [.ref b_1, .ref b_1, .ref a0]) rfl) ?_
  refine Eq.trans (rn_spe (L' := [.ref a0]) (as := []) (rest := [.ref b_1, .ref a0]) rfl rfl (by decide) rfl rfl rfl (Nat.le_of_ble_eq_true rfl) (by decide) (by decide)) ?_
  refine eC_c ?_
  refine Eq.trans (cW_V rfl rfl) ?_
  refine cV_c (fun s_3 => ?_) (xh_nil rfl)
  refine Eq.trans (rn_pF (L' := [.ref a0]) rfl rfl) ?_
  refine eS_c (fun s_4 => ?_)
  exact rn_retV rfl rfl
theorem in_X11_sees {B : Nat} (a0 : Nat) (a1 : Nat) (s : am_S) : cl_ tb_ct tb_mt B K_X11_sees [.ref a0, .ref a1] s = rn_ tb_ct tb_mt B mm_X11_sees 0 [.ref a0, .ref a1] [] s := cl_in rfl rfl rfl rfl
theorem dc_X11_sees_0 {B : Nat} (a0 : Nat) (a1 : Nat) (s : am_S) : rn_ tb_ct tb_mt B mm_X11_sees 0 [.ref a0, .ref a1] [] s = eI (gI tb_ct s a1 0 2) (fun x_1 => eI (gI tb_ct s a0 9 0) (fun x_2 => if x_1 < x_2 then some (.inl (some (.int (0 : Int32))), s) else eI (gI tb_ct s a1 0 2) (fun x_3 => eI (gI tb_ct s a0 9 1) (fun x_4 => if x_4 < x_3 then some (.inl (some (.int (0 : Int32))), s) else eI (gI tb_ct s a0 9 2) (fun x_5 => if x_5 = 0 then rn_ tb_ct tb_mt B mm_X11_sees 42 [.ref a0, .ref a1] [] s else eI (gI tb_ct s a0 9 2) (fun x_6 => eI (gI tb_ct s a1 0 1) (fun x_7 => if x_6 = (x_7 + (1 : Int32)) then rn_ tb_ct tb_mt B mm_X11_sees 42 [.ref a0, .ref a1] [] s else some (.inl (some (.int (0 : Int32))), s)))))))) := by
  refine Eq.trans (rn_go 1 (pc' := 1) (L' := [.ref a0, .ref a1]) (st' := [.ref a1]) rfl) ?_
  refine Eq.trans (rn_gI (L' := [.ref a0, .ref a1]) rfl rfl rfl rfl) ?_
  refine eI_c (fun x_1 => ?_)
  refine Eq.trans (rn_go 1 (pc' := 5) (L' := [.ref a0, .ref a1]) (st' := [.ref a0, .int x_1]) rfl) ?_
  refine Eq.trans (rn_gI (L' := [.ref a0, .ref a1]) rfl rfl rfl rfl) ?_
  refine eI_c (fun x_2 => ?_)
  refine Eq.trans (rn_iclt (L' := [.ref a0, .ref a1]) rfl rfl) ?_
  refine if_c ?_ ?_
  · refine Eq.trans (rn_go 1 (pc' := 47) (L' := [.ref a0, .ref a1]) (st' := [.int (0 : Int32)]) rfl) ?_
    exact rn_retI rfl rfl rfl
  · refine Eq.trans (rn_go 1 (pc' := 12) (L' := [.ref a0, .ref a1]) (st' := [.ref a1]) rfl) ?_
    refine Eq.trans (rn_gI (L' := [.ref a0, .ref a1]) rfl rfl rfl rfl) ?_
    refine eI_c (fun x_3 => ?_)
    refine Eq.trans (rn_go 1 (pc' := 16) (L' := [.ref a0, .ref a1]) (st' := [.ref a0, .int x_3]) rfl) ?_
    refine Eq.trans (rn_gI (L' := [.ref a0, .ref a1]) rfl rfl rfl rfl) ?_
    refine eI_c (fun x_4 => ?_)
    refine Eq.trans (rn_icgt (L' := [.ref a0, .ref a1]) rfl rfl) ?_
    refine if_c ?_ ?_
    · refine Eq.trans (rn_go 1 (pc' := 47) (L' := [.ref a0, .ref a1]) (st' := [.int (0 : Int32)]) rfl) ?_
      exact rn_retI rfl rfl rfl
    · refine Eq.trans (rn_go 1 (pc' := 23) (L' := [.ref a0, .ref a1]) (st' := [.ref a0]) rfl) ?_
      refine Eq.trans (rn_gI (L' := [.ref a0, .ref a1]) rfl rfl rfl rfl) ?_
      refine eI_c (fun x_5 => ?_)
      refine Eq.trans (rn_ifeq (L' := [.ref a0, .ref a1]) rfl rfl) ?_
      refine if_c ?_ ?_
      · rfl
      · refine Eq.trans (rn_go 1 (pc' := 30) (L' := [.ref a0, .ref a1]) (st' := [.ref a0]) rfl) ?_
        refine Eq.trans (rn_gI (L' := [.ref a0, .ref a1]) rfl rfl rfl rfl) ?_
        refine eI_c (fun x_6 => ?_)
        refine Eq.trans (rn_go 1 (pc' := 34) (L' := [.ref a0, .ref a1]) (st' := [.ref a1, .int x_6]) rfl) ?_
        refine Eq.trans (rn_gI (L' := [.ref a0, .ref a1]) rfl rfl rfl rfl) ?_
        refine eI_c (fun x_7 => ?_)
        refine Eq.trans (rn_go 2 (pc' := 39) (L' := [.ref a0, .ref a1]) (st' := [.int (x_7 + (1 : Int32)), .int x_6]) rfl) ?_
        refine Eq.trans (rn_icne (L' := [.ref a0, .ref a1]) rfl rfl) ?_
        refine if_c ?_ ?_
        · rfl
        · refine Eq.trans (rn_go 1 (pc' := 47) (L' := [.ref a0, .ref a1]) (st' := [.int (0 : Int32)]) rfl) ?_
          exact rn_retI rfl rfl rfl
theorem dc_X11_sees_42 {B : Nat} (w0 : Value) (w1 : Value) (s : am_S) : rn_ tb_ct tb_mt B mm_X11_sees 42 [w0, w1] [] s = some (.inl (some (.int (1 : Int32))), s) := by
  refine Eq.trans (rn_go 2 (pc' := 47) (L' := [am_un, am_un]) (st' := [.int (1 : Int32)]) rfl) ?_
  exact rn_retI rfl rfl rfl
theorem in_X11_waiting {B : Nat} (a0 : Nat) (a1 : Nat) (s : am_S) : cl_ tb_ct tb_mt B K_X11_waiting [.ref a0, .ref a1] s = rn_ tb_ct tb_mt B mm_X11_waiting 0 [.ref a0, .ref a1, am_un, am_un, am_un] [] s := cl_in rfl rfl rfl rfl
theorem dc_X11_waiting_0 {B : Nat} (a0 : Nat) (a1 : Nat) (s : am_S) : rn_ tb_ct tb_mt B mm_X11_waiting 0 [.ref a0, .ref a1, am_un, am_un, am_un] [] s = eI (gI tb_ct s a0 9 3) (fun x_1 => rn_ tb_ct tb_mt B mm_X11_waiting 7 [.ref a0, .ref a1, .int (0 : Int32), .int x_1, am_un] [] s) := by
  refine Eq.trans (rn_go 3 (pc' := 3) (L' := [.ref a0, .ref a1, .int (0 : Int32), am_un, am_un]) (st' := [.ref a0]) rfl) ?_
  refine Eq.trans (rn_gI (L' := [.ref a0, .ref a1, .int (0 : Int32), am_un, am_un]) rfl rfl rfl rfl) ?_
  refine eI_c (fun x_1 => ?_)
  exact rn_go 1 (pc' := 7) (L' := [.ref a0, .ref a1, .int (0 : Int32), .int x_1, am_un]) (st' := []) rfl
theorem dc_X11_waiting_7 {B : Nat} (a0 : Nat) (a1 : Nat) (x2 : Int32) (x3 : Int32) (s : am_S) : rn_ tb_ct tb_mt B mm_X11_waiting 7 [.ref a0, .ref a1, .int x2, .int x3, am_un] [] s = eI (gI tb_ct s a1 1 1) (fun x_1 => if x_1 ≤ x3 then some (.inl (some (.int x2)), s) else eC (am_cls s a1) 1 (cA (cl_ tb_ct tb_mt B K_X2_at [.ref a1, .int x3] s) (fun s_2 => rn_ tb_ct tb_mt B mm_X11_waiting 39 [.ref a0, .ref a1, .int x2, .int x3, va_rf none] [] s_2) (fun b_3 s_2 => eC (am_cls s_2 a0) 9 (cI (cl_ tb_ct tb_mt B K_X11_sees [.ref a0, .ref b_3] s_2) (fun x_5 s_4 => if x_5 = 0 then rn_ tb_ct tb_mt B mm_X11_waiting 39 [.ref a0, .ref a1, .int x2, .int x3, va_rf (some b_3)] [] s_4 else rn_ tb_ct tb_mt B mm_X11_waiting 39 [.ref a0, .ref a1, .int (x2 + (1 : Int32)), .int x3, va_rf (some b_3)] [] s_4) xo)) xo)) := by
  refine Eq.trans (rn_go 2 (pc' := 9) (L' := [.ref a0, .ref a1, .int x2, .int x3, am_un]) (st' := [.ref a1, .int x3]) rfl) ?_
  refine Eq.trans (rn_gI (L' := [.ref a0, .ref a1, .int x2, .int x3, am_un]) rfl rfl rfl rfl) ?_
  refine eI_c (fun x_1 => ?_)
  refine Eq.trans (rn_icge (L' := [.ref a0, .ref a1, .int x2, .int x3, am_un]) rfl rfl) ?_
  refine if_c ?_ ?_
  · refine Eq.trans (rn_go 1 (pc' := 46) (L' := [.ref a0, .ref a1, .int x2, .int x3, am_un]) (st' := [.int x2]) rfl) ?_
    exact rn_retI rfl rfl rfl
  · refine Eq.trans (rn_go 2 (pc' := 17) (L' := [.ref a0, .ref a1, .int x2, .int x3, am_un]) (st' := [.int x3, .ref a1]) rfl) ?_
    refine Eq.trans (rn_vir (L' := [.ref a0, .ref a1, .int x2, .int x3, am_un]) (as := [.int x3]) (rest := []) rfl rfl rfl rfl rfl (Nat.le_of_ble_eq_true rfl) (by decide) (by decide)) ?_
    refine eC_c ?_
    refine Eq.trans (cW_A rfl rfl rfl) ?_
    refine cA_c (fun s_2 => ?_) (fun b_3 s_2 => ?_) (xh_nil rfl)
    · exact rn_go 3 (pc' := 39) (L' := [.ref a0, .ref a1, .int x2, .int x3, va_rf none]) (st' := []) rfl
    · refine Eq.trans (rn_go 5 (pc' := 30) (L' := [.ref a0, .ref a1, .int x2, .int x3, .ref b_3]) (st' := [.ref b_3, .ref a0]) rfl) ?_
      refine Eq.trans (rn_vir (L' := [.ref a0, .ref a1, .int x2, .int x3, .ref b_3]) (as := [.ref b_3]) (rest := []) rfl rfl rfl rfl rfl (Nat.le_of_ble_eq_true rfl) (by decide) (by decide)) ?_
      refine eC_c ?_
      refine Eq.trans (cW_I rfl rfl rfl) ?_
      refine cI_c (fun x_5 s_4 => ?_) (xh_nil rfl)
      refine Eq.trans (rn_ifeq (L' := [.ref a0, .ref a1, .int x2, .int x3, .ref b_3]) rfl rfl) ?_
      refine if_c ?_ ?_
      · rfl
      · exact rn_go 1 (pc' := 39) (L' := [.ref a0, .ref a1, .int (x2 + (1 : Int32)), .int x3, va_rf (some b_3)]) (st' := []) rfl
theorem dc_X11_waiting_39 {B : Nat} (a0 : Nat) (a1 : Nat) (x2 : Int32) (x3 : Int32) (w4 : Value) (s : am_S) : rn_ tb_ct tb_mt B mm_X11_waiting 39 [.ref a0, .ref a1, .int x2, .int x3, w4] [] s = rn_ tb_ct tb_mt B mm_X11_waiting 7 [.ref a0, .ref a1, .int x2, .int (x3 + (1 : Int32)), am_un] [] s := by
  exact rn_go 2 (pc' := 7) (L' := [.ref a0, .ref a1, .int x2, .int (x3 + (1 : Int32)), am_un]) (st' := []) rfl
theorem in_X11_firstWaiting {B : Nat} (a0 : Nat) (a1 : Nat) (s : am_S) : cl_ tb_ct tb_mt B K_X11_firstWaiting [.ref a0, .ref a1] s = rn_ tb_ct tb_mt B mm_X11_firstWaiting 0 [.ref a0, .ref a1, am_un, am_un] [] s := cl_in rfl rfl rfl rfl
theorem dc_X11_firstWaiting_0 {B : Nat} (a0 : Nat) (a1 : Nat) (s : am_S) : rn_ tb_ct tb_mt B mm_X11_firstWaiting 0 [.ref a0, .ref a1, am_un, am_un] [] s = eI (gI tb_ct s a0 9 3) (fun x_1 => rn_ tb_ct tb_mt B mm_X11_firstWaiting 5 [.ref a0, .ref a1, .int x_1, am_un] [] s) := by
  refine Eq.trans (rn_go 1 (pc' := 1) (L' := [.ref a0, .ref a1, am_un, am_un]) (st' := [.ref a0]) rfl) ?_
  refine Eq.trans (rn_gI (L' := [.ref a0, .ref a1, am_un, am_un]) rfl rfl rfl rfl) ?_
  refine eI_c (fun x_1 => ?_)
  exact rn_go 1 (pc' := 5) (L' := [.ref a0, .ref a1, .int x_1, am_un]) (st' := []) rfl
theorem dc_X11_firstWaiting_5 {B : Nat} (a0 : Nat) (a1 : Nat) (x2 : Int32) (s : am_S) : rn_ tb_ct tb_mt B mm_X11_firstWaiting 5 [.ref a0, .ref a1, .int x2, am_un] [] s = eI (gI tb_ct s a1 1 1) (fun x_1 => if x_1 ≤ x2 then some (.inl (some (.int (-(1 : Int32)))), s) else eC (am_cls s a1) 1 (cA (cl_ tb_ct tb_mt B K_X2_at [.ref a1, .int x2] s) (fun s_2 => rn_ tb_ct tb_mt B mm_X11_firstWaiting 33 [.ref a0, .ref a1, .int x2, va_rf none] [] s_2) (fun b_3 s_2 => eC (am_cls s_2 a0) 9 (cI (cl_ tb_ct tb_mt B K_X11_sees [.ref a0, .ref b_3] s_2) (fun x_5 s_4 => if x_5 = 0 then rn_ tb_ct tb_mt B mm_X11_firstWaiting 33 [.ref a0, .ref a1, .int x2, va_rf (some b_3)] [] s_4 else some (.inl (some (.int x2)), s_4)) xo)) xo)) := by
  refine Eq.trans (rn_go 2 (pc' := 7) (L' := [.ref a0, .ref a1, .int x2, am_un]) (st' := [.ref a1, .int x2]) rfl) ?_
  refine Eq.trans (rn_gI (L' := [.ref a0, .ref a1, .int x2, am_un]) rfl rfl rfl rfl) ?_
  refine eI_c (fun x_1 => ?_)
  refine Eq.trans (rn_icge (L' := [.ref a0, .ref a1, .int x2, am_un]) rfl rfl) ?_
  refine if_c ?_ ?_
  · refine Eq.trans (rn_go 1 (pc' := 40) (L' := [.ref a0, .ref a1, .int x2, am_un]) (st' := [.int (-(1 : Int32))]) rfl) ?_
    exact rn_retI rfl rfl rfl
  · refine Eq.trans (rn_go 2 (pc' := 15) (L' := [.ref a0, .ref a1, .int x2, am_un]) (st' := [.int x2, .ref a1]) rfl) ?_
    refine Eq.trans (rn_vir (L' := [.ref a0, .ref a1, .int x2, am_un]) (as := [.int x2]) (rest := []) rfl rfl rfl rfl rfl (Nat.le_of_ble_eq_true rfl) (by decide) (by decide)) ?_
    refine eC_c ?_
    refine Eq.trans (cW_A rfl rfl rfl) ?_
    refine cA_c (fun s_2 => ?_) (fun b_3 s_2 => ?_) (xh_nil rfl)
    · exact rn_go 3 (pc' := 33) (L' := [.ref a0, .ref a1, .int x2, va_rf none]) (st' := []) rfl
    · refine Eq.trans (rn_go 5 (pc' := 25) (L' := [.ref a0, .ref a1, .int x2, .ref b_3]) (st' := [.ref b_3, .ref a0]) rfl) ?_
      refine Eq.trans (rn_vir (L' := [.ref a0, .ref a1, .int x2, .ref b_3]) (as := [.ref b_3]) (rest := []) rfl rfl rfl rfl rfl (Nat.le_of_ble_eq_true rfl) (by decide) (by decide)) ?_
      refine eC_c ?_
      refine Eq.trans (cW_I rfl rfl rfl) ?_
      refine cI_c (fun x_5 s_4 => ?_) (xh_nil rfl)
      refine Eq.trans (rn_ifeq (L' := [.ref a0, .ref a1, .int x2, .ref b_3]) rfl rfl) ?_
      refine if_c ?_ ?_
      · rfl
      · refine Eq.trans (rn_go 1 (pc' := 32) (L' := [.ref a0, .ref a1, .int x2, .ref b_3]) (st' := [.int x2]) rfl) ?_
        exact rn_retI rfl rfl rfl
theorem dc_X11_firstWaiting_33 {B : Nat} (a0 : Nat) (a1 : Nat) (x2 : Int32) (w3 : Value) (s : am_S) : rn_ tb_ct tb_mt B mm_X11_firstWaiting 33 [.ref a0, .ref a1, .int x2, w3] [] s = rn_ tb_ct tb_mt B mm_X11_firstWaiting 5 [.ref a0, .ref a1, .int (x2 + (1 : Int32)), am_un] [] s := by
  exact rn_go 2 (pc' := 5) (L' := [.ref a0, .ref a1, .int (x2 + (1 : Int32)), am_un]) (st' := []) rfl
theorem in_X11_earliest {B : Nat} (a0 : Nat) (a1 : Nat) (s : am_S) : cl_ tb_ct tb_mt B K_X11_earliest [.ref a0, .ref a1] s = rn_ tb_ct tb_mt B mm_X11_earliest 0 [.ref a0, .ref a1, am_un] [] s := cl_in rfl rfl rfl rfl
theorem dc_X11_earliest_0 {B : Nat} (a0 : Nat) (a1 : Nat) (s : am_S) : rn_ tb_ct tb_mt B mm_X11_earliest 0 [.ref a0, .ref a1, am_un] [] s = eC (am_cls s a0) 9 (cI (cl_ tb_ct tb_mt B K_X11_firstWaiting [.ref a0, .ref a1] s) (fun x_2 s_1 => eC (am_cls s_1 a1) 1 (cA (cl_ tb_ct tb_mt B K_X2_at [.ref a1, .int x_2] s_1) (fun s_3 => some (.inl (some (.int (-(1 : Int32)))), s_3)) (fun b_4 s_3 => eI (gI tb_ct s_3 b_4 0 0) (fun x_5 => some (.inl (some (.int x_5)), s_3))) xo)) xo) := by
  refine Eq.trans (rn_go 3 (pc' := 3) (L' := [.ref a0, .ref a1, am_un]) (st' := [.ref a1, .ref a0, .ref a1]) rfl) ?_
  refine Eq.trans (rn_vir (L' := [.ref a0, .ref a1, am_un]) (as := [.ref a1]) (rest := [.ref a1]) rfl rfl rfl rfl rfl (Nat.le_of_ble_eq_true rfl) (by decide) (by decide)) ?_
  refine eC_c ?_
  refine Eq.trans (cW_I rfl rfl rfl) ?_
  refine cI_c (fun x_2 s_1 => ?_) (xh_nil rfl)
  refine Eq.trans (rn_vir (L' := [.ref a0, .ref a1, am_un]) (as := [.int x_2]) (rest := []) rfl rfl rfl rfl rfl (Nat.le_of_ble_eq_true rfl) (by decide) (by decide)) ?_
  refine eC_c ?_
  refine Eq.trans (cW_A rfl rfl rfl) ?_
  refine cA_c (fun s_3 => ?_) (fun b_4 s_3 => ?_) (xh_nil rfl)
  · refine Eq.trans (rn_go 5 (pc' := 22) (L' := [.ref a0, .ref a1, .null]) (st' := [.int (-(1 : Int32))]) rfl) ?_
    exact rn_retI rfl rfl rfl
  · refine Eq.trans (rn_go 4 (pc' := 19) (L' := [.ref a0, .ref a1, .ref b_4]) (st' := [.ref b_4]) rfl) ?_
    refine Eq.trans (rn_gI (L' := [.ref a0, .ref a1, .ref b_4]) rfl rfl rfl rfl) ?_
    refine eI_c (fun x_5 => ?_)
    exact rn_retI rfl rfl rfl
theorem in_X11_number {B : Nat} (a0 : Nat) (x1 : Int32) (a2 : Nat) (s : am_S) : cl_ tb_ct tb_mt B K_X11_number [.ref a0, .int x1, .ref a2] s = rn_ tb_ct tb_mt B mm_X11_number 0 [.ref a0, .int x1, .ref a2] [] s := cl_in rfl rfl rfl rfl
theorem dc_X11_number_0 {B : Nat} (a0 : Nat) (x1 : Int32) (a2 : Nat) (s : am_S) : rn_ tb_ct tb_mt B mm_X11_number 0 [.ref a0, .int x1, .ref a2] [] s = sw x1.toInt (0) [eI (gI tb_ct s a0 9 0) (fun x_1 => some (.inl (some (.int x_1)), s)), eI (gI tb_ct s a0 9 1) (fun x_2 => some (.inl (some (.int x_2)), s)), eI (gI tb_ct s a0 9 2) (fun x_3 => some (.inl (some (.int x_3)), s)), eC (am_cls s a0) 9 (cI (cl_ tb_ct tb_mt B K_X11_waiting [.ref a0, .ref a2] s) (fun x_5 s_4 => some (.inl (some (.int x_5)), s_4)) xo), eI (gI tb_ct s a0 9 4) (fun x_6 => some (.inl (some (.int x_6)), s)), eC (am_cls s a0) 9 (cI (cl_ tb_ct tb_mt B K_X11_state [.ref a0, .ref a2] s) (fun x_8 s_7 => some (.inl (some (.int x_8)), s_7)) xo)] (eI (gI tb_ct s a0 9 5) (fun x_9 => some (.inl (some (.int x_9)), s))) := by
  refine Eq.trans (rn_go 1 (pc' := 1) (L' := [.ref a0, .int x1, .ref a2]) (st' := [.int x1]) rfl) ?_
  refine Eq.trans (rn_tsw (L' := [.ref a0, .int x1, .ref a2]) (ts := [40, 45, 50, 55, 61, 66]) (td := 72) rfl rfl (by decide) rfl rfl) ?_
  refine sw_c ?_ ?_
  · refine cons_c ?_ ?_
    · refine Eq.trans (rn_go 1 (pc' := 41) (L' := [.ref a0, .int x1, .ref a2]) (st' := [.ref a0]) rfl) ?_
      refine Eq.trans (rn_gI (L' := [.ref a0, .int x1, .ref a2]) rfl rfl rfl rfl) ?_
      refine eI_c (fun x_1 => ?_)
      exact rn_retI rfl rfl rfl
    refine cons_c ?_ ?_
    · refine Eq.trans (rn_go 1 (pc' := 46) (L' := [.ref a0, .int x1, .ref a2]) (st' := [.ref a0]) rfl) ?_
      refine Eq.trans (rn_gI (L' := [.ref a0, .int x1, .ref a2]) rfl rfl rfl rfl) ?_
      refine eI_c (fun x_2 => ?_)
      exact rn_retI rfl rfl rfl
    refine cons_c ?_ ?_
    · refine Eq.trans (rn_go 1 (pc' := 51) (L' := [.ref a0, .int x1, .ref a2]) (st' := [.ref a0]) rfl) ?_
      refine Eq.trans (rn_gI (L' := [.ref a0, .int x1, .ref a2]) rfl rfl rfl rfl) ?_
      refine eI_c (fun x_3 => ?_)
      exact rn_retI rfl rfl rfl
    refine cons_c ?_ ?_
    · refine Eq.trans (rn_go 2 (pc' := 57) (L' := [.ref a0, .int x1, .ref a2]) (st' := [.ref a2, .ref a0]) rfl) ?_
      refine Eq.trans (rn_vir (L' := [.ref a0, .int x1, .ref a2]) (as := [.ref a2]) (rest := []) rfl rfl rfl rfl rfl (Nat.le_of_ble_eq_true rfl) (by decide) (by decide)) ?_
      refine eC_c ?_
      refine Eq.trans (cW_I rfl rfl rfl) ?_
      refine cI_c (fun x_5 s_4 => ?_) (xh_nil rfl)
      exact rn_retI rfl rfl rfl
    refine cons_c ?_ ?_
    · refine Eq.trans (rn_go 1 (pc' := 62) (L' := [.ref a0, .int x1, .ref a2]) (st' := [.ref a0]) rfl) ?_
      refine Eq.trans (rn_gI (L' := [.ref a0, .int x1, .ref a2]) rfl rfl rfl rfl) ?_
      refine eI_c (fun x_6 => ?_)
      exact rn_retI rfl rfl rfl
    refine cons_c ?_ ?_
    · refine Eq.trans (rn_go 2 (pc' := 68) (L' := [.ref a0, .int x1, .ref a2]) (st' := [.ref a2, .ref a0]) rfl) ?_
      refine Eq.trans (rn_vir (L' := [.ref a0, .int x1, .ref a2]) (as := [.ref a2]) (rest := []) rfl rfl rfl rfl rfl (Nat.le_of_ble_eq_true rfl) (by decide) (by decide)) ?_
      refine eC_c ?_
      refine Eq.trans (cW_I rfl rfl rfl) ?_
      refine cI_c (fun x_8 s_7 => ?_) (xh_nil rfl)
      exact rn_retI rfl rfl rfl
    rfl
  · refine Eq.trans (rn_go 1 (pc' := 73) (L' := [.ref a0, .int x1, .ref a2]) (st' := [.ref a0]) rfl) ?_
    refine Eq.trans (rn_gI (L' := [.ref a0, .int x1, .ref a2]) rfl rfl rfl rfl) ?_
    refine eI_c (fun x_9 => ?_)
    exact rn_retI rfl rfl rfl
theorem in_X11_state {B : Nat} (a0 : Nat) (a1 : Nat) (s : am_S) : cl_ tb_ct tb_mt B K_X11_state [.ref a0, .ref a1] s = rn_ tb_ct tb_mt B mm_X11_state 0 [.ref a0, .ref a1] [] s := cl_in rfl rfl rfl rfl
theorem dc_X11_state_0 {B : Nat} (a0 : Nat) (a1 : Nat) (s : am_S) : rn_ tb_ct tb_mt B mm_X11_state 0 [.ref a0, .ref a1] [] s = eI (gI tb_ct s a0 9 5) (fun x_1 => if x_1 ≤ 0 then eC (am_cls s a0) 9 (cI (cl_ tb_ct tb_mt B K_X11_firstWaiting [.ref a0, .ref a1] s) (fun x_3 s_2 => if x_3 = (-(1 : Int32)) then some (.inl (some (.int (0 : Int32))), s_2) else some (.inl (some (.int (1 : Int32))), s_2)) xo) else some (.inl (some (.int (2 : Int32))), s)) := by
  refine Eq.trans (rn_go 1 (pc' := 1) (L' := [.ref a0, .ref a1]) (st' := [.ref a0]) rfl) ?_
  refine Eq.trans (rn_gI (L' := [.ref a0, .ref a1]) rfl rfl rfl rfl) ?_
  refine eI_c (fun x_1 => ?_)
  refine Eq.trans (rn_ifle (L' := [.ref a0, .ref a1]) rfl rfl) ?_
  refine if_c ?_ ?_
  · refine Eq.trans (rn_go 2 (pc' := 11) (L' := [.ref a0, .ref a1]) (st' := [.ref a1, .ref a0]) rfl) ?_
    refine Eq.trans (rn_vir (L' := [.ref a0, .ref a1]) (as := [.ref a1]) (rest := []) rfl rfl rfl rfl rfl (Nat.le_of_ble_eq_true rfl) (by decide) (by decide)) ?_
    refine eC_c ?_
    refine Eq.trans (cW_I rfl rfl rfl) ?_
    refine cI_c (fun x_3 s_2 => ?_) (xh_nil rfl)
    refine Eq.trans (rn_go 1 (pc' := 15) (L' := [.ref a0, .ref a1]) (st' := [.int (-(1 : Int32)), .int x_3]) rfl) ?_
    refine Eq.trans (rn_icne (L' := [.ref a0, .ref a1]) rfl rfl) ?_
    refine if_c ?_ ?_
    · refine Eq.trans (rn_go 2 (pc' := 23) (L' := [.ref a0, .ref a1]) (st' := [.int (0 : Int32)]) rfl) ?_
      exact rn_retI rfl rfl rfl
    · refine Eq.trans (rn_go 1 (pc' := 23) (L' := [.ref a0, .ref a1]) (st' := [.int (1 : Int32)]) rfl) ?_
      exact rn_retI rfl rfl rfl
  · refine Eq.trans (rn_go 1 (pc' := 8) (L' := [.ref a0, .ref a1]) (st' := [.int (2 : Int32)]) rfl) ?_
    exact rn_retI rfl rfl rfl
theorem in_X11_takeFirst {B : Nat} (a0 : Nat) (a1 : Nat) (s : am_S) : cl_ tb_ct tb_mt B K_X11_takeFirst [.ref a0, .ref a1] s = rn_ tb_ct tb_mt B mm_X11_takeFirst 0 [.ref a0, .ref a1, am_un, am_un] [] s := cl_in rfl rfl rfl rfl
theorem dc_X11_takeFirst_0 {B : Nat} (a0 : Nat) (a1 : Nat) (s : am_S) : rn_ tb_ct tb_mt B mm_X11_takeFirst 0 [.ref a0, .ref a1, am_un, am_un] [] s = eI (gI tb_ct s a0 9 5) (fun x_1 => if x_1 ≤ 0 then eC (am_cls s a0) 9 (cI (cl_ tb_ct tb_mt B K_X11_firstWaiting [.ref a0, .ref a1] s) (fun x_3 s_2 => eC (am_cls s_2 a1) 1 (cA (cl_ tb_ct tb_mt B K_X2_at [.ref a1, .int x_3] s_2) (fun s_4 => some (.inl (some (.int (-(1 : Int32)))), s_4)) (fun b_5 s_4 => eA (gA tb_ct s_4 a0 9 6) (none) (fun b_6 => eC (am_cls s_4 b_6) 0 (cV (cl_ tb_ct tb_mt B K_X1_copyFrom [.ref b_6, .ref b_5] s_4) (fun s_7 => eS (am_put tb_ct mm_X11_takeFirst B s_7 (.int (x_3 + (1 : Int32))) a0 9 3) (fun s_8 => eI (gI tb_ct s_8 a0 9 4) (fun x_9 => eS (am_put tb_ct mm_X11_takeFirst B s_8 (.int (x_9 + (1 : Int32))) a0 9 4) (fun s_10 => eI (gI tb_ct s_10 b_5 0 0) (fun x_11 => some (.inl (some (.int x_11)), s_10)))))) xo))) xo)) xo) else some (.inl (some (.int (-(5 : Int32)))), s)) := by
  refine Eq.trans (rn_go 1 (pc' := 1) (L' := [.ref a0, .ref a1, am_un, am_un]) (st' := [.ref a0]) rfl) ?_
  refine Eq.trans (rn_gI (L' := [.ref a0, .ref a1, am_un, am_un]) rfl rfl rfl rfl) ?_
  refine eI_c (fun x_1 => ?_)
  refine Eq.trans (rn_ifle (L' := [.ref a0, .ref a1, am_un, am_un]) rfl rfl) ?_
  refine if_c ?_ ?_
  · refine Eq.trans (rn_go 2 (pc' := 12) (L' := [.ref a0, .ref a1, am_un, am_un]) (st' := [.ref a1, .ref a0]) rfl) ?_
    refine Eq.trans (rn_vir (L' := [.ref a0, .ref a1, am_un, am_un]) (as := [.ref a1]) (rest := []) rfl rfl rfl rfl rfl (Nat.le_of_ble_eq_true rfl) (by decide) (by decide)) ?_
    refine eC_c ?_
    refine Eq.trans (cW_I rfl rfl rfl) ?_
    refine cI_c (fun x_3 s_2 => ?_) (xh_nil rfl)
    refine Eq.trans (rn_go 3 (pc' := 18) (L' := [.ref a0, .ref a1, .int x_3, am_un]) (st' := [.int x_3, .ref a1]) rfl) ?_
    refine Eq.trans (rn_vir (L' := [.ref a0, .ref a1, .int x_3, am_un]) (as := [.int x_3]) (rest := []) rfl rfl rfl rfl rfl (Nat.le_of_ble_eq_true rfl) (by decide) (by decide)) ?_
    refine eC_c ?_
    refine Eq.trans (cW_A rfl rfl rfl) ?_
    refine cA_c (fun s_4 => ?_) (fun b_5 s_4 => ?_) (xh_nil rfl)
    · refine Eq.trans (rn_go 4 (pc' := 27) (L' := [.ref a0, .ref a1, .int x_3, .null]) (st' := [.int (-(1 : Int32))]) rfl) ?_
      exact rn_retI rfl rfl rfl
    · refine Eq.trans (rn_go 4 (pc' := 29) (L' := [.ref a0, .ref a1, .int x_3, .ref b_5]) (st' := [.ref a0]) rfl) ?_
      refine Eq.trans (rn_gA (L' := [.ref a0, .ref a1, .int x_3, .ref b_5]) rfl rfl rfl rfl) ?_
      refine eA_c ?_ (fun b_6 => ?_)
      · refine Eq.trans (rn_go 1 (pc' := 33) (L' := [.ref a0, .ref a1, .int x_3, .ref b_5]) (st' := [.ref b_5, .null]) rfl) ?_
        exact rn_z rfl rfl
      · refine Eq.trans (rn_go 1 (pc' := 33) (L' := [.ref a0, .ref a1, .int x_3, .ref b_5]) (st' := [.ref b_5, .ref b_6]) rfl) ?_
        refine Eq.trans (rn_vir (L' := [.ref a0, .ref a1, .int x_3, .ref b_5]) (as := [.ref b_5]) (rest := []) rfl rfl rfl rfl rfl (Nat.le_of_ble_eq_true rfl) (by decide) (by decide)) ?_
        refine eC_c ?_
        refine Eq.trans (cW_V rfl rfl) ?_
        refine cV_c (fun s_7 => ?_) (xh_nil rfl)
        refine Eq.trans (rn_go 4 (pc' := 40) (L' := [.ref a0, .ref a1, .int x_3, .ref b_5]) (st' := [.int (x_3 + (1 : Int32)), .ref a0]) rfl) ?_
        refine Eq.trans (rn_pF (L' := [.ref a0, .ref a1, .int x_3, .ref b_5]) rfl rfl) ?_
        refine eS_c (fun s_8 => ?_)
        refine Eq.trans (rn_go 2 (pc' := 45) (L' := [.ref a0, .ref a1, .int x_3, .ref b_5]) (st' := [.ref a0, .ref a0]) rfl) ?_
        refine Eq.trans (rn_gI (L' := [.ref a0, .ref a1, .int x_3, .ref b_5]) rfl rfl rfl rfl) ?_
        refine eI_c (fun x_9 => ?_)
        refine Eq.trans (rn_go 2 (pc' := 50) (L' := [.ref a0, .ref a1, .int x_3, .ref b_5]) (st' := [.int (x_9 + (1 : Int32)), .ref a0]) rfl) ?_
        refine Eq.trans (rn_pF (L' := [.ref a0, .ref a1, .int x_3, .ref b_5]) rfl rfl) ?_
        refine eS_c (fun s_10 => ?_)
        refine Eq.trans (rn_go 1 (pc' := 54) (L' := [.ref a0, .ref a1, .int x_3, .ref b_5]) (st' := [.ref b_5]) rfl) ?_
        refine Eq.trans (rn_gI (L' := [.ref a0, .ref a1, .int x_3, .ref b_5]) rfl rfl rfl rfl) ?_
        refine eI_c (fun x_11 => ?_)
        exact rn_retI rfl rfl rfl
  · refine Eq.trans (rn_go 1 (pc' := 9) (L' := [.ref a0, .ref a1, am_un, am_un]) (st' := [.int (-(5 : Int32))]) rfl) ?_
    exact rn_retI rfl rfl rfl
theorem in_X11_tellMissed {B : Nat} (a0 : Nat) (s : am_S) : cl_ tb_ct tb_mt B K_X11_tellMissed [.ref a0] s = rn_ tb_ct tb_mt B mm_X11_tellMissed 0 [.ref a0, am_un] [] s := cl_in rfl rfl rfl rfl
theorem dc_X11_tellMissed_0 {B : Nat} (a0 : Nat) (s : am_S) : rn_ tb_ct tb_mt B mm_X11_tellMissed 0 [.ref a0, am_un] [] s = eI (gI tb_ct s a0 9 5) (fun x_1 => eS (am_put tb_ct mm_X11_tellMissed B s (.int (0 : Int32)) a0 9 5) (fun s_2 => some (.inl (some (.int x_1)), s_2))) := by
  refine Eq.trans (rn_go 1 (pc' := 1) (L' := [.ref a0, am_un]) (st' := [.ref a0]) rfl) ?_
  refine Eq.trans (rn_gI (L' := [.ref a0, am_un]) rfl rfl rfl rfl) ?_
  refine eI_c (fun x_1 => ?_)
  refine Eq.trans (rn_go 3 (pc' := 7) (L' := [.ref a0, .int x_1]) (st' := [.int (0 : Int32), .ref a0]) rfl) ?_
  refine Eq.trans (rn_pF (L' := [.ref a0, .int x_1]) rfl rfl) ?_
  refine eS_c (fun s_2 => ?_)
  refine Eq.trans (rn_go 1 (pc' := 11) (L' := [.ref a0, .int x_1]) (st' := [.int x_1]) rfl) ?_
  exact rn_retI rfl rfl rfl
theorem in_X11_beginAt {B : Nat} (a0 : Nat) (x1 : Int32) (s : am_S) : cl_ tb_ct tb_mt B K_X11_beginAt [.ref a0, .int x1] s = rn_ tb_ct tb_mt B mm_X11_beginAt 0 [.ref a0, .int x1] [] s := cl_in rfl rfl rfl rfl
theorem dc_X11_beginAt_0 {B : Nat} (a0 : Nat) (x1 : Int32) (s : am_S) : rn_ tb_ct tb_mt B mm_X11_beginAt 0 [.ref a0, .int x1] [] s = eS (am_put tb_ct mm_X11_beginAt B s (.int x1) a0 9 3) (fun s_1 => eS (am_put tb_ct mm_X11_beginAt B s_1 (.int (0 : Int32)) a0 9 5) (fun s_2 => some (.inl none, s_2))) := by
  refine Eq.trans (rn_go 2 (pc' := 2) (L' := [.ref a0, .int x1]) (st' := [.int x1, .ref a0]) rfl) ?_
  refine Eq.trans (rn_pF (L' := [.ref a0, .int x1]) rfl rfl) ?_
  refine eS_c (fun s_1 => ?_)
  refine Eq.trans (rn_go 2 (pc' := 7) (L' := [.ref a0, .int x1]) (st' := [.int (0 : Int32), .ref a0]) rfl) ?_
  refine Eq.trans (rn_pF (L' := [.ref a0, .int x1]) rfl rfl) ?_
  refine eS_c (fun s_2 => ?_)
  exact rn_retV rfl rfl
theorem in_X11_loseFirst {B : Nat} (a0 : Nat) (x1 : Int32) (a2 : Nat) (s : am_S) : cl_ tb_ct tb_mt B K_X11_loseFirst [.ref a0, .int x1, .ref a2] s = rn_ tb_ct tb_mt B mm_X11_loseFirst 0 [.ref a0, .int x1, .ref a2, am_un, am_un] [] s := cl_in rfl rfl rfl rfl
theorem dc_X11_loseFirst_0 {B : Nat} (a0 : Nat) (x1 : Int32) (a2 : Nat) (s : am_S) : rn_ tb_ct tb_mt B mm_X11_loseFirst 0 [.ref a0, .int x1, .ref a2, am_un, am_un] [] s = eI (gI tb_ct s a0 9 3) (fun x_1 => rn_ tb_ct tb_mt B mm_X11_loseFirst 5 [.ref a0, .int x1, .ref a2, .int x_1, am_un] [] s) := by
  refine Eq.trans (rn_go 1 (pc' := 1) (L' := [.ref a0, .int x1, .ref a2, am_un, am_un]) (st' := [.ref a0]) rfl) ?_
  refine Eq.trans (rn_gI (L' := [.ref a0, .int x1, .ref a2, am_un, am_un]) rfl rfl rfl rfl) ?_
  refine eI_c (fun x_1 => ?_)
  exact rn_go 1 (pc' := 5) (L' := [.ref a0, .int x1, .ref a2, .int x_1, am_un]) (st' := []) rfl
theorem dc_X11_loseFirst_5 {B : Nat} (a0 : Nat) (x1 : Int32) (a2 : Nat) (x3 : Int32) (s : am_S) : rn_ tb_ct tb_mt B mm_X11_loseFirst 5 [.ref a0, .int x1, .ref a2, .int x3, am_un] [] s = if x1 ≤ x3 then eI (gI tb_ct s a0 9 3) (fun x_1 => eS (am_put tb_ct mm_X11_loseFirst B s (.int (if (0 : Int32) < (x_1 - x1) then (x_1 - x1) else (0 : Int32))) a0 9 3) (fun s_2 => some (.inl none, s_2))) else eC (am_cls s a2) 1 (cA (cl_ tb_ct tb_mt B K_X2_at [.ref a2, .int x3] s) (fun s_3 => rn_ tb_ct tb_mt B mm_X11_loseFirst 41 [.ref a0, .int x1, .ref a2, .int x3, va_rf none] [] s_3) (fun b_4 s_3 => eC (am_cls s_3 a0) 9 (cI (cl_ tb_ct tb_mt B K_X11_sees [.ref a0, .ref b_4] s_3) (fun x_6 s_5 => if x_6 = 0 then rn_ tb_ct tb_mt B mm_X11_loseFirst 41 [.ref a0, .int x1, .ref a2, .int x3, va_rf (some b_4)] [] s_5 else eI (gI tb_ct s_5 a0 9 5) (fun x_7 => eS (am_put tb_ct mm_X11_loseFirst B s_5 (.int (x_7 + (1 : Int32))) a0 9 5) (fun s_8 => rn_ tb_ct tb_mt B mm_X11_loseFirst 41 [.ref a0, .int x1, .ref a2, .int x3, va_rf (some b_4)] [] s_8))) xo)) xo) := by
  refine Eq.trans (rn_go 2 (pc' := 7) (L' := [.ref a0, .int x1, .ref a2, .int x3, am_un]) (st' := [.int x1, .int x3]) rfl) ?_
  refine Eq.trans (rn_icge (L' := [.ref a0, .int x1, .ref a2, .int x3, am_un]) rfl rfl) ?_
  refine if_c ?_ ?_
  · refine Eq.trans (rn_go 3 (pc' := 50) (L' := [.ref a0, .int x1, .ref a2, .int x3, am_un]) (st' := [.ref a0, .int (0 : Int32), .ref a0]) rfl) ?_
    refine Eq.trans (rn_gI (L' := [.ref a0, .int x1, .ref a2, .int x3, am_un]) rfl rfl rfl rfl) ?_
    refine eI_c (fun x_1 => ?_)
    refine Eq.trans (rn_go 2 (pc' := 55) (L' := [.ref a0, .int x1, .ref a2, .int x3, am_un]) (st' := [.int (x_1 - x1), .int (0 : Int32), .ref a0]) rfl) ?_
    refine Eq.trans (rn_max (L' := [.ref a0, .int x1, .ref a2, .int x3, am_un]) rfl rfl (Nat.le_of_ble_eq_true rfl)) ?_
    refine Eq.trans (rn_pF (L' := [.ref a0, .int x1, .ref a2, .int x3, am_un]) rfl rfl) ?_
    refine eS_c (fun s_2 => ?_)
    exact rn_retV rfl rfl
  · refine Eq.trans (rn_go 2 (pc' := 12) (L' := [.ref a0, .int x1, .ref a2, .int x3, am_un]) (st' := [.int x3, .ref a2]) rfl) ?_
    refine Eq.trans (rn_vir (L' := [.ref a0, .int x1, .ref a2, .int x3, am_un]) (as := [.int x3]) (rest := []) rfl rfl rfl rfl rfl (Nat.le_of_ble_eq_true rfl) (by decide) (by decide)) ?_
    refine eC_c ?_
    refine Eq.trans (cW_A rfl rfl rfl) ?_
    refine cA_c (fun s_3 => ?_) (fun b_4 s_3 => ?_) (xh_nil rfl)
    · exact rn_go 3 (pc' := 41) (L' := [.ref a0, .int x1, .ref a2, .int x3, va_rf none]) (st' := []) rfl
    · refine Eq.trans (rn_go 5 (pc' := 25) (L' := [.ref a0, .int x1, .ref a2, .int x3, .ref b_4]) (st' := [.ref b_4, .ref a0]) rfl) ?_
      refine Eq.trans (rn_vir (L' := [.ref a0, .int x1, .ref a2, .int x3, .ref b_4]) (as := [.ref b_4]) (rest := []) rfl rfl rfl rfl rfl (Nat.le_of_ble_eq_true rfl) (by decide) (by decide)) ?_
      refine eC_c ?_
      refine Eq.trans (cW_I rfl rfl rfl) ?_
      refine cI_c (fun x_6 s_5 => ?_) (xh_nil rfl)
      refine Eq.trans (rn_ifeq (L' := [.ref a0, .int x1, .ref a2, .int x3, .ref b_4]) rfl rfl) ?_
      refine if_c ?_ ?_
      · rfl
      · refine Eq.trans (rn_go 2 (pc' := 33) (L' := [.ref a0, .int x1, .ref a2, .int x3, .ref b_4]) (st' := [.ref a0, .ref a0]) rfl) ?_
        refine Eq.trans (rn_gI (L' := [.ref a0, .int x1, .ref a2, .int x3, .ref b_4]) rfl rfl rfl rfl) ?_
        refine eI_c (fun x_7 => ?_)
        refine Eq.trans (rn_go 2 (pc' := 38) (L' := [.ref a0, .int x1, .ref a2, .int x3, .ref b_4]) (st' := [.int (x_7 + (1 : Int32)), .ref a0]) rfl) ?_
        refine Eq.trans (rn_pF (L' := [.ref a0, .int x1, .ref a2, .int x3, .ref b_4]) rfl rfl) ?_
        refine eS_c (fun s_8 => ?_)
        rfl
theorem dc_X11_loseFirst_41 {B : Nat} (a0 : Nat) (x1 : Int32) (a2 : Nat) (x3 : Int32) (w4 : Value) (s : am_S) : rn_ tb_ct tb_mt B mm_X11_loseFirst 41 [.ref a0, .int x1, .ref a2, .int x3, w4] [] s = rn_ tb_ct tb_mt B mm_X11_loseFirst 5 [.ref a0, .int x1, .ref a2, .int (x3 + (1 : Int32)), am_un] [] s := by
  exact rn_go 2 (pc' := 5) (L' := [.ref a0, .int x1, .ref a2, .int (x3 + (1 : Int32)), am_un]) (st' := []) rfl
theorem in_X11_copyFrom {B : Nat} (a0 : Nat) (a1 : Nat) (s : am_S) : cl_ tb_ct tb_mt B K_X11_copyFrom [.ref a0, .ref a1] s = rn_ tb_ct tb_mt B mm_X11_copyFrom 0 [.ref a0, .ref a1] [] s := cl_in rfl rfl rfl rfl
theorem dc_X11_copyFrom_0 {B : Nat} (a0 : Nat) (a1 : Nat) (s : am_S) : rn_ tb_ct tb_mt B mm_X11_copyFrom 0 [.ref a0, .ref a1] [] s = eI (gI tb_ct s a1 9 0) (fun x_1 => eS (am_put tb_ct mm_X11_copyFrom B s (.int x_1) a0 9 0) (fun s_2 => eI (gI tb_ct s_2 a1 9 1) (fun x_3 => eS (am_put tb_ct mm_X11_copyFrom B s_2 (.int x_3) a0 9 1) (fun s_4 => eI (gI tb_ct s_4 a1 9 2) (fun x_5 => eS (am_put tb_ct mm_X11_copyFrom B s_4 (.int x_5) a0 9 2) (fun s_6 => eI (gI tb_ct s_6 a1 9 3) (fun x_7 => eS (am_put tb_ct mm_X11_copyFrom B s_6 (.int x_7) a0 9 3) (fun s_8 => eI (gI tb_ct s_8 a1 9 4) (fun x_9 => eS (am_put tb_ct mm_X11_copyFrom B s_8 (.int x_9) a0 9 4) (fun s_10 => eI (gI tb_ct s_10 a1 9 5) (fun x_11 => eS (am_put tb_ct mm_X11_copyFrom B s_10 (.int x_11) a0 9 5) (fun s_12 => eA (gA tb_ct s_12 a0 9 6) (eA (gA tb_ct s_12 a1 9 6) (none) (fun b_14 => none)) (fun b_13 => eA (gA tb_ct s_12 a1 9 6) (eC (am_cls s_12 b_13) 0 (cV (cl_ tb_ct tb_mt B K_X1_copyFrom [.ref b_13, .null] s_12) (fun s_16 => some (.inl none, s_16)) xo)) (fun b_15 => eC (am_cls s_12 b_13) 0 (cV (cl_ tb_ct tb_mt B K_X1_copyFrom [.ref b_13, .ref b_15] s_12) (fun s_17 => some (.inl none, s_17)) xo))))))))))))))) := by
  refine Eq.trans (rn_go 2 (pc' := 2) (L' := [.ref a0, .ref a1]) (st' := [.ref a1, .ref a0]) rfl) ?_
  refine Eq.trans (rn_gI (L' := [.ref a0, .ref a1]) rfl rfl rfl rfl) ?_
  refine eI_c (fun x_1 => ?_)
  refine Eq.trans (rn_pF (L' := [.ref a0, .ref a1]) rfl rfl) ?_
  refine eS_c (fun s_2 => ?_)
  refine Eq.trans (rn_go 2 (pc' := 10) (L' := [.ref a0, .ref a1]) (st' := [.ref a1, .ref a0]) rfl) ?_
  refine Eq.trans (rn_gI (L' := [.ref a0, .ref a1]) rfl rfl rfl rfl) ?_
  refine eI_c (fun x_3 => ?_)
  refine Eq.trans (rn_pF (L' := [.ref a0, .ref a1]) rfl rfl) ?_
  refine eS_c (fun s_4 => ?_)
  refine Eq.trans (rn_go 2 (pc' := 18) (L' := [.ref a0, .ref a1]) (st' := [.ref a1, .ref a0]) rfl) ?_
  refine Eq.trans (rn_gI (L' := [.ref a0, .ref a1]) rfl rfl rfl rfl) ?_
  refine eI_c (fun x_5 => ?_)
  refine Eq.trans (rn_pF (L' := [.ref a0, .ref a1]) rfl rfl) ?_
  refine eS_c (fun s_6 => ?_)
  refine Eq.trans (rn_go 2 (pc' := 26) (L' := [.ref a0, .ref a1]) (st' := [.ref a1, .ref a0]) rfl) ?_
  refine Eq.trans (rn_gI (L' := [.ref a0, .ref a1]) rfl rfl rfl rfl) ?_
  refine eI_c (fun x_7 => ?_)
  refine Eq.trans (rn_pF (L' := [.ref a0, .ref a1]) rfl rfl) ?_
  refine eS_c (fun s_8 => ?_)
  refine Eq.trans (rn_go 2 (pc' := 34) (L' := [.ref a0, .ref a1]) (st' := [.ref a1, .ref a0]) rfl) ?_
  refine Eq.trans (rn_gI (L' := [.ref a0, .ref a1]) rfl rfl rfl rfl) ?_
  refine eI_c (fun x_9 => ?_)
  refine Eq.trans (rn_pF (L' := [.ref a0, .ref a1]) rfl rfl) ?_
  refine eS_c (fun s_10 => ?_)
  refine Eq.trans (rn_go 2 (pc' := 42) (L' := [.ref a0, .ref a1]) (st' := [.ref a1, .ref a0]) rfl) ?_
  refine Eq.trans (rn_gI (L' := [.ref a0, .ref a1]) rfl rfl rfl rfl) ?_
  refine eI_c (fun x_11 => ?_)
  refine Eq.trans (rn_pF (L' := [.ref a0, .ref a1]) rfl rfl) ?_
  refine eS_c (fun s_12 => ?_)
  refine Eq.trans (rn_go 1 (pc' := 49) (L' := [.ref a0, .ref a1]) (st' := [.ref a0]) rfl) ?_
  refine Eq.trans (rn_gA (L' := [.ref a0, .ref a1]) rfl rfl rfl rfl) ?_
  refine eA_c ?_ (fun b_13 => ?_)
  · refine Eq.trans (rn_go 1 (pc' := 53) (L' := [.ref a0, .ref a1]) (st' := [.ref a1, .null]) rfl) ?_
    refine Eq.trans (rn_gA (L' := [.ref a0, .ref a1]) rfl rfl rfl rfl) ?_
    refine eA_c ?_ (fun b_14 => ?_)
    · exact rn_z rfl rfl
    · exact rn_z rfl rfl
  · refine Eq.trans (rn_go 1 (pc' := 53) (L' := [.ref a0, .ref a1]) (st' := [.ref a1, .ref b_13]) rfl) ?_
    refine Eq.trans (rn_gA (L' := [.ref a0, .ref a1]) rfl rfl rfl rfl) ?_
    refine eA_c ?_ (fun b_15 => ?_)
    · refine Eq.trans (rn_vir (L' := [.ref a0, .ref a1]) (as := [.null]) (rest := []) rfl rfl rfl rfl rfl (Nat.le_of_ble_eq_true rfl) (by decide) (by decide)) ?_
      refine eC_c ?_
      refine Eq.trans (cW_V rfl rfl) ?_
      refine cV_c (fun s_16 => ?_) (xh_nil rfl)
      exact rn_retV rfl rfl
    · refine Eq.trans (rn_vir (L' := [.ref a0, .ref a1]) (as := [.ref b_15]) (rest := []) rfl rfl rfl rfl rfl (Nat.le_of_ble_eq_true rfl) (by decide) (by decide)) ?_
      refine eC_c ?_
      refine Eq.trans (cW_V rfl rfl) ?_
      refine cV_c (fun s_17 => ?_) (xh_nil rfl)
      exact rn_retV rfl rfl
