theorem in_L_count {B : Nat} (a0 : Nat) (x1 : Int32) (a2 : Nat) (s : am_S) : cl_ tb_ct tb_mt B K_L_count [.ref a0, .int x1, .ref a2] s = rn_ tb_ct tb_mt B mm_L_count 0 [.ref a0, .int x1, .ref a2, am_un] [] s := cl_in rfl rfl rfl rfl
theorem dc_L_count_0 {B : Nat} (a0 : Nat) (x1 : Int32) (a2 : Nat) (s : am_S) : rn_ tb_ct tb_mt B mm_L_count 0 [.ref a0, .int x1, .ref a2, am_un] [] s = eC (am_cls s a0) 10 (cI (cl_ tb_ct tb_mt B K_X12_count [.ref a0, .int x1] s) (fun x_2 s_1 => eS (wJ B s_1 a2 (0 : Int32) x_2.toInt64) (fun s_3 => some (.inl (some (.int (0 : Int32))), s_3))) (xh tb_ct tb_mt B mm_L_count 4 [.ref a0, .int x1, .ref a2, am_un])) := by
  refine Eq.trans (rn_go 4 (pc' := 4) (L' := [.ref a0, .int x1, .ref a2, am_un]) (st' := [.int x1, .ref a0, .int (0 : Int32), .ref a2]) rfl) ?_
  refine Eq.trans (rn_vir (L' := [.ref a0, .int x1, .ref a2, am_un]) (as := [.int x1]) (rest := [.int (0 : Int32), .ref a2]) rfl rfl rfl rfl rfl (Nat.le_of_ble_eq_true rfl) (by decide) (by decide)) ?_
  refine eC_c ?_
  refine Eq.trans (cW_I rfl rfl rfl) ?_
  refine cI_c (fun x_2 s_1 => ?_) rfl
  refine Eq.trans (rn_go 1 (pc' := 8) (L' := [.ref a0, .int x1, .ref a2, am_un]) (st' := [.long x_2.toInt64, .int (0 : Int32), .ref a2]) rfl) ?_
  refine Eq.trans (rn_wJ (L' := [.ref a0, .int x1, .ref a2, am_un]) rfl rfl) ?_
  refine eS_c (fun s_3 => ?_)
  refine Eq.trans (rn_go 2 (pc' := 16) (L' := [.ref a0, .int x1, .ref a2, am_un]) (st' := [.int (0 : Int32)]) rfl) ?_
  exact rn_retI rfl rfl rfl
theorem in_L_get {B : Nat} (a0 : Nat) (x1 : Int32) (x2 : Int32) (a3 : Nat) (s : am_S) : cl_ tb_ct tb_mt B K_L_get [.ref a0, .int x1, .int x2, .ref a3] s = rn_ tb_ct tb_mt B mm_L_get 0 [.ref a0, .int x1, .int x2, .ref a3, am_un] [] s := cl_in rfl rfl rfl rfl
theorem dc_L_get_0 {B : Nat} (a0 : Nat) (x1 : Int32) (x2 : Int32) (a3 : Nat) (s : am_S) : rn_ tb_ct tb_mt B mm_L_get 0 [.ref a0, .int x1, .int x2, .ref a3, am_un] [] s = eC (am_cls s a0) 10 (cI (cl_ tb_ct tb_mt B K_X12_get [.ref a0, .int x1, .int x2] s) (fun x_2 s_1 => eS (wJ B s_1 a3 (0 : Int32) x_2.toInt64) (fun s_3 => some (.inl (some (.int (0 : Int32))), s_3))) (xh tb_ct tb_mt B mm_L_get 5 [.ref a0, .int x1, .int x2, .ref a3, am_un])) := by
  refine Eq.trans (rn_go 5 (pc' := 5) (L' := [.ref a0, .int x1, .int x2, .ref a3, am_un]) (st' := [.int x2, .int x1, .ref a0, .int (0 : Int32), .ref a3]) rfl) ?_
  refine Eq.trans (rn_vir (L' := [.ref a0, .int x1, .int x2, .ref a3, am_un]) (as := [.int x1, .int x2]) (rest := [.int (0 : Int32), .ref a3]) rfl rfl rfl rfl rfl (Nat.le_of_ble_eq_true rfl) (by decide) (by decide)) ?_
  refine eC_c ?_
  refine Eq.trans (cW_I rfl rfl rfl) ?_
  refine cI_c (fun x_2 s_1 => ?_) rfl
  refine Eq.trans (rn_go 1 (pc' := 9) (L' := [.ref a0, .int x1, .int x2, .ref a3, am_un]) (st' := [.long x_2.toInt64, .int (0 : Int32), .ref a3]) rfl) ?_
  refine Eq.trans (rn_wJ (L' := [.ref a0, .int x1, .int x2, .ref a3, am_un]) rfl rfl) ?_
  refine eS_c (fun s_3 => ?_)
  refine Eq.trans (rn_go 2 (pc' := 18) (L' := [.ref a0, .int x1, .int x2, .ref a3, am_un]) (st' := [.int (0 : Int32)]) rfl) ?_
  exact rn_retI rfl rfl rfl
theorem in_L_getAt {B : Nat} (a0 : Nat) (x1 : Int32) (x2 : Int32) (a3 : Nat) (s : am_S) : cl_ tb_ct tb_mt B K_L_getAt [.ref a0, .int x1, .int x2, .ref a3] s = rn_ tb_ct tb_mt B mm_L_getAt 0 [.ref a0, .int x1, .int x2, .ref a3, am_un] [] s := cl_in rfl rfl rfl rfl
theorem dc_L_getAt_0 {B : Nat} (a0 : Nat) (x1 : Int32) (x2 : Int32) (a3 : Nat) (s : am_S) : rn_ tb_ct tb_mt B mm_L_getAt 0 [.ref a0, .int x1, .int x2, .ref a3, am_un] [] s = eC (am_cls s a0) 10 (cI (cl_ tb_ct tb_mt B K_X12_getAt [.ref a0, .int x1, .int x2] s) (fun x_2 s_1 => eS (wJ B s_1 a3 (0 : Int32) x_2.toInt64) (fun s_3 => some (.inl (some (.int (0 : Int32))), s_3))) (xh tb_ct tb_mt B mm_L_getAt 5 [.ref a0, .int x1, .int x2, .ref a3, am_un])) := by
  refine Eq.trans (rn_go 5 (pc' := 5) (L' := [.ref a0, .int x1, .int x2, .ref a3, am_un]) (st' := [.int x2, .int x1, .ref a0, .int (0 : Int32), .ref a3]) rfl) ?_
  refine Eq.trans (rn_vir (L' := [.ref a0, .int x1, .int x2, .ref a3, am_un]) (as := [.int x1, .int x2]) (rest := [.int (0 : Int32), .ref a3]) rfl rfl rfl rfl rfl (Nat.le_of_ble_eq_true rfl) (by decide) (by decide)) ?_
  refine eC_c ?_
  refine Eq.trans (cW_I rfl rfl rfl) ?_
  refine cI_c (fun x_2 s_1 => ?_) rfl
  refine Eq.trans (rn_go 1 (pc' := 9) (L' := [.ref a0, .int x1, .int x2, .ref a3, am_un]) (st' := [.long x_2.toInt64, .int (0 : Int32), .ref a3]) rfl) ?_
  refine Eq.trans (rn_wJ (L' := [.ref a0, .int x1, .int x2, .ref a3, am_un]) rfl rfl) ?_
  refine eS_c (fun s_3 => ?_)
  refine Eq.trans (rn_go 2 (pc' := 18) (L' := [.ref a0, .int x1, .int x2, .ref a3, am_un]) (st' := [.int (0 : Int32)]) rfl) ?_
  exact rn_retI rfl rfl rfl
theorem in_L_keysAt {B : Nat} (a0 : Nat) (x1 : Int32) (x2 : Int32) (x3 : Int32) (a4 : Nat) (s : am_S) : cl_ tb_ct tb_mt B K_L_keysAt [.ref a0, .int x1, .int x2, .int x3, .ref a4] s = rn_ tb_ct tb_mt B mm_L_keysAt 0 [.ref a0, .int x1, .int x2, .int x3, .ref a4, am_un] [] s := cl_in rfl rfl rfl rfl
theorem dc_L_keysAt_0 {B : Nat} (a0 : Nat) (x1 : Int32) (x2 : Int32) (x3 : Int32) (a4 : Nat) (s : am_S) : rn_ tb_ct tb_mt B mm_L_keysAt 0 [.ref a0, .int x1, .int x2, .int x3, .ref a4, am_un] [] s = eC (am_cls s a0) 10 (cI (cl_ tb_ct tb_mt B K_X12_keysAt [.ref a0, .int x1, .int x2, .int x3] s) (fun x_2 s_1 => eS (wJ B s_1 a4 (0 : Int32) x_2.toInt64) (fun s_3 => some (.inl (some (.int (0 : Int32))), s_3))) (xh tb_ct tb_mt B mm_L_keysAt 7 [.ref a0, .int x1, .int x2, .int x3, .ref a4, am_un])) := by
  refine Eq.trans (rn_go 6 (pc' := 7) (L' := [.ref a0, .int x1, .int x2, .int x3, .ref a4, am_un]) (st' := [.int x3, .int x2, .int x1, .ref a0, .int (0 : Int32), .ref a4]) rfl) ?_
  refine Eq.trans (rn_vir (L' := [.ref a0, .int x1, .int x2, .int x3, .ref a4, am_un]) (as := [.int x1, .int x2, .int x3]) (rest := [.int (0 : Int32), .ref a4]) rfl rfl rfl rfl rfl (Nat.le_of_ble_eq_true rfl) (by decide) (by decide)) ?_
  refine eC_c ?_
  refine Eq.trans (cW_I rfl rfl rfl) ?_
  refine cI_c (fun x_2 s_1 => ?_) rfl
  refine Eq.trans (rn_go 1 (pc' := 11) (L' := [.ref a0, .int x1, .int x2, .int x3, .ref a4, am_un]) (st' := [.long x_2.toInt64, .int (0 : Int32), .ref a4]) rfl) ?_
  refine Eq.trans (rn_wJ (L' := [.ref a0, .int x1, .int x2, .int x3, .ref a4, am_un]) rfl rfl) ?_
  refine eS_c (fun s_3 => ?_)
  refine Eq.trans (rn_go 2 (pc' := 20) (L' := [.ref a0, .int x1, .int x2, .int x3, .ref a4, am_un]) (st' := [.int (0 : Int32)]) rfl) ?_
  exact rn_retI rfl rfl rfl
theorem in_L_keyAt {B : Nat} (a0 : Nat) (x1 : Int32) (x2 : Int32) (x3 : Int32) (x4 : Int32) (a5 : Nat) (s : am_S) : cl_ tb_ct tb_mt B K_L_keyAt [.ref a0, .int x1, .int x2, .int x3, .int x4, .ref a5] s = rn_ tb_ct tb_mt B mm_L_keyAt 0 [.ref a0, .int x1, .int x2, .int x3, .int x4, .ref a5, am_un] [] s := cl_in rfl rfl rfl rfl
theorem dc_L_keyAt_0 {B : Nat} (a0 : Nat) (x1 : Int32) (x2 : Int32) (x3 : Int32) (x4 : Int32) (a5 : Nat) (s : am_S) : rn_ tb_ct tb_mt B mm_L_keyAt 0 [.ref a0, .int x1, .int x2, .int x3, .int x4, .ref a5, am_un] [] s = eC (am_cls s a0) 10 (cI (cl_ tb_ct tb_mt B K_X12_keyAt [.ref a0, .int x1, .int x2, .int x3, .int x4] s) (fun x_2 s_1 => eS (wJ B s_1 a5 (0 : Int32) x_2.toInt64) (fun s_3 => some (.inl (some (.int (0 : Int32))), s_3))) (xh tb_ct tb_mt B mm_L_keyAt 9 [.ref a0, .int x1, .int x2, .int x3, .int x4, .ref a5, am_un])) := by
  refine Eq.trans (rn_go 7 (pc' := 9) (L' := [.ref a0, .int x1, .int x2, .int x3, .int x4, .ref a5, am_un]) (st' := [.int x4, .int x3, .int x2, .int x1, .ref a0, .int (0 : Int32), .ref a5]) rfl) ?_
  refine Eq.trans (rn_vir (L' := [.ref a0, .int x1, .int x2, .int x3, .int x4, .ref a5, am_un]) (as := [.int x1, .int x2, .int x3, .int x4]) (rest := [.int (0 : Int32), .ref a5]) rfl rfl rfl rfl rfl (Nat.le_of_ble_eq_true rfl) (by decide) (by decide)) ?_
  refine eC_c ?_
  refine Eq.trans (cW_I rfl rfl rfl) ?_
  refine cI_c (fun x_2 s_1 => ?_) rfl
  refine Eq.trans (rn_go 1 (pc' := 13) (L' := [.ref a0, .int x1, .int x2, .int x3, .int x4, .ref a5, am_un]) (st' := [.long x_2.toInt64, .int (0 : Int32), .ref a5]) rfl) ?_
  refine Eq.trans (rn_wJ (L' := [.ref a0, .int x1, .int x2, .int x3, .int x4, .ref a5, am_un]) rfl rfl) ?_
  refine eS_c (fun s_3 => ?_)
  refine Eq.trans (rn_go 2 (pc' := 22) (L' := [.ref a0, .int x1, .int x2, .int x3, .int x4, .ref a5, am_un]) (st' := [.int (0 : Int32)]) rfl) ?_
  exact rn_retI rfl rfl rfl
theorem in_L_sumAt {B : Nat} (a0 : Nat) (x1 : Int32) (x2 : Int32) (x3 : Int32) (a4 : Nat) (s : am_S) : cl_ tb_ct tb_mt B K_L_sumAt [.ref a0, .int x1, .int x2, .int x3, .ref a4] s = rn_ tb_ct tb_mt B mm_L_sumAt 0 [.ref a0, .int x1, .int x2, .int x3, .ref a4, am_un] [] s := cl_in rfl rfl rfl rfl
theorem dc_L_sumAt_0 {B : Nat} (a0 : Nat) (x1 : Int32) (x2 : Int32) (x3 : Int32) (a4 : Nat) (s : am_S) : rn_ tb_ct tb_mt B mm_L_sumAt 0 [.ref a0, .int x1, .int x2, .int x3, .ref a4, am_un] [] s = eC (am_cls s a0) 10 (cJ (cl_ tb_ct tb_mt B K_X12_sumAt [.ref a0, .int x1, .int x2, .int x3] s) (fun x_2 s_1 => eS (wJ B s_1 a4 (0 : Int32) x_2) (fun s_3 => some (.inl (some (.int (0 : Int32))), s_3))) (xh tb_ct tb_mt B mm_L_sumAt 7 [.ref a0, .int x1, .int x2, .int x3, .ref a4, am_un])) := by
  refine Eq.trans (rn_go 6 (pc' := 7) (L' := [.ref a0, .int x1, .int x2, .int x3, .ref a4, am_un]) (st' := [.int x3, .int x2, .int x1, .ref a0, .int (0 : Int32), .ref a4]) rfl) ?_
  refine Eq.trans (rn_vir (L' := [.ref a0, .int x1, .int x2, .int x3, .ref a4, am_un]) (as := [.int x1, .int x2, .int x3]) (rest := [.int (0 : Int32), .ref a4]) rfl rfl rfl rfl rfl (Nat.le_of_ble_eq_true rfl) (by decide) (by decide)) ?_
  refine eC_c ?_
  refine Eq.trans (cW_J rfl rfl) ?_
  refine cJ_c (fun x_2 s_1 => ?_) rfl
  refine Eq.trans (rn_wJ (L' := [.ref a0, .int x1, .int x2, .int x3, .ref a4, am_un]) rfl rfl) ?_
  refine eS_c (fun s_3 => ?_)
  refine Eq.trans (rn_go 2 (pc' := 19) (L' := [.ref a0, .int x1, .int x2, .int x3, .ref a4, am_un]) (st' := [.int (0 : Int32)]) rfl) ?_
  exact rn_retI rfl rfl rfl
theorem in_L_changed {B : Nat} (a0 : Nat) (x1 : Int32) (x2 : Int32) (a3 : Nat) (s : am_S) : cl_ tb_ct tb_mt B K_L_changed [.ref a0, .int x1, .int x2, .ref a3] s = rn_ tb_ct tb_mt B mm_L_changed 0 [.ref a0, .int x1, .int x2, .ref a3, am_un] [] s := cl_in rfl rfl rfl rfl
theorem dc_L_changed_0 {B : Nat} (a0 : Nat) (x1 : Int32) (x2 : Int32) (a3 : Nat) (s : am_S) : rn_ tb_ct tb_mt B mm_L_changed 0 [.ref a0, .int x1, .int x2, .ref a3, am_un] [] s = eC (am_cls s a0) 10 (cI (cl_ tb_ct tb_mt B K_X12_changed [.ref a0, .int x1, .int x2] s) (fun x_2 s_1 => eS (wJ B s_1 a3 (0 : Int32) x_2.toInt64) (fun s_3 => some (.inl (some (.int (0 : Int32))), s_3))) (xh tb_ct tb_mt B mm_L_changed 5 [.ref a0, .int x1, .int x2, .ref a3, am_un])) := by
  refine Eq.trans (rn_go 5 (pc' := 5) (L' := [.ref a0, .int x1, .int x2, .ref a3, am_un]) (st' := [.int x2, .int x1, .ref a0, .int (0 : Int32), .ref a3]) rfl) ?_
  refine Eq.trans (rn_vir (L' := [.ref a0, .int x1, .int x2, .ref a3, am_un]) (as := [.int x1, .int x2]) (rest := [.int (0 : Int32), .ref a3]) rfl rfl rfl rfl rfl (Nat.le_of_ble_eq_true rfl) (by decide) (by decide)) ?_
  refine eC_c ?_
  refine Eq.trans (cW_I rfl rfl rfl) ?_
  refine cI_c (fun x_2 s_1 => ?_) rfl
  refine Eq.trans (rn_go 1 (pc' := 9) (L' := [.ref a0, .int x1, .int x2, .ref a3, am_un]) (st' := [.long x_2.toInt64, .int (0 : Int32), .ref a3]) rfl) ?_
  refine Eq.trans (rn_wJ (L' := [.ref a0, .int x1, .int x2, .ref a3, am_un]) rfl rfl) ?_
  refine eS_c (fun s_3 => ?_)
  refine Eq.trans (rn_go 2 (pc' := 18) (L' := [.ref a0, .int x1, .int x2, .ref a3, am_un]) (st' := [.int (0 : Int32)]) rfl) ?_
  exact rn_retI rfl rfl rfl
theorem in_L_digest {B : Nat} (a0 : Nat) (x1 : Int32) (a2 : Nat) (s : am_S) : cl_ tb_ct tb_mt B K_L_digest [.ref a0, .int x1, .ref a2] s = rn_ tb_ct tb_mt B mm_L_digest 0 [.ref a0, .int x1, .ref a2, am_un] [] s := cl_in rfl rfl rfl rfl
theorem dc_L_digest_0 {B : Nat} (a0 : Nat) (x1 : Int32) (a2 : Nat) (s : am_S) : rn_ tb_ct tb_mt B mm_L_digest 0 [.ref a0, .int x1, .ref a2, am_un] [] s = eC (am_cls s a0) 10 (cI (cl_ tb_ct tb_mt B K_X12_digest [.ref a0, .int x1] s) (fun x_2 s_1 => eS (wJ B s_1 a2 (0 : Int32) x_2.toInt64) (fun s_3 => some (.inl (some (.int (0 : Int32))), s_3))) (xh tb_ct tb_mt B mm_L_digest 4 [.ref a0, .int x1, .ref a2, am_un])) := by
  refine Eq.trans (rn_go 4 (pc' := 4) (L' := [.ref a0, .int x1, .ref a2, am_un]) (st' := [.int x1, .ref a0, .int (0 : Int32), .ref a2]) rfl) ?_
  refine Eq.trans (rn_vir (L' := [.ref a0, .int x1, .ref a2, am_un]) (as := [.int x1]) (rest := [.int (0 : Int32), .ref a2]) rfl rfl rfl rfl rfl (Nat.le_of_ble_eq_true rfl) (by decide) (by decide)) ?_
  refine eC_c ?_
  refine Eq.trans (cW_I rfl rfl rfl) ?_
  refine cI_c (fun x_2 s_1 => ?_) rfl
  refine Eq.trans (rn_go 1 (pc' := 8) (L' := [.ref a0, .int x1, .ref a2, am_un]) (st' := [.long x_2.toInt64, .int (0 : Int32), .ref a2]) rfl) ?_
  refine Eq.trans (rn_wJ (L' := [.ref a0, .int x1, .ref a2, am_un]) rfl rfl) ?_
  refine eS_c (fun s_3 => ?_)
  refine Eq.trans (rn_go 2 (pc' := 16) (L' := [.ref a0, .int x1, .ref a2, am_un]) (st' := [.int (0 : Int32)]) rfl) ?_
  exact rn_retI rfl rfl rfl
theorem in_L_versionAt {B : Nat} (a0 : Nat) (x1 : Int32) (x2 : Int32) (a3 : Nat) (s : am_S) : cl_ tb_ct tb_mt B K_L_versionAt [.ref a0, .int x1, .int x2, .ref a3] s = rn_ tb_ct tb_mt B mm_L_versionAt 0 [.ref a0, .int x1, .int x2, .ref a3, am_un] [] s := cl_in rfl rfl rfl rfl
theorem dc_L_versionAt_0 {B : Nat} (a0 : Nat) (x1 : Int32) (x2 : Int32) (a3 : Nat) (s : am_S) : rn_ tb_ct tb_mt B mm_L_versionAt 0 [.ref a0, .int x1, .int x2, .ref a3, am_un] [] s = eC (am_cls s a0) 10 (cI (cl_ tb_ct tb_mt B K_X12_versionAt [.ref a0, .int x1, .int x2] s) (fun x_2 s_1 => eS (wJ B s_1 a3 (0 : Int32) x_2.toInt64) (fun s_3 => some (.inl (some (.int (0 : Int32))), s_3))) (xh tb_ct tb_mt B mm_L_versionAt 5 [.ref a0, .int x1, .int x2, .ref a3, am_un])) := by
  refine Eq.trans (rn_go 5 (pc' := 5) (L' := [.ref a0, .int x1, .int x2, .ref a3, am_un]) (st' := [.int x2, .int x1, .ref a0, .int (0 : Int32), .ref a3]) rfl) ?_
  refine Eq.trans (rn_vir (L' := [.ref a0, .int x1, .int x2, .ref a3, am_un]) (as := [.int x1, .int x2]) (rest := [.int (0 : Int32), .ref a3]) rfl rfl rfl rfl rfl (Nat.le_of_ble_eq_true rfl) (by decide) (by decide)) ?_
  refine eC_c ?_
  refine Eq.trans (cW_I rfl rfl rfl) ?_
  refine cI_c (fun x_2 s_1 => ?_) rfl
  refine Eq.trans (rn_go 1 (pc' := 9) (L' := [.ref a0, .int x1, .int x2, .ref a3, am_un]) (st' := [.long x_2.toInt64, .int (0 : Int32), .ref a3]) rfl) ?_
  refine Eq.trans (rn_wJ (L' := [.ref a0, .int x1, .int x2, .ref a3, am_un]) rfl rfl) ?_
  refine eS_c (fun s_3 => ?_)
  refine Eq.trans (rn_go 2 (pc' := 18) (L' := [.ref a0, .int x1, .int x2, .ref a3, am_un]) (st' := [.int (0 : Int32)]) rfl) ?_
  exact rn_retI rfl rfl rfl
theorem in_L_event {B : Nat} (a0 : Nat) (x1 : Int32) (x2 : Int32) (a3 : Nat) (s : am_S) : cl_ tb_ct tb_mt B K_L_event [.ref a0, .int x1, .int x2, .ref a3] s = rn_ tb_ct tb_mt B mm_L_event 0 [.ref a0, .int x1, .int x2, .ref a3, am_un] [] s := cl_in rfl rfl rfl rfl
theorem dc_L_event_0 {B : Nat} (a0 : Nat) (x1 : Int32) (x2 : Int32) (a3 : Nat) (s : am_S) : rn_ tb_ct tb_mt B mm_L_event 0 [.ref a0, .int x1, .int x2, .ref a3, am_un] [] s = eC (am_cls s a0) 10 (cI (cl_ tb_ct tb_mt B K_X12_event [.ref a0, .int x1, .int x2] s) (fun x_2 s_1 => eS (wJ B s_1 a3 (0 : Int32) x_2.toInt64) (fun s_3 => some (.inl (some (.int (0 : Int32))), s_3))) (xh tb_ct tb_mt B mm_L_event 5 [.ref a0, .int x1, .int x2, .ref a3, am_un])) := by
  refine Eq.trans (rn_go 5 (pc' := 5) (L' := [.ref a0, .int x1, .int x2, .ref a3, am_un]) (st' := [.int x2, .int x1, .ref a0, .int (0 : Int32), .ref a3]) rfl) ?_
  refine Eq.trans (rn_vir (L' := [.ref a0, .int x1, .int x2, .ref a3, am_un]) (as := [.int x1, .int x2]) (rest := [.int (0 : Int32), .ref a3]) rfl rfl rfl rfl rfl (Nat.le_of_ble_eq_true rfl) (by decide) (by decide)) ?_
  refine eC_c ?_
  refine Eq.trans (cW_I rfl rfl rfl) ?_
  refine cI_c (fun x_2 s_1 => ?_) rfl
  refine Eq.trans (rn_go 1 (pc' := 9) (L' := [.ref a0, .int x1, .int x2, .ref a3, am_un]) (st' := [.long x_2.toInt64, .int (0 : Int32), .ref a3]) rfl) ?_
  refine Eq.trans (rn_wJ (L' := [.ref a0, .int x1, .int x2, .ref a3, am_un]) rfl rfl) ?_
  refine eS_c (fun s_3 => ?_)
  refine Eq.trans (rn_go 2 (pc' := 22) (L' := [.ref a0, .int x1, .int x2, .ref a3, am_un]) (st' := [.int (0 : Int32)]) rfl) ?_
  exact rn_retI rfl rfl rfl
theorem in_L_writes {B : Nat} (a0 : Nat) (x1 : Int32) (a2 : Nat) (s : am_S) : cl_ tb_ct tb_mt B K_L_writes [.ref a0, .int x1, .ref a2] s = rn_ tb_ct tb_mt B mm_L_writes 0 [.ref a0, .int x1, .ref a2, am_un] [] s := cl_in rfl rfl rfl rfl
theorem dc_L_writes_0 {B : Nat} (a0 : Nat) (x1 : Int32) (a2 : Nat) (s : am_S) : rn_ tb_ct tb_mt B mm_L_writes 0 [.ref a0, .int x1, .ref a2, am_un] [] s = eC (am_cls s a0) 10 (cI (cl_ tb_ct tb_mt B K_X12_writes [.ref a0, .int x1] s) (fun x_2 s_1 => eS (wJ B s_1 a2 (0 : Int32) x_2.toInt64) (fun s_3 => some (.inl (some (.int (0 : Int32))), s_3))) (xh tb_ct tb_mt B mm_L_writes 4 [.ref a0, .int x1, .ref a2, am_un])) := by
  refine Eq.trans (rn_go 4 (pc' := 4) (L' := [.ref a0, .int x1, .ref a2, am_un]) (st' := [.int x1, .ref a0, .int (0 : Int32), .ref a2]) rfl) ?_
  refine Eq.trans (rn_vir (L' := [.ref a0, .int x1, .ref a2, am_un]) (as := [.int x1]) (rest := [.int (0 : Int32), .ref a2]) rfl rfl rfl rfl rfl (Nat.le_of_ble_eq_true rfl) (by decide) (by decide)) ?_
  refine eC_c ?_
  refine Eq.trans (cW_I rfl rfl rfl) ?_
  refine cI_c (fun x_2 s_1 => ?_) rfl
  refine Eq.trans (rn_go 1 (pc' := 8) (L' := [.ref a0, .int x1, .ref a2, am_un]) (st' := [.long x_2.toInt64, .int (0 : Int32), .ref a2]) rfl) ?_
  refine Eq.trans (rn_wJ (L' := [.ref a0, .int x1, .ref a2, am_un]) rfl rfl) ?_
  refine eS_c (fun s_3 => ?_)
  refine Eq.trans (rn_go 2 (pc' := 16) (L' := [.ref a0, .int x1, .ref a2, am_un]) (st' := [.int (0 : Int32)]) rfl) ?_
  exact rn_retI rfl rfl rfl
theorem in_L_leader {B : Nat} (a0 : Nat) (x1 : Int32) (x2 : Int32) (a3 : Nat) (s : am_S) : cl_ tb_ct tb_mt B K_L_leader [.ref a0, .int x1, .int x2, .ref a3] s = rn_ tb_ct tb_mt B mm_L_leader 0 [.ref a0, .int x1, .int x2, .ref a3, am_un] [] s := cl_in rfl rfl rfl rfl
theorem dc_L_leader_0 {B : Nat} (a0 : Nat) (x1 : Int32) (x2 : Int32) (a3 : Nat) (s : am_S) : rn_ tb_ct tb_mt B mm_L_leader 0 [.ref a0, .int x1, .int x2, .ref a3, am_un] [] s = eC (am_cls s a0) 10 (cI (cl_ tb_ct tb_mt B K_X12_leader [.ref a0, .int x1, .int x2] s) (fun x_2 s_1 => eS (wJ B s_1 a3 (0 : Int32) x_2.toInt64) (fun s_3 => some (.inl (some (.int (0 : Int32))), s_3))) (xh tb_ct tb_mt B mm_L_leader 5 [.ref a0, .int x1, .int x2, .ref a3, am_un])) := by
  refine Eq.trans (rn_go 5 (pc' := 5) (L' := [.ref a0, .int x1, .int x2, .ref a3, am_un]) (st' := [.int x2, .int x1, .ref a0, .int (0 : Int32), .ref a3]) rfl) ?_
  refine Eq.trans (rn_vir (L' := [.ref a0, .int x1, .int x2, .ref a3, am_un]) (as := [.int x1, .int x2]) (rest := [.int (0 : Int32), .ref a3]) rfl rfl rfl rfl rfl (Nat.le_of_ble_eq_true rfl) (by decide) (by decide)) ?_
  refine eC_c ?_
  refine Eq.trans (cW_I rfl rfl rfl) ?_
  refine cI_c (fun x_2 s_1 => ?_) rfl
  refine Eq.trans (rn_go 1 (pc' := 9) (L' := [.ref a0, .int x1, .int x2, .ref a3, am_un]) (st' := [.long x_2.toInt64, .int (0 : Int32), .ref a3]) rfl) ?_
  refine Eq.trans (rn_wJ (L' := [.ref a0, .int x1, .int x2, .ref a3, am_un]) rfl rfl) ?_
  refine eS_c (fun s_3 => ?_)
  refine Eq.trans (rn_go 2 (pc' := 18) (L' := [.ref a0, .int x1, .int x2, .ref a3, am_un]) (st' := [.int (0 : Int32)]) rfl) ?_
  exact rn_retI rfl rfl rfl
theorem in_L_ahead {B : Nat} (a0 : Nat) (x1 : Int32) (x2 : Int32) (x3 : Int32) (a4 : Nat) (s : am_S) : cl_ tb_ct tb_mt B K_L_ahead [.ref a0, .int x1, .int x2, .int x3, .ref a4] s = rn_ tb_ct tb_mt B mm_L_ahead 0 [.ref a0, .int x1, .int x2, .int x3, .ref a4, am_un] [] s := cl_in rfl rfl rfl rfl
theorem dc_L_ahead_0 {B : Nat} (a0 : Nat) (x1 : Int32) (x2 : Int32) (x3 : Int32) (a4 : Nat) (s : am_S) : rn_ tb_ct tb_mt B mm_L_ahead 0 [.ref a0, .int x1, .int x2, .int x3, .ref a4, am_un] [] s = eC (am_cls s a0) 10 (cI (cl_ tb_ct tb_mt B K_X12_ahead [.ref a0, .int x1, .int x2, .int x3] s) (fun x_2 s_1 => eS (wJ B s_1 a4 (0 : Int32) x_2.toInt64) (fun s_3 => some (.inl (some (.int (0 : Int32))), s_3))) (xh tb_ct tb_mt B mm_L_ahead 7 [.ref a0, .int x1, .int x2, .int x3, .ref a4, am_un])) := by
  refine Eq.trans (rn_go 6 (pc' := 7) (L' := [.ref a0, .int x1, .int x2, .int x3, .ref a4, am_un]) (st' := [.int x3, .int x2, .int x1, .ref a0, .int (0 : Int32), .ref a4]) rfl) ?_
  refine Eq.trans (rn_vir (L' := [.ref a0, .int x1, .int x2, .int x3, .ref a4, am_un]) (as := [.int x1, .int x2, .int x3]) (rest := [.int (0 : Int32), .ref a4]) rfl rfl rfl rfl rfl (Nat.le_of_ble_eq_true rfl) (by decide) (by decide)) ?_
  refine eC_c ?_
  refine Eq.trans (cW_I rfl rfl rfl) ?_
  refine cI_c (fun x_2 s_1 => ?_) rfl
  refine Eq.trans (rn_go 1 (pc' := 11) (L' := [.ref a0, .int x1, .int x2, .int x3, .ref a4, am_un]) (st' := [.long x_2.toInt64, .int (0 : Int32), .ref a4]) rfl) ?_
  refine Eq.trans (rn_wJ (L' := [.ref a0, .int x1, .int x2, .int x3, .ref a4, am_un]) rfl rfl) ?_
  refine eS_c (fun s_3 => ?_)
  refine Eq.trans (rn_go 2 (pc' := 20) (L' := [.ref a0, .int x1, .int x2, .int x3, .ref a4, am_un]) (st' := [.int (0 : Int32)]) rfl) ?_
  exact rn_retI rfl rfl rfl
theorem in_L_place {B : Nat} (a0 : Nat) (x1 : Int32) (x2 : Int32) (x3 : Int32) (a4 : Nat) (s : am_S) : cl_ tb_ct tb_mt B K_L_place [.ref a0, .int x1, .int x2, .int x3, .ref a4] s = rn_ tb_ct tb_mt B mm_L_place 0 [.ref a0, .int x1, .int x2, .int x3, .ref a4, am_un] [] s := cl_in rfl rfl rfl rfl
theorem dc_L_place_0 {B : Nat} (a0 : Nat) (x1 : Int32) (x2 : Int32) (x3 : Int32) (a4 : Nat) (s : am_S) : rn_ tb_ct tb_mt B mm_L_place 0 [.ref a0, .int x1, .int x2, .int x3, .ref a4, am_un] [] s = eC (am_cls s a0) 10 (cI (cl_ tb_ct tb_mt B K_X12_place [.ref a0, .int x1, .int x2, .int x3] s) (fun x_2 s_1 => eS (wJ B s_1 a4 (0 : Int32) x_2.toInt64) (fun s_3 => some (.inl (some (.int (0 : Int32))), s_3))) (xh tb_ct tb_mt B mm_L_place 7 [.ref a0, .int x1, .int x2, .int x3, .ref a4, am_un])) := by
  refine Eq.trans (rn_go 6 (pc' := 7) (L' := [.ref a0, .int x1, .int x2, .int x3, .ref a4, am_un]) (st' := [.int x3, .int x2, .int x1, .ref a0, .int (0 : Int32), .ref a4]) rfl) ?_
  refine Eq.trans (rn_vir (L' := [.ref a0, .int x1, .int x2, .int x3, .ref a4, am_un]) (as := [.int x1, .int x2, .int x3]) (rest := [.int (0 : Int32), .ref a4]) rfl rfl rfl rfl rfl (Nat.le_of_ble_eq_true rfl) (by decide) (by decide)) ?_
  refine eC_c ?_
  refine Eq.trans (cW_I rfl rfl rfl) ?_
  refine cI_c (fun x_2 s_1 => ?_) rfl
  refine Eq.trans (rn_go 1 (pc' := 11) (L' := [.ref a0, .int x1, .int x2, .int x3, .ref a4, am_un]) (st' := [.long x_2.toInt64, .int (0 : Int32), .ref a4]) rfl) ?_
  refine Eq.trans (rn_wJ (L' := [.ref a0, .int x1, .int x2, .int x3, .ref a4, am_un]) rfl rfl) ?_
  refine eS_c (fun s_3 => ?_)
  refine Eq.trans (rn_go 2 (pc' := 20) (L' := [.ref a0, .int x1, .int x2, .int x3, .ref a4, am_un]) (st' := [.int (0 : Int32)]) rfl) ?_
  exact rn_retI rfl rfl rfl
theorem in_L_put {B : Nat} (a0 : Nat) (x1 : Int32) (x2 : Int32) (x3 : Int32) (a4 : Nat) (s : am_S) : cl_ tb_ct tb_mt B K_L_put [.ref a0, .int x1, .int x2, .int x3, .ref a4] s = rn_ tb_ct tb_mt B mm_L_put 0 [.ref a0, .int x1, .int x2, .int x3, .ref a4, am_un] [] s := cl_in rfl rfl rfl rfl
theorem dc_L_put_0 {B : Nat} (a0 : Nat) (x1 : Int32) (x2 : Int32) (x3 : Int32) (a4 : Nat) (s : am_S) : rn_ tb_ct tb_mt B mm_L_put 0 [.ref a0, .int x1, .int x2, .int x3, .ref a4, am_un] [] s = eC (am_cls s a0) 10 (cI (cl_ tb_ct tb_mt B K_X12_put [.ref a0, .int x1, .int x2, .int x3] s) (fun x_2 s_1 => eS (wJ B s_1 a4 (0 : Int32) x_2.toInt64) (fun s_3 => some (.inl (some (.int (0 : Int32))), s_3))) (xh tb_ct tb_mt B mm_L_put 7 [.ref a0, .int x1, .int x2, .int x3, .ref a4, am_un])) := by
  refine Eq.trans (rn_go 6 (pc' := 7) (L' := [.ref a0, .int x1, .int x2, .int x3, .ref a4, am_un]) (st' := [.int x3, .int x2, .int x1, .ref a0, .int (0 : Int32), .ref a4]) rfl) ?_
  refine Eq.trans (rn_vir (L' := [.ref a0, .int x1, .int x2, .int x3, .ref a4, am_un]) (as := [.int x1, .int x2, .int x3]) (rest := [.int (0 : Int32), .ref a4]) rfl rfl rfl rfl rfl (Nat.le_of_ble_eq_true rfl) (by decide) (by decide)) ?_
  refine eC_c ?_
  refine Eq.trans (cW_I rfl rfl rfl) ?_
  refine cI_c (fun x_2 s_1 => ?_) rfl
  refine Eq.trans (rn_go 1 (pc' := 11) (L' := [.ref a0, .int x1, .int x2, .int x3, .ref a4, am_un]) (st' := [.long x_2.toInt64, .int (0 : Int32), .ref a4]) rfl) ?_
  refine Eq.trans (rn_wJ (L' := [.ref a0, .int x1, .int x2, .int x3, .ref a4, am_un]) rfl rfl) ?_
  refine eS_c (fun s_3 => ?_)
  refine Eq.trans (rn_go 2 (pc' := 20) (L' := [.ref a0, .int x1, .int x2, .int x3, .ref a4, am_un]) (st' := [.int (0 : Int32)]) rfl) ?_
  exact rn_retI rfl rfl rfl
theorem in_L_delete {B : Nat} (a0 : Nat) (x1 : Int32) (x2 : Int32) (a3 : Nat) (s : am_S) : cl_ tb_ct tb_mt B K_L_delete [.ref a0, .int x1, .int x2, .ref a3] s = rn_ tb_ct tb_mt B mm_L_delete 0 [.ref a0, .int x1, .int x2, .ref a3, am_un] [] s := cl_in rfl rfl rfl rfl
theorem dc_L_delete_0 {B : Nat} (a0 : Nat) (x1 : Int32) (x2 : Int32) (a3 : Nat) (s : am_S) : rn_ tb_ct tb_mt B mm_L_delete 0 [.ref a0, .int x1, .int x2, .ref a3, am_un] [] s = eC (am_cls s a0) 10 (cI (cl_ tb_ct tb_mt B K_X12_delete [.ref a0, .int x1, .int x2] s) (fun x_2 s_1 => eS (wJ B s_1 a3 (0 : Int32) x_2.toInt64) (fun s_3 => some (.inl (some (.int (0 : Int32))), s_3))) (xh tb_ct tb_mt B mm_L_delete 5 [.ref a0, .int x1, .int x2, .ref a3, am_un])) := by
  refine Eq.trans (rn_go 5 (pc' := 5) (L' := [.ref a0, .int x1, .int x2, .ref a3, am_un]) (st' := [.int x2, .int x1, .ref a0, .int (0 : Int32), .ref a3]) rfl) ?_
  refine Eq.trans (rn_vir (L' := [.ref a0, .int x1, .int x2, .ref a3, am_un]) (as := [.int x1, .int x2]) (rest := [.int (0 : Int32), .ref a3]) rfl rfl rfl rfl rfl (Nat.le_of_ble_eq_true rfl) (by decide) (by decide)) ?_
  refine eC_c ?_
  refine Eq.trans (cW_I rfl rfl rfl) ?_
  refine cI_c (fun x_2 s_1 => ?_) rfl
  refine Eq.trans (rn_go 1 (pc' := 9) (L' := [.ref a0, .int x1, .int x2, .ref a3, am_un]) (st' := [.long x_2.toInt64, .int (0 : Int32), .ref a3]) rfl) ?_
  refine Eq.trans (rn_wJ (L' := [.ref a0, .int x1, .int x2, .ref a3, am_un]) rfl rfl) ?_
  refine eS_c (fun s_3 => ?_)
  refine Eq.trans (rn_go 2 (pc' := 18) (L' := [.ref a0, .int x1, .int x2, .ref a3, am_un]) (st' := [.int (0 : Int32)]) rfl) ?_
  exact rn_retI rfl rfl rfl
theorem in_L_compact {B : Nat} (a0 : Nat) (x1 : Int32) (a2 : Nat) (s : am_S) : cl_ tb_ct tb_mt B K_L_compact [.ref a0, .int x1, .ref a2] s = rn_ tb_ct tb_mt B mm_L_compact 0 [.ref a0, .int x1, .ref a2, am_un] [] s := cl_in rfl rfl rfl rfl
theorem dc_L_compact_0 {B : Nat} (a0 : Nat) (x1 : Int32) (a2 : Nat) (s : am_S) : rn_ tb_ct tb_mt B mm_L_compact 0 [.ref a0, .int x1, .ref a2, am_un] [] s = eC (am_cls s a0) 10 (cI (cl_ tb_ct tb_mt B K_X12_compact [.ref a0, .int x1] s) (fun x_2 s_1 => eS (wJ B s_1 a2 (0 : Int32) x_2.toInt64) (fun s_3 => some (.inl (some (.int (0 : Int32))), s_3))) (xh tb_ct tb_mt B mm_L_compact 4 [.ref a0, .int x1, .ref a2, am_un])) := by
  refine Eq.trans (rn_go 4 (pc' := 4) (L' := [.ref a0, .int x1, .ref a2, am_un]) (st' := [.int x1, .ref a0, .int (0 : Int32), .ref a2]) rfl) ?_
  refine Eq.trans (rn_vir (L' := [.ref a0, .int x1, .ref a2, am_un]) (as := [.int x1]) (rest := [.int (0 : Int32), .ref a2]) rfl rfl rfl rfl rfl (Nat.le_of_ble_eq_true rfl) (by decide) (by decide)) ?_
  refine eC_c ?_
  refine Eq.trans (cW_I rfl rfl rfl) ?_
  refine cI_c (fun x_2 s_1 => ?_) rfl
  refine Eq.trans (rn_go 1 (pc' := 8) (L' := [.ref a0, .int x1, .ref a2, am_un]) (st' := [.long x_2.toInt64, .int (0 : Int32), .ref a2]) rfl) ?_
  refine Eq.trans (rn_wJ (L' := [.ref a0, .int x1, .ref a2, am_un]) rfl rfl) ?_
  refine eS_c (fun s_3 => ?_)
  refine Eq.trans (rn_go 2 (pc' := 16) (L' := [.ref a0, .int x1, .ref a2, am_un]) (st' := [.int (0 : Int32)]) rfl) ?_
  exact rn_retI rfl rfl rfl
theorem in_L_revert {B : Nat} (a0 : Nat) (x1 : Int32) (a2 : Nat) (s : am_S) : cl_ tb_ct tb_mt B K_L_revert [.ref a0, .int x1, .ref a2] s = rn_ tb_ct tb_mt B mm_L_revert 0 [.ref a0, .int x1, .ref a2, am_un] [] s := cl_in rfl rfl rfl rfl
theorem dc_L_revert_0 {B : Nat} (a0 : Nat) (x1 : Int32) (a2 : Nat) (s : am_S) : rn_ tb_ct tb_mt B mm_L_revert 0 [.ref a0, .int x1, .ref a2, am_un] [] s = eC (am_cls s a0) 10 (cI (cl_ tb_ct tb_mt B K_X12_revert [.ref a0, .int x1] s) (fun x_2 s_1 => eS (wJ B s_1 a2 (0 : Int32) x_2.toInt64) (fun s_3 => some (.inl (some (.int (0 : Int32))), s_3))) (xh tb_ct tb_mt B mm_L_revert 4 [.ref a0, .int x1, .ref a2, am_un])) := by
  refine Eq.trans (rn_go 4 (pc' := 4) (L' := [.ref a0, .int x1, .ref a2, am_un]) (st' := [.int x1, .ref a0, .int (0 : Int32), .ref a2]) rfl) ?_
  refine Eq.trans (rn_vir (L' := [.ref a0, .int x1, .ref a2, am_un]) (as := [.int x1]) (rest := [.int (0 : Int32), .ref a2]) rfl rfl rfl rfl rfl (Nat.le_of_ble_eq_true rfl) (by decide) (by decide)) ?_
  refine eC_c ?_
  refine Eq.trans (cW_I rfl rfl rfl) ?_
  refine cI_c (fun x_2 s_1 => ?_) rfl
  refine Eq.trans (rn_go 1 (pc' := 8) (L' := [.ref a0, .int x1, .ref a2, am_un]) (st' := [.long x_2.toInt64, .int (0 : Int32), .ref a2]) rfl) ?_
  refine Eq.trans (rn_wJ (L' := [.ref a0, .int x1, .ref a2, am_un]) rfl rfl) ?_
  refine eS_c (fun s_3 => ?_)
  refine Eq.trans (rn_go 2 (pc' := 16) (L' := [.ref a0, .int x1, .ref a2, am_un]) (st' := [.int (0 : Int32)]) rfl) ?_
  exact rn_retI rfl rfl rfl
theorem in_L_attach {B : Nat} (a0 : Nat) (x1 : Int32) (x2 : Int32) (a3 : Nat) (s : am_S) : cl_ tb_ct tb_mt B K_L_attach [.ref a0, .int x1, .int x2, .ref a3] s = rn_ tb_ct tb_mt B mm_L_attach 0 [.ref a0, .int x1, .int x2, .ref a3, am_un] [] s := cl_in rfl rfl rfl rfl
theorem dc_L_attach_0 {B : Nat} (a0 : Nat) (x1 : Int32) (x2 : Int32) (a3 : Nat) (s : am_S) : rn_ tb_ct tb_mt B mm_L_attach 0 [.ref a0, .int x1, .int x2, .ref a3, am_un] [] s = eC (am_cls s a0) 10 (cI (cl_ tb_ct tb_mt B K_X12_attach [.ref a0, .int x1, .int x2] s) (fun x_2 s_1 => eS (wJ B s_1 a3 (0 : Int32) x_2.toInt64) (fun s_3 => some (.inl (some (.int (0 : Int32))), s_3))) (xh tb_ct tb_mt B mm_L_attach 5 [.ref a0, .int x1, .int x2, .ref a3, am_un])) := by
  refine Eq.trans (rn_go 5 (pc' := 5) (L' := [.ref a0, .int x1, .int x2, .ref a3, am_un]) (st' := [.int x2, .int x1, .ref a0, .int (0 : Int32), .ref a3]) rfl) ?_
  refine Eq.trans (rn_vir (L' := [.ref a0, .int x1, .int x2, .ref a3, am_un]) (as := [.int x1, .int x2]) (rest := [.int (0 : Int32), .ref a3]) rfl rfl rfl rfl rfl (Nat.le_of_ble_eq_true rfl) (by decide) (by decide)) ?_
  refine eC_c ?_
  refine Eq.trans (cW_I rfl rfl rfl) ?_
  refine cI_c (fun x_2 s_1 => ?_) rfl
  refine Eq.trans (rn_go 1 (pc' := 9) (L' := [.ref a0, .int x1, .int x2, .ref a3, am_un]) (st' := [.long x_2.toInt64, .int (0 : Int32), .ref a3]) rfl) ?_
  refine Eq.trans (rn_wJ (L' := [.ref a0, .int x1, .int x2, .ref a3, am_un]) rfl rfl) ?_
  refine eS_c (fun s_3 => ?_)
  refine Eq.trans (rn_go 2 (pc' := 18) (L' := [.ref a0, .int x1, .int x2, .ref a3, am_un]) (st' := [.int (0 : Int32)]) rfl) ?_
  exact rn_retI rfl rfl rfl
theorem in_L_watch {B : Nat} (a0 : Nat) (x1 : Int32) (x2 : Int32) (x3 : Int32) (x4 : Int32) (a5 : Nat) (s : am_S) : cl_ tb_ct tb_mt B K_L_watch [.ref a0, .int x1, .int x2, .int x3, .int x4, .ref a5] s = rn_ tb_ct tb_mt B mm_L_watch 0 [.ref a0, .int x1, .int x2, .int x3, .int x4, .ref a5, am_un] [] s := cl_in rfl rfl rfl rfl
theorem dc_L_watch_0 {B : Nat} (a0 : Nat) (x1 : Int32) (x2 : Int32) (x3 : Int32) (x4 : Int32) (a5 : Nat) (s : am_S) : rn_ tb_ct tb_mt B mm_L_watch 0 [.ref a0, .int x1, .int x2, .int x3, .int x4, .ref a5, am_un] [] s = eC (am_cls s a0) 10 (cI (cl_ tb_ct tb_mt B K_X12_watch [.ref a0, .int x1, .int x2, .int x3, .int x4] s) (fun x_2 s_1 => eS (wJ B s_1 a5 (0 : Int32) x_2.toInt64) (fun s_3 => some (.inl (some (.int (0 : Int32))), s_3))) (xh tb_ct tb_mt B mm_L_watch 9 [.ref a0, .int x1, .int x2, .int x3, .int x4, .ref a5, am_un])) := by
  refine Eq.trans (rn_go 7 (pc' := 9) (L' := [.ref a0, .int x1, .int x2, .int x3, .int x4, .ref a5, am_un]) (st' := [.int x4, .int x3, .int x2, .int x1, .ref a0, .int (0 : Int32), .ref a5]) rfl) ?_
  refine Eq.trans (rn_vir (L' := [.ref a0, .int x1, .int x2, .int x3, .int x4, .ref a5, am_un]) (as := [.int x1, .int x2, .int x3, .int x4]) (rest := [.int (0 : Int32), .ref a5]) rfl rfl rfl rfl rfl (Nat.le_of_ble_eq_true rfl) (by decide) (by decide)) ?_
  refine eC_c ?_
  refine Eq.trans (cW_I rfl rfl rfl) ?_
  refine cI_c (fun x_2 s_1 => ?_) rfl
  refine Eq.trans (rn_go 1 (pc' := 13) (L' := [.ref a0, .int x1, .int x2, .int x3, .int x4, .ref a5, am_un]) (st' := [.long x_2.toInt64, .int (0 : Int32), .ref a5]) rfl) ?_
  refine Eq.trans (rn_wJ (L' := [.ref a0, .int x1, .int x2, .int x3, .int x4, .ref a5, am_un]) rfl rfl) ?_
  refine eS_c (fun s_3 => ?_)
  refine Eq.trans (rn_go 2 (pc' := 22) (L' := [.ref a0, .int x1, .int x2, .int x3, .int x4, .ref a5, am_un]) (st' := [.int (0 : Int32)]) rfl) ?_
  exact rn_retI rfl rfl rfl
theorem in_L_watchValue {B : Nat} (a0 : Nat) (x1 : Int32) (x2 : Int32) (a3 : Nat) (s : am_S) : cl_ tb_ct tb_mt B K_L_watchValue [.ref a0, .int x1, .int x2, .ref a3] s = rn_ tb_ct tb_mt B mm_L_watchValue 0 [.ref a0, .int x1, .int x2, .ref a3, am_un] [] s := cl_in rfl rfl rfl rfl
theorem dc_L_watchValue_0 {B : Nat} (a0 : Nat) (x1 : Int32) (x2 : Int32) (a3 : Nat) (s : am_S) : rn_ tb_ct tb_mt B mm_L_watchValue 0 [.ref a0, .int x1, .int x2, .ref a3, am_un] [] s = eC (am_cls s a0) 10 (cI (cl_ tb_ct tb_mt B K_X12_watchValue [.ref a0, .int x1, .int x2] s) (fun x_2 s_1 => eS (wJ B s_1 a3 (0 : Int32) x_2.toInt64) (fun s_3 => some (.inl (some (.int (0 : Int32))), s_3))) (xh tb_ct tb_mt B mm_L_watchValue 5 [.ref a0, .int x1, .int x2, .ref a3, am_un])) := by
  refine Eq.trans (rn_go 5 (pc' := 5) (L' := [.ref a0, .int x1, .int x2, .ref a3, am_un]) (st' := [.int x2, .int x1, .ref a0, .int (0 : Int32), .ref a3]) rfl) ?_
  refine Eq.trans (rn_vir (L' := [.ref a0, .int x1, .int x2, .ref a3, am_un]) (as := [.int x1, .int x2]) (rest := [.int (0 : Int32), .ref a3]) rfl rfl rfl rfl rfl (Nat.le_of_ble_eq_true rfl) (by decide) (by decide)) ?_
  refine eC_c ?_
  refine Eq.trans (cW_I rfl rfl rfl) ?_
  refine cI_c (fun x_2 s_1 => ?_) rfl
  refine Eq.trans (rn_go 1 (pc' := 9) (L' := [.ref a0, .int x1, .int x2, .ref a3, am_un]) (st' := [.long x_2.toInt64, .int (0 : Int32), .ref a3]) rfl) ?_
  refine Eq.trans (rn_wJ (L' := [.ref a0, .int x1, .int x2, .ref a3, am_un]) rfl rfl) ?_
  refine eS_c (fun s_3 => ?_)
  refine Eq.trans (rn_go 2 (pc' := 22) (L' := [.ref a0, .int x1, .int x2, .ref a3, am_un]) (st' := [.int (0 : Int32)]) rfl) ?_
  exact rn_retI rfl rfl rfl
theorem in_L_take {B : Nat} (a0 : Nat) (x1 : Int32) (a2 : Nat) (s : am_S) : cl_ tb_ct tb_mt B K_L_take [.ref a0, .int x1, .ref a2] s = rn_ tb_ct tb_mt B mm_L_take 0 [.ref a0, .int x1, .ref a2, am_un] [] s := cl_in rfl rfl rfl rfl
theorem dc_L_take_0 {B : Nat} (a0 : Nat) (x1 : Int32) (a2 : Nat) (s : am_S) : rn_ tb_ct tb_mt B mm_L_take 0 [.ref a0, .int x1, .ref a2, am_un] [] s = eC (am_cls s a0) 10 (cI (cl_ tb_ct tb_mt B K_X12_take [.ref a0, .int x1] s) (fun x_2 s_1 => eS (wJ B s_1 a2 (0 : Int32) x_2.toInt64) (fun s_3 => some (.inl (some (.int (0 : Int32))), s_3))) (xh tb_ct tb_mt B mm_L_take 4 [.ref a0, .int x1, .ref a2, am_un])) := by
  refine Eq.trans (rn_go 4 (pc' := 4) (L' := [.ref a0, .int x1, .ref a2, am_un]) (st' := [.int x1, .ref a0, .int (0 : Int32), .ref a2]) rfl) ?_
  refine Eq.trans (rn_vir (L' := [.ref a0, .int x1, .ref a2, am_un]) (as := [.int x1]) (rest := [.int (0 : Int32), .ref a2]) rfl rfl rfl rfl rfl (Nat.le_of_ble_eq_true rfl) (by decide) (by decide)) ?_
  refine eC_c ?_
  refine Eq.trans (cW_I rfl rfl rfl) ?_
  refine cI_c (fun x_2 s_1 => ?_) rfl
  refine Eq.trans (rn_go 1 (pc' := 8) (L' := [.ref a0, .int x1, .ref a2, am_un]) (st' := [.long x_2.toInt64, .int (0 : Int32), .ref a2]) rfl) ?_
  refine Eq.trans (rn_wJ (L' := [.ref a0, .int x1, .ref a2, am_un]) rfl rfl) ?_
  refine eS_c (fun s_3 => ?_)
  refine Eq.trans (rn_go 2 (pc' := 16) (L' := [.ref a0, .int x1, .ref a2, am_un]) (st' := [.int (0 : Int32)]) rfl) ?_
  exact rn_retI rfl rfl rfl
theorem in_L_taken {B : Nat} (a0 : Nat) (x1 : Int32) (x2 : Int32) (a3 : Nat) (s : am_S) : cl_ tb_ct tb_mt B K_L_taken [.ref a0, .int x1, .int x2, .ref a3] s = rn_ tb_ct tb_mt B mm_L_taken 0 [.ref a0, .int x1, .int x2, .ref a3, am_un] [] s := cl_in rfl rfl rfl rfl
theorem dc_L_taken_0 {B : Nat} (a0 : Nat) (x1 : Int32) (x2 : Int32) (a3 : Nat) (s : am_S) : rn_ tb_ct tb_mt B mm_L_taken 0 [.ref a0, .int x1, .int x2, .ref a3, am_un] [] s = eC (am_cls s a0) 10 (cI (cl_ tb_ct tb_mt B K_X12_taken [.ref a0, .int x1, .int x2] s) (fun x_2 s_1 => eS (wJ B s_1 a3 (0 : Int32) x_2.toInt64) (fun s_3 => some (.inl (some (.int (0 : Int32))), s_3))) (xh tb_ct tb_mt B mm_L_taken 5 [.ref a0, .int x1, .int x2, .ref a3, am_un])) := by
  refine Eq.trans (rn_go 5 (pc' := 5) (L' := [.ref a0, .int x1, .int x2, .ref a3, am_un]) (st' := [.int x2, .int x1, .ref a0, .int (0 : Int32), .ref a3]) rfl) ?_
  refine Eq.trans (rn_vir (L' := [.ref a0, .int x1, .int x2, .ref a3, am_un]) (as := [.int x1, .int x2]) (rest := [.int (0 : Int32), .ref a3]) rfl rfl rfl rfl rfl (Nat.le_of_ble_eq_true rfl) (by decide) (by decide)) ?_
  refine eC_c ?_
  refine Eq.trans (cW_I rfl rfl rfl) ?_
  refine cI_c (fun x_2 s_1 => ?_) rfl
  refine Eq.trans (rn_go 1 (pc' := 9) (L' := [.ref a0, .int x1, .int x2, .ref a3, am_un]) (st' := [.long x_2.toInt64, .int (0 : Int32), .ref a3]) rfl) ?_
  refine Eq.trans (rn_wJ (L' := [.ref a0, .int x1, .int x2, .ref a3, am_un]) rfl rfl) ?_
  refine eS_c (fun s_3 => ?_)
  refine Eq.trans (rn_go 2 (pc' := 22) (L' := [.ref a0, .int x1, .int x2, .ref a3, am_un]) (st' := [.int (0 : Int32)]) rfl) ?_
  exact rn_retI rfl rfl rfl
theorem in_L_admit {B : Nat} (a0 : Nat) (x1 : Int32) (a2 : Nat) (s : am_S) : cl_ tb_ct tb_mt B K_L_admit [.ref a0, .int x1, .ref a2] s = rn_ tb_ct tb_mt B mm_L_admit 0 [.ref a0, .int x1, .ref a2, am_un] [] s := cl_in rfl rfl rfl rfl
theorem dc_L_admit_0 {B : Nat} (a0 : Nat) (x1 : Int32) (a2 : Nat) (s : am_S) : rn_ tb_ct tb_mt B mm_L_admit 0 [.ref a0, .int x1, .ref a2, am_un] [] s = eC (am_cls s a0) 10 (cI (cl_ tb_ct tb_mt B K_X12_admit [.ref a0, .int x1] s) (fun x_2 s_1 => eS (wJ B s_1 a2 (0 : Int32) x_2.toInt64) (fun s_3 => some (.inl (some (.int (0 : Int32))), s_3))) (xh tb_ct tb_mt B mm_L_admit 4 [.ref a0, .int x1, .ref a2, am_un])) := by
  refine Eq.trans (rn_go 4 (pc' := 4) (L' := [.ref a0, .int x1, .ref a2, am_un]) (st' := [.int x1, .ref a0, .int (0 : Int32), .ref a2]) rfl) ?_
  refine Eq.trans (rn_vir (L' := [.ref a0, .int x1, .ref a2, am_un]) (as := [.int x1]) (rest := [.int (0 : Int32), .ref a2]) rfl rfl rfl rfl rfl (Nat.le_of_ble_eq_true rfl) (by decide) (by decide)) ?_
  refine eC_c ?_
  refine Eq.trans (cW_I rfl rfl rfl) ?_
  refine cI_c (fun x_2 s_1 => ?_) rfl
  refine Eq.trans (rn_go 1 (pc' := 8) (L' := [.ref a0, .int x1, .ref a2, am_un]) (st' := [.long x_2.toInt64, .int (0 : Int32), .ref a2]) rfl) ?_
  refine Eq.trans (rn_wJ (L' := [.ref a0, .int x1, .ref a2, am_un]) rfl rfl) ?_
  refine eS_c (fun s_3 => ?_)
  refine Eq.trans (rn_go 2 (pc' := 16) (L' := [.ref a0, .int x1, .ref a2, am_un]) (st' := [.int (0 : Int32)]) rfl) ?_
  exact rn_retI rfl rfl rfl
theorem in_L_rewatch {B : Nat} (a0 : Nat) (x1 : Int32) (x2 : Int32) (a3 : Nat) (s : am_S) : cl_ tb_ct tb_mt B K_L_rewatch [.ref a0, .int x1, .int x2, .ref a3] s = rn_ tb_ct tb_mt B mm_L_rewatch 0 [.ref a0, .int x1, .int x2, .ref a3, am_un] [] s := cl_in rfl rfl rfl rfl
theorem dc_L_rewatch_0 {B : Nat} (a0 : Nat) (x1 : Int32) (x2 : Int32) (a3 : Nat) (s : am_S) : rn_ tb_ct tb_mt B mm_L_rewatch 0 [.ref a0, .int x1, .int x2, .ref a3, am_un] [] s = eC (am_cls s a0) 10 (cI (cl_ tb_ct tb_mt B K_X12_rewatch [.ref a0, .int x1, .int x2] s) (fun x_2 s_1 => eS (wJ B s_1 a3 (0 : Int32) x_2.toInt64) (fun s_3 => some (.inl (some (.int (0 : Int32))), s_3))) (xh tb_ct tb_mt B mm_L_rewatch 5 [.ref a0, .int x1, .int x2, .ref a3, am_un])) := by
  refine Eq.trans (rn_go 5 (pc' := 5) (L' := [.ref a0, .int x1, .int x2, .ref a3, am_un]) (st' := [.int x2, .int x1, .ref a0, .int (0 : Int32), .ref a3]) rfl) ?_
  refine Eq.trans (rn_vir (L' := [.ref a0, .int x1, .int x2, .ref a3, am_un]) (as := [.int x1, .int x2]) (rest := [.int (0 : Int32), .ref a3]) rfl rfl rfl rfl rfl (Nat.le_of_ble_eq_true rfl) (by decide) (by decide)) ?_
  refine eC_c ?_
  refine Eq.trans (cW_I rfl rfl rfl) ?_
  refine cI_c (fun x_2 s_1 => ?_) rfl
  refine Eq.trans (rn_go 1 (pc' := 9) (L' := [.ref a0, .int x1, .int x2, .ref a3, am_un]) (st' := [.long x_2.toInt64, .int (0 : Int32), .ref a3]) rfl) ?_
  refine Eq.trans (rn_wJ (L' := [.ref a0, .int x1, .int x2, .ref a3, am_un]) rfl rfl) ?_
  refine eS_c (fun s_3 => ?_)
  refine Eq.trans (rn_go 2 (pc' := 22) (L' := [.ref a0, .int x1, .int x2, .ref a3, am_un]) (st' := [.int (0 : Int32)]) rfl) ?_
  exact rn_retI rfl rfl rfl
theorem in_L_unwatch {B : Nat} (a0 : Nat) (x1 : Int32) (a2 : Nat) (s : am_S) : cl_ tb_ct tb_mt B K_L_unwatch [.ref a0, .int x1, .ref a2] s = rn_ tb_ct tb_mt B mm_L_unwatch 0 [.ref a0, .int x1, .ref a2, am_un] [] s := cl_in rfl rfl rfl rfl
theorem dc_L_unwatch_0 {B : Nat} (a0 : Nat) (x1 : Int32) (a2 : Nat) (s : am_S) : rn_ tb_ct tb_mt B mm_L_unwatch 0 [.ref a0, .int x1, .ref a2, am_un] [] s = eC (am_cls s a0) 10 (cI (cl_ tb_ct tb_mt B K_X12_unwatch [.ref a0, .int x1] s) (fun x_2 s_1 => eS (wJ B s_1 a2 (0 : Int32) x_2.toInt64) (fun s_3 => some (.inl (some (.int (0 : Int32))), s_3))) (xh tb_ct tb_mt B mm_L_unwatch 4 [.ref a0, .int x1, .ref a2, am_un])) := by
  refine Eq.trans (rn_go 4 (pc' := 4) (L' := [.ref a0, .int x1, .ref a2, am_un]) (st' := [.int x1, .ref a0, .int (0 : Int32), .ref a2]) rfl) ?_
  refine Eq.trans (rn_vir (L' := [.ref a0, .int x1, .ref a2, am_un]) (as := [.int x1]) (rest := [.int (0 : Int32), .ref a2]) rfl rfl rfl rfl rfl (Nat.le_of_ble_eq_true rfl) (by decide) (by decide)) ?_
  refine eC_c ?_
  refine Eq.trans (cW_I rfl rfl rfl) ?_
  refine cI_c (fun x_2 s_1 => ?_) rfl
  refine Eq.trans (rn_go 1 (pc' := 8) (L' := [.ref a0, .int x1, .ref a2, am_un]) (st' := [.long x_2.toInt64, .int (0 : Int32), .ref a2]) rfl) ?_
  refine Eq.trans (rn_wJ (L' := [.ref a0, .int x1, .ref a2, am_un]) rfl rfl) ?_
  refine eS_c (fun s_3 => ?_)
  refine Eq.trans (rn_go 2 (pc' := 16) (L' := [.ref a0, .int x1, .ref a2, am_un]) (st' := [.int (0 : Int32)]) rfl) ?_
  exact rn_retI rfl rfl rfl
theorem in_L_missing {B : Nat} (a0 : Nat) (x1 : Int32) (a2 : Nat) (s : am_S) : cl_ tb_ct tb_mt B K_L_missing [.ref a0, .int x1, .ref a2] s = rn_ tb_ct tb_mt B mm_L_missing 0 [.ref a0, .int x1, .ref a2, am_un] [] s := cl_in rfl rfl rfl rfl
theorem dc_L_missing_0 {B : Nat} (a0 : Nat) (x1 : Int32) (a2 : Nat) (s : am_S) : rn_ tb_ct tb_mt B mm_L_missing 0 [.ref a0, .int x1, .ref a2, am_un] [] s = eC (am_cls s a0) 10 (cI (cl_ tb_ct tb_mt B K_X12_missing [.ref a0, .int x1] s) (fun x_2 s_1 => eS (wJ B s_1 a2 (0 : Int32) x_2.toInt64) (fun s_3 => some (.inl (some (.int (0 : Int32))), s_3))) (xh tb_ct tb_mt B mm_L_missing 4 [.ref a0, .int x1, .ref a2, am_un])) := by
  refine Eq.trans (rn_go 4 (pc' := 4) (L' := [.ref a0, .int x1, .ref a2, am_un]) (st' := [.int x1, .ref a0, .int (0 : Int32), .ref a2]) rfl) ?_
  refine Eq.trans (rn_vir (L' := [.ref a0, .int x1, .ref a2, am_un]) (as := [.int x1]) (rest := [.int (0 : Int32), .ref a2]) rfl rfl rfl rfl rfl (Nat.le_of_ble_eq_true rfl) (by decide) (by decide)) ?_
  refine eC_c ?_
  refine Eq.trans (cW_I rfl rfl rfl) ?_
  refine cI_c (fun x_2 s_1 => ?_) rfl
  refine Eq.trans (rn_go 1 (pc' := 8) (L' := [.ref a0, .int x1, .ref a2, am_un]) (st' := [.long x_2.toInt64, .int (0 : Int32), .ref a2]) rfl) ?_
  refine Eq.trans (rn_wJ (L' := [.ref a0, .int x1, .ref a2, am_un]) rfl rfl) ?_
  refine eS_c (fun s_3 => ?_)
  refine Eq.trans (rn_go 2 (pc' := 16) (L' := [.ref a0, .int x1, .ref a2, am_un]) (st' := [.int (0 : Int32)]) rfl) ?_
  exact rn_retI rfl rfl rfl
theorem in_L_behind {B : Nat} (a0 : Nat) (x1 : Int32) (a2 : Nat) (s : am_S) : cl_ tb_ct tb_mt B K_L_behind [.ref a0, .int x1, .ref a2] s = rn_ tb_ct tb_mt B mm_L_behind 0 [.ref a0, .int x1, .ref a2, am_un] [] s := cl_in rfl rfl rfl rfl
theorem dc_L_behind_0 {B : Nat} (a0 : Nat) (x1 : Int32) (a2 : Nat) (s : am_S) : rn_ tb_ct tb_mt B mm_L_behind 0 [.ref a0, .int x1, .ref a2, am_un] [] s = eC (am_cls s a0) 10 (cI (cl_ tb_ct tb_mt B K_X12_behind [.ref a0, .int x1] s) (fun x_2 s_1 => eS (wJ B s_1 a2 (0 : Int32) x_2.toInt64) (fun s_3 => some (.inl (some (.int (0 : Int32))), s_3))) (xh tb_ct tb_mt B mm_L_behind 4 [.ref a0, .int x1, .ref a2, am_un])) := by
  refine Eq.trans (rn_go 4 (pc' := 4) (L' := [.ref a0, .int x1, .ref a2, am_un]) (st' := [.int x1, .ref a0, .int (0 : Int32), .ref a2]) rfl) ?_
  refine Eq.trans (rn_vir (L' := [.ref a0, .int x1, .ref a2, am_un]) (as := [.int x1]) (rest := [.int (0 : Int32), .ref a2]) rfl rfl rfl rfl rfl (Nat.le_of_ble_eq_true rfl) (by decide) (by decide)) ?_
  refine eC_c ?_
  refine Eq.trans (cW_I rfl rfl rfl) ?_
  refine cI_c (fun x_2 s_1 => ?_) rfl
  refine Eq.trans (rn_go 1 (pc' := 8) (L' := [.ref a0, .int x1, .ref a2, am_un]) (st' := [.long x_2.toInt64, .int (0 : Int32), .ref a2]) rfl) ?_
  refine Eq.trans (rn_wJ (L' := [.ref a0, .int x1, .ref a2, am_un]) rfl rfl) ?_
  refine eS_c (fun s_3 => ?_)
  refine Eq.trans (rn_go 2 (pc' := 16) (L' := [.ref a0, .int x1, .ref a2, am_un]) (st' := [.int (0 : Int32)]) rfl) ?_
  exact rn_retI rfl rfl rfl
theorem in_L_grant {B : Nat} (a0 : Nat) (x1 : Int32) (a2 : Nat) (s : am_S) : cl_ tb_ct tb_mt B K_L_grant [.ref a0, .int x1, .ref a2] s = rn_ tb_ct tb_mt B mm_L_grant 0 [.ref a0, .int x1, .ref a2, am_un] [] s := cl_in rfl rfl rfl rfl
theorem dc_L_grant_0 {B : Nat} (a0 : Nat) (x1 : Int32) (a2 : Nat) (s : am_S) : rn_ tb_ct tb_mt B mm_L_grant 0 [.ref a0, .int x1, .ref a2, am_un] [] s = eC (am_cls s a0) 10 (cI (cl_ tb_ct tb_mt B K_X12_grant [.ref a0, .int x1] s) (fun x_2 s_1 => eS (wJ B s_1 a2 (0 : Int32) x_2.toInt64) (fun s_3 => some (.inl (some (.int (0 : Int32))), s_3))) (xh tb_ct tb_mt B mm_L_grant 4 [.ref a0, .int x1, .ref a2, am_un])) := by
  refine Eq.trans (rn_go 4 (pc' := 4) (L' := [.ref a0, .int x1, .ref a2, am_un]) (st' := [.int x1, .ref a0, .int (0 : Int32), .ref a2]) rfl) ?_
  refine Eq.trans (rn_vir (L' := [.ref a0, .int x1, .ref a2, am_un]) (as := [.int x1]) (rest := [.int (0 : Int32), .ref a2]) rfl rfl rfl rfl rfl (Nat.le_of_ble_eq_true rfl) (by decide) (by decide)) ?_
  refine eC_c ?_
  refine Eq.trans (cW_I rfl rfl rfl) ?_
  refine cI_c (fun x_2 s_1 => ?_) rfl
  refine Eq.trans (rn_go 1 (pc' := 8) (L' := [.ref a0, .int x1, .ref a2, am_un]) (st' := [.long x_2.toInt64, .int (0 : Int32), .ref a2]) rfl) ?_
  refine Eq.trans (rn_wJ (L' := [.ref a0, .int x1, .ref a2, am_un]) rfl rfl) ?_
  refine eS_c (fun s_3 => ?_)
  refine Eq.trans (rn_go 2 (pc' := 16) (L' := [.ref a0, .int x1, .ref a2, am_un]) (st' := [.int (0 : Int32)]) rfl) ?_
  exact rn_retI rfl rfl rfl
theorem in_L_lease {B : Nat} (a0 : Nat) (x1 : Int32) (x2 : Int32) (a3 : Nat) (s : am_S) : cl_ tb_ct tb_mt B K_L_lease [.ref a0, .int x1, .int x2, .ref a3] s = rn_ tb_ct tb_mt B mm_L_lease 0 [.ref a0, .int x1, .int x2, .ref a3, am_un] [] s := cl_in rfl rfl rfl rfl
theorem dc_L_lease_0 {B : Nat} (a0 : Nat) (x1 : Int32) (x2 : Int32) (a3 : Nat) (s : am_S) : rn_ tb_ct tb_mt B mm_L_lease 0 [.ref a0, .int x1, .int x2, .ref a3, am_un] [] s = eC (am_cls s a0) 10 (cI (cl_ tb_ct tb_mt B K_X12_lease [.ref a0, .int x1, .int x2] s) (fun x_2 s_1 => eS (wJ B s_1 a3 (0 : Int32) x_2.toInt64) (fun s_3 => some (.inl (some (.int (0 : Int32))), s_3))) (xh tb_ct tb_mt B mm_L_lease 5 [.ref a0, .int x1, .int x2, .ref a3, am_un])) := by
  refine Eq.trans (rn_go 5 (pc' := 5) (L' := [.ref a0, .int x1, .int x2, .ref a3, am_un]) (st' := [.int x2, .int x1, .ref a0, .int (0 : Int32), .ref a3]) rfl) ?_
  refine Eq.trans (rn_vir (L' := [.ref a0, .int x1, .int x2, .ref a3, am_un]) (as := [.int x1, .int x2]) (rest := [.int (0 : Int32), .ref a3]) rfl rfl rfl rfl rfl (Nat.le_of_ble_eq_true rfl) (by decide) (by decide)) ?_
  refine eC_c ?_
  refine Eq.trans (cW_I rfl rfl rfl) ?_
  refine cI_c (fun x_2 s_1 => ?_) rfl
  refine Eq.trans (rn_go 1 (pc' := 9) (L' := [.ref a0, .int x1, .int x2, .ref a3, am_un]) (st' := [.long x_2.toInt64, .int (0 : Int32), .ref a3]) rfl) ?_
  refine Eq.trans (rn_wJ (L' := [.ref a0, .int x1, .int x2, .ref a3, am_un]) rfl rfl) ?_
  refine eS_c (fun s_3 => ?_)
  refine Eq.trans (rn_go 2 (pc' := 18) (L' := [.ref a0, .int x1, .int x2, .ref a3, am_un]) (st' := [.int (0 : Int32)]) rfl) ?_
  exact rn_retI rfl rfl rfl
theorem in_L_tick {B : Nat} (a0 : Nat) (x1 : Int32) (a2 : Nat) (s : am_S) : cl_ tb_ct tb_mt B K_L_tick [.ref a0, .int x1, .ref a2] s = rn_ tb_ct tb_mt B mm_L_tick 0 [.ref a0, .int x1, .ref a2, am_un] [] s := cl_in rfl rfl rfl rfl
theorem dc_L_tick_0 {B : Nat} (a0 : Nat) (x1 : Int32) (a2 : Nat) (s : am_S) : rn_ tb_ct tb_mt B mm_L_tick 0 [.ref a0, .int x1, .ref a2, am_un] [] s = eC (am_cls s a0) 10 (cI (cl_ tb_ct tb_mt B K_X12_tick [.ref a0, .int x1] s) (fun x_2 s_1 => eS (wJ B s_1 a2 (0 : Int32) x_2.toInt64) (fun s_3 => some (.inl (some (.int (0 : Int32))), s_3))) (xh tb_ct tb_mt B mm_L_tick 4 [.ref a0, .int x1, .ref a2, am_un])) := by
  refine Eq.trans (rn_go 4 (pc' := 4) (L' := [.ref a0, .int x1, .ref a2, am_un]) (st' := [.int x1, .ref a0, .int (0 : Int32), .ref a2]) rfl) ?_
  refine Eq.trans (rn_vir (L' := [.ref a0, .int x1, .ref a2, am_un]) (as := [.int x1]) (rest := [.int (0 : Int32), .ref a2]) rfl rfl rfl rfl rfl (Nat.le_of_ble_eq_true rfl) (by decide) (by decide)) ?_
  refine eC_c ?_
  refine Eq.trans (cW_I rfl rfl rfl) ?_
  refine cI_c (fun x_2 s_1 => ?_) rfl
  refine Eq.trans (rn_go 1 (pc' := 8) (L' := [.ref a0, .int x1, .ref a2, am_un]) (st' := [.long x_2.toInt64, .int (0 : Int32), .ref a2]) rfl) ?_
  refine Eq.trans (rn_wJ (L' := [.ref a0, .int x1, .ref a2, am_un]) rfl rfl) ?_
  refine eS_c (fun s_3 => ?_)
  refine Eq.trans (rn_go 2 (pc' := 16) (L' := [.ref a0, .int x1, .ref a2, am_un]) (st' := [.int (0 : Int32)]) rfl) ?_
  exact rn_retI rfl rfl rfl
theorem in_L_expiry {B : Nat} (a0 : Nat) (x1 : Int32) (a2 : Nat) (s : am_S) : cl_ tb_ct tb_mt B K_L_expiry [.ref a0, .int x1, .ref a2] s = rn_ tb_ct tb_mt B mm_L_expiry 0 [.ref a0, .int x1, .ref a2, am_un] [] s := cl_in rfl rfl rfl rfl
theorem dc_L_expiry_0 {B : Nat} (a0 : Nat) (x1 : Int32) (a2 : Nat) (s : am_S) : rn_ tb_ct tb_mt B mm_L_expiry 0 [.ref a0, .int x1, .ref a2, am_un] [] s = eC (am_cls s a0) 10 (cI (cl_ tb_ct tb_mt B K_X12_expiry [.ref a0, .int x1] s) (fun x_2 s_1 => eS (wJ B s_1 a2 (0 : Int32) x_2.toInt64) (fun s_3 => some (.inl (some (.int (0 : Int32))), s_3))) (xh tb_ct tb_mt B mm_L_expiry 4 [.ref a0, .int x1, .ref a2, am_un])) := by
  refine Eq.trans (rn_go 4 (pc' := 4) (L' := [.ref a0, .int x1, .ref a2, am_un]) (st' := [.int x1, .ref a0, .int (0 : Int32), .ref a2]) rfl) ?_
  refine Eq.trans (rn_vir (L' := [.ref a0, .int x1, .ref a2, am_un]) (as := [.int x1]) (rest := [.int (0 : Int32), .ref a2]) rfl rfl rfl rfl rfl (Nat.le_of_ble_eq_true rfl) (by decide) (by decide)) ?_
  refine eC_c ?_
  refine Eq.trans (cW_I rfl rfl rfl) ?_
  refine cI_c (fun x_2 s_1 => ?_) rfl
  refine Eq.trans (rn_go 1 (pc' := 8) (L' := [.ref a0, .int x1, .ref a2, am_un]) (st' := [.long x_2.toInt64, .int (0 : Int32), .ref a2]) rfl) ?_
  refine Eq.trans (rn_wJ (L' := [.ref a0, .int x1, .ref a2, am_un]) rfl rfl) ?_
  refine eS_c (fun s_3 => ?_)
  refine Eq.trans (rn_go 2 (pc' := 16) (L' := [.ref a0, .int x1, .ref a2, am_un]) (st' := [.int (0 : Int32)]) rfl) ?_
  exact rn_retI rfl rfl rfl
theorem in_L_keysIn {B : Nat} (a0 : Nat) (x1 : Int32) (a2 : Nat) (s : am_S) : cl_ tb_ct tb_mt B K_L_keysIn [.ref a0, .int x1, .ref a2] s = rn_ tb_ct tb_mt B mm_L_keysIn 0 [.ref a0, .int x1, .ref a2, am_un] [] s := cl_in rfl rfl rfl rfl
theorem dc_L_keysIn_0 {B : Nat} (a0 : Nat) (x1 : Int32) (a2 : Nat) (s : am_S) : rn_ tb_ct tb_mt B mm_L_keysIn 0 [.ref a0, .int x1, .ref a2, am_un] [] s = eC (am_cls s a0) 10 (cI (cl_ tb_ct tb_mt B K_X12_keysIn [.ref a0, .int x1] s) (fun x_2 s_1 => eS (wJ B s_1 a2 (0 : Int32) x_2.toInt64) (fun s_3 => some (.inl (some (.int (0 : Int32))), s_3))) (xh tb_ct tb_mt B mm_L_keysIn 4 [.ref a0, .int x1, .ref a2, am_un])) := by
  refine Eq.trans (rn_go 4 (pc' := 4) (L' := [.ref a0, .int x1, .ref a2, am_un]) (st' := [.int x1, .ref a0, .int (0 : Int32), .ref a2]) rfl) ?_
  refine Eq.trans (rn_vir (L' := [.ref a0, .int x1, .ref a2, am_un]) (as := [.int x1]) (rest := [.int (0 : Int32), .ref a2]) rfl rfl rfl rfl rfl (Nat.le_of_ble_eq_true rfl) (by decide) (by decide)) ?_
  refine eC_c ?_
  refine Eq.trans (cW_I rfl rfl rfl) ?_
  refine cI_c (fun x_2 s_1 => ?_) rfl
  refine Eq.trans (rn_go 1 (pc' := 8) (L' := [.ref a0, .int x1, .ref a2, am_un]) (st' := [.long x_2.toInt64, .int (0 : Int32), .ref a2]) rfl) ?_
  refine Eq.trans (rn_wJ (L' := [.ref a0, .int x1, .ref a2, am_un]) rfl rfl) ?_
  refine eS_c (fun s_3 => ?_)
  refine Eq.trans (rn_go 2 (pc' := 16) (L' := [.ref a0, .int x1, .ref a2, am_un]) (st' := [.int (0 : Int32)]) rfl) ?_
  exact rn_retI rfl rfl rfl
theorem in_L_when {B : Nat} (a0 : Nat) (x1 : Int32) (x2 : Int32) (x3 : Int32) (x4 : Int32) (a5 : Nat) (s : am_S) : cl_ tb_ct tb_mt B K_L_when [.ref a0, .int x1, .int x2, .int x3, .int x4, .ref a5] s = rn_ tb_ct tb_mt B mm_L_when 0 [.ref a0, .int x1, .int x2, .int x3, .int x4, .ref a5, am_un] [] s := cl_in rfl rfl rfl rfl
theorem dc_L_when_0 {B : Nat} (a0 : Nat) (x1 : Int32) (x2 : Int32) (x3 : Int32) (x4 : Int32) (a5 : Nat) (s : am_S) : rn_ tb_ct tb_mt B mm_L_when 0 [.ref a0, .int x1, .int x2, .int x3, .int x4, .ref a5, am_un] [] s = eC (am_cls s a0) 10 (cI (cl_ tb_ct tb_mt B K_X12_when [.ref a0, .int x1, .int x2, .int x3, .int x4] s) (fun x_2 s_1 => eS (wJ B s_1 a5 (0 : Int32) x_2.toInt64) (fun s_3 => some (.inl (some (.int (0 : Int32))), s_3))) (xh tb_ct tb_mt B mm_L_when 9 [.ref a0, .int x1, .int x2, .int x3, .int x4, .ref a5, am_un])) := by
  refine Eq.trans (rn_go 7 (pc' := 9) (L' := [.ref a0, .int x1, .int x2, .int x3, .int x4, .ref a5, am_un]) (st' := [.int x4, .int x3, .int x2, .int x1, .ref a0, .int (0 : Int32), .ref a5]) rfl) ?_
  refine Eq.trans (rn_vir (L' := [.ref a0, .int x1, .int x2, .int x3, .int x4, .ref a5, am_un]) (as := [.int x1, .int x2, .int x3, .int x4]) (rest := [.int (0 : Int32), .ref a5]) rfl rfl rfl rfl rfl (Nat.le_of_ble_eq_true rfl) (by decide) (by decide)) ?_
  refine eC_c ?_
  refine Eq.trans (cW_I rfl rfl rfl) ?_
  refine cI_c (fun x_2 s_1 => ?_) rfl
  refine Eq.trans (rn_go 1 (pc' := 13) (L' := [.ref a0, .int x1, .int x2, .int x3, .int x4, .ref a5, am_un]) (st' := [.long x_2.toInt64, .int (0 : Int32), .ref a5]) rfl) ?_
  refine Eq.trans (rn_wJ (L' := [.ref a0, .int x1, .int x2, .int x3, .int x4, .ref a5, am_un]) rfl rfl) ?_
  refine eS_c (fun s_3 => ?_)
  refine Eq.trans (rn_go 2 (pc' := 22) (L' := [.ref a0, .int x1, .int x2, .int x3, .int x4, .ref a5, am_un]) (st' := [.int (0 : Int32)]) rfl) ?_
  exact rn_retI rfl rfl rfl
theorem in_L_then {B : Nat} (a0 : Nat) (x1 : Int32) (x2 : Int32) (x3 : Int32) (a4 : Nat) (s : am_S) : cl_ tb_ct tb_mt B K_L_then [.ref a0, .int x1, .int x2, .int x3, .ref a4] s = rn_ tb_ct tb_mt B mm_L_then 0 [.ref a0, .int x1, .int x2, .int x3, .ref a4, am_un] [] s := cl_in rfl rfl rfl rfl
theorem dc_L_then_0 {B : Nat} (a0 : Nat) (x1 : Int32) (x2 : Int32) (x3 : Int32) (a4 : Nat) (s : am_S) : rn_ tb_ct tb_mt B mm_L_then 0 [.ref a0, .int x1, .int x2, .int x3, .ref a4, am_un] [] s = eC (am_cls s a0) 10 (cI (cl_ tb_ct tb_mt B K_X12_then [.ref a0, .int x1, .int x2, .int x3] s) (fun x_2 s_1 => eS (wJ B s_1 a4 (0 : Int32) x_2.toInt64) (fun s_3 => some (.inl (some (.int (0 : Int32))), s_3))) (xh tb_ct tb_mt B mm_L_then 7 [.ref a0, .int x1, .int x2, .int x3, .ref a4, am_un])) := by
  refine Eq.trans (rn_go 6 (pc' := 7) (L' := [.ref a0, .int x1, .int x2, .int x3, .ref a4, am_un]) (st' := [.int x3, .int x2, .int x1, .ref a0, .int (0 : Int32), .ref a4]) rfl) ?_
  refine Eq.trans (rn_vir (L' := [.ref a0, .int x1, .int x2, .int x3, .ref a4, am_un]) (as := [.int x1, .int x2, .int x3]) (rest := [.int (0 : Int32), .ref a4]) rfl rfl rfl rfl rfl (Nat.le_of_ble_eq_true rfl) (by decide) (by decide)) ?_
  refine eC_c ?_
  refine Eq.trans (cW_I rfl rfl rfl) ?_
  refine cI_c (fun x_2 s_1 => ?_) rfl
  refine Eq.trans (rn_go 1 (pc' := 11) (L' := [.ref a0, .int x1, .int x2, .int x3, .ref a4, am_un]) (st' := [.long x_2.toInt64, .int (0 : Int32), .ref a4]) rfl) ?_
  refine Eq.trans (rn_wJ (L' := [.ref a0, .int x1, .int x2, .int x3, .ref a4, am_un]) rfl rfl) ?_
  refine eS_c (fun s_3 => ?_)
  refine Eq.trans (rn_go 2 (pc' := 20) (L' := [.ref a0, .int x1, .int x2, .int x3, .ref a4, am_un]) (st' := [.int (0 : Int32)]) rfl) ?_
  exact rn_retI rfl rfl rfl
theorem in_L_otherwise {B : Nat} (a0 : Nat) (x1 : Int32) (x2 : Int32) (x3 : Int32) (a4 : Nat) (s : am_S) : cl_ tb_ct tb_mt B K_L_otherwise [.ref a0, .int x1, .int x2, .int x3, .ref a4] s = rn_ tb_ct tb_mt B mm_L_otherwise 0 [.ref a0, .int x1, .int x2, .int x3, .ref a4, am_un] [] s := cl_in rfl rfl rfl rfl
theorem dc_L_otherwise_0 {B : Nat} (a0 : Nat) (x1 : Int32) (x2 : Int32) (x3 : Int32) (a4 : Nat) (s : am_S) : rn_ tb_ct tb_mt B mm_L_otherwise 0 [.ref a0, .int x1, .int x2, .int x3, .ref a4, am_un] [] s = eC (am_cls s a0) 10 (cI (cl_ tb_ct tb_mt B K_X12_otherwise [.ref a0, .int x1, .int x2, .int x3] s) (fun x_2 s_1 => eS (wJ B s_1 a4 (0 : Int32) x_2.toInt64) (fun s_3 => some (.inl (some (.int (0 : Int32))), s_3))) (xh tb_ct tb_mt B mm_L_otherwise 7 [.ref a0, .int x1, .int x2, .int x3, .ref a4, am_un])) := by
  refine Eq.trans (rn_go 6 (pc' := 7) (L' := [.ref a0, .int x1, .int x2, .int x3, .ref a4, am_un]) (st' := [.int x3, .int x2, .int x1, .ref a0, .int (0 : Int32), .ref a4]) rfl) ?_
  refine Eq.trans (rn_vir (L' := [.ref a0, .int x1, .int x2, .int x3, .ref a4, am_un]) (as := [.int x1, .int x2, .int x3]) (rest := [.int (0 : Int32), .ref a4]) rfl rfl rfl rfl rfl (Nat.le_of_ble_eq_true rfl) (by decide) (by decide)) ?_
  refine eC_c ?_
  refine Eq.trans (cW_I rfl rfl rfl) ?_
  refine cI_c (fun x_2 s_1 => ?_) rfl
  refine Eq.trans (rn_go 1 (pc' := 11) (L' := [.ref a0, .int x1, .int x2, .int x3, .ref a4, am_un]) (st' := [.long x_2.toInt64, .int (0 : Int32), .ref a4]) rfl) ?_
  refine Eq.trans (rn_wJ (L' := [.ref a0, .int x1, .int x2, .int x3, .ref a4, am_un]) rfl rfl) ?_
  refine eS_c (fun s_3 => ?_)
  refine Eq.trans (rn_go 2 (pc' := 20) (L' := [.ref a0, .int x1, .int x2, .int x3, .ref a4, am_un]) (st' := [.int (0 : Int32)]) rfl) ?_
  exact rn_retI rfl rfl rfl
theorem in_L_writeKey {B : Nat} (a0 : Nat) (x1 : Int32) (a2 : Nat) (s : am_S) : cl_ tb_ct tb_mt B K_L_writeKey [.ref a0, .int x1, .ref a2] s = rn_ tb_ct tb_mt B mm_L_writeKey 0 [.ref a0, .int x1, .ref a2, am_un] [] s := cl_in rfl rfl rfl rfl
theorem dc_L_writeKey_0 {B : Nat} (a0 : Nat) (x1 : Int32) (a2 : Nat) (s : am_S) : rn_ tb_ct tb_mt B mm_L_writeKey 0 [.ref a0, .int x1, .ref a2, am_un] [] s = eC (am_cls s a0) 10 (cI (cl_ tb_ct tb_mt B K_X12_writeKey [.ref a0, .int x1] s) (fun x_2 s_1 => eS (wJ B s_1 a2 (0 : Int32) x_2.toInt64) (fun s_3 => some (.inl (some (.int (0 : Int32))), s_3))) (xh tb_ct tb_mt B mm_L_writeKey 4 [.ref a0, .int x1, .ref a2, am_un])) := by
  refine Eq.trans (rn_go 4 (pc' := 4) (L' := [.ref a0, .int x1, .ref a2, am_un]) (st' := [.int x1, .ref a0, .int (0 : Int32), .ref a2]) rfl) ?_
  refine Eq.trans (rn_vir (L' := [.ref a0, .int x1, .ref a2, am_un]) (as := [.int x1]) (rest := [.int (0 : Int32), .ref a2]) rfl rfl rfl rfl rfl (Nat.le_of_ble_eq_true rfl) (by decide) (by decide)) ?_
  refine eC_c ?_
  refine Eq.trans (cW_I rfl rfl rfl) ?_
  refine cI_c (fun x_2 s_1 => ?_) rfl
  refine Eq.trans (rn_go 1 (pc' := 8) (L' := [.ref a0, .int x1, .ref a2, am_un]) (st' := [.long x_2.toInt64, .int (0 : Int32), .ref a2]) rfl) ?_
  refine Eq.trans (rn_wJ (L' := [.ref a0, .int x1, .ref a2, am_un]) rfl rfl) ?_
  refine eS_c (fun s_3 => ?_)
  refine Eq.trans (rn_go 2 (pc' := 16) (L' := [.ref a0, .int x1, .ref a2, am_un]) (st' := [.int (0 : Int32)]) rfl) ?_
  exact rn_retI rfl rfl rfl
theorem in_L_saveSnapshot {B : Nat} (a0 : Nat) (x1 : Int32) (a2 : Nat) (s : am_S) : cl_ tb_ct tb_mt B K_L_saveSnapshot [.ref a0, .int x1, .ref a2] s = rn_ tb_ct tb_mt B mm_L_saveSnapshot 0 [.ref a0, .int x1, .ref a2, am_un] [] s := cl_in rfl rfl rfl rfl
theorem dc_L_saveSnapshot_0 {B : Nat} (a0 : Nat) (x1 : Int32) (a2 : Nat) (s : am_S) : rn_ tb_ct tb_mt B mm_L_saveSnapshot 0 [.ref a0, .int x1, .ref a2, am_un] [] s = eC (am_cls s a0) 10 (cI (cl_ tb_ct tb_mt B K_X12_saveSnapshot [.ref a0, .int x1] s) (fun x_2 s_1 => eS (wJ B s_1 a2 (0 : Int32) x_2.toInt64) (fun s_3 => some (.inl (some (.int (0 : Int32))), s_3))) (xh tb_ct tb_mt B mm_L_saveSnapshot 4 [.ref a0, .int x1, .ref a2, am_un])) := by
  refine Eq.trans (rn_go 4 (pc' := 4) (L' := [.ref a0, .int x1, .ref a2, am_un]) (st' := [.int x1, .ref a0, .int (0 : Int32), .ref a2]) rfl) ?_
  refine Eq.trans (rn_vir (L' := [.ref a0, .int x1, .ref a2, am_un]) (as := [.int x1]) (rest := [.int (0 : Int32), .ref a2]) rfl rfl rfl rfl rfl (Nat.le_of_ble_eq_true rfl) (by decide) (by decide)) ?_
  refine eC_c ?_
  refine Eq.trans (cW_I rfl rfl rfl) ?_
  refine cI_c (fun x_2 s_1 => ?_) rfl
  refine Eq.trans (rn_go 1 (pc' := 8) (L' := [.ref a0, .int x1, .ref a2, am_un]) (st' := [.long x_2.toInt64, .int (0 : Int32), .ref a2]) rfl) ?_
  refine Eq.trans (rn_wJ (L' := [.ref a0, .int x1, .ref a2, am_un]) rfl rfl) ?_
  refine eS_c (fun s_3 => ?_)
  refine Eq.trans (rn_go 2 (pc' := 16) (L' := [.ref a0, .int x1, .ref a2, am_un]) (st' := [.int (0 : Int32)]) rfl) ?_
  exact rn_retI rfl rfl rfl
theorem in_L_restoreSnapshot {B : Nat} (a0 : Nat) (x1 : Int32) (a2 : Nat) (s : am_S) : cl_ tb_ct tb_mt B K_L_restoreSnapshot [.ref a0, .int x1, .ref a2] s = rn_ tb_ct tb_mt B mm_L_restoreSnapshot 0 [.ref a0, .int x1, .ref a2, am_un] [] s := cl_in rfl rfl rfl rfl
theorem dc_L_restoreSnapshot_0 {B : Nat} (a0 : Nat) (x1 : Int32) (a2 : Nat) (s : am_S) : rn_ tb_ct tb_mt B mm_L_restoreSnapshot 0 [.ref a0, .int x1, .ref a2, am_un] [] s = eC (am_cls s a0) 10 (cI (cl_ tb_ct tb_mt B K_X12_restoreSnapshot [.ref a0, .int x1] s) (fun x_2 s_1 => eS (wJ B s_1 a2 (0 : Int32) x_2.toInt64) (fun s_3 => some (.inl (some (.int (0 : Int32))), s_3))) (xh tb_ct tb_mt B mm_L_restoreSnapshot 4 [.ref a0, .int x1, .ref a2, am_un])) := by
  refine Eq.trans (rn_go 4 (pc' := 4) (L' := [.ref a0, .int x1, .ref a2, am_un]) (st' := [.int x1, .ref a0, .int (0 : Int32), .ref a2]) rfl) ?_
  refine Eq.trans (rn_vir (L' := [.ref a0, .int x1, .ref a2, am_un]) (as := [.int x1]) (rest := [.int (0 : Int32), .ref a2]) rfl rfl rfl rfl rfl (Nat.le_of_ble_eq_true rfl) (by decide) (by decide)) ?_
  refine eC_c ?_
  refine Eq.trans (cW_I rfl rfl rfl) ?_
  refine cI_c (fun x_2 s_1 => ?_) rfl
  refine Eq.trans (rn_go 1 (pc' := 8) (L' := [.ref a0, .int x1, .ref a2, am_un]) (st' := [.long x_2.toInt64, .int (0 : Int32), .ref a2]) rfl) ?_
  refine Eq.trans (rn_wJ (L' := [.ref a0, .int x1, .ref a2, am_un]) rfl rfl) ?_
  refine eS_c (fun s_3 => ?_)
  refine Eq.trans (rn_go 2 (pc' := 16) (L' := [.ref a0, .int x1, .ref a2, am_un]) (st' := [.int (0 : Int32)]) rfl) ?_
  exact rn_retI rfl rfl rfl
