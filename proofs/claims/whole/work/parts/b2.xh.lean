/-! ===== the wrappers: what they answer when the class throws ===== -/
section Lx
variable {B : Nat}
theorem x_count_0 {a0 : Nat} {x1 : Int32} {a2 : Nat} (s : am_S) : xh tb_ct tb_mt B mm_L_count 4 [.ref a0, .int x1, .ref a2, am_un] 0 s = some (.inl (some (.int 1)), s) := by
  show rn_ tb_ct tb_mt B mm_L_count 13 [.ref a0, .int x1, .ref a2, am_un] [] s = _
  refine Eq.trans (rn_go 1 (pc' := 14) (L' := [.ref a0, .int x1, .ref a2, am_un]) (st' := [.int (1 : Int32)]) rfl) ?_
  exact rn_retI rfl rfl rfl
theorem x_get_0 {a0 : Nat} {x1 : Int32} {x2 : Int32} {a3 : Nat} (s : am_S) : xh tb_ct tb_mt B mm_L_get 5 [.ref a0, .int x1, .int x2, .ref a3, am_un] 0 s = some (.inl (some (.int 1)), s) := by
  show rn_ tb_ct tb_mt B mm_L_get 15 [.ref a0, .int x1, .int x2, .ref a3, am_un] [] s = _
  refine Eq.trans (rn_go 1 (pc' := 16) (L' := [.ref a0, .int x1, .int x2, .ref a3, am_un]) (st' := [.int (1 : Int32)]) rfl) ?_
  exact rn_retI rfl rfl rfl
theorem x_getAt_0 {a0 : Nat} {x1 : Int32} {x2 : Int32} {a3 : Nat} (s : am_S) : xh tb_ct tb_mt B mm_L_getAt 5 [.ref a0, .int x1, .int x2, .ref a3, am_un] 0 s = some (.inl (some (.int 1)), s) := by
  show rn_ tb_ct tb_mt B mm_L_getAt 15 [.ref a0, .int x1, .int x2, .ref a3, am_un] [] s = _
  refine Eq.trans (rn_go 1 (pc' := 16) (L' := [.ref a0, .int x1, .int x2, .ref a3, am_un]) (st' := [.int (1 : Int32)]) rfl) ?_
  exact rn_retI rfl rfl rfl
theorem x_keysAt_0 {a0 : Nat} {x1 : Int32} {x2 : Int32} {x3 : Int32} {a4 : Nat} (s : am_S) : xh tb_ct tb_mt B mm_L_keysAt 7 [.ref a0, .int x1, .int x2, .int x3, .ref a4, am_un] 0 s = some (.inl (some (.int 1)), s) := by
  show rn_ tb_ct tb_mt B mm_L_keysAt 17 [.ref a0, .int x1, .int x2, .int x3, .ref a4, am_un] [] s = _
  refine Eq.trans (rn_go 1 (pc' := 18) (L' := [.ref a0, .int x1, .int x2, .int x3, .ref a4, am_un]) (st' := [.int (1 : Int32)]) rfl) ?_
  exact rn_retI rfl rfl rfl
theorem x_keyAt_0 {a0 : Nat} {x1 : Int32} {x2 : Int32} {x3 : Int32} {x4 : Int32} {a5 : Nat} (s : am_S) : xh tb_ct tb_mt B mm_L_keyAt 9 [.ref a0, .int x1, .int x2, .int x3, .int x4, .ref a5, am_un] 0 s = some (.inl (some (.int 1)), s) := by
  show rn_ tb_ct tb_mt B mm_L_keyAt 19 [.ref a0, .int x1, .int x2, .int x3, .int x4, .ref a5, am_un] [] s = _
  refine Eq.trans (rn_go 1 (pc' := 20) (L' := [.ref a0, .int x1, .int x2, .int x3, .int x4, .ref a5, am_un]) (st' := [.int (1 : Int32)]) rfl) ?_
  exact rn_retI rfl rfl rfl
theorem x_sumAt_0 {a0 : Nat} {x1 : Int32} {x2 : Int32} {x3 : Int32} {a4 : Nat} (s : am_S) : xh tb_ct tb_mt B mm_L_sumAt 7 [.ref a0, .int x1, .int x2, .int x3, .ref a4, am_un] 0 s = some (.inl (some (.int 1)), s) := by
  show rn_ tb_ct tb_mt B mm_L_sumAt 16 [.ref a0, .int x1, .int x2, .int x3, .ref a4, am_un] [] s = _
  refine Eq.trans (rn_go 1 (pc' := 17) (L' := [.ref a0, .int x1, .int x2, .int x3, .ref a4, am_un]) (st' := [.int (1 : Int32)]) rfl) ?_
  exact rn_retI rfl rfl rfl
theorem x_changed_0 {a0 : Nat} {x1 : Int32} {x2 : Int32} {a3 : Nat} (s : am_S) : xh tb_ct tb_mt B mm_L_changed 5 [.ref a0, .int x1, .int x2, .ref a3, am_un] 0 s = some (.inl (some (.int 1)), s) := by
  show rn_ tb_ct tb_mt B mm_L_changed 15 [.ref a0, .int x1, .int x2, .ref a3, am_un] [] s = _
  refine Eq.trans (rn_go 1 (pc' := 16) (L' := [.ref a0, .int x1, .int x2, .ref a3, am_un]) (st' := [.int (1 : Int32)]) rfl) ?_
  exact rn_retI rfl rfl rfl
theorem x_digest_0 {a0 : Nat} {x1 : Int32} {a2 : Nat} (s : am_S) : xh tb_ct tb_mt B mm_L_digest 4 [.ref a0, .int x1, .ref a2, am_un] 0 s = some (.inl (some (.int 1)), s) := by
  show rn_ tb_ct tb_mt B mm_L_digest 13 [.ref a0, .int x1, .ref a2, am_un] [] s = _
  refine Eq.trans (rn_go 1 (pc' := 14) (L' := [.ref a0, .int x1, .ref a2, am_un]) (st' := [.int (1 : Int32)]) rfl) ?_
  exact rn_retI rfl rfl rfl
theorem x_versionAt_0 {a0 : Nat} {x1 : Int32} {x2 : Int32} {a3 : Nat} (s : am_S) : xh tb_ct tb_mt B mm_L_versionAt 5 [.ref a0, .int x1, .int x2, .ref a3, am_un] 0 s = some (.inl (some (.int 1)), s) := by
  show rn_ tb_ct tb_mt B mm_L_versionAt 15 [.ref a0, .int x1, .int x2, .ref a3, am_un] [] s = _
  refine Eq.trans (rn_go 1 (pc' := 16) (L' := [.ref a0, .int x1, .int x2, .ref a3, am_un]) (st' := [.int (1 : Int32)]) rfl) ?_
  exact rn_retI rfl rfl rfl
theorem x_event_1 {a0 : Nat} {x1 : Int32} {x2 : Int32} {a3 : Nat} (s : am_S) : xh tb_ct tb_mt B mm_L_event 5 [.ref a0, .int x1, .int x2, .ref a3, am_un] 1 s = some (.inl (some (.int 1)), s) := by
  show rn_ tb_ct tb_mt B mm_L_event 15 [.ref a0, .int x1, .int x2, .ref a3, am_un] [] s = _
  refine Eq.trans (rn_go 1 (pc' := 16) (L' := [.ref a0, .int x1, .int x2, .ref a3, am_un]) (st' := [.int (1 : Int32)]) rfl) ?_
  exact rn_retI rfl rfl rfl
theorem x_event_0 {a0 : Nat} {x1 : Int32} {x2 : Int32} {a3 : Nat} (s : am_S) : xh tb_ct tb_mt B mm_L_event 5 [.ref a0, .int x1, .int x2, .ref a3, am_un] 0 s = some (.inl (some (.int 2)), s) := by
  show rn_ tb_ct tb_mt B mm_L_event 19 [.ref a0, .int x1, .int x2, .ref a3, am_un] [] s = _
  refine Eq.trans (rn_go 1 (pc' := 20) (L' := [.ref a0, .int x1, .int x2, .ref a3, am_un]) (st' := [.int (2 : Int32)]) rfl) ?_
  exact rn_retI rfl rfl rfl
theorem x_writes_0 {a0 : Nat} {x1 : Int32} {a2 : Nat} (s : am_S) : xh tb_ct tb_mt B mm_L_writes 4 [.ref a0, .int x1, .ref a2, am_un] 0 s = some (.inl (some (.int 1)), s) := by
  show rn_ tb_ct tb_mt B mm_L_writes 13 [.ref a0, .int x1, .ref a2, am_un] [] s = _
  refine Eq.trans (rn_go 1 (pc' := 14) (L' := [.ref a0, .int x1, .ref a2, am_un]) (st' := [.int (1 : Int32)]) rfl) ?_
  exact rn_retI rfl rfl rfl
theorem x_leader_0 {a0 : Nat} {x1 : Int32} {x2 : Int32} {a3 : Nat} (s : am_S) : xh tb_ct tb_mt B mm_L_leader 5 [.ref a0, .int x1, .int x2, .ref a3, am_un] 0 s = some (.inl (some (.int 1)), s) := by
  show rn_ tb_ct tb_mt B mm_L_leader 15 [.ref a0, .int x1, .int x2, .ref a3, am_un] [] s = _
  refine Eq.trans (rn_go 1 (pc' := 16) (L' := [.ref a0, .int x1, .int x2, .ref a3, am_un]) (st' := [.int (1 : Int32)]) rfl) ?_
  exact rn_retI rfl rfl rfl
theorem x_ahead_0 {a0 : Nat} {x1 : Int32} {x2 : Int32} {x3 : Int32} {a4 : Nat} (s : am_S) : xh tb_ct tb_mt B mm_L_ahead 7 [.ref a0, .int x1, .int x2, .int x3, .ref a4, am_un] 0 s = some (.inl (some (.int 1)), s) := by
  show rn_ tb_ct tb_mt B mm_L_ahead 17 [.ref a0, .int x1, .int x2, .int x3, .ref a4, am_un] [] s = _
  refine Eq.trans (rn_go 1 (pc' := 18) (L' := [.ref a0, .int x1, .int x2, .int x3, .ref a4, am_un]) (st' := [.int (1 : Int32)]) rfl) ?_
  exact rn_retI rfl rfl rfl
theorem x_place_0 {a0 : Nat} {x1 : Int32} {x2 : Int32} {x3 : Int32} {a4 : Nat} (s : am_S) : xh tb_ct tb_mt B mm_L_place 7 [.ref a0, .int x1, .int x2, .int x3, .ref a4, am_un] 0 s = some (.inl (some (.int 1)), s) := by
  show rn_ tb_ct tb_mt B mm_L_place 17 [.ref a0, .int x1, .int x2, .int x3, .ref a4, am_un] [] s = _
  refine Eq.trans (rn_go 1 (pc' := 18) (L' := [.ref a0, .int x1, .int x2, .int x3, .ref a4, am_un]) (st' := [.int (1 : Int32)]) rfl) ?_
  exact rn_retI rfl rfl rfl
theorem x_put_0 {a0 : Nat} {x1 : Int32} {x2 : Int32} {x3 : Int32} {a4 : Nat} (s : am_S) : xh tb_ct tb_mt B mm_L_put 7 [.ref a0, .int x1, .int x2, .int x3, .ref a4, am_un] 0 s = some (.inl (some (.int 1)), s) := by
  show rn_ tb_ct tb_mt B mm_L_put 17 [.ref a0, .int x1, .int x2, .int x3, .ref a4, am_un] [] s = _
  refine Eq.trans (rn_go 1 (pc' := 18) (L' := [.ref a0, .int x1, .int x2, .int x3, .ref a4, am_un]) (st' := [.int (1 : Int32)]) rfl) ?_
  exact rn_retI rfl rfl rfl
theorem x_delete_0 {a0 : Nat} {x1 : Int32} {x2 : Int32} {a3 : Nat} (s : am_S) : xh tb_ct tb_mt B mm_L_delete 5 [.ref a0, .int x1, .int x2, .ref a3, am_un] 0 s = some (.inl (some (.int 1)), s) := by
  show rn_ tb_ct tb_mt B mm_L_delete 15 [.ref a0, .int x1, .int x2, .ref a3, am_un] [] s = _
  refine Eq.trans (rn_go 1 (pc' := 16) (L' := [.ref a0, .int x1, .int x2, .ref a3, am_un]) (st' := [.int (1 : Int32)]) rfl) ?_
  exact rn_retI rfl rfl rfl
theorem x_compact_0 {a0 : Nat} {x1 : Int32} {a2 : Nat} (s : am_S) : xh tb_ct tb_mt B mm_L_compact 4 [.ref a0, .int x1, .ref a2, am_un] 0 s = some (.inl (some (.int 1)), s) := by
  show rn_ tb_ct tb_mt B mm_L_compact 13 [.ref a0, .int x1, .ref a2, am_un] [] s = _
  refine Eq.trans (rn_go 1 (pc' := 14) (L' := [.ref a0, .int x1, .ref a2, am_un]) (st' := [.int (1 : Int32)]) rfl) ?_
  exact rn_retI rfl rfl rfl
theorem x_revert_0 {a0 : Nat} {x1 : Int32} {a2 : Nat} (s : am_S) : xh tb_ct tb_mt B mm_L_revert 4 [.ref a0, .int x1, .ref a2, am_un] 0 s = some (.inl (some (.int 1)), s) := by
  show rn_ tb_ct tb_mt B mm_L_revert 13 [.ref a0, .int x1, .ref a2, am_un] [] s = _
  refine Eq.trans (rn_go 1 (pc' := 14) (L' := [.ref a0, .int x1, .ref a2, am_un]) (st' := [.int (1 : Int32)]) rfl) ?_
  exact rn_retI rfl rfl rfl
theorem x_attach_0 {a0 : Nat} {x1 : Int32} {x2 : Int32} {a3 : Nat} (s : am_S) : xh tb_ct tb_mt B mm_L_attach 5 [.ref a0, .int x1, .int x2, .ref a3, am_un] 0 s = some (.inl (some (.int 1)), s) := by
  show rn_ tb_ct tb_mt B mm_L_attach 15 [.ref a0, .int x1, .int x2, .ref a3, am_un] [] s = _
  refine Eq.trans (rn_go 1 (pc' := 16) (L' := [.ref a0, .int x1, .int x2, .ref a3, am_un]) (st' := [.int (1 : Int32)]) rfl) ?_
  exact rn_retI rfl rfl rfl
theorem x_watch_0 {a0 : Nat} {x1 : Int32} {x2 : Int32} {x3 : Int32} {x4 : Int32} {a5 : Nat} (s : am_S) : xh tb_ct tb_mt B mm_L_watch 9 [.ref a0, .int x1, .int x2, .int x3, .int x4, .ref a5, am_un] 0 s = some (.inl (some (.int 1)), s) := by
  show rn_ tb_ct tb_mt B mm_L_watch 19 [.ref a0, .int x1, .int x2, .int x3, .int x4, .ref a5, am_un] [] s = _
  refine Eq.trans (rn_go 1 (pc' := 20) (L' := [.ref a0, .int x1, .int x2, .int x3, .int x4, .ref a5, am_un]) (st' := [.int (1 : Int32)]) rfl) ?_
  exact rn_retI rfl rfl rfl
theorem x_watchValue_1 {a0 : Nat} {x1 : Int32} {x2 : Int32} {a3 : Nat} (s : am_S) : xh tb_ct tb_mt B mm_L_watchValue 5 [.ref a0, .int x1, .int x2, .ref a3, am_un] 1 s = some (.inl (some (.int 1)), s) := by
  show rn_ tb_ct tb_mt B mm_L_watchValue 15 [.ref a0, .int x1, .int x2, .ref a3, am_un] [] s = _
  refine Eq.trans (rn_go 1 (pc' := 16) (L' := [.ref a0, .int x1, .int x2, .ref a3, am_un]) (st' := [.int (1 : Int32)]) rfl) ?_
  exact rn_retI rfl rfl rfl
theorem x_watchValue_0 {a0 : Nat} {x1 : Int32} {x2 : Int32} {a3 : Nat} (s : am_S) : xh tb_ct tb_mt B mm_L_watchValue 5 [.ref a0, .int x1, .int x2, .ref a3, am_un] 0 s = some (.inl (some (.int 2)), s) := by
  show rn_ tb_ct tb_mt B mm_L_watchValue 19 [.ref a0, .int x1, .int x2, .ref a3, am_un] [] s = _
  refine Eq.trans (rn_go 1 (pc' := 20) (L' := [.ref a0, .int x1, .int x2, .ref a3, am_un]) (st' := [.int (2 : Int32)]) rfl) ?_
  exact rn_retI rfl rfl rfl
theorem x_take_1 {a0 : Nat} {x1 : Int32} {a2 : Nat} (s : am_S) : xh tb_ct tb_mt B mm_L_take 4 [.ref a0, .int x1, .ref a2, am_un] 1 s = some (.inl (some (.int 1)), s) := by
  show rn_ tb_ct tb_mt B mm_L_take 13 [.ref a0, .int x1, .ref a2, am_un] [] s = _
  refine Eq.trans (rn_go 1 (pc' := 14) (L' := [.ref a0, .int x1, .ref a2, am_un]) (st' := [.int (1 : Int32)]) rfl) ?_
  exact rn_retI rfl rfl rfl
theorem x_taken_1 {a0 : Nat} {x1 : Int32} {x2 : Int32} {a3 : Nat} (s : am_S) : xh tb_ct tb_mt B mm_L_taken 5 [.ref a0, .int x1, .int x2, .ref a3, am_un] 1 s = some (.inl (some (.int 1)), s) := by
  show rn_ tb_ct tb_mt B mm_L_taken 15 [.ref a0, .int x1, .int x2, .ref a3, am_un] [] s = _
  refine Eq.trans (rn_go 1 (pc' := 16) (L' := [.ref a0, .int x1, .int x2, .ref a3, am_un]) (st' := [.int (1 : Int32)]) rfl) ?_
  exact rn_retI rfl rfl rfl
theorem x_taken_0 {a0 : Nat} {x1 : Int32} {x2 : Int32} {a3 : Nat} (s : am_S) : xh tb_ct tb_mt B mm_L_taken 5 [.ref a0, .int x1, .int x2, .ref a3, am_un] 0 s = some (.inl (some (.int 2)), s) := by
  show rn_ tb_ct tb_mt B mm_L_taken 19 [.ref a0, .int x1, .int x2, .ref a3, am_un] [] s = _
  refine Eq.trans (rn_go 1 (pc' := 20) (L' := [.ref a0, .int x1, .int x2, .ref a3, am_un]) (st' := [.int (2 : Int32)]) rfl) ?_
  exact rn_retI rfl rfl rfl
theorem x_admit_1 {a0 : Nat} {x1 : Int32} {a2 : Nat} (s : am_S) : xh tb_ct tb_mt B mm_L_admit 4 [.ref a0, .int x1, .ref a2, am_un] 1 s = some (.inl (some (.int 1)), s) := by
  show rn_ tb_ct tb_mt B mm_L_admit 13 [.ref a0, .int x1, .ref a2, am_un] [] s = _
  refine Eq.trans (rn_go 1 (pc' := 14) (L' := [.ref a0, .int x1, .ref a2, am_un]) (st' := [.int (1 : Int32)]) rfl) ?_
  exact rn_retI rfl rfl rfl
theorem x_rewatch_1 {a0 : Nat} {x1 : Int32} {x2 : Int32} {a3 : Nat} (s : am_S) : xh tb_ct tb_mt B mm_L_rewatch 5 [.ref a0, .int x1, .int x2, .ref a3, am_un] 1 s = some (.inl (some (.int 1)), s) := by
  show rn_ tb_ct tb_mt B mm_L_rewatch 15 [.ref a0, .int x1, .int x2, .ref a3, am_un] [] s = _
  refine Eq.trans (rn_go 1 (pc' := 16) (L' := [.ref a0, .int x1, .int x2, .ref a3, am_un]) (st' := [.int (1 : Int32)]) rfl) ?_
  exact rn_retI rfl rfl rfl
theorem x_rewatch_0 {a0 : Nat} {x1 : Int32} {x2 : Int32} {a3 : Nat} (s : am_S) : xh tb_ct tb_mt B mm_L_rewatch 5 [.ref a0, .int x1, .int x2, .ref a3, am_un] 0 s = some (.inl (some (.int 2)), s) := by
  show rn_ tb_ct tb_mt B mm_L_rewatch 19 [.ref a0, .int x1, .int x2, .ref a3, am_un] [] s = _
  refine Eq.trans (rn_go 1 (pc' := 20) (L' := [.ref a0, .int x1, .int x2, .ref a3, am_un]) (st' := [.int (2 : Int32)]) rfl) ?_
  exact rn_retI rfl rfl rfl
theorem x_unwatch_1 {a0 : Nat} {x1 : Int32} {a2 : Nat} (s : am_S) : xh tb_ct tb_mt B mm_L_unwatch 4 [.ref a0, .int x1, .ref a2, am_un] 1 s = some (.inl (some (.int 1)), s) := by
  show rn_ tb_ct tb_mt B mm_L_unwatch 13 [.ref a0, .int x1, .ref a2, am_un] [] s = _
  refine Eq.trans (rn_go 1 (pc' := 14) (L' := [.ref a0, .int x1, .ref a2, am_un]) (st' := [.int (1 : Int32)]) rfl) ?_
  exact rn_retI rfl rfl rfl
theorem x_missing_0 {a0 : Nat} {x1 : Int32} {a2 : Nat} (s : am_S) : xh tb_ct tb_mt B mm_L_missing 4 [.ref a0, .int x1, .ref a2, am_un] 0 s = some (.inl (some (.int 1)), s) := by
  show rn_ tb_ct tb_mt B mm_L_missing 13 [.ref a0, .int x1, .ref a2, am_un] [] s = _
  refine Eq.trans (rn_go 1 (pc' := 14) (L' := [.ref a0, .int x1, .ref a2, am_un]) (st' := [.int (1 : Int32)]) rfl) ?_
  exact rn_retI rfl rfl rfl
theorem x_behind_1 {a0 : Nat} {x1 : Int32} {a2 : Nat} (s : am_S) : xh tb_ct tb_mt B mm_L_behind 4 [.ref a0, .int x1, .ref a2, am_un] 1 s = some (.inl (some (.int 1)), s) := by
  show rn_ tb_ct tb_mt B mm_L_behind 13 [.ref a0, .int x1, .ref a2, am_un] [] s = _
  refine Eq.trans (rn_go 1 (pc' := 14) (L' := [.ref a0, .int x1, .ref a2, am_un]) (st' := [.int (1 : Int32)]) rfl) ?_
  exact rn_retI rfl rfl rfl
theorem x_grant_0 {a0 : Nat} {x1 : Int32} {a2 : Nat} (s : am_S) : xh tb_ct tb_mt B mm_L_grant 4 [.ref a0, .int x1, .ref a2, am_un] 0 s = some (.inl (some (.int 1)), s) := by
  show rn_ tb_ct tb_mt B mm_L_grant 13 [.ref a0, .int x1, .ref a2, am_un] [] s = _
  refine Eq.trans (rn_go 1 (pc' := 14) (L' := [.ref a0, .int x1, .ref a2, am_un]) (st' := [.int (1 : Int32)]) rfl) ?_
  exact rn_retI rfl rfl rfl
theorem x_lease_0 {a0 : Nat} {x1 : Int32} {x2 : Int32} {a3 : Nat} (s : am_S) : xh tb_ct tb_mt B mm_L_lease 5 [.ref a0, .int x1, .int x2, .ref a3, am_un] 0 s = some (.inl (some (.int 1)), s) := by
  show rn_ tb_ct tb_mt B mm_L_lease 15 [.ref a0, .int x1, .int x2, .ref a3, am_un] [] s = _
  refine Eq.trans (rn_go 1 (pc' := 16) (L' := [.ref a0, .int x1, .int x2, .ref a3, am_un]) (st' := [.int (1 : Int32)]) rfl) ?_
  exact rn_retI rfl rfl rfl
theorem x_tick_0 {a0 : Nat} {x1 : Int32} {a2 : Nat} (s : am_S) : xh tb_ct tb_mt B mm_L_tick 4 [.ref a0, .int x1, .ref a2, am_un] 0 s = some (.inl (some (.int 1)), s) := by
  show rn_ tb_ct tb_mt B mm_L_tick 13 [.ref a0, .int x1, .ref a2, am_un] [] s = _
  refine Eq.trans (rn_go 1 (pc' := 14) (L' := [.ref a0, .int x1, .ref a2, am_un]) (st' := [.int (1 : Int32)]) rfl) ?_
  exact rn_retI rfl rfl rfl
theorem x_expiry_0 {a0 : Nat} {x1 : Int32} {a2 : Nat} (s : am_S) : xh tb_ct tb_mt B mm_L_expiry 4 [.ref a0, .int x1, .ref a2, am_un] 0 s = some (.inl (some (.int 1)), s) := by
  show rn_ tb_ct tb_mt B mm_L_expiry 13 [.ref a0, .int x1, .ref a2, am_un] [] s = _
  refine Eq.trans (rn_go 1 (pc' := 14) (L' := [.ref a0, .int x1, .ref a2, am_un]) (st' := [.int (1 : Int32)]) rfl) ?_
  exact rn_retI rfl rfl rfl
theorem x_keysIn_0 {a0 : Nat} {x1 : Int32} {a2 : Nat} (s : am_S) : xh tb_ct tb_mt B mm_L_keysIn 4 [.ref a0, .int x1, .ref a2, am_un] 0 s = some (.inl (some (.int 1)), s) := by
  show rn_ tb_ct tb_mt B mm_L_keysIn 13 [.ref a0, .int x1, .ref a2, am_un] [] s = _
  refine Eq.trans (rn_go 1 (pc' := 14) (L' := [.ref a0, .int x1, .ref a2, am_un]) (st' := [.int (1 : Int32)]) rfl) ?_
  exact rn_retI rfl rfl rfl
theorem x_when_0 {a0 : Nat} {x1 : Int32} {x2 : Int32} {x3 : Int32} {x4 : Int32} {a5 : Nat} (s : am_S) : xh tb_ct tb_mt B mm_L_when 9 [.ref a0, .int x1, .int x2, .int x3, .int x4, .ref a5, am_un] 0 s = some (.inl (some (.int 1)), s) := by
  show rn_ tb_ct tb_mt B mm_L_when 19 [.ref a0, .int x1, .int x2, .int x3, .int x4, .ref a5, am_un] [] s = _
  refine Eq.trans (rn_go 1 (pc' := 20) (L' := [.ref a0, .int x1, .int x2, .int x3, .int x4, .ref a5, am_un]) (st' := [.int (1 : Int32)]) rfl) ?_
  exact rn_retI rfl rfl rfl
theorem x_then_0 {a0 : Nat} {x1 : Int32} {x2 : Int32} {x3 : Int32} {a4 : Nat} (s : am_S) : xh tb_ct tb_mt B mm_L_then 7 [.ref a0, .int x1, .int x2, .int x3, .ref a4, am_un] 0 s = some (.inl (some (.int 1)), s) := by
  show rn_ tb_ct tb_mt B mm_L_then 17 [.ref a0, .int x1, .int x2, .int x3, .ref a4, am_un] [] s = _
  refine Eq.trans (rn_go 1 (pc' := 18) (L' := [.ref a0, .int x1, .int x2, .int x3, .ref a4, am_un]) (st' := [.int (1 : Int32)]) rfl) ?_
  exact rn_retI rfl rfl rfl
theorem x_otherwise_0 {a0 : Nat} {x1 : Int32} {x2 : Int32} {x3 : Int32} {a4 : Nat} (s : am_S) : xh tb_ct tb_mt B mm_L_otherwise 7 [.ref a0, .int x1, .int x2, .int x3, .ref a4, am_un] 0 s = some (.inl (some (.int 1)), s) := by
  show rn_ tb_ct tb_mt B mm_L_otherwise 17 [.ref a0, .int x1, .int x2, .int x3, .ref a4, am_un] [] s = _
  refine Eq.trans (rn_go 1 (pc' := 18) (L' := [.ref a0, .int x1, .int x2, .int x3, .ref a4, am_un]) (st' := [.int (1 : Int32)]) rfl) ?_
  exact rn_retI rfl rfl rfl
theorem x_writeKey_0 {a0 : Nat} {x1 : Int32} {a2 : Nat} (s : am_S) : xh tb_ct tb_mt B mm_L_writeKey 4 [.ref a0, .int x1, .ref a2, am_un] 0 s = some (.inl (some (.int 1)), s) := by
  show rn_ tb_ct tb_mt B mm_L_writeKey 13 [.ref a0, .int x1, .ref a2, am_un] [] s = _
  refine Eq.trans (rn_go 1 (pc' := 14) (L' := [.ref a0, .int x1, .ref a2, am_un]) (st' := [.int (1 : Int32)]) rfl) ?_
  exact rn_retI rfl rfl rfl
theorem x_saveSnapshot_0 {a0 : Nat} {x1 : Int32} {a2 : Nat} (s : am_S) : xh tb_ct tb_mt B mm_L_saveSnapshot 4 [.ref a0, .int x1, .ref a2, am_un] 0 s = some (.inl (some (.int 1)), s) := by
  show rn_ tb_ct tb_mt B mm_L_saveSnapshot 13 [.ref a0, .int x1, .ref a2, am_un] [] s = _
  refine Eq.trans (rn_go 1 (pc' := 14) (L' := [.ref a0, .int x1, .ref a2, am_un]) (st' := [.int (1 : Int32)]) rfl) ?_
  exact rn_retI rfl rfl rfl
theorem x_restoreSnapshot_0 {a0 : Nat} {x1 : Int32} {a2 : Nat} (s : am_S) : xh tb_ct tb_mt B mm_L_restoreSnapshot 4 [.ref a0, .int x1, .ref a2, am_un] 0 s = some (.inl (some (.int 1)), s) := by
  show rn_ tb_ct tb_mt B mm_L_restoreSnapshot 13 [.ref a0, .int x1, .ref a2, am_un] [] s = _
  refine Eq.trans (rn_go 1 (pc' := 14) (L' := [.ref a0, .int x1, .ref a2, am_un]) (st' := [.int (1 : Int32)]) rfl) ?_
  exact rn_retI rfl rfl rfl
end Lx
