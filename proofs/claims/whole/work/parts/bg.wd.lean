/-! ===== the start: the words' places ===== -/
theorem sg_kV : ∀ v, v < 10 → ((sg_wv v).all fun w => sg_N.contains w) = true := by decide +kernel
theorem sg_kT : ∀ v, v < 10 → ((sg_ws RX10 (sg_vx v) (vb_w v)).all fun w => sg_N.contains w) = true := by decide +kernel
theorem sg_kM : ∀ v, v < 10 → ((sg_ws "WatchedKeysModel" (sg_mx v) (vb_w v)).all fun w => sg_N.contains w) = true := by decide +kernel
theorem sg_kA : ((sg_ws "WatchedKeys" 356 [32, 118]).all fun w => sg_N.contains w) = true := by decide +kernel
theorem sg_kB : ((sg_ws "WatchedKeys" 367 [32, 108]).all fun w => sg_N.contains w) = true := by decide +kernel
theorem sg_kO : ((sg_av (.static "java/lang/Integer" "DigitOnes" "[B") .byte 100 fun i => .int (nI (48 + i % 10))).all fun w => sg_N.contains w) = true := by decide +kernel
theorem sg_kD : ((sg_av (.static "java/lang/Integer" "DigitTens" "[B") .byte 100 fun i => .int (nI (48 + i / 10))).all fun w => sg_N.contains w) = true := by decide +kernel
theorem sg_kS : ((sg_av (.static "WatchedKeys$1" "$SwitchMap$WatchedKeys$Verb" "[I") .int 10 fun i => .int (if i < 9 then nI (i + 1) else 0)).all fun w => sg_N.contains w) = true := by decide +kernel
theorem sg_kQ : ((sg_av (.static "WatchedKeys$Script" "VERBS" "[LWatchedKeys$Verb;") (.object RX10) 10 sg_T).all fun w => sg_N.contains w) = true := by decide +kernel
def sg_z : List Cond := [.eq (.static "java/lang/String" "COMPACT_STRINGS" "Z") (.int 1), .isRef (.static "jdk/internal/util/Preconditions" "SIOOBE_FORMATTER" "Ljava/util/function/BiFunction;"), .isRef (.static Bundle.tN "UNASSIGNED_STACK" Bundle.steD), .isRef (.static Bundle.tN "SUPPRESSED_SENTINEL" Bundle.listD), .not (.castable (am_exn 0) (am_exn 1)), .not (.castable (am_exn 1) (am_exn 0))]
theorem sg_kZ : (sg_z.all fun w => sg_N.contains w) = true := by decide +kernel
theorem sg_kW : ∀ q ∈ tb_sT, (lw_tbl.contains (.laysStatic q.1 q.2.1 q.2.2) && lw_tbl.contains (.initialized q.1) && (sg_N.contains (.isRef (.static q.1 q.2.1 q.2.2)) || sg_N.contains (.exactly (.static q.1 q.2.1 q.2.2) RX10) || sg_N.contains (.eq (.static q.1 q.2.1 q.2.2) (.int 1)))) = true := by decide +kernel
theorem sg_kU : ∀ q ∈ tb_sS, (lw_tbl.contains (.stringRef q.1 q.2.1 q.2.2) && sg_N.contains (.exactly (.string q.1 q.2.1) "java/lang/String")) = true := by decide +kernel
theorem sg_kX : (lw_tbl.contains (.laysStatic Bundle.tN "UNASSIGNED_STACK" Bundle.steD) && lw_tbl.contains (.laysStatic Bundle.tN "SUPPRESSED_SENTINEL" Bundle.listD) && lw_tbl.contains (.initialized Bundle.tN)) = true := by decide +kernel
def lw_xy : List MethodName := [yJ5_ensureCapacityInternal_d00df, yJ5_newCapacity_0f7a4, yJ5_putStringAt_47b60, yJ5_inflateIfNeededFor_a7421]
theorem lw_x_eq : lw_x = lw_xy.map fun y => .selects RJ4 y y := rfl
theorem sg_kY : (lw_xy.all fun y => lw_tbl.contains (.sameMethod y.cls y.cls y.name y.desc) && lw_tbl.contains (.privateMethod y) && lw_tbl.contains (.instanceMethod y)) = true := by decide +kernel
theorem sg_kI : lw_tbl.contains (.initialized RJ4) = true := by decide +kernel
theorem sg_bv : ∀ v, v < 10 → ∀ c ∈ vb_w v, ∃ n, n < 128 ∧ c = nI n := by decide +kernel
theorem sg_b2 : ∀ c ∈ ([32, 118] : List Int32), ∃ n, n < 128 ∧ c = nI n := by decide +kernel
theorem sg_b3 : ∀ c ∈ ([32, 108] : List Int32), ∃ n, n < 128 ∧ c = nI n := by decide +kernel
theorem sg_lv : ∀ v, v < 10 → (vb_w v).length < 128 := by decide +kernel
theorem sg_Li : ∀ v, v < 10 → 100 ≤ LI v ∧ (tb_sS[LI v - 100]?).map (fun q => (q.1, q.2.1)) = some ("WatchedKeysModel", sg_mx v) := by decide +kernel
