/-! ===== what the tables must say of the law's own rows ===== -/
theorem ok_Lr20 : ((am_code mm_L_law).drop 2000).all (am_okRow tb_ct tb_mt tb_sT tb_sS mm_L_law) = true := by decide +kernel
theorem ok_Lh : (decide (2 ≤ am_lev mm_L_law) && am_okHh mm_L_law) = true := by decide +kernel
theorem ok_Lcut {p : am_X → Bool} {l : List am_X} {n : Nat} (h1 : (l.take n).all p = true) (h2 : (l.drop n).all p = true) : l.all p = true := by
  have h : (l.take n ++ l.drop n).all p = true := by rw [List.all_append, h1, h2]; rfl
  rwa [List.take_append_drop] at h
theorem ok_Lst {p : am_X → Bool} {l : List am_X} {i j k : Nat} (e : i + j = k) (h1 : ((l.drop i).take j).all p = true) (h2 : (l.drop k).all p = true) : (l.drop i).all p = true := ok_Lcut h1 (by rw [List.drop_drop, e]; exact h2)
theorem ok_L_law : am_okMeth tb_ct tb_mt tb_sT tb_sS mm_L_law = true := by
  unfold am_okMeth
  rw [ok_Lh, Bool.true_and]
  have h : ((am_code mm_L_law).drop 0).all (am_okRow tb_ct tb_mt tb_sT tb_sS mm_L_law) = true := ok_Lst (i := 0) (j := 100) (k := 100) rfl ok_Lr0 (ok_Lst (i := 100) (j := 100) (k := 200) rfl ok_Lr1 (ok_Lst (i := 200) (j := 100) (k := 300) rfl ok_Lr2 (ok_Lst (i := 300) (j := 100) (k := 400) rfl ok_Lr3 (ok_Lst (i := 400) (j := 100) (k := 500) rfl ok_Lr4 (ok_Lst (i := 500) (j := 100) (k := 600) rfl ok_Lr5 (ok_Lst (i := 600) (j := 100) (k := 700) rfl ok_Lr6 (ok_Lst (i := 700) (j := 100) (k := 800) rfl ok_Lr7 (ok_Lst (i := 800) (j := 100) (k := 900) rfl ok_Lr8 (ok_Lst (i := 900) (j := 100) (k := 1000) rfl ok_Lr9 (ok_Lst (i := 1000) (j := 100) (k := 1100) rfl ok_Lr10 (ok_Lst (i := 1100) (j := 100) (k := 1200) rfl ok_Lr11 (ok_Lst (i := 1200) (j := 100) (k := 1300) rfl ok_Lr12 (ok_Lst (i := 1300) (j := 100) (k := 1400) rfl ok_Lr13 (ok_Lst (i := 1400) (j := 100) (k := 1500) rfl ok_Lr14 (ok_Lst (i := 1500) (j := 100) (k := 1600) rfl ok_Lr15 (ok_Lst (i := 1600) (j := 100) (k := 1700) rfl ok_Lr16 (ok_Lst (i := 1700) (j := 100) (k := 1800) rfl ok_Lr17 (ok_Lst (i := 1800) (j := 100) (k := 1900) rfl ok_Lr18 (ok_Lst (i := 1900) (j := 100) (k := 2000) rfl ok_Lr19 (ok_Lr20))))))))))))))))))))
  exact h
