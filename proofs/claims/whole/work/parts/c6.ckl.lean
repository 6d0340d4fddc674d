/-! ===== what the tables must say of the law's own rows ===== -/
theorem all_cut {p : am_X → Bool} {l : List am_X} {n : Nat} (h1 : (l.take n).all p = true) (h2 : (l.drop n).all p = true) : l.all p = true := by
  have h : (l.take n ++ l.drop n).all p = true := by rw [List.all_append, h1, h2]; rfl
  rwa [List.take_append_drop] at h
theorem cut_step {p : am_X → Bool} {l : List am_X} {i : Nat} (h1 : ((l.drop (100 * i)).take 100).all p = true) (h2 : (l.drop (100 * (i + 1))).all p = true) : (l.drop (100 * i)).all p = true := all_cut h1 (by rw [List.drop_drop]; exact h2)
theorem ok_Lr0 : (((am_code mm_L_law).drop 0).take 100).all (am_okRow tb_ct tb_mt tb_sT tb_sS mm_L_law) = true := by decide +kernel
theorem ok_Lr1 : (((am_code mm_L_law).drop 100).take 100).all (am_okRow tb_ct tb_mt tb_sT tb_sS mm_L_law) = true := by decide +kernel
theorem ok_Lr2 : (((am_code mm_L_law).drop 200).take 100).all (am_okRow tb_ct tb_mt tb_sT tb_sS mm_L_law) = true := by decide +kernel
theorem ok_Lr3 : (((am_code mm_L_law).drop 300).take 100).all (am_okRow tb_ct tb_mt tb_sT tb_sS mm_L_law) = true := by decide +kernel
theorem ok_Lr4 : (((am_code mm_L_law).drop 400).take 100).all (am_okRow tb_ct tb_mt tb_sT tb_sS mm_L_law) = true := by decide +kernel
theorem ok_Lr5 : (((am_code mm_L_law).drop 500).take 100).all (am_okRow tb_ct tb_mt tb_sT tb_sS mm_L_law) = true := by decide +kernel
theorem ok_Lr6 : (((am_code mm_L_law).drop 600).take 100).all (am_okRow tb_ct tb_mt tb_sT tb_sS mm_L_law) = true := by decide +kernel
theorem ok_Lr7 : (((am_code mm_L_law).drop 700).take 100).all (am_okRow tb_ct tb_mt tb_sT tb_sS mm_L_law) = true := by decide +kernel
theorem ok_Lr8 : (((am_code mm_L_law).drop 800).take 100).all (am_okRow tb_ct tb_mt tb_sT tb_sS mm_L_law) = true := by decide +kernel
theorem ok_Lr9 : (((am_code mm_L_law).drop 900).take 100).all (am_okRow tb_ct tb_mt tb_sT tb_sS mm_L_law) = true := by decide +kernel
theorem ok_Lr10 : (((am_code mm_L_law).drop 1000).take 100).all (am_okRow tb_ct tb_mt tb_sT tb_sS mm_L_law) = true := by decide +kernel
theorem ok_Lr11 : (((am_code mm_L_law).drop 1100).take 100).all (am_okRow tb_ct tb_mt tb_sT tb_sS mm_L_law) = true := by decide +kernel
theorem ok_Lr12 : (((am_code mm_L_law).drop 1200).take 100).all (am_okRow tb_ct tb_mt tb_sT tb_sS mm_L_law) = true := by decide +kernel
theorem ok_Lr13 : (((am_code mm_L_law).drop 1300).take 100).all (am_okRow tb_ct tb_mt tb_sT tb_sS mm_L_law) = true := by decide +kernel
theorem ok_Lr14 : (((am_code mm_L_law).drop 1400).take 100).all (am_okRow tb_ct tb_mt tb_sT tb_sS mm_L_law) = true := by decide +kernel
theorem ok_Lr15 : (((am_code mm_L_law).drop 1500).take 100).all (am_okRow tb_ct tb_mt tb_sT tb_sS mm_L_law) = true := by decide +kernel
theorem ok_Lr16 : (((am_code mm_L_law).drop 1600).take 100).all (am_okRow tb_ct tb_mt tb_sT tb_sS mm_L_law) = true := by decide +kernel
theorem ok_Lr17 : (((am_code mm_L_law).drop 1700).take 100).all (am_okRow tb_ct tb_mt tb_sT tb_sS mm_L_law) = true := by decide +kernel
theorem ok_Lr18 : (((am_code mm_L_law).drop 1800).take 100).all (am_okRow tb_ct tb_mt tb_sT tb_sS mm_L_law) = true := by decide +kernel
theorem ok_Lr19 : (((am_code mm_L_law).drop 1900).take 100).all (am_okRow tb_ct tb_mt tb_sT tb_sS mm_L_law) = true := by decide +kernel
theorem ok_Lr20 : ((am_code mm_L_law).drop 2000).all (am_okRow tb_ct tb_mt tb_sT tb_sS mm_L_law) = true := by decide +kernel
theorem ok_Lh : (decide (2 ≤ am_lev mm_L_law) && am_okHh mm_L_law) = true := by decide +kernel
theorem ok_L_law : am_okMeth tb_ct tb_mt tb_sT tb_sS mm_L_law = true := by
  unfold am_okMeth
  rw [ok_Lh, Bool.true_and]
  exact cut_step (i := 0) ok_Lr0 (cut_step (i := 1) ok_Lr1 (cut_step (i := 2) ok_Lr2 (cut_step (i := 3) ok_Lr3 (cut_step (i := 4) ok_Lr4 (cut_step (i := 5) ok_Lr5 (cut_step (i := 6) ok_Lr6 (cut_step (i := 7) ok_Lr7 (cut_step (i := 8) ok_Lr8 (cut_step (i := 9) ok_Lr9 (cut_step (i := 10) ok_Lr10 (cut_step (i := 11) ok_Lr11 (cut_step (i := 12) ok_Lr12 (cut_step (i := 13) ok_Lr13 (cut_step (i := 14) ok_Lr14 (cut_step (i := 15) ok_Lr15 (cut_step (i := 16) ok_Lr16 (cut_step (i := 17) ok_Lr17 (cut_step (i := 18) ok_Lr18 (cut_step (i := 19) ok_Lr19 (ok_Lr20))))))))))))))))))))
