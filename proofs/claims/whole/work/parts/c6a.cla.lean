/-! ===== what the tables must say of the law's own rows ===== -/
theorem ok_Lr0 : (((am_code mm_L_law).drop 0).take 100).all (am_okRow tb_ct tb_mt tb_sT tb_sS mm_L_law) = true := by decide +kernel
theorem ok_Lr1 : (((am_code mm_L_law).drop 100).take 100).all (am_okRow tb_ct tb_mt tb_sT tb_sS mm_L_law) = true := by decide +kernel
theorem ok_Lr2 : (((am_code mm_L_law).drop 200).take 100).all (am_okRow tb_ct tb_mt tb_sT tb_sS mm_L_law) = true := by decide +kernel
theorem ok_Lr3 : (((am_code mm_L_law).drop 300).take 100).all (am_okRow tb_ct tb_mt tb_sT tb_sS mm_L_law) = true := by decide +kernel
theorem ok_Lr4 : (((am_code mm_L_law).drop 400).take 100).all (am_okRow tb_ct tb_mt tb_sT tb_sS mm_L_law) = true := by decide +kernel
