/-! ===== what the tables must say of the law's own rows ===== -/
theorem ok_Lr18 : (((am_code mm_L_law).drop 1800).take 100).all (am_okRow tb_ct tb_mt tb_sT tb_sS mm_L_law) = true := by decide +kernel
theorem ok_Lr19 : (((am_code mm_L_law).drop 1900).take 100).all (am_okRow tb_ct tb_mt tb_sT tb_sS mm_L_law) = true := by decide +kernel
