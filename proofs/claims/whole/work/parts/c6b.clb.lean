/-! ===== what the tables must say of the law's own rows ===== -/
theorem ok_Lr5 : (((am_code mm_L_law).drop 500).take 100).all (am_okRow tb_ct tb_mt tb_sT tb_sS mm_L_law) = true := by decide +kernel
theorem ok_Lr6 : (((am_code mm_L_law).drop 600).take 100).all (am_okRow tb_ct tb_mt tb_sT tb_sS mm_L_law) = true := by decide +kernel
theorem ok_Lr7 : (((am_code mm_L_law).drop 700).take 100).all (am_okRow tb_ct tb_mt tb_sT tb_sS mm_L_law) = true := by decide +kernel
theorem ok_Lr8 : (((am_code mm_L_law).drop 800).take 100).all (am_okRow tb_ct tb_mt tb_sT tb_sS mm_L_law) = true := by decide +kernel
theorem ok_Lr9 : (((am_code mm_L_law).drop 900).take 100).all (am_okRow tb_ct tb_mt tb_sT tb_sS mm_L_law) = true := by decide +kernel
