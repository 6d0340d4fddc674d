/-! ===== the model: what is written ===== -/
def mB (F : mrT) (b : Nat) (g : Nat → Int32) : mrT := fun a => if a = b then g else F a
abbrev oS (s : am_S) (m : Nat) (v : Nat → Int32) (w : Nat) (F : mrT) (g : Nat → Int32) : am_S := moS s m (upd v 21 (nI w)) (mB F 11 g)
theorem mB_id {F : mrT} {b : Nat} : mB F b (F b) = F := by
  funext a
  unfold mB
  by_cases c : a = b
  · rw [if_pos c, c]
  · rw [if_neg c]
theorem mB_up {F : mrT} {b j : Nat} {g : Nat → Int32} {x : Int32} : mup (mB F b g) b j x = mB F b (upd g j x) := by
  funext a
  unfold mup mB
  by_cases c : a = b
  · rw [if_pos c, if_pos c, if_pos rfl]
  · rw [if_neg c, if_neg c, if_neg c]
theorem wr_end {g : Nat → Int32} {p : Nat} {c : Int32} {l : List Int32} : upd (wr g p l) (p + l.length) c = wr g p (l ++ [c]) := by
  rw [← wr_snoc (g := g) (p := p) (q := p + l.length) (c := c) (l := l) rfl]
  funext i
  by_cases h : i = p + l.length
  · subst h
    rw [upd_k]
    unfold wr
    rw [if_neg (by omega), upd_k]
  · rw [upd_n h]
    unfold wr
    by_cases h1 : p ≤ i ∧ i < p + l.length
    · rw [if_pos h1, if_pos h1]
    · rw [if_neg h1, if_neg h1, upd_n h]
theorem wr_one {g : Nat → Int32} {p : Nat} {c : Int32} : upd g p c = wr g p [c] := by
  have := wr_cons (g := g) (p := p) (c := c) (l := [])
  rw [wr_nil] at this
  exact this
theorem wr_app {g : Nat → Int32} {p : Nat} {l l' : List Int32} : wr (wr g p l) (p + l.length) l' = wr g p (l ++ l') := by
  funext i
  unfold wr
  rw [List.length_append]
  by_cases h1 : p + l.length ≤ i ∧ i < p + l.length + l'.length
  · rw [if_pos h1, if_pos (by omega), gD_ge (by omega)]
    congr 1
    omega
  · rw [if_neg h1]
    by_cases h2 : p ≤ i ∧ i < p + l.length
    · rw [if_pos h2, if_pos (by omega), gD_lt (by omega)]
    · rw [if_neg h2, if_neg (by omega)]
section Mn
variable {s s' : am_S} {B m i j n w : Nat} {v v' : Nat → Int32} {F F' : mrT} {g g' : Nat → Int32} {x y c key : Int32} {σ σ' : stT} {M : am_M}
theorem mo_20s : gA tb_ct (moS s m v F) m 11 20 = some (some (m + 11)) := mo_20 OV.of
theorem mo_21s : gI tb_ct (moS s m v F) m 11 21 = some (v 21) := mo_21 OV.of
theorem mw_os (hB : B ≤ m) (hj : j < 60) : wB B (moS s m v F) (m + 11) (nI j) x = some (moS s m v (mup F 11 j (vp_nar .byte x))) := by
  rw [mw_o (OV.of : MO (moS s m v F) m v F) hB hj, mo_idem]
theorem mp_21s (hB : B ≤ m) : am_put tb_ct M B (moS s m v F) (.int x) m 11 21 = some (moS s m (upd v 21 x) F) := by
  rw [mp_21 (OV.of : MO (moS s m v F) m v F) hB, mo_idem]
theorem mk_says (hB : B ≤ m) (hw : w < 60) (hc : bOk c) : cl_ tb_ct tb_mt B K_X13_says [.ref m, .int c] (oS s m v w F g) = some (.inl none, oS s m v (w + 1) F (upd g w c)) := by
  rw [in_X13_says, dc_X13_says_0, mo_20s, eA_s, mo_21s, eI_s, upd_k, mw_os hB hw, eS_s, mo_21s, eI_s, upd_k, nI_1, mp_21s hB, eS_s, upd_s, bOk_8 hc, bOk_nar hc, mB_up]
theorem sn10_10 (hB : B ≤ m) (hx : (if 0 ≤ x then x else 0 - x) = nI n) (hn : n < 10) (hl : n < 2 ^ 31) (hw : w + (dgs n).length ≤ 60) : rn_ tb_ct tb_mt B mm_X13_saysNumber_10 10 [.ref m, .int x, am_un] [] (oS s m v w F g) = some (.inl none, oS s m v (w + (dgs n).length) F (wr g w (dgs n))) := by
  have er : nI n - nI n / (10 : Int32) * (10 : Int32) = nI (n % 10) := nI_rem (q := 10) hl (by omega)
  have e48 : (48 : Int32) + nI (n % 10) = nI (48 + n % 10) := nI_add 48 _
  rw [dc_X13_saysNumber_10_10, hx]
  by_cases c : n < 10
  · rw [dgs_lt c] at hw
    rw [if_pos (show nI n < (10 : Int32) from nI_lt (b := 10) c (by omega)), dc_X13_saysNumber_10_29, er, e48, mo_cs, eC_s, mk_says hB (Nat.lt_of_lt_of_le (Nat.lt_succ_self w) hw) (bOk_n (by omega)), cV_s, dgs_lt c, wr_one, show 48 + n % 10 = 48 + n by omega]
    rfl
  · exact absurd hn c
theorem sn_10 (hB : B ≤ m) (hn : n < 10) (hl : n < 2 ^ 31) (hw : w + (dgs n).length ≤ 60) : cl_ tb_ct tb_mt B K_X13_saysNumber_10 [.ref m, .int (nI n)] (oS s m v w F g) = some (.inl none, oS s m v (w + (dgs n).length) F (wr g w (dgs n))) := by
  have h0 : (0 : Int32) ≤ nI n := Int32.not_lt.mp (nI_pos hl)
  rw [in_X13_saysNumber_10, dc_X13_saysNumber_10_0, if_pos h0]
  exact sn10_10 hB (if_pos h0) hn hl hw
theorem sn10_9 (hB : B ≤ m) (hx : (if 0 ≤ x then x else 0 - x) = nI n) (hn : n < 100) (hl : n < 2 ^ 31) (hw : w + (dgs n).length ≤ 60) : rn_ tb_ct tb_mt B mm_X13_saysNumber_9 10 [.ref m, .int x, am_un] [] (oS s m v w F g) = some (.inl none, oS s m v (w + (dgs n).length) F (wr g w (dgs n))) := by
  have er : nI n - nI n / (10 : Int32) * (10 : Int32) = nI (n % 10) := nI_rem (q := 10) hl (by omega)
  have e48 : (48 : Int32) + nI (n % 10) = nI (48 + n % 10) := nI_add 48 _
  rw [dc_X13_saysNumber_9_10, hx]
  by_cases c : n < 10
  · rw [dgs_lt c] at hw
    rw [if_pos (show nI n < (10 : Int32) from nI_lt (b := 10) c (by omega)), dc_X13_saysNumber_9_29, er, e48, mo_cs, eC_s, mk_says hB (Nat.lt_of_lt_of_le (Nat.lt_succ_self w) hw) (bOk_n (by omega)), cV_s, dgs_lt c, wr_one, show 48 + n % 10 = 48 + n by omega]
    rfl
  · have ed : nI n / (10 : Int32) = nI (n / 10) := nI_div (q := 10) hl (by omega)
    rw [dgs_ge (by omega), List.length_append, List.length_singleton] at hw
    rw [if_neg (show ¬ nI n < (10 : Int32) from nI_nlt (b := 10) (by omega) hl), ed, mo_cs, eC_s, sn_10 hB (by omega) (by omega) (by omega), cV_s, dc_X13_saysNumber_9_29, er, e48, mo_cs, eC_s, mk_says hB (by omega) (bOk_n (by omega)), cV_s, wr_end, dgs_ge (n := n) (by omega), List.length_append, List.length_singleton, Nat.add_assoc]
theorem sn_9 (hB : B ≤ m) (hn : n < 100) (hl : n < 2 ^ 31) (hw : w + (dgs n).length ≤ 60) : cl_ tb_ct tb_mt B K_X13_saysNumber_9 [.ref m, .int (nI n)] (oS s m v w F g) = some (.inl none, oS s m v (w + (dgs n).length) F (wr g w (dgs n))) := by
  have h0 : (0 : Int32) ≤ nI n := Int32.not_lt.mp (nI_pos hl)
  rw [in_X13_saysNumber_9, dc_X13_saysNumber_9_0, if_pos h0]
  exact sn10_9 hB (if_pos h0) hn hl hw
theorem sn10_8 (hB : B ≤ m) (hx : (if 0 ≤ x then x else 0 - x) = nI n) (hn : n < 1000) (hl : n < 2 ^ 31) (hw : w + (dgs n).length ≤ 60) : rn_ tb_ct tb_mt B mm_X13_saysNumber_8 10 [.ref m, .int x, am_un] [] (oS s m v w F g) = some (.inl none, oS s m v (w + (dgs n).length) F (wr g w (dgs n))) := by
  have er : nI n - nI n / (10 : Int32) * (10 : Int32) = nI (n % 10) := nI_rem (q := 10) hl (by omega)
  have e48 : (48 : Int32) + nI (n % 10) = nI (48 + n % 10) := nI_add 48 _
  rw [dc_X13_saysNumber_8_10, hx]
  by_cases c : n < 10
  · rw [dgs_lt c] at hw
    rw [if_pos (show nI n < (10 : Int32) from nI_lt (b := 10) c (by omega)), dc_X13_saysNumber_8_29, er, e48, mo_cs, eC_s, mk_says hB (Nat.lt_of_lt_of_le (Nat.lt_succ_self w) hw) (bOk_n (by omega)), cV_s, dgs_lt c, wr_one, show 48 + n % 10 = 48 + n by omega]
    rfl
  · have ed : nI n / (10 : Int32) = nI (n / 10) := nI_div (q := 10) hl (by omega)
    rw [dgs_ge (by omega), List.length_append, List.length_singleton] at hw
    rw [if_neg (show ¬ nI n < (10 : Int32) from nI_nlt (b := 10) (by omega) hl), ed, mo_cs, eC_s, sn_9 hB (by omega) (by omega) (by omega), cV_s, dc_X13_saysNumber_8_29, er, e48, mo_cs, eC_s, mk_says hB (by omega) (bOk_n (by omega)), cV_s, wr_end, dgs_ge (n := n) (by omega), List.length_append, List.length_singleton, Nat.add_assoc]
theorem sn_8 (hB : B ≤ m) (hn : n < 1000) (hl : n < 2 ^ 31) (hw : w + (dgs n).length ≤ 60) : cl_ tb_ct tb_mt B K_X13_saysNumber_8 [.ref m, .int (nI n)] (oS s m v w F g) = some (.inl none, oS s m v (w + (dgs n).length) F (wr g w (dgs n))) := by
  have h0 : (0 : Int32) ≤ nI n := Int32.not_lt.mp (nI_pos hl)
  rw [in_X13_saysNumber_8, dc_X13_saysNumber_8_0, if_pos h0]
  exact sn10_8 hB (if_pos h0) hn hl hw
theorem sn10_7 (hB : B ≤ m) (hx : (if 0 ≤ x then x else 0 - x) = nI n) (hn : n < 10000) (hl : n < 2 ^ 31) (hw : w + (dgs n).length ≤ 60) : rn_ tb_ct tb_mt B mm_X13_saysNumber_7 10 [.ref m, .int x, am_un] [] (oS s m v w F g) = some (.inl none, oS s m v (w + (dgs n).length) F (wr g w (dgs n))) := by
  have er : nI n - nI n / (10 : Int32) * (10 : Int32) = nI (n % 10) := nI_rem (q := 10) hl (by omega)
  have e48 : (48 : Int32) + nI (n % 10) = nI (48 + n % 10) := nI_add 48 _
  rw [dc_X13_saysNumber_7_10, hx]
  by_cases c : n < 10
  · rw [dgs_lt c] at hw
    rw [if_pos (show nI n < (10 : Int32) from nI_lt (b := 10) c (by omega)), dc_X13_saysNumber_7_29, er, e48, mo_cs, eC_s, mk_says hB (Nat.lt_of_lt_of_le (Nat.lt_succ_self w) hw) (bOk_n (by omega)), cV_s, dgs_lt c, wr_one, show 48 + n % 10 = 48 + n by omega]
    rfl
  · have ed : nI n / (10 : Int32) = nI (n / 10) := nI_div (q := 10) hl (by omega)
    rw [dgs_ge (by omega), List.length_append, List.length_singleton] at hw
    rw [if_neg (show ¬ nI n < (10 : Int32) from nI_nlt (b := 10) (by omega) hl), ed, mo_cs, eC_s, sn_8 hB (by omega) (by omega) (by omega), cV_s, dc_X13_saysNumber_7_29, er, e48, mo_cs, eC_s, mk_says hB (by omega) (bOk_n (by omega)), cV_s, wr_end, dgs_ge (n := n) (by omega), List.length_append, List.length_singleton, Nat.add_assoc]
theorem sn_7 (hB : B ≤ m) (hn : n < 10000) (hl : n < 2 ^ 31) (hw : w + (dgs n).length ≤ 60) : cl_ tb_ct tb_mt B K_X13_saysNumber_7 [.ref m, .int (nI n)] (oS s m v w F g) = some (.inl none, oS s m v (w + (dgs n).length) F (wr g w (dgs n))) := by
  have h0 : (0 : Int32) ≤ nI n := Int32.not_lt.mp (nI_pos hl)
  rw [in_X13_saysNumber_7, dc_X13_saysNumber_7_0, if_pos h0]
  exact sn10_7 hB (if_pos h0) hn hl hw
theorem sn10_6 (hB : B ≤ m) (hx : (if 0 ≤ x then x else 0 - x) = nI n) (hn : n < 100000) (hl : n < 2 ^ 31) (hw : w + (dgs n).length ≤ 60) : rn_ tb_ct tb_mt B mm_X13_saysNumber_6 10 [.ref m, .int x, am_un] [] (oS s m v w F g) = some (.inl none, oS s m v (w + (dgs n).length) F (wr g w (dgs n))) := by
  have er : nI n - nI n / (10 : Int32) * (10 : Int32) = nI (n % 10) := nI_rem (q := 10) hl (by omega)
  have e48 : (48 : Int32) + nI (n % 10) = nI (48 + n % 10) := nI_add 48 _
  rw [dc_X13_saysNumber_6_10, hx]
  by_cases c : n < 10
  · rw [dgs_lt c] at hw
    rw [if_pos (show nI n < (10 : Int32) from nI_lt (b := 10) c (by omega)), dc_X13_saysNumber_6_29, er, e48, mo_cs, eC_s, mk_says hB (Nat.lt_of_lt_of_le (Nat.lt_succ_self w) hw) (bOk_n (by omega)), cV_s, dgs_lt c, wr_one, show 48 + n % 10 = 48 + n by omega]
    rfl
  · have ed : nI n / (10 : Int32) = nI (n / 10) := nI_div (q := 10) hl (by omega)
    rw [dgs_ge (by omega), List.length_append, List.length_singleton] at hw
    rw [if_neg (show ¬ nI n < (10 : Int32) from nI_nlt (b := 10) (by omega) hl), ed, mo_cs, eC_s, sn_7 hB (by omega) (by omega) (by omega), cV_s, dc_X13_saysNumber_6_29, er, e48, mo_cs, eC_s, mk_says hB (by omega) (bOk_n (by omega)), cV_s, wr_end, dgs_ge (n := n) (by omega), List.length_append, List.length_singleton, Nat.add_assoc]
theorem sn_6 (hB : B ≤ m) (hn : n < 100000) (hl : n < 2 ^ 31) (hw : w + (dgs n).length ≤ 60) : cl_ tb_ct tb_mt B K_X13_saysNumber_6 [.ref m, .int (nI n)] (oS s m v w F g) = some (.inl none, oS s m v (w + (dgs n).length) F (wr g w (dgs n))) := by
  have h0 : (0 : Int32) ≤ nI n := Int32.not_lt.mp (nI_pos hl)
  rw [in_X13_saysNumber_6, dc_X13_saysNumber_6_0, if_pos h0]
  exact sn10_6 hB (if_pos h0) hn hl hw
theorem sn10_5 (hB : B ≤ m) (hx : (if 0 ≤ x then x else 0 - x) = nI n) (hn : n < 1000000) (hl : n < 2 ^ 31) (hw : w + (dgs n).length ≤ 60) : rn_ tb_ct tb_mt B mm_X13_saysNumber_5 10 [.ref m, .int x, am_un] [] (oS s m v w F g) = some (.inl none, oS s m v (w + (dgs n).length) F (wr g w (dgs n))) := by
  have er : nI n - nI n / (10 : Int32) * (10 : Int32) = nI (n % 10) := nI_rem (q := 10) hl (by omega)
  have e48 : (48 : Int32) + nI (n % 10) = nI (48 + n % 10) := nI_add 48 _
  rw [dc_X13_saysNumber_5_10, hx]
  by_cases c : n < 10
  · rw [dgs_lt c] at hw
    rw [if_pos (show nI n < (10 : Int32) from nI_lt (b := 10) c (by omega)), dc_X13_saysNumber_5_29, er, e48, mo_cs, eC_s, mk_says hB (Nat.lt_of_lt_of_le (Nat.lt_succ_self w) hw) (bOk_n (by omega)), cV_s, dgs_lt c, wr_one, show 48 + n % 10 = 48 + n by omega]
    rfl
  · have ed : nI n / (10 : Int32) = nI (n / 10) := nI_div (q := 10) hl (by omega)
    rw [dgs_ge (by omega), List.length_append, List.length_singleton] at hw
    rw [if_neg (show ¬ nI n < (10 : Int32) from nI_nlt (b := 10) (by omega) hl), ed, mo_cs, eC_s, sn_6 hB (by omega) (by omega) (by omega), cV_s, dc_X13_saysNumber_5_29, er, e48, mo_cs, eC_s, mk_says hB (by omega) (bOk_n (by omega)), cV_s, wr_end, dgs_ge (n := n) (by omega), List.length_append, List.length_singleton, Nat.add_assoc]
theorem sn_5 (hB : B ≤ m) (hn : n < 1000000) (hl : n < 2 ^ 31) (hw : w + (dgs n).length ≤ 60) : cl_ tb_ct tb_mt B K_X13_saysNumber_5 [.ref m, .int (nI n)] (oS s m v w F g) = some (.inl none, oS s m v (w + (dgs n).length) F (wr g w (dgs n))) := by
  have h0 : (0 : Int32) ≤ nI n := Int32.not_lt.mp (nI_pos hl)
  rw [in_X13_saysNumber_5, dc_X13_saysNumber_5_0, if_pos h0]
  exact sn10_5 hB (if_pos h0) hn hl hw
theorem sn10_4 (hB : B ≤ m) (hx : (if 0 ≤ x then x else 0 - x) = nI n) (hn : n < 10000000) (hl : n < 2 ^ 31) (hw : w + (dgs n).length ≤ 60) : rn_ tb_ct tb_mt B mm_X13_saysNumber_4 10 [.ref m, .int x, am_un] [] (oS s m v w F g) = some (.inl none, oS s m v (w + (dgs n).length) F (wr g w (dgs n))) := by
  have er : nI n - nI n / (10 : Int32) * (10 : Int32) = nI (n % 10) := nI_rem (q := 10) hl (by omega)
  have e48 : (48 : Int32) + nI (n % 10) = nI (48 + n % 10) := nI_add 48 _
  rw [dc_X13_saysNumber_4_10, hx]
  by_cases c : n < 10
  · rw [dgs_lt c] at hw
    rw [if_pos (show nI n < (10 : Int32) from nI_lt (b := 10) c (by omega)), dc_X13_saysNumber_4_29, er, e48, mo_cs, eC_s, mk_says hB (Nat.lt_of_lt_of_le (Nat.lt_succ_self w) hw) (bOk_n (by omega)), cV_s, dgs_lt c, wr_one, show 48 + n % 10 = 48 + n by omega]
    rfl
  · have ed : nI n / (10 : Int32) = nI (n / 10) := nI_div (q := 10) hl (by omega)
    rw [dgs_ge (by omega), List.length_append, List.length_singleton] at hw
    rw [if_neg (show ¬ nI n < (10 : Int32) from nI_nlt (b := 10) (by omega) hl), ed, mo_cs, eC_s, sn_5 hB (by omega) (by omega) (by omega), cV_s, dc_X13_saysNumber_4_29, er, e48, mo_cs, eC_s, mk_says hB (by omega) (bOk_n (by omega)), cV_s, wr_end, dgs_ge (n := n) (by omega), List.length_append, List.length_singleton, Nat.add_assoc]
theorem sn_4 (hB : B ≤ m) (hn : n < 10000000) (hl : n < 2 ^ 31) (hw : w + (dgs n).length ≤ 60) : cl_ tb_ct tb_mt B K_X13_saysNumber_4 [.ref m, .int (nI n)] (oS s m v w F g) = some (.inl none, oS s m v (w + (dgs n).length) F (wr g w (dgs n))) := by
  have h0 : (0 : Int32) ≤ nI n := Int32.not_lt.mp (nI_pos hl)
  rw [in_X13_saysNumber_4, dc_X13_saysNumber_4_0, if_pos h0]
  exact sn10_4 hB (if_pos h0) hn hl hw
theorem sn10_3 (hB : B ≤ m) (hx : (if 0 ≤ x then x else 0 - x) = nI n) (hn : n < 100000000) (hl : n < 2 ^ 31) (hw : w + (dgs n).length ≤ 60) : rn_ tb_ct tb_mt B mm_X13_saysNumber_3 10 [.ref m, .int x, am_un] [] (oS s m v w F g) = some (.inl none, oS s m v (w + (dgs n).length) F (wr g w (dgs n))) := by
  have er : nI n - nI n / (10 : Int32) * (10 : Int32) = nI (n % 10) := nI_rem (q := 10) hl (by omega)
  have e48 : (48 : Int32) + nI (n % 10) = nI (48 + n % 10) := nI_add 48 _
  rw [dc_X13_saysNumber_3_10, hx]
  by_cases c : n < 10
  · rw [dgs_lt c] at hw
    rw [if_pos (show nI n < (10 : Int32) from nI_lt (b := 10) c (by omega)), dc_X13_saysNumber_3_29, er, e48, mo_cs, eC_s, mk_says hB (Nat.lt_of_lt_of_le (Nat.lt_succ_self w) hw) (bOk_n (by omega)), cV_s, dgs_lt c, wr_one, show 48 + n % 10 = 48 + n by omega]
    rfl
  · have ed : nI n / (10 : Int32) = nI (n / 10) := nI_div (q := 10) hl (by omega)
    rw [dgs_ge (by omega), List.length_append, List.length_singleton] at hw
    rw [if_neg (show ¬ nI n < (10 : Int32) from nI_nlt (b := 10) (by omega) hl), ed, mo_cs, eC_s, sn_4 hB (by omega) (by omega) (by omega), cV_s, dc_X13_saysNumber_3_29, er, e48, mo_cs, eC_s, mk_says hB (by omega) (bOk_n (by omega)), cV_s, wr_end, dgs_ge (n := n) (by omega), List.length_append, List.length_singleton, Nat.add_assoc]
theorem sn_3 (hB : B ≤ m) (hn : n < 100000000) (hl : n < 2 ^ 31) (hw : w + (dgs n).length ≤ 60) : cl_ tb_ct tb_mt B K_X13_saysNumber_3 [.ref m, .int (nI n)] (oS s m v w F g) = some (.inl none, oS s m v (w + (dgs n).length) F (wr g w (dgs n))) := by
  have h0 : (0 : Int32) ≤ nI n := Int32.not_lt.mp (nI_pos hl)
  rw [in_X13_saysNumber_3, dc_X13_saysNumber_3_0, if_pos h0]
  exact sn10_3 hB (if_pos h0) hn hl hw
theorem sn10_2 (hB : B ≤ m) (hx : (if 0 ≤ x then x else 0 - x) = nI n) (hn : n < 1000000000) (hl : n < 2 ^ 31) (hw : w + (dgs n).length ≤ 60) : rn_ tb_ct tb_mt B mm_X13_saysNumber_2 10 [.ref m, .int x, am_un] [] (oS s m v w F g) = some (.inl none, oS s m v (w + (dgs n).length) F (wr g w (dgs n))) := by
  have er : nI n - nI n / (10 : Int32) * (10 : Int32) = nI (n % 10) := nI_rem (q := 10) hl (by omega)
  have e48 : (48 : Int32) + nI (n % 10) = nI (48 + n % 10) := nI_add 48 _
  rw [dc_X13_saysNumber_2_10, hx]
  by_cases c : n < 10
  · rw [dgs_lt c] at hw
    rw [if_pos (show nI n < (10 : Int32) from nI_lt (b := 10) c (by omega)), dc_X13_saysNumber_2_29, er, e48, mo_cs, eC_s, mk_says hB (Nat.lt_of_lt_of_le (Nat.lt_succ_self w) hw) (bOk_n (by omega)), cV_s, dgs_lt c, wr_one, show 48 + n % 10 = 48 + n by omega]
    rfl
  · have ed : nI n / (10 : Int32) = nI (n / 10) := nI_div (q := 10) hl (by omega)
    rw [dgs_ge (by omega), List.length_append, List.length_singleton] at hw
    rw [if_neg (show ¬ nI n < (10 : Int32) from nI_nlt (b := 10) (by omega) hl), ed, mo_cs, eC_s, sn_3 hB (by omega) (by omega) (by omega), cV_s, dc_X13_saysNumber_2_29, er, e48, mo_cs, eC_s, mk_says hB (by omega) (bOk_n (by omega)), cV_s, wr_end, dgs_ge (n := n) (by omega), List.length_append, List.length_singleton, Nat.add_assoc]
theorem sn_2 (hB : B ≤ m) (hn : n < 1000000000) (hl : n < 2 ^ 31) (hw : w + (dgs n).length ≤ 60) : cl_ tb_ct tb_mt B K_X13_saysNumber_2 [.ref m, .int (nI n)] (oS s m v w F g) = some (.inl none, oS s m v (w + (dgs n).length) F (wr g w (dgs n))) := by
  have h0 : (0 : Int32) ≤ nI n := Int32.not_lt.mp (nI_pos hl)
  rw [in_X13_saysNumber_2, dc_X13_saysNumber_2_0, if_pos h0]
  exact sn10_2 hB (if_pos h0) hn hl hw
theorem sn10_1 (hB : B ≤ m) (hx : (if 0 ≤ x then x else 0 - x) = nI n) (hn : n < 10000000000) (hl : n < 2 ^ 31) (hw : w + (dgs n).length ≤ 60) : rn_ tb_ct tb_mt B mm_X13_saysNumber_1 10 [.ref m, .int x, am_un] [] (oS s m v w F g) = some (.inl none, oS s m v (w + (dgs n).length) F (wr g w (dgs n))) := by
  have er : nI n - nI n / (10 : Int32) * (10 : Int32) = nI (n % 10) := nI_rem (q := 10) hl (by omega)
  have e48 : (48 : Int32) + nI (n % 10) = nI (48 + n % 10) := nI_add 48 _
  rw [dc_X13_saysNumber_1_10, hx]
  by_cases c : n < 10
  · rw [dgs_lt c] at hw
    rw [if_pos (show nI n < (10 : Int32) from nI_lt (b := 10) c (by omega)), dc_X13_saysNumber_1_29, er, e48, mo_cs, eC_s, mk_says hB (Nat.lt_of_lt_of_le (Nat.lt_succ_self w) hw) (bOk_n (by omega)), cV_s, dgs_lt c, wr_one, show 48 + n % 10 = 48 + n by omega]
    rfl
  · have ed : nI n / (10 : Int32) = nI (n / 10) := nI_div (q := 10) hl (by omega)
    rw [dgs_ge (by omega), List.length_append, List.length_singleton] at hw
    rw [if_neg (show ¬ nI n < (10 : Int32) from nI_nlt (b := 10) (by omega) hl), ed, mo_cs, eC_s, sn_2 hB (by omega) (by omega) (by omega), cV_s, dc_X13_saysNumber_1_29, er, e48, mo_cs, eC_s, mk_says hB (by omega) (bOk_n (by omega)), cV_s, wr_end, dgs_ge (n := n) (by omega), List.length_append, List.length_singleton, Nat.add_assoc]
theorem sn_1 (hB : B ≤ m) (hn : n < 10000000000) (hl : n < 2 ^ 31) (hw : w + (dgs n).length ≤ 60) : cl_ tb_ct tb_mt B K_X13_saysNumber_1 [.ref m, .int (nI n)] (oS s m v w F g) = some (.inl none, oS s m v (w + (dgs n).length) F (wr g w (dgs n))) := by
  have h0 : (0 : Int32) ≤ nI n := Int32.not_lt.mp (nI_pos hl)
  rw [in_X13_saysNumber_1, dc_X13_saysNumber_1_0, if_pos h0]
  exact sn10_1 hB (if_pos h0) hn hl hw
theorem sn10_0 (hB : B ≤ m) (hx : (if 0 ≤ x then x else 0 - x) = nI n) (hn : n < 100000000000) (hl : n < 2 ^ 31) (hw : w + (dgs n).length ≤ 60) : rn_ tb_ct tb_mt B mm_X13_saysNumber_0 10 [.ref m, .int x, am_un] [] (oS s m v w F g) = some (.inl none, oS s m v (w + (dgs n).length) F (wr g w (dgs n))) := by
  have er : nI n - nI n / (10 : Int32) * (10 : Int32) = nI (n % 10) := nI_rem (q := 10) hl (by omega)
  have e48 : (48 : Int32) + nI (n % 10) = nI (48 + n % 10) := nI_add 48 _
  rw [dc_X13_saysNumber_0_10, hx]
  by_cases c : n < 10
  · rw [dgs_lt c] at hw
    rw [if_pos (show nI n < (10 : Int32) from nI_lt (b := 10) c (by omega)), dc_X13_saysNumber_0_29, er, e48, mo_cs, eC_s, mk_says hB (Nat.lt_of_lt_of_le (Nat.lt_succ_self w) hw) (bOk_n (by omega)), cV_s, dgs_lt c, wr_one, show 48 + n % 10 = 48 + n by omega]
    rfl
  · have ed : nI n / (10 : Int32) = nI (n / 10) := nI_div (q := 10) hl (by omega)
    rw [dgs_ge (by omega), List.length_append, List.length_singleton] at hw
    rw [if_neg (show ¬ nI n < (10 : Int32) from nI_nlt (b := 10) (by omega) hl), ed, mo_cs, eC_s, sn_1 hB (by omega) (by omega) (by omega), cV_s, dc_X13_saysNumber_0_29, er, e48, mo_cs, eC_s, mk_says hB (by omega) (bOk_n (by omega)), cV_s, wr_end, dgs_ge (n := n) (by omega), List.length_append, List.length_singleton, Nat.add_assoc]
theorem sn_0 (hB : B ≤ m) (hn : n < 100000000000) (hl : n < 2 ^ 31) (hw : w + (dgs n).length ≤ 60) : cl_ tb_ct tb_mt B K_X13_saysNumber_0 [.ref m, .int (nI n)] (oS s m v w F g) = some (.inl none, oS s m v (w + (dgs n).length) F (wr g w (dgs n))) := by
  have h0 : (0 : Int32) ≤ nI n := Int32.not_lt.mp (nI_pos hl)
  rw [in_X13_saysNumber_0, dc_X13_saysNumber_0_0, if_pos h0]
  exact sn10_0 hB (if_pos h0) hn hl hw
theorem mk_tx (hB : B ≤ m) (hy : y < 0 → vOk y) (hw : w + (tx y).length ≤ 60) : cl_ tb_ct tb_mt B K_X13_saysNumber_0 [.ref m, .int y] (oS s m v w F g) = some (.inl none, oS s m v (w + (tx y).length) F (wr g w (tx y))) := by
  by_cases c : y < 0
  · obtain ⟨n, rfl, h1, h2⟩ := ng_pos c (hy c).1
    rw [tx_ng h1 (by omega), List.length_cons] at hw
    have b45 : bOk (45 : Int32) := ⟨45, by omega, rfl⟩
    have e0 : (0 : Int32) - -(nI n) = nI n := by rw [Int32.sub_neg, Int32.zero_add]
    rw [in_X13_saysNumber_0, dc_X13_saysNumber_0_0, if_neg (Int32.not_le.mpr c), mo_cs, eC_s, mk_says hB (by omega) b45, cV_s, sn10_0 hB ((if_neg (Int32.not_le.mpr c)).trans e0) (by omega) (by omega) (by omega), tx_ng h1 (by omega), List.length_cons, wr_one, show w + 1 = w + [(45 : Int32)].length from rfl, wr_app, show w + [(45 : Int32)].length + (dgs n).length = w + ((dgs n).length + 1) by rw [List.length_singleton]; omega]
    rfl
  · obtain ⟨n, h1, rfl⟩ := nI_of c
    rw [tx_nI h1] at hw ⊢
    exact sn_0 hB (by omega) h1 hw
theorem tx_len (h : ¬ y < 0) : (tx y).length ≤ 10 := by
  obtain ⟨n, h1, rfl⟩ := nI_of h
  rw [tx_nI h1]
  exact dgs_le 9 n (by omega)
end Mn
