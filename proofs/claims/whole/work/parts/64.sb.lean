/-! ===== the platform's digits and texts; StringBuilder ===== -/
/-- what the platform's number tables hold -/
def EVd (B : Nat) (s : am_S) : Prop := stI s 3 = some 1 ∧ (∃ d g, stR s 4 = some d ∧ d < B ∧ s.1 d = some (.inl (.byte, 100, .inl g)) ∧ ∀ r, r < 100 → g r = nI (48 + r % 10)) ∧ (∃ d g, stR s 5 = some d ∧ d < B ∧ s.1 d = some (.inl (.byte, 100, .inl g)) ∧ ∀ r, r < 100 → g r = nI (48 + r / 10)) ∧ ∃ o, stA s 6 = some o
/-- a text at an address -/
def STR (B : Nat) (s : am_S) (q : Nat) (l : List Int32) : Prop := q < B ∧ (∃ qb g h1 h2, qb < B ∧ s.1 q = some (.inr (13, [.ref qb, .int 0, h1, h2])) ∧ s.1 qb = some (.inl (.byte, l.length, .inl g)) ∧ ∀ i, i < l.length → g i = l.getD i 0) ∧ (∀ c, c ∈ l → bOk c) ∧ l.length < 128
theorem st_cg {s s' : am_S} (h : s'.2.2.2 = s.2.2.2) (k : Nat) : stI s' k = stI s k ∧ stR s' k = stR s k ∧ stA s' k = stA s k := by
  unfold stI stR stA
  rw [h]
  exact ⟨rfl, rfl, rfl⟩
theorem EVd.at {B : Nat} {s s' : am_S} (h : EVd B s) (hs : ∀ q, q < B → s'.1 q = s.1 q) (ht : s'.2.2.2 = s.2.2.2) : EVd B s' := by
  obtain ⟨h1, ⟨d, g, h2, h3, h4, h5⟩, ⟨e, f, h6, h7, h8, h9⟩, o, h10⟩ := h
  exact ⟨(st_cg ht 3).1.trans h1, ⟨d, g, (st_cg ht 4).2.1.trans h2, h3, (hs d h3).trans h4, h5⟩, ⟨e, f, (st_cg ht 5).2.1.trans h6, h7, (hs e h7).trans h8, h9⟩, o, (st_cg ht 6).2.2.trans h10⟩
theorem STR.at {B q : Nat} {l : List Int32} {s s' : am_S} (h : STR B s q l) (hs : ∀ q, q < B → s'.1 q = s.1 q) : STR B s' q l := by
  obtain ⟨h1, ⟨qb, g, k1, k2, h2, h3, h4, h5⟩, h6⟩ := h
  exact ⟨h1, ⟨qb, g, k1, k2, h2, (hs q h1).trans h3, (hs qb h2).trans h4, h5⟩, h6⟩
theorem sh_r0 {x : Int32} : x >>> ((0 : Int32) &&& 31) = x := by
  rw [show ((0 : Int32) &&& 31) = 0 from rfl]
  exact Int32.shiftRight_zero
theorem sh_l0 {x : Int32} : x <<< ((0 : Int32) &&& 31) = x := by
  rw [show ((0 : Int32) &&& 31) = 0 from rfl]
  exact Int32.shiftLeft_zero
theorem nI_d0 {a b : Nat} (ha : a < 2 ^ 30) (hb : b < 2 ^ 30) : nI a - nI b ≤ 0 ↔ a ≤ b := by
  rw [Int32.le_iff_toInt_le, Int32.toInt_sub, nI_toInt (by omega), nI_toInt (by omega), Int.bmod_eq_of_le (by omega) (by omega)]
  show (a : Int) - b ≤ 0 ↔ _
  omega
section Sb
variable {B a vb C q n : Nat} {s : am_S} {l : List Int32}
/-! a text's methods -/
theorem jl_coder {fs : List Value} {k0 h1 h2 : Value} (h3 : stI s 3 = some 1) (h : s.1 a = some (.inr (13, [k0, .int 0, h1, h2]))) : cl_ tb_ct tb_mt B K_J0_coder_7d493 [.ref a] s = some (.inl (some (.int 0)), s) := by
  rw [in_J0_coder_7d493, dc_J0_coder_7d493_0, h3, eI_s, if_neg (by decide), gI_o h rfl rfl rfl, eI_s]
  rfl
theorem str_len (h3 : stI s 3 = some 1) (h : STR B s q l) : cl_ tb_ct tb_mt B K_J0_length_8abf5 [.ref q] s = some (.inl (some (.int (nI l.length))), s) := by
  obtain ⟨-, ⟨qb, g, k1, k2, -, h3', h4, -⟩, -⟩ := h
  rw [in_J0_length_8abf5, dc_J0_length_8abf5_0, gA_o h3' rfl rfl rfl, eA_s, al_o h4, eK_s, cls_o h3', eC_s, jl_coder (fs := []) h3 h3', cI_s, sh_r0]
  rfl
theorem str_cls (h : STR B s q l) : am_cls s q = some 13 := by
  obtain ⟨-, ⟨qb, g, k1, k2, -, h3', h4, -⟩, -⟩ := h
  exact cls_o h3'
theorem j3_null (x0 x1 : Int32) (s : am_S) (h0 : ¬ x0 < 0) (h1 : x0 < x1) : cl_ tb_ct tb_mt B K_J3_checkIndex_8e157 [.int x0, .int x1, .null] s = some (.inl (some (.int x0)), s) := by
  have e : cl_ tb_ct tb_mt B K_J3_checkIndex_8e157 [.int x0, .int x1, .null] s = rn_ tb_ct tb_mt B mm_J3_checkIndex_8e157 0 [.int x0, .int x1, .null] [] s := cl_in rfl rfl rfl rfl
  rw [e]
  refine Eq.trans (rn_go 1 (pc' := 1) (L' := [.int x0, .int x1, .null]) (st' := [.int x0]) rfl) ?_
  refine Eq.trans (rn_iflt (L' := [.int x0, .int x1, .null]) rfl rfl) ?_
  rw [if_neg h0]
  refine Eq.trans (rn_go 2 (pc' := 6) (L' := [.int x0, .int x1, .null]) (st' := [.int x1, .int x0]) rfl) ?_
  refine Eq.trans (rn_iclt (L' := [.int x0, .int x1, .null]) rfl rfl) ?_
  rw [if_pos h1]
  refine Eq.trans (rn_go 1 (pc' := 17) (L' := [.int x0, .int x1, .null]) (st' := [.int x0]) rfl) ?_
  exact rn_retI rfl rfl rfl
theorem j0_check {x0 x1 : Int32} (h6 : ∃ o, stA s 6 = some o) (h0 : ¬ x0 < 0) (h1 : x0 < x1) : cl_ tb_ct tb_mt B K_J0_checkIndex_df160 [.int x0, .int x1] s = some (.inl none, s) := by
  obtain ⟨o, ho⟩ := h6
  rw [in_J0_checkIndex_df160, dc_J0_checkIndex_df160_0, ho]
  cases o with
  | none =>
    show cI (cl_ tb_ct tb_mt B K_J3_checkIndex_8e157 [.int x0, .int x1, .null] s) _ _ = _
    rw [j3_null x0 x1 s h0 h1, cI_s]
  | some b => rw [eA_s, in_J3_checkIndex_8e157, dc_J3_checkIndex_8e157_0, if_neg h0, if_pos h1, cI_s]
theorem str_at {i : Nat} (h3 : stI s 3 = some 1) (h6 : ∃ o, stA s 6 = some o) (h : STR B s q l) (hi : i < l.length) : cl_ tb_ct tb_mt B K_J0_charAt_5068e [.ref q, .int (nI i)] s = some (.inl (some (.int (l.getD i 0))), s) := by
  obtain ⟨-, ⟨qb, g, k1, k2, -, h3', h4, h5⟩, h7, h8⟩ := h
  have e1 : cl_ tb_ct tb_mt B K_J0_isLatin1_aae02 [.ref q] s = some (.inl (some (.int 1)), s) := by
    rw [in_J0_isLatin1_aae02, dc_J0_isLatin1_aae02_0, h3, eI_s, if_neg (by decide), gI_o h3' rfl rfl rfl, eI_s, if_pos rfl]
  have ok : bOk (g i) := by
    rw [h5 i hi]
    exact bOk_getD h7 i
  have e2 : cl_ tb_ct tb_mt B K_J1_charAt_3b067 [.ref qb, .int (nI i)] s = some (.inl (some (.int (l.getD i 0))), s) := by
    rw [in_J1_charAt_3b067, dc_J1_charAt_3b067_0, al_o h4, eK_s, j0_check h6 (nI_pos (by omega)) (show nI i < Int32.ofNat l.length from nI_lt hi (by omega)), cV_s, aB_o h4 (Or.inl rfl) hi (by omega), eI_s, rtI, (bOk_c ok).1, if_pos (bOk_c ok).2, h5 i hi]
  rw [in_J0_charAt_5068e, dc_J0_charAt_5068e_0, cls_o h3', eC_s, e1, cI_s, if_neg (by decide), gA_o h3' rfl rfl rfl, eA_s, e2, cI_s, rtI, if_pos]
  rw [← h5 i hi]
  exact (bOk_c ok).2
/-! the digits of a number, from behind -/
theorem gc_lp {x6 : Int32} (hB : B ≤ vb) (hC : C < 2 ^ 31) : ∀ n, n < 2 ^ 31 → ∀ p g w3 w4 s, EVd B s → (dgs n).length ≤ p → p ≤ C → s.1 vb = some (.inl (.byte, C, .inl g)) → ∃ z s', rn_ tb_ct tb_mt B mm_J6_getChars_ba4f3 22 [.int (-(nI n)), am_un, .ref vb, w3, w4, .int (nI p), .int x6] [] s = rn_ tb_ct tb_mt B mm_J6_getChars_ba4f3 104 [.int z, am_un, .ref vb, am_un, am_un, .int (nI (p - (dgs n).length)), .int x6] [] s' ∧ so s s' vb (vb + 1) ∧ s'.1 vb = some (.inl (.byte, C, .inl (wr g (p - (dgs n).length) (dgs n)))) := by
  intro n
  induction n using Nat.strongRecOn with
  | ind n ih =>
    intro hn p g w3 w4 s hE hl hp hv
    obtain ⟨-, ⟨d1, g1, t1, b1, c1, f1⟩, ⟨d2, g2, t2, b2, c2, f2⟩, -⟩ := id hE
    by_cases h : n < 100
    · have hlt : -(100 : Int32) < -(nI n) := (ng_lt (a := 100) (b := n) (by omega) (by omega)).mpr h
      have p0 : 0 < p := by
        have : (dgs n).length ≠ 0 := fun e => by
          by_cases c : n < 10
          · rw [dgs_lt c] at e
            exact Nat.succ_ne_zero _ e
          · rw [dgs_ge (by omega), List.length_append, List.length_singleton] at e
            omega
        omega
      have o1 : bOk (nI (48 + n % 10)) := bOk_n (by omega)
      have o2 : bOk (nI (48 + n / 10)) := bOk_n (by omega)
      by_cases h9 : n < 10
      · refine ⟨-(nI n), am_set s vb (.inl (.byte, C, .inl (upd g (p - 1) (nI (48 + n % 10))))), ?_, so_set, ?_⟩
        · rw [dc_J6_getChars_ba4f3_22, if_pos hlt, t1, eK_s, Int32.neg_neg, aB_o c1 (Or.inl rfl) h (by omega), eI_s, f1 n h, nI_neg1 p0, wB_o hv (Or.inl rfl) (show p - 1 < C by omega) hC hB, bOk_nar o1, eS_s, if_pos (show -(9 : Int32) ≤ -(nI n) from (ng_le (a := 9) (b := n) (by omega) (by omega)).mpr (by omega)), dgs_lt h9]
          rfl
        · rw [set_at, dgs_lt h9, show n % 10 = n by omega]
          congr 4
          exact congrArg Sum.inl ((wr_nil (p := p - 1)).symm.trans (wr_snoc (l := []) rfl))
      · have e2 : dgs n = [nI (48 + n / 10), nI (48 + n % 10)] := by
          rw [dgs_ge (by omega), dgs_lt (by omega)]
          rfl
        have p1 : 2 ≤ p := by
          rw [e2] at hl
          exact hl
        refine ⟨-(nI n), am_set (am_set s vb (.inl (.byte, C, .inl (upd g (p - 1) (nI (48 + n % 10)))))) vb (.inl (.byte, C, .inl (upd (upd g (p - 1) (nI (48 + n % 10))) (p - 1 - 1) (nI (48 + n / 10))))), ?_, so_tr so_set so_set, ?_⟩
        · rw [dc_J6_getChars_ba4f3_22, if_pos hlt, t1, eK_s, Int32.neg_neg, aB_o c1 (Or.inl rfl) h (by omega), eI_s, f1 n h, nI_neg1 p0, wB_o hv (Or.inl rfl) (show p - 1 < C by omega) hC hB, bOk_nar o1, eS_s, if_neg (show ¬ -(9 : Int32) ≤ -(nI n) from fun c => h9 (by have := (ng_le (a := 9) (b := n) (by omega) (by omega)).mp c; omega))]
          rw [show stR (am_set s vb (.inl (.byte, C, .inl (upd g (p - 1) (nI (48 + n % 10)))))) 5 = some d2 from t2, eK_s, aB_o (show (am_set s vb (.inl (.byte, C, .inl (upd g (p - 1) (nI (48 + n % 10)))))).1 d2 = _ from (set_ne (by omega)).trans c2) (Or.inl rfl) h (by omega), eI_s, f2 n h, nI_neg1 (show 0 < p - 1 by omega), wB_o set_at (Or.inl rfl) (show p - 1 - 1 < C by omega) hC hB, bOk_nar o2, eS_s, e2]
          rfl
        · rw [set_at, e2]
          congr 4
          refine congrArg Sum.inl ?_
          show _ = wr g (p - 2) _
          rw [← wr_cons, show p - 2 + 1 = p - 1 by omega]
          rw [← wr_cons, wr_nil]
          rfl
    · have hlt : ¬ -(100 : Int32) < -(nI n) := fun c => h (by have := (ng_lt (a := 100) (b := n) (by omega) (by omega)).mp c; omega)
      have e2 := dgs_ge2 (n := n) (by omega)
      have el : (dgs n).length = (dgs (n / 100)).length + 2 := by
        rw [e2, List.length_append]
        rfl
      have o1 : bOk (nI (48 + n % 100 % 10)) := bOk_n (by omega)
      have o2 : bOk (nI (48 + n % 100 / 10)) := bOk_n (by omega)
      have hr : -(nI n) / (100 : Int32) * (100 : Int32) - -(nI n) = nI (n % 100) := ng_rem (n := n) (q := 100) (by omega) (by omega)
      have hq : -(nI n) / (100 : Int32) = -(nI (n / 100)) := ng_div (n := n) (q := 100) (by omega) (by omega)
      have h100 : n % 100 < 100 := by omega
      let s1 := am_set s vb (.inl (.byte, C, .inl (upd g (p - 1) (nI (48 + n % 100 % 10)))))
      let s2 := am_set s1 vb (.inl (.byte, C, .inl (upd (upd g (p - 1) (nI (48 + n % 100 % 10))) (p - 1 - 1) (nI (48 + n % 100 / 10)))))
      have o12 : so s s2 vb (vb + 1) := so_tr so_set so_set
      obtain ⟨z, s', a1, a2, a3⟩ := ih (n / 100) (by omega) (by omega) (p - 1 - 1) (upd (upd g (p - 1) (nI (48 + n % 100 % 10))) (p - 1 - 1) (nI (48 + n % 100 / 10))) (.int (-(nI (n / 100)))) (.int (nI (n % 100))) s2 (hE.at (fun q hq => o12.1 q (by omega)) (by rw [o12.2])) (by omega) (by omega) set_at
      refine ⟨z, s', ?_, so_tr o12 a2, ?_⟩
      · rw [dc_J6_getChars_ba4f3_22, if_neg hlt, t1, eK_s, hr, aB_o c1 (Or.inl rfl) h100 (by omega), eI_s, f1 _ h100, nI_neg1 (show 0 < p by omega), wB_o hv (Or.inl rfl) (show p - 1 < C by omega) hC hB, bOk_nar o1, eS_s]
        rw [show stR (am_set s vb (.inl (.byte, C, .inl (upd g (p - 1) (nI (48 + n % 100 % 10)))))) 5 = some d2 from t2, eK_s, aB_o (show (am_set s vb (.inl (.byte, C, .inl (upd g (p - 1) (nI (48 + n % 100 % 10)))))).1 d2 = _ from (set_ne (by omega)).trans c2) (Or.inl rfl) h100 (by omega), eI_s, f2 _ h100, nI_neg1 (show 0 < p - 1 by omega), wB_o set_at (Or.inl rfl) (show p - 1 - 1 < C by omega) hC hB, bOk_nar o2, eS_s, hq]
        rw [el, show p - ((dgs (n / 100)).length + 2) = p - 1 - 1 - (dgs (n / 100)).length by omega]
        exact a1
      · rw [a3, el, show p - ((dgs (n / 100)).length + 2) = p - 1 - 1 - (dgs (n / 100)).length by omega, e2]
        congr 4
        generalize hL : dgs (n / 100) = L at *
        rw [show L ++ [nI (48 + n % 100 / 10), nI (48 + n % 100 % 10)] = (L ++ [nI (48 + n % 100 / 10)]) ++ [nI (48 + n % 100 % 10)] by rw [List.append_assoc]; rfl]
        rw [← wr_snoc (q := p - 1) (by rw [List.length_append, List.length_singleton]; omega), ← wr_snoc (q := p - 1 - 1) (by omega)]
theorem gc_all {y : Int32} {p : Nat} {g : Nat → Int32} (hB : B ≤ vb) (hC : C < 2 ^ 31) (hE : EVd B s) (hy : (∃ n, n < 2 ^ 31 ∧ y = nI n) ∨ ∃ n, 1 ≤ n ∧ n < 2 ^ 31 ∧ y = -(nI n)) (hl : (tx y).length ≤ p) (hp : p ≤ C) (hv : s.1 vb = some (.inl (.byte, C, .inl g))) : ∃ s', cl_ tb_ct tb_mt B K_J6_getChars_ba4f3 [.int y, .int (nI p), .ref vb] s = some (.inl (some (.int (nI (p - (tx y).length)))), s') ∧ so s s' vb (vb + 1) ∧ s'.1 vb = some (.inl (.byte, C, .inl (wr g (p - (tx y).length) (tx y)))) := by
  rcases hy with ⟨n, hn, rfl⟩ | ⟨n, h1, hn, rfl⟩
  · rw [tx_nI (by omega)] at hl ⊢
    obtain ⟨z, s', e, o, v⟩ := gc_lp (B := B) (x6 := 0) hB hC n hn p g am_un am_un s hE hl hp hv
    refine ⟨s', ?_, o, v⟩
    rw [in_J6_getChars_ba4f3, dc_J6_getChars_ba4f3_0, if_pos (nI_pos' (by omega)), dc_J6_getChars_ba4f3_12, if_pos rfl, e, dc_J6_getChars_ba4f3_104, if_pos rfl]
  · rw [tx_ng h1 (by omega)] at hl ⊢
    rw [List.length_cons] at hl ⊢
    obtain ⟨z, s', e, o, v⟩ := gc_lp (B := B) (x6 := 1) hB hC n hn p g am_un am_un s hE (by omega) hp hv
    refine ⟨am_set s' vb (.inl (.byte, C, .inl (upd (wr g (p - (dgs n).length) (dgs n)) (p - ((dgs n).length + 1)) 45))), ?_, so_tr o so_set, ?_⟩
    · have hneg : ¬ (0 : Int32) ≤ -(nI n) := by
        rw [Int32.le_iff_toInt_le, ng_i (by omega)]
        show ¬ (0 : Int) ≤ -(n : Int)
        omega
      rw [in_J6_getChars_ba4f3, dc_J6_getChars_ba4f3_0, if_neg hneg, dc_J6_getChars_ba4f3_12, if_neg (by decide), e, dc_J6_getChars_ba4f3_104, if_neg (by decide), nI_neg1 (by omega), wB_o v (Or.inl rfl) (show p - (dgs n).length - 1 < C by omega) hC hB, eS_s, show vp_nar .byte 45 = 45 from bOk_nar ⟨45, by omega, rfl⟩, show p - (dgs n).length - 1 = p - ((dgs n).length + 1) by omega]
    · rw [set_at, ← wr_cons, show p - ((dgs n).length + 1) + 1 = p - (dgs n).length by omega]
theorem ss_lp {d : Int32} : ∀ k i n, i + k = 10 → 1 ≤ i → n < 2 ^ 31 → (i = 1 ∨ 10 ^ (i - 1) ≤ n) → ∀ z, (i < 10 → z = -(nI (10 ^ i))) → rn_ tb_ct tb_mt B mm_J6_stringSize_0f7a4 16 [.int (-(nI n)), .int d, .int z, .int (nI i)] [] s = some (.inl (some (.int (nI (dgs n).length + d))), s) := by
  intro k
  induction k with
  | zero =>
    intro i n hi h1 hn h z hz
    obtain rfl : i = 10 := by omega
    rw [dc_J6_stringSize_0f7a4_16, if_pos (show (10 : Int32) ≤ nI 10 from nI_le (a := 10) (by omega) (by omega)), dgs_len 9 n (by omega) (by omega)]
    rfl
  | succ k ih =>
    intro i n hi h1 hn h z hz
    obtain ⟨j, rfl⟩ : ∃ j, i = j + 1 := ⟨i - 1, by omega⟩
    have hp : 10 ^ (j + 1) < 2 ^ 31 := Nat.lt_of_le_of_lt (Nat.pow_le_pow_right (by omega) (show j + 1 ≤ 9 by omega)) (by decide)
    rw [dc_J6_stringSize_0f7a4_16, if_neg (show ¬ (10 : Int32) ≤ nI (j + 1) from nI_ge (b := 10) (by omega) (by omega)), hz (by omega)]
    by_cases c : 10 ^ (j + 1) ≤ n
    · rw [if_pos ((ng_le hn hp).mpr c), nI_1]
      refine ih (j + 2) n (by omega) (by omega) hn (Or.inr c) _ fun h10 => ?_
      rw [Int32.mul_neg, show (10 : Int32) = nI 10 from rfl, nI_mul, Nat.pow_succ _ (j + 1), Nat.mul_comm]
    · rw [if_neg (fun cc => c ((ng_le hn hp).mp cc)), dgs_len j n (by omega) (by
        rw [Nat.add_sub_cancel] at h
        rcases h with h | h
        · exact Or.inl (by omega)
        · exact Or.inr h)]
theorem ss_all {y : Int32} (hy : (∃ n, n < 2 ^ 31 ∧ y = nI n) ∨ ∃ n, 1 ≤ n ∧ n < 2 ^ 31 ∧ y = -(nI n)) : cl_ tb_ct tb_mt B K_J6_stringSize_0f7a4 [.int y] s = some (.inl (some (.int (nI (tx y).length))), s) := by
  rcases hy with ⟨n, hn, rfl⟩ | ⟨n, h1, hn, rfl⟩
  · have := ss_lp (B := B) (s := s) (d := 0) 9 1 n (by omega) (by omega) (by omega) (Or.inl rfl) (-(10 : Int32)) fun _ => rfl
    rw [tx_nI (by omega), in_J6_stringSize_0f7a4, dc_J6_stringSize_0f7a4_0, if_neg (nI_pos (by omega)), dc_J6_stringSize_0f7a4_11]
    exact this.trans (by rw [Int32.add_zero])
  · have := ss_lp (B := B) (s := s) (d := 1) 9 1 n (by omega) (by omega) (by omega) (Or.inl rfl) (-(10 : Int32)) fun _ => rfl
    have hneg : -(nI n) < (0 : Int32) := by
      rw [Int32.lt_iff_toInt_lt, ng_i (by omega)]
      show -(n : Int) < 0
      omega
    rw [tx_ng h1 (by omega), in_J6_stringSize_0f7a4, dc_J6_stringSize_0f7a4_0, if_pos hneg, dc_J6_stringSize_0f7a4_11]
    exact this.trans (by rw [List.length_cons, ← nI_1])
end Sb
