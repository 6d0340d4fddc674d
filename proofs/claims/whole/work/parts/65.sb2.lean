/-! ===== StringBuilder: what it holds, how it grows ===== -/
def SBs (B : Nat) (s : am_S) (a vb C : Nat) (l : List Int32) : Prop := (∃ ml, s.1 a = some (.inr (12, [.ref vb, .int 0, .int ml, .int (nI l.length)]))) ∧ (∃ g, s.1 vb = some (.inl (.byte, C, .inl g)) ∧ (∀ i, i < C → bOk (g i)) ∧ ∀ i, i < l.length → g i = l.getD i 0) ∧ l.length ≤ C ∧ (C = 16 ∨ C = 34 ∨ C = 70) ∧ B ≤ a ∧ B ≤ vb ∧ a ≠ vb ∧ a < s.2.1 ∧ vb < s.2.1
def gC (C : Nat) : Nat := if C = 16 then 0 else if C = 34 then 1 else 2
def gS (C : Nat) : Nat := if C = 16 then 0 else if C = 34 then 34 else 104
/-- it has been written to: its array may have been replaced, twice at most -/
def GR (s s' : am_S) (a vb C vb' C' : Nat) : Prop := (∀ q, q ≠ a → q ≠ vb → q < s.2.1 → s'.1 q = s.1 q) ∧ s'.2.2.2 = s.2.2.2 ∧ s.2.1 ≤ s'.2.1 ∧ s'.2.1 + gC C = s.2.1 + gC C' ∧ s'.2.2.1 + gS C = s.2.2.1 + gS C' ∧ (vb' = vb ∨ s.2.1 ≤ vb')
section Sc
variable {B a vb C q n vb' C' vb'' C'' : Nat} {s s' s'' : am_S} {l l' : List Int32}
theorem GR.rf : GR s s a vb C vb C := ⟨fun _ _ _ _ => rfl, rfl, Nat.le_refl _, rfl, rfl, Or.inl rfl⟩
theorem GR.tr (h : GR s s' a vb C vb' C') (h' : GR s' s'' a vb' C' vb'' C'') : GR s s'' a vb C vb'' C'' := by
  obtain ⟨a1, a2, a3, a4, a5, a6⟩ := h
  obtain ⟨b1, b2, b3, b4, b5, b6⟩ := h'
  exact ⟨fun q q1 q2 q3 => (b1 q q1 (by omega) (by omega)).trans (a1 q q1 q2 q3), b2.trans a2, by omega, by omega, by omega, by omega⟩
theorem SBs.grB (h : SBs B s a vb C l) (g : GR s s' a vb C vb' C') : B ≤ vb' := by
  obtain ⟨-, -, -, -, h1, h2, -, h3, h4⟩ := h
  have := g.2.2.2.2.2
  omega
theorem SBs.below (h : SBs B s a vb C l) (g : GR s s' a vb C vb' C') : ∀ q, q < B → s'.1 q = s.1 q := fun q hq => by
  obtain ⟨-, -, -, -, h1, h2, -, h3, h4⟩ := h
  exact g.1 q (by omega) (by omega) (by omega)
theorem sb_cls (h : SBs B s a vb C l) : am_cls s a = some 12 := by
  obtain ⟨⟨ml, h1⟩, -⟩ := h
  exact cls_o h1
theorem sb_v (h : SBs B s a vb C l) : gA tb_ct s a 12 0 = some (some vb) := by
  obtain ⟨⟨ml, h1⟩, -⟩ := h
  exact gA_o h1 rfl rfl rfl
theorem sb_k (h : SBs B s a vb C l) : gI tb_ct s a 12 1 = some 0 := by
  obtain ⟨⟨ml, h1⟩, -⟩ := h
  exact gI_o h1 rfl rfl rfl
theorem sb_n (h : SBs B s a vb C l) : gI tb_ct s a 12 3 = some (nI l.length) := by
  obtain ⟨⟨ml, h1⟩, -⟩ := h
  exact gI_o h1 rfl rfl rfl
theorem sb_al (h : SBs B s a vb C l) : am_len s vb = some C := by
  obtain ⟨-, ⟨g, h1, -⟩, -⟩ := h
  exact al_o h1
theorem sb_latin (h3 : stI s 3 = some 1) (h : SBs B s a vb C l) : cl_ tb_ct tb_mt B K_J5_isLatin1_aae02 [.ref a] s = some (.inl (some (.int 1)), s) := by
  rw [in_J5_isLatin1_aae02, dc_J5_isLatin1_aae02_0, h3, eI_s, if_neg (by decide), sb_k h, eI_s, if_pos rfl]
theorem sb_len (h : SBs B s a vb C l) : cl_ tb_ct tb_mt B K_J4_length_8abf5 [.ref a] s = some (.inl (some (.int (nI l.length))), s) := by
  rw [in_J4_length_8abf5, dc_J4_length_8abf5_0, sb_cls h, eC_s, in_J5_length_8abf5, dc_J5_length_8abf5_0, sb_n h, eI_s, cI_s]
theorem bd_at {i : Nat} (h6 : ∃ o, stA s 6 = some o) (h : SBs B s a vb C l) (hi : i < l.length) : cl_ tb_ct tb_mt B K_J4_charAt_5068e [.ref a, .int (nI i)] s = some (.inl (some (.int (l.getD i 0))), s) := by
  obtain ⟨⟨ml, h1⟩, ⟨g, k1, k2, k3⟩, h4, h5, -⟩ := id h
  have ok : bOk (g i) := k2 i (by omega)
  have e : (if (Int32.ofNat C >>> ((0 : Int32) &&& 31)) < nI l.length then (Int32.ofNat C >>> ((0 : Int32) &&& 31)) else nI l.length) = nI l.length := by
    rw [sh_r0]
    exact if_neg (show ¬ nI C < nI l.length from nI_nlt h4 (by omega))
  rw [in_J4_charAt_5068e, dc_J4_charAt_5068e_0, sb_cls h, eC_s, in_J5_charAt_5068e, dc_J5_charAt_5068e_0, sb_k h, eI_s, sb_v h, eA_s, sb_n h, eI_s, sb_al h, eK_s, e, j0_check h6 (nI_pos (by omega)) (nI_lt hi (by omega)), cV_s, if_pos rfl, aB_o k1 (Or.inl rfl) (show i < C by omega) (by omega), eI_s, rtI, (bOk_c ok).1, if_pos (bOk_c ok).2, cI_s, rtI, if_pos (bOk_c ok).2, k3 i hi]
theorem wC_o {ty : FieldType} {n0 n1 sp dp d : Nat} {f g : Nat → Int32} (h : s.1 a = some (.inl (ty, n0, .inl f))) (h' : s.1 d = some (.inl (ty, n1, .inl g))) (h1 : sp + n ≤ n0) (h2 : dp + n ≤ n1) (h0 : n0 < 2 ^ 31) (h3 : n1 < 2 ^ 31) (hB : B ≤ d) (hf : ∀ i, i < n → fits ty (.int (f (sp + i))) = true) : wC B ty s a (nI sp) d (nI dp) (nI n) = some (am_set s d (.inl (ty, n1, .inl (va_cpy f g sp dp n)))) := by
  have e1 : am_ia s ty a = some (n0, f) := by
    unfold am_ia
    rw [h]
    exact if_pos rfl
  have e2 : am_ia s ty d = some (n1, g) := by
    unfold am_ia
    rw [h']
    exact if_pos rfl
  unfold wC am_cpy
  dsimp only
  rw [e1, e2, nI_toInt (show n < 2 ^ 31 by omega), nI_toInt (show sp < 2 ^ 31 by omega), nI_toInt (show dp < 2 ^ 31 by omega)]
  dsimp only
  rw [if_pos ⟨by omega, by omega, by omega, h1, h2, hB, Nat.zero_le _, by
    rw [List.all_eq_true]
    intro i hi
    exact hf i (List.mem_range.mp hi)⟩]
  rfl
theorem cpy_wr {f g : Nat → Int32} {dp : Nat} (h : ∀ i, i < l.length → f i = l.getD i 0) : va_cpy f g 0 dp l.length = wr g dp l := by
  funext k
  unfold va_cpy wr
  by_cases hk : dp ≤ k ∧ k < dp + l.length
  · rw [if_pos hk, if_pos hk, Nat.zero_add]
    exact h _ (by omega)
  · rw [if_neg hk, if_neg hk]
theorem sb_ens {need : Nat} (h : SBs B s a vb C l) (hn : need ≤ 35) (hn2 : need ≤ 2 * C + 2) : ∃ s' vb' C', cl_ tb_ct tb_mt B K_J5_ensureCapacityInternal_d00df [.ref a, .int (nI need)] s = some (.inl none, s') ∧ SBs B s' a vb' C' l ∧ need ≤ C' ∧ GR s s' a vb C vb' C' := by
  obtain ⟨⟨ml, h1⟩, ⟨g, k1, k2, k3⟩, h4, h5, h6, h7, h8, h9, h10⟩ := id h
  by_cases c : need ≤ C
  · refine ⟨s, vb, C, ?_, h, c, GR.rf⟩
    rw [in_J5_ensureCapacityInternal_d00df, dc_J5_ensureCapacityInternal_d00df_0, sb_v h, eA_s, sb_al h, eK_s, sb_k h, eI_s, sh_r0, if_pos (show nI need - Int32.ofNat C ≤ 0 from (nI_d0 (b := C) (by omega) (by omega)).mpr c)]
  · have n1 : nI need - Int32.ofNat C = nI (need - C) := nI_2 (a := need) (b := C) (by omega)
    have n2 : (Int32.ofNat C) + (2 : Int32) = nI (C + 2) := nI_add C 2
    have n3 : (if nI (need - C) < nI (C + 2) then nI (C + 2) else nI (need - C)) = nI (C + 2) := by
      by_cases c2 : need - C < C + 2
      · exact if_pos (nI_lt c2 (by omega))
      · rw [show need - C = C + 2 by omega]
        exact if_neg (nI_nlt (Nat.le_refl _) (by omega))
    have n4 : Int32.ofNat C + nI (C + 2) = nI (2 * C + 2) := (nI_add C (C + 2)).trans (by rw [show C + (C + 2) = 2 * C + 2 by omega])
    have e0 : cl_ tb_ct tb_mt B K_J8_newLength_cabcc [.int (Int32.ofNat C), .int (nI (need - C)), .int (nI (C + 2))] s = some (.inl (some (.int (nI (2 * C + 2)))), s) := by
      rw [in_J8_newLength_cabcc, dc_J8_newLength_cabcc_0, n3, n4, if_neg (nI_nle (by omega) (by omega)), if_neg (show ¬ (2147483639 : Int32) < nI (2 * C + 2) from nI_nlt (b := 2147483639) (a := 2 * C + 2) |> fun _ => fun hc => by
        have := (nI_ltI (a := 2147483639) (b := 2 * C + 2) (by omega) (by omega)).mp hc
        omega)]
    have e1 : cl_ tb_ct tb_mt B K_J5_newCapacity_0f7a4 [.ref a, .int (nI need)] s = some (.inl (some (.int (nI (2 * C + 2)))), s) := by
      rw [in_J5_newCapacity_0f7a4, dc_J5_newCapacity_0f7a4_0, sb_v h, eA_s, sb_al h, eK_s, sb_k h, eI_s, eI_s, sh_l0, sh_l0, n1, n2, e0, cI_s, if_neg (show ¬ nI (2 * C + 2) = (2147483647 : Int32) from fun hc => by
        have := (nI_eq (a := 2 * C + 2) (b := 2147483647) (by omega) (by omega)).mp hc
        omega), sb_k h, eI_s, sh_r0]
    have k1' : (am_new s (.inl (.byte, 2 * C + 2, .inl fun _ => 0)) (2 * C + 2)).1 vb = some (.inl (.byte, C, .inl g)) := (new_ne (by omega)).trans k1
    have ew := wC_o (B := B) (s := am_new s (.inl (.byte, 2 * C + 2, .inl fun _ => 0)) (2 * C + 2)) (a := vb) (d := s.2.1) (sp := 0) (dp := 0) (n := C) k1' new_at (by omega) (by omega) (by omega) (by omega) (by omega) fun i hi => bOk_fits (k2 (0 + i) (by omega))
    have e2 : cl_ tb_ct tb_mt B K_J7_copyOf_9075b [.ref vb, .int (nI (2 * C + 2))] s = some (.inl (some (.ref s.2.1)), am_set (am_new s (.inl (.byte, 2 * C + 2, .inl fun _ => 0)) (2 * C + 2)) s.2.1 (.inl (.byte, 2 * C + 2, .inl (va_cpy g (fun _ => 0) 0 0 C)))) := by
      rw [in_J7_copyOf_9075b, dc_J7_copyOf_9075b_0, sb_al h, eK_s, if_neg (show ¬ nI (2 * C + 2) = Int32.ofNat C from fun hc => by
        have := (nI_eq (a := 2 * C + 2) (b := C) (by omega) (by omega)).mp hc
        omega), nwB_s (by omega), al_o k1', eK_s, show (if nI (2 * C + 2) < Int32.ofNat C then nI (2 * C + 2) else Int32.ofNat C) = nI C from if_neg (nI_nlt (b := C) (a := 2 * C + 2) (by omega) (by omega))]
      rw [nI_0] at ew
      rw [ew, eS_s]
    have h1' : (am_set (am_new s (.inl (.byte, 2 * C + 2, .inl fun _ => 0)) (2 * C + 2)) s.2.1 (.inl (.byte, 2 * C + 2, .inl (va_cpy g (fun _ => 0) 0 0 C)))).1 a = some (.inr (12, [.ref vb, .int 0, .int ml, .int (nI l.length)])) := (set_ne (by omega)).trans ((new_ne (by omega)).trans h1)
    have ep := pR_o (B := B) (M := mm_J5_ensureCapacityInternal_d00df) (k := 0) (v := s.2.1) h1' (Nat.succ_pos _) rfl rfl h6 (Or.inl rfl)
    have g1 : gC (2 * C + 2) = gC C + 1 ∧ gS (2 * C + 2) = gS C + (2 * C + 2) := by
      rcases h5 with rfl | rfl | rfl
      · exact ⟨rfl, rfl⟩
      · exact ⟨rfl, rfl⟩
      · omega
    refine ⟨am_set (am_set (am_new s (.inl (.byte, 2 * C + 2, .inl fun _ => 0)) (2 * C + 2)) s.2.1 (.inl (.byte, 2 * C + 2, .inl (va_cpy g (fun _ => 0) 0 0 C)))) a (.inr (12, [.ref vb, .int 0, .int ml, .int (nI l.length)].set 0 (.ref s.2.1))), s.2.1, 2 * C + 2, ?_, ⟨⟨ml, set_at⟩, ⟨va_cpy g (fun _ => 0) 0 0 C, (set_ne (by omega)).trans set_at, fun i hi => ?_, fun i hi => ?_⟩, by omega, by omega, h6, by omega, by omega, Nat.lt_succ_of_lt h9, Nat.lt_succ_self _⟩, by omega, fun q q1 q2 q3 => (set_ne q1).trans ((set_ne (by omega)).trans (new_ne (by omega))), rfl, Nat.le_succ _, ?_, ?_, Or.inr (Nat.le_refl _)⟩
    · rw [in_J5_ensureCapacityInternal_d00df, dc_J5_ensureCapacityInternal_d00df_0, sb_v h, eA_s, sb_al h, eK_s, sb_k h, eI_s, sh_r0, if_neg (show ¬ nI need - Int32.ofNat C ≤ 0 from fun cc => c ((nI_d0 (b := C) (by omega) (by omega)).mp cc)), eA_s, sb_cls h, eC_s, e1, cI_s, sb_k h, eI_s, sh_l0, e2, cA_s, ep, eS_s]
    · unfold va_cpy
      split
      · exact k2 _ (by omega)
      · exact bOk_0
    · unfold va_cpy
      rw [if_pos (by omega), Nat.zero_add]
      exact k3 i hi
    · show s.2.1 + 1 + gC C = s.2.1 + gC (2 * C + 2)
      rw [g1.1]
      omega
    · show s.2.2.1 + (2 * C + 2) + gS C = s.2.2.1 + gS (2 * C + 2)
      rw [g1.2]
      omega
theorem sb_close {ml : Int32} {g : Nat → Int32} (h : SBs B s a vb C l) (hg : ∀ i, i < C → bOk (g i)) (hg' : ∀ i, i < l.length → g i = l.getD i 0) (hl : ∀ c, c ∈ l' → bOk c) (hC : l.length + l'.length ≤ C) (h1 : s'.1 a = some (.inr (12, [.ref vb, .int 0, .int ml, .int (nI (l.length + l'.length))]))) (h2 : s'.1 vb = some (.inl (.byte, C, .inl (wr g l.length l')))) (hs : s'.2 = s.2) : SBs B s' a vb C (l ++ l') := by
  obtain ⟨-, -, -, h5, h6, h7, h8, h9, h10⟩ := h
  refine ⟨⟨ml, by rw [List.length_append]; exact h1⟩, ⟨_, h2, bOk_wr hg hl, wr_at hg'⟩, by rw [List.length_append]; exact hC, h5, h6, h7, h8, by rw [hs]; exact h9, by rw [hs]; exact h10⟩
theorem gr_in (hq : ∀ q, q ≠ a → q ≠ vb → s'.1 q = s.1 q) (h2 : s'.2 = s.2) : GR s s' a vb C vb C := ⟨fun q q1 q2 _ => hq q q1 q2, by rw [h2], by rw [h2]; exact Nat.le_refl _, by rw [h2], by rw [h2], Or.inl rfl⟩
theorem SBs.two (h : SBs B s a vb C l) (h1 : n ≤ 10) : l.length + n ≤ 2 * C + 2 := by
  obtain ⟨-, -, h4, h5, -⟩ := h
  omega
theorem sb_chr {c : Int32} (h3 : stI s 3 = some 1) (h : SBs B s a vb C l) (hc : bOk c) (hn : l.length + 1 ≤ 35) : ∃ s' vb' C', cl_ tb_ct tb_mt B K_J4_append_cf468 [.ref a, .int c] s = some (.inl (some (.ref a)), s') ∧ SBs B s' a vb' C' (l ++ [c]) ∧ GR s s' a vb C vb' C' := by
  obtain ⟨s1, v1, C1, e1, i1, n1, g1⟩ := sb_ens h hn (h.two (by omega))
  obtain ⟨⟨ml, h1⟩, ⟨g, k1, k2, k3⟩, h4, h5, h6, h7, h8, h9, h10⟩ := id i1
  have t3 : stI s1 3 = some 1 := (st_cg g1.2.1 3).1.trans h3
  have ep := pF_o (B := B) (M := mm_J5_append_3fe6f) (k := 3) (v := .int (nI (l.length + 1))) h1 (Nat.lt_succ_self _) rfl rfl h6 (Or.inl rfl)
  have e2 : cl_ tb_ct tb_mt B K_J1_canEncode_fc78d [.int c] s1 = some (.inl (some (.int 1)), s1) := by
    rw [in_J1_canEncode_fc78d, dc_J1_canEncode_fc78d_0, if_neg (bOk_le hc)]
  have k1' : (am_set s1 a (.inr (12, [.ref v1, .int 0, .int ml, .int (nI l.length)].set 3 (.int (nI (l.length + 1)))))).1 v1 = some (.inl (.byte, C1, .inl g)) := (set_ne (Ne.symm h8)).trans k1
  refine ⟨am_set (am_set s1 a (.inr (12, [.ref v1, .int 0, .int ml, .int (nI l.length)].set 3 (.int (nI (l.length + 1)))))) v1 (.inl (.byte, C1, .inl (upd g l.length c))), v1, C1, ?_, ?_, g1.tr (gr_in (fun q q1 q2 => (set_ne q2).trans (set_ne q1)) rfl)⟩
  · rw [in_J4_append_cf468, dc_J4_append_cf468_0, sb_cls h, eC_s, in_J5_append_3fe6f, dc_J5_append_3fe6f_0, sb_n h, eI_s, sb_cls h, eC_s, nI_1, e1, cV_s, sb_cls i1, eC_s, sb_latin t3 i1, cI_s, if_neg (by decide), e2, cI_s, if_neg (by decide), sb_v i1, eA_s, sb_n i1, eI_s, nI_1, ep, eS_s, wB_o k1' (Or.inl rfl) (show l.length < C1 by omega) (by omega) h7, eS_s, cA_s, bOk_8 hc, bOk_nar hc]
  · refine sb_close (ml := ml) (g := g) i1 k2 k3 (fun d hd => ?_) (by rw [List.length_singleton]; exact n1) ((set_ne h8).trans set_at) ?_ rfl
    · rw [List.mem_singleton] at hd
      exact hd ▸ hc
    · exact set_at.trans (congrArg (fun f => some (Sum.inl (FieldType.byte, C1, Sum.inl f))) ((wr_nil (p := l.length)).symm.trans (wr_snoc (l := []) rfl)))
theorem sb_str (hE : EVd B s) (h : SBs B s a vb C l) (hq : STR B s q l') (hn : l.length + l'.length ≤ 35) (hn2 : l'.length ≤ 10) : ∃ s' vb' C', cl_ tb_ct tb_mt B K_J4_append_15ec4 [.ref a, .ref q] s = some (.inl (some (.ref a)), s') ∧ SBs B s' a vb' C' (l ++ l') ∧ GR s s' a vb C vb' C' := by
  obtain ⟨s1, v1, C1, e1, i1, n1, g1⟩ := sb_ens h hn (h.two hn2)
  have hb := h.below g1
  have hE1 := hE.at hb g1.2.1
  have hq1 := hq.at hb
  obtain ⟨⟨ml, h1⟩, ⟨g, k1, k2, k3⟩, h4, h5, h6, h7, h8, h9, h10⟩ := id i1
  obtain ⟨q1, ⟨qb, f, m1, m2, q2, q3, q4, q5⟩, q6, q7⟩ := id hq1
  have t3 := hE1.1
  have ec := jl_coder (B := B) (fs := []) t3 q3
  have ei : cl_ tb_ct tb_mt B K_J5_inflateIfNeededFor_a7421 [.ref a, .ref q] s1 = some (.inl none, s1) := by
    rw [in_J5_inflateIfNeededFor_a7421, dc_J5_inflateIfNeededFor_a7421_0, t3, eI_s, if_neg (by decide), sb_k i1, eI_s, str_cls hq1, eC_s, ec, cI_s, if_pos rfl]
  have ew := wC_o (B := B) (s := s1) (a := qb) (d := v1) (sp := 0) (dp := l.length) (n := l'.length) q4 k1 (by omega) (by omega) (by omega) (by omega) h7 fun i hi => by
    rw [Nat.zero_add, q5 i hi]
    exact bOk_fits (bOk_getD q6 i)
  rw [cpy_wr q5, nI_0] at ew
  have eg : cl_ tb_ct tb_mt B K_J0_getBytes_840e7 [.ref q, .ref v1, .int (nI l.length), .int 0] s1 = some (.inl none, am_set s1 v1 (.inl (.byte, C1, .inl (wr g l.length l')))) := by
    rw [in_J0_getBytes_840e7, dc_J0_getBytes_840e7_0, str_cls hq1, eC_s, ec, cI_s, if_pos rfl, gA_o q3 rfl rfl rfl, eA_s, eA_s, al_o q4, eK_s, sh_l0]
    show eS (wC B .byte s1 qb 0 v1 (nI l.length) (nI l'.length)) _ = _
    rw [ew, eS_s]
  have h1' : (am_set s1 v1 (.inl (.byte, C1, .inl (wr g l.length l')))).1 a = some (.inr (12, [.ref v1, .int 0, .int ml, .int (nI l.length)])) := (set_ne h8).trans h1
  have ep := pF_o (B := B) (M := mm_J5_append_cf1ce) (k := 3) (v := .int (nI (l.length + l'.length))) h1' (Nat.lt_succ_self _) rfl rfl h6 (Or.inl rfl)
  refine ⟨am_set (am_set s1 v1 (.inl (.byte, C1, .inl (wr g l.length l')))) a (.inr (12, [.ref v1, .int 0, .int ml, .int (nI l.length)].set 3 (.int (nI (l.length + l'.length))))), v1, C1, ?_, sb_close (ml := ml) (g := g) i1 k2 k3 q6 n1 set_at ((set_ne (Ne.symm h8)).trans set_at) rfl, g1.tr (gr_in (fun q q1 q2 => (set_ne q1).trans (set_ne q2)) rfl)⟩
  rw [in_J4_append_15ec4, dc_J4_append_15ec4_0, sb_cls h, eC_s, in_J5_append_cf1ce, dc_J5_append_cf1ce_0, str_cls hq, eC_s, str_len hE.1 hq, cI_s, sb_n h, eI_s, sb_cls h, eC_s, nI_add, e1, cV_s, sb_n i1, eI_s, sb_cls i1, eC_s, in_J5_putStringAt_47b60, dc_J5_putStringAt_47b60_0, sb_cls i1, eC_s, ei, cV_s, sb_v i1, eA_s, sb_k i1, eI_s, str_cls hq1, eC_s, eg, cV_s, cV_s, gI_o h1' rfl rfl rfl, eI_s, nI_add, ep, eS_s, cA_s]
theorem sb_int {y : Int32} (hE : EVd B s) (h : SBs B s a vb C l) (hy : (∃ n, n < 2 ^ 31 ∧ y = nI n) ∨ ∃ n, 1 ≤ n ∧ n < 2 ^ 31 ∧ y = -(nI n)) (hn : l.length + (tx y).length ≤ 35) (hn2 : (tx y).length ≤ 10) : ∃ s' vb' C', cl_ tb_ct tb_mt B K_J4_append_bf812 [.ref a, .int y] s = some (.inl (some (.ref a)), s') ∧ SBs B s' a vb' C' (l ++ tx y) ∧ GR s s' a vb C vb' C' := by
  obtain ⟨s1, v1, C1, e1, i1, n1, g1⟩ := sb_ens h hn (h.two hn2)
  have hE1 := hE.at (h.below g1) g1.2.1
  obtain ⟨⟨ml, h1⟩, ⟨g, k1, k2, k3⟩, h4, h5, h6, h7, h8, h9, h10⟩ := id i1
  obtain ⟨s2, e2, o2, k4⟩ := gc_all (p := l.length + (tx y).length) h7 (by omega) hE1 hy (by omega) n1 k1
  rw [Nat.add_sub_cancel] at e2 k4
  have h1' : s2.1 a = some (.inr (12, [.ref v1, .int 0, .int ml, .int (nI l.length)])) := (o2.1 a (by omega)).trans h1
  have ep := pF_o (B := B) (M := mm_J5_append_c97b9) (k := 3) (v := .int (nI (l.length + (tx y).length))) h1' (Nat.lt_succ_self _) rfl rfl h6 (Or.inl rfl)
  refine ⟨am_set s2 a (.inr (12, [.ref v1, .int 0, .int ml, .int (nI l.length)].set 3 (.int (nI (l.length + (tx y).length))))), v1, C1, ?_, sb_close (ml := ml) (g := g) i1 k2 k3 bOk_tx n1 set_at ((set_ne (Ne.symm h8)).trans k4) o2.2, g1.tr (gr_in (fun q q1 q2 => (set_ne q1).trans (o2.1 q (by omega))) o2.2)⟩
  rw [in_J4_append_bf812, dc_J4_append_bf812_0, sb_cls h, eC_s, in_J5_append_c97b9, dc_J5_append_c97b9_0, sb_n h, eI_s, ss_all hy, cI_s, sb_cls h, eC_s, nI_add, e1, cV_s, sb_cls i1, eC_s, sb_latin hE1.1 i1, cI_s, if_neg (by decide), sb_v i1, eA_s, e2, cI_s, ep, eS_s, cA_s]
theorem sb_set0 (h : SBs B s a vb C l) : ∃ s', cl_ tb_ct tb_mt B K_J4_setLength_d00df [.ref a, .int 0] s = some (.inl none, s') ∧ SBs B s' a vb C [] ∧ GR s s' a vb C vb C := by
  obtain ⟨⟨ml, h1⟩, ⟨g, k1, k2, k3⟩, h4, h5, h6, h7, h8, h9, h10⟩ := id h
  have e0 : cl_ tb_ct tb_mt B K_J5_ensureCapacityInternal_d00df [.ref a, .int 0] s = some (.inl none, s) := by
    rw [in_J5_ensureCapacityInternal_d00df, dc_J5_ensureCapacityInternal_d00df_0, sb_v h, eA_s, sb_al h, eK_s, sb_k h, eI_s, sh_r0, if_pos (show (0 : Int32) - Int32.ofNat C ≤ 0 from (nI_d0 (a := 0) (b := C) (by omega) (by omega)).mpr (by omega))]
  have z : (0 : Int32) ≤ nI l.length := nI_pos' (by omega)
  have fin : ∀ s1 ml', s1.1 a = some (.inr (12, [.ref vb, .int 0, .int ml', .int (nI l.length)])) → s1.1 vb = s.1 vb → s1.2 = s.2 → (∀ q, q ≠ a → q ≠ vb → s1.1 q = s.1 q) → ∃ s', rn_ tb_ct tb_mt B mm_J5_setLength_d00df 76 [.ref a, .int 0] [] s1 = some (.inl none, s') ∧ SBs B s' a vb C [] ∧ GR s s' a vb C vb C := by
    intro s1 ml' j1 j2 j3 j4
    have ep := pF_o (B := B) (M := mm_J5_setLength_d00df) (k := 3) (v := .int 0) j1 (Nat.lt_succ_self _) rfl rfl h6 (Or.inl rfl)
    refine ⟨am_set s1 a (.inr (12, [.ref vb, .int 0, .int ml', .int (nI l.length)].set 3 (.int 0))), by rw [dc_J5_setLength_d00df_76, ep, eS_s], ⟨⟨ml', set_at⟩, ⟨g, (set_ne (Ne.symm h8)).trans (j2.trans k1), k2, fun i hi => absurd hi (Nat.not_lt_zero _)⟩, Nat.zero_le _, h5, h6, h7, h8, by rw [show (am_set s1 a _).2 = s.2 from j3]; exact h9, by rw [show (am_set s1 a _).2 = s.2 from j3]; exact h10⟩, gr_in (fun q q1 q2 => (set_ne q1).trans (j4 q q1 q2)) j3⟩
  have hd : rn_ tb_ct tb_mt B mm_J5_setLength_d00df 0 [.ref a, .int 0] [] s = if nI l.length ≤ 0 then rn_ tb_ct tb_mt B mm_J5_setLength_d00df 76 [.ref a, .int 0] [] s else eS (am_put tb_ct mm_J5_setLength_d00df B s (.int (1 : Int32)) a 12 2) (fun s_4 => rn_ tb_ct tb_mt B mm_J5_setLength_d00df 76 [.ref a, .int 0] [] s_4) := by
    rw [dc_J5_setLength_d00df_0, if_pos (show (0 : Int32) ≤ 0 by decide), sb_cls h, eC_s, e0, cV_s, sb_n h, eI_s, if_pos z, eI_s]
  have : ∃ s', rn_ tb_ct tb_mt B mm_J5_setLength_d00df 0 [.ref a, .int 0] [] s = some (.inl none, s') ∧ SBs B s' a vb C [] ∧ GR s s' a vb C vb C := by
    rw [hd]
    by_cases c : nI l.length ≤ 0
    · rw [if_pos c]
      exact fin s ml h1 rfl rfl fun _ _ _ => rfl
    · have ep := pF_o (B := B) (M := mm_J5_setLength_d00df) (k := 2) (v := .int 1) h1 (by show 2 < 4; omega) rfl rfl h6 (Or.inl rfl)
      rw [if_neg c, ep, eS_s]
      exact fin _ 1 set_at (set_ne (Ne.symm h8)) rfl fun q q1 q2 => set_ne q1
  obtain ⟨s', e, r⟩ := this
  refine ⟨s', ?_, r⟩
  rw [in_J4_setLength_d00df, dc_J4_setLength_d00df_0, sb_cls h, eC_s, in_J5_setLength_d00df, e, cV_s]
theorem sb_init (hE : EVd B s) (hB : B ≤ a) (h : s.1 a = some (.inr (12, [.null, .int 0, .int 0, .int 0]))) (hn : s.2.1 = a + 1) : ∃ s', cl_ tb_ct tb_mt B K_J4_init_da8c8 [.ref a] s = some (.inl none, s') ∧ ax s s' a 1 16 ∧ SBs B s' a (a + 1) 16 [] := by
  have e1 : (am_new s (.inl (.byte, 16, .inl fun _ => 0)) 16).1 a = some (.inr (12, [.null, .int 0, .int 0, .int 0])) := (new_ne (by omega)).trans h
  have ep := pR_o (B := B) (M := mm_J5_init_d00df) (k := 0) (v := a + 1) e1 (Nat.succ_pos _) rfl rfl hB (Or.inl rfl)
  have ep2 := pF_o (B := B) (M := mm_J5_init_d00df) (k := 1) (v := .int 0) (s := am_set (am_new s (.inl (.byte, 16, .inl fun _ => 0)) 16) a (.inr (12, [.null, .int 0, .int 0, .int 0].set 0 (.ref (a + 1))))) set_at (by show 1 < 4; omega) rfl rfl hB (Or.inl rfl)
  refine ⟨am_set (am_set (am_new s (.inl (.byte, 16, .inl fun _ => 0)) 16) a (.inr (12, [.null, .int 0, .int 0, .int 0].set 0 (.ref (a + 1))))) a (.inr (12, ([.null, .int 0, .int 0, .int 0].set 0 (.ref (a + 1))).set 1 (.int 0))), ?_, ax_tr (ax_new (s := s) (a := a) (n := 16) (e := (.inl (.byte, 16, .inl fun _ => 0) : am_E)) (by omega)) (ax_tr (ax_set (Nat.le_refl _)) (ax_set (Nat.le_refl _))), ⟨⟨0, set_at⟩, ⟨fun _ => 0, (set_ne (by omega)).trans ((set_ne (by omega)).trans (by rw [← hn]; exact new_at)), fun _ _ => bOk_0, fun i hi => absurd hi (Nat.not_lt_zero _)⟩, Nat.zero_le _, Or.inl rfl, hB, by omega, by omega, by show a < s.2.1 + 1; omega, by show a + 1 < s.2.1 + 1; omega⟩⟩
  rw [in_J4_init_da8c8, dc_J4_init_da8c8_0, cls_o h, eC_s, in_J5_init_d00df, dc_J5_init_d00df_0, hE.1, eI_s, if_neg (by decide), show (16 : Int32) = nI 16 from rfl, nwB_s (by omega), hn, ep, eS_s, ep2, eS_s, cV_s]
end Sc
