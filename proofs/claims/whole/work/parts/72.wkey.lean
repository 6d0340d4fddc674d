/-! ===== bytes of a long; append; writeKey ===== -/
def lbN (j : Int64) (k : Nat) : Nat := j.toUInt64.toNat / 2 ^ (8 * k) % 256
theorem lb_sh : ∀ k, k < 8 → ((nI (8 * k)).toInt64.toUInt64 &&& Int64.toUInt64 63) = UInt64.ofNat (8 * k) := by decide +kernel
theorem lb_sh2 : ∀ k, k < 8 → (((8 : Int32) * ((7 : Int32) - nI (7 - k))).toInt64 &&& 63) = Int64.ofNat (8 * k) := by decide +kernel
theorem and255 (w : BitVec 64) : (w &&& 255#64).toNat = w.toNat % 256 := by
  rw [BitVec.toNat_and]
  exact Nat.and_two_pow_sub_one_eq_mod w.toNat 8
theorem lb_c {j : Int64} {k : Nat} (h : k < 8) : ((j.toUInt64 >>> ((nI (8 * k)).toInt64.toUInt64 &&& Int64.toUInt64 63)).toInt64 &&& (255 : Int64)) = Int64.ofNat (lbN j k) := by
  rw [lb_sh k h]
  apply Int64.toBitVec_inj.mp
  apply BitVec.eq_of_toNat_eq
  have e1 : ((j.toUInt64 >>> UInt64.ofNat (8 * k)).toInt64 &&& (255 : Int64)).toBitVec = (j.toUInt64 >>> UInt64.ofNat (8 * k)).toBitVec &&& 255#64 := rfl
  have e2 : (j.toUInt64 >>> UInt64.ofNat (8 * k)).toNat = j.toUInt64.toNat / 2 ^ (8 * k) := by
    rw [UInt64.toNat_shiftRight, Nat.shiftRight_eq_div_pow, UInt64.toNat_ofNat_of_lt' (by omega : 8 * k < 2 ^ 64), Nat.mod_eq_of_lt (by omega : 8 * k < 64)]
  have e3 : (Int64.ofNat (lbN j k)).toBitVec.toNat = lbN j k := by
    have : lbN j k < 256 := Nat.mod_lt _ (by decide)
    show (BitVec.ofNat 64 (lbN j k)).toNat = _
    rw [BitVec.toNat_ofNat]
    exact Nat.mod_eq_of_lt (by omega)
  rw [e1, and255, e3]
  show (j.toUInt64 >>> UInt64.ofNat (8 * k)).toNat % 256 = _
  rw [e2]
  rfl
theorem srs (w : BitVec 64) (s : Nat) (h : s ≤ 56) : (w.sshiftRight s) &&& 255#64 = (w >>> s) &&& 255#64 := by
  apply BitVec.eq_of_getLsbD_eq
  intro i hi
  rw [BitVec.getLsbD_and, BitVec.getLsbD_and]
  by_cases c : i < 8
  · congr 1
    rw [BitVec.getLsbD_sshiftRight, BitVec.getLsbD_ushiftRight]
    have h1 : ¬ 64 ≤ i := by omega
    have h2 : s + i < 64 := by omega
    simp [h1, h2]
  · have : (255#64).getLsbD i = false := by
      have key : ∀ i, i < 64 → ¬ i < 8 → (255#64).getLsbD i = false := by decide
      exact key i hi c
    rw [this, Bool.and_false, Bool.and_false]
theorem lb_m {j : Int64} {k : Nat} (h : k < 8) : ((j >>> (((8 : Int32) * ((7 : Int32) - nI (7 - k))).toInt64 &&& 63)) &&& (255 : Int64)) = Int64.ofNat (lbN j k) := by
  rw [← lb_c h, lb_sh k h, lb_sh2 k h]
  apply Int64.toBitVec_inj.mp
  have s1 : ∀ k, k < 8 → ((Int64.ofNat (8 * k)).toBitVec.smod 64).toNat = 8 * k := by decide +kernel
  have s2 : ∀ k, k < 8 → ((UInt64.ofNat (8 * k)).toBitVec % 64).toNat = 8 * k := by decide +kernel
  have e1 : (((j >>> Int64.ofNat (8 * k)) &&& (255 : Int64))).toBitVec = (j.toBitVec.sshiftRight (8 * k)) &&& 255#64 := by
    rw [Int64.toBitVec_and, Int64.toBitVec_shiftRight]
    show (j.toBitVec.sshiftRight ((Int64.ofNat (8 * k)).toBitVec.smod 64).toNat) &&& 255#64 = _
    rw [s1 k h]
  rw [e1, srs _ _ (by omega)]
  have e2 : ((j.toUInt64 >>> UInt64.ofNat (8 * k)).toInt64 &&& (255 : Int64)).toBitVec = (j.toUInt64 >>> UInt64.ofNat (8 * k)).toBitVec &&& 255#64 := rfl
  rw [e2]
  congr 1
  rw [UInt64.toBitVec_shiftRight]
  show j.toBitVec >>> (8 * k) = j.toBitVec >>> ((UInt64.ofNat (8 * k)).toBitVec % 64).toNat
  rw [s2 k h]
theorem lbN_lt {j : Int64} {k : Nat} : lbN j k < 256 := Nat.mod_lt _ (by decide)
theorem lb_32 : ∀ v, v < 256 → (Int64.ofNat v).toInt32 = nI v := by decide +kernel
theorem lb_0 : ∀ v, v < 256 → (Int64.ofNat v = 0 ↔ v = 0) := by decide +kernel
def q_ct (j : Int64) : Nat → Nat
  | 0 => 0
  | k + 1 => (if lbN j k = 0 then 0 else 1) + q_ct j k
def q_ap (j : Int64) : Nat → (Nat → Int32) → Nat → (Nat → Int32) × Nat
  | 0, T, n => (T, n)
  | k + 1, T, n => if lbN j k = 0 then q_ap j k T n else q_ap j k (upd T n (nI (lbN j k))) (n + 1)
theorem q_ap_2 {j : Int64} : ∀ k T n, (q_ap j k T n).2 = n + q_ct j k
  | 0, _, _ => rfl
  | k + 1, T, n => by
    unfold q_ap q_ct
    by_cases c : lbN j k = 0
    · rw [if_pos c, if_pos c, q_ap_2 k]
      omega
    · rw [if_neg c, if_neg c, q_ap_2 k]
      omega
theorem q_ct_le {j : Int64} : ∀ k, q_ct j k ≤ k
  | 0 => Nat.le_refl _
  | k + 1 => by
    have := q_ct_le (j := j) k
    unfold q_ct
    split <;> omega
theorem nI_m8 {k : Nat} : nI (8 * (k + 1)) + (-(8 : Int32)) = nI (8 * k) := by
  rw [← Int32.sub_eq_add_neg, show (8 : Int32) = nI 8 from rfl, nI_2 (by omega), show 8 * (k + 1) - 8 = 8 * k by omega]
section Wk
variable {s s' : am_S} {B x nb sb u n a vb C : Nat} {σ : stT} {F T W : Nat → Int32} {j : Int64} {key : Int32} {l : List Int32}
theorem xs_cnt_lp (h : XSc s a F T W) (h2 : F 2 = nI n) (hn : n ≤ 500) : ∀ k c, c + k ≤ 8 → rn_ tb_ct tb_mt B mm_X6_addBytes 6 [.ref a, .long j, am_un, .int (nI c), .int (nI (8 * k) + (-(8 : Int32))), am_un] [] s = if n + (c + q_ct j k) ≤ 500 then rn_ tb_ct tb_mt B mm_X6_addBytes 57 [.ref a, .long j, am_un, .int (nI (c + q_ct j k)), .int (56 : Int32), am_un] [] s else some (.inl (some (.int (-(2 : Int32)))), s) := by
  intro k
  induction k with
  | zero =>
    intro c hc
    rw [dc_X6_addBytes_6, if_pos (by decide +kernel), xs_2 h, eI_s, h2, nI_add]
    show (if nI (n + c) ≤ (500 : Int32) then _ else _) = if n + (c + 0) ≤ 500 then _ else _
    by_cases d : n + c ≤ 500
    · rw [if_pos (show nI (n + c) ≤ (500 : Int32) from nI_le (b := 500) d (by omega)), if_pos (show n + (c + 0) ≤ 500 from d)]
      rfl
    · rw [if_neg (show ¬ nI (n + c) ≤ (500 : Int32) from nI_ge (a := 500) (by omega) (by omega)), if_neg (show ¬ n + (c + 0) ≤ 500 from d)]
  | succ k ih =>
    intro c hc
    rw [dc_X6_addBytes_6, nI_m8, if_neg (nI_pos (by omega)), lb_c (by omega)]
    unfold q_ct
    by_cases d : lbN j k = 0
    · rw [if_pos ((lg_cmp_eq _ _).mpr ((lb_0 _ lbN_lt).mpr d)), dc_X6_addBytes_30, if_pos d, ← nI_0, nI_add, Nat.add_zero, ih c (by omega), Nat.zero_add]
    · rw [if_neg (fun hc => d ((lb_0 _ lbN_lt).mp ((lg_cmp_eq _ _).mp hc))), dc_X6_addBytes_30, if_neg d, nI_1, ih (c + 1) (by omega), show c + 1 + q_ct j k = c + (1 + q_ct j k) by omega]
theorem xs_add_lp (hB : B ≤ a) : ∀ k n s F T w3 w5, n + q_ct j k ≤ 500 → k ≤ 8 → XSc s a F T W → F 2 = nI n → ∃ s', rn_ tb_ct tb_mt B mm_X6_addBytes 57 [.ref a, .long j, am_un, w3, .int (nI (8 * k) + (-(8 : Int32))), am_un] w5 s = (if w5 = [] then some (.inl (some (.int (nI (n + q_ct j k)))), s') else rn_ tb_ct tb_mt B mm_X6_addBytes 57 [.ref a, .long j, am_un, w3, .int (nI (8 * k) + (-(8 : Int32))), am_un] w5 s) ∧ so s s' a (a + 3) ∧ XSc s' a (upd F 2 (nI (n + q_ct j k))) (q_ap j k T n).1 W := by
  intro k
  induction k with
  | zero =>
    intro n s F T w3 w5 hn hk h h2
    refine ⟨s, ?_, so_rfl, ?_⟩
    · by_cases hw : w5 = []
      · rw [if_pos hw, hw, dc_X6_addBytes_57, if_pos (by decide +kernel), xs_2 h, eI_s, h2]
        rfl
      · rw [if_neg hw]
    · show XSc s a (upd F 2 (nI (n + 0))) T W
      rw [Nat.add_zero, upd_e h2]
      exact h
  | succ k ih =>
    intro n s F T w3 w5 hn hk h h2
    unfold q_ct at hn
    unfold q_ct q_ap
    by_cases d : lbN j k = 0
    · rw [if_pos d] at hn ⊢
      rw [if_pos d, Nat.zero_add]
      rw [Nat.zero_add] at hn
      obtain ⟨s', e, o, z⟩ := ih n s F T am_un [] hn (by omega) h h2
      refine ⟨s', ?_, o, z⟩
      by_cases hw : w5 = []
      · rw [if_pos rfl] at e
        rw [if_pos hw, hw, dc_X6_addBytes_57, nI_m8, if_neg (nI_pos (by omega)), lb_c (by omega), lb_32 _ lbN_lt, if_pos (by rw [d]; rfl), dc_X6_addBytes_116, e]
      · rw [if_neg hw]
    · rw [if_neg d] at hn ⊢
      rw [if_neg d]
      have hlt := lbN_lt (j := j) (k := k)
      obtain ⟨s2, hs2⟩ : ∃ s2, s2 = xsS s a (upd F 2 (nI (n + 1))) (upd T n (nI (lbN j k))) W := ⟨_, rfl⟩
      obtain ⟨s', e, o, z⟩ := ih (n + 1) s2 (upd F 2 (nI (n + 1))) (upd T n (nI (lbN j k))) am_un [] (by omega) (by omega) (hs2 ▸ OV.of) upd_k
      rw [show n + 1 + q_ct j k = n + (1 + q_ct j k) by omega] at e z
      rw [upd_s] at z
      refine ⟨s', ?_, so_tr (hs2 ▸ so_ov) o, z⟩
      by_cases hw : w5 = []
      · rw [if_pos rfl] at e
        rw [if_pos hw, hw, dc_X6_addBytes_57, nI_m8, if_neg (nI_pos (by omega)), lb_c (by omega), lb_32 _ lbN_lt, if_neg (nI_ne0 (by omega) (by omega)), xs_2 h, eI_s, h2, if_neg (nI_pos (by omega)), eI_s, if_neg (show ¬ (500 : Int32) ≤ nI n from nI_ge (b := 500) (by omega) (by omega)), xs_0 h, eA_s, eI_s, xs_wt h hB (by omega), eS_s, xs_2 (OV.of : XSc (xsS s a F (upd T n (nI (lbN j k))) W) a F _ W), eI_s, h2, nI_1, xs_p2 OV.of hB, eS_s, xs_idem, ← hs2, dc_X6_addBytes_116, e]
      · rw [if_neg hw]
theorem c_append (ho : XO s x nb sb) (hx : B ≤ x) (h : XSc s (x + 438) F T W) (h2 : F 2 = nI n) (hn : n ≤ 500) : ∃ s', cl_ tb_ct tb_mt B K_X12_append [.ref x, .long j] s = some (.inl (some (.int (if n + q_ct j 8 ≤ 500 then nI (n + q_ct j 8) else -2))), s') ∧ so s s' (x + 438) (x + 441) ∧ (if n + q_ct j 8 ≤ 500 then XSc s' (x + 438) (upd F 2 (nI (n + q_ct j 8))) (q_ap j 8 T n).1 W else s' = s) := by
  have e6 := xs_cnt_lp (B := B) (j := j) h h2 hn 8 0 (by omega)
  rw [nI_0, Nat.zero_add, show nI (8 * 8) + (-(8 : Int32)) = 56 from by decide +kernel] at e6
  by_cases c : n + q_ct j 8 ≤ 500
  · obtain ⟨s', e, o, z⟩ := xs_add_lp (B := B) (a := x + 438) (j := j) (by omega) 8 n s F T (.int (nI (q_ct j 8))) [] c (by omega) h h2
    rw [if_pos rfl, show nI (8 * 8) + (-(8 : Int32)) = 56 from by decide +kernel] at e
    refine ⟨s', ?_, o, by rw [if_pos c]; exact z⟩
    rw [in_X12_append, dc_X12_append_0, xo_3 ho, eA_s, xs_cls h, eC_s, in_X6_addBytes, dc_X6_addBytes_0, e6, if_pos c, e, cI_s, if_pos c]
  · refine ⟨s, ?_, so_rfl, by rw [if_neg c]⟩
    rw [in_X12_append, dc_X12_append_0, xo_3 ho, eA_s, xs_cls h, eC_s, in_X6_addBytes, dc_X6_addBytes_0, e6, if_neg c, cI_s, if_neg c]
/-! writeKey -/
def q_txK (K : Nat → Int32) : List Int32 := if K 5 = 0 then (((tx (K 0) ++ [58]) ++ tx (K 1)) ++ [32, 118]) ++ tx (K 4) else (((((tx (K 0) ++ [58]) ++ tx (K 1)) ++ [32, 118]) ++ tx (K 4)) ++ [32, 108]) ++ tx (K 5)
def q_txt (σ : stT) (key : Int32) : List Int32 := if isK σ key then q_txK (σ.2 0 (pF (σ.2 0) (σ.1 3) key)) else []
theorem kw_find_b {b : Nat} {K : rowT} (h : KW s b n K) (hf : pF K n key < n) : ∃ a : Nat, cl_ tb_ct tb_mt B K_X4_find [.ref b, .int key] s = some (.inl (some (.ref a)), s) ∧ KC s a (K (pF K n key)) ∧ b + 2 ≤ a ∧ a < b + 24 := by
  obtain ⟨h1, A, C, h2, h3, h4⟩ := h
  have e : pF (fun i => C (A i)) n key = pF K n key := pF_cg fun i hi => h4 i hi 0 (by omega)
  have hA := h3.1 (pF K n key) (by omega)
  refine ⟨b + 2 + A (pF K n key), ?_, ⟨C (A (pF K n key)), RW.ek h2 hA, h4 _ hf⟩, Nat.le_add_right _ _, show b + 2 + A (pF K n key) < b + 24 by omega⟩
  rw [kr_find h2 h3 h1]
  change some (Sum.inl (some (va_rf (if pF (fun i => C (A i)) n key < n then some (b + 2 + A (pF (fun i => C (A i)) n key)) else none))), s) = _
  rw [e, if_pos hf]
  rfl
theorem kOk_tx {y : Int32} (h : kOk y) : (tx y).length ≤ 3 ∧ ((∃ n, n < 2 ^ 31 ∧ y = nI n) ∨ ∃ n, 1 ≤ n ∧ n < 2 ^ 31 ∧ y = -(nI n)) := by
  obtain ⟨m, h1, e⟩ := nI_of2 (M := 999) (n := 999) rfl h.1 h.2
  rw [e, tx_nI (by omega)]
  exact ⟨dgs_le 2 m (by omega), Or.inl ⟨m, by omega, rfl⟩⟩
theorem vOk_tx {y : Int32} (h : vOk y) : (∃ n, n < 2 ^ 31 ∧ y = nI n) ∨ ∃ n, 1 ≤ n ∧ n < 2 ^ 31 ∧ y = -(nI n) := by
  by_cases c : y < 0
  · obtain ⟨m, e, h1, h2⟩ := ng_pos c h.1
    exact Or.inr ⟨m, h1, by omega, e⟩
  · obtain ⟨m, h1, e⟩ := nI_of c
    exact Or.inl ⟨m, h1, e⟩
theorem c_writeKey (h : CX B s x nb sb u σ) (hE : EVd B s) {qv ql : Nat} (hv : stR s 100 = some qv) (hv' : STR B s qv [32, 118]) (hl : stR s 101 = some ql) (hl' : STR B s ql [32, 108]) (hS : SBs B s (x + 441) vb C l) (hvb : vb = x + 442 ∨ x + 492 ≤ vb) : (bKey key = false → cl_ tb_ct tb_mt B K_X12_writeKey [.ref x, .int key] s = some (.inr 0, am_bump s)) ∧ (bKey key = true → ∃ s' vb' C', cl_ tb_ct tb_mt B K_X12_writeKey [.ref x, .int key] s = some (.inl (some (.int (nI (q_txt σ key).length))), s') ∧ SBs B s' (x + 441) vb' C' (q_txt σ key) ∧ GR s s' (x + 441) vb C vb' C') := by
  have hn := h.n
  rw [in_X12_writeKey, dc_X12_writeKey_0, c_needKey]
  refine ⟨fun hk => by rw [hk]; rfl, fun hk => ?_⟩
  rw [if_pos hk, cV_s, xo_4 h.o, eA_s, sb_cls hS, eC_s]
  obtain ⟨s1, e1, S1, g1⟩ := sb_set0 hS
  rw [e1, cV_s]
  have lx : x + 441 < s.2.1 := hS.2.2.2.2.2.2.2.1
  have hBa : B ≤ x + 441 := hS.2.2.2.2.1
  have keep : ∀ {s' vb' C'}, GR s s' (x + 441) vb C vb' C' → XO s' x nb sb ∧ SS s' nb σ ∧ EVd B s' ∧ stR s' 100 = some qv ∧ STR B s' qv [32, 118] ∧ stR s' 101 = some ql ∧ STR B s' ql [32, 108] := fun {s' vb' C'} g => by
    have hb := hS.below g
    refine ⟨(g.1 x (by omega) (by omega) (by omega)).trans h.o, h.ss.at fun q _ _ => g.1 q (by omega) (by omega) (by omega), hE.at hb g.2.1, (st_cg g.2.1 100).2.1.trans hv, hv'.at hb, (st_cg g.2.1 101).2.1.trans hl, hl'.at hb⟩
  have last : ∀ {s' vb' C' l'} w1 w2, SBs B s' (x + 441) vb' C' l' → GR s s' (x + 441) vb C vb' C' → rn_ tb_ct tb_mt B mm_X12_writeKey 97 [.ref x, w1, w2] [] s' = some (.inl (some (.int (nI l'.length))), s') := fun {s' vb' C' l'} w1 w2 S g => by
    rw [dc_X12_writeKey_97, xo_4 (keep g).1, eA_s, sb_cls S, eC_s, sb_len S, cI_s]
  obtain ⟨o1, y1, E1, -⟩ := keep g1
  rw [xo_0 o1, eA_s, sr_k y1, eA_s, (kw_cls y1.kw), eC_s]
  unfold q_txt
  by_cases hi : isK σ key
  · rw [if_pos hi]
    obtain ⟨ka, e2, k0, a1, a2⟩ := kw_find_b (B := B) y1.kw hi
    obtain ⟨q1, q2, q3, vr, cr, q4, v1, v2, -⟩ := h.a.1.2.1 _ hi
    have hb4 := h.a.2.2.2.2.2.2.1
    have huu := h.uu
    obtain ⟨K, hK⟩ : ∃ K, K = σ.2 0 (pF (σ.2 0) (σ.1 3) key) := ⟨_, rfl⟩
    rw [← hK] at k0 q1 q2 q3 q4 ⊢
    have kk : ∀ {s' vb' C'}, GR s1 s' (x + 441) vb C vb' C' → KC s' ka K := fun {s' vb' C'} g => k0.at (g.1 ka (by omega) (by omega) (by have := g1.2.2.1; omega))
    obtain ⟨t0, p0⟩ := kOk_tx q1
    have t1 := tx_le q2
    have p1 := vOk_tx q2
    have p4 : (tx (K 4)).length ≤ 9 := by
      rw [q4, tx_nI (by omega)]
      exact dgs_le 8 vr (by omega)
    have p4' : (∃ n, n < 2 ^ 31 ∧ K 4 = nI n) ∨ ∃ n, 1 ≤ n ∧ n < 2 ^ 31 ∧ K 4 = -(nI n) := Or.inl ⟨vr, by omega, q4⟩
    obtain ⟨m5, h5, e5⟩ := nI_of q3
    have p5 : (tx (K 5)).length ≤ 10 := by
      rw [e5, tx_nI h5]
      exact dgs_le 9 m5 (by omega)
    have p5' : (∃ n, n < 2 ^ 31 ∧ K 5 = nI n) ∨ ∃ n, 1 ≤ n ∧ n < 2 ^ 31 ∧ K 5 = -(nI n) := Or.inl ⟨m5, h5, e5⟩
    obtain ⟨s2, b2, c2, f2, S2, g2⟩ := sb_int (y := K 0) E1 S1 p0 (by rw [List.length_nil]; omega) (by omega)
    have G2 := g1.tr g2
    obtain ⟨o2, y2, E2, -⟩ := keep G2
    obtain ⟨s3, b3, c3, f3, S3, g3⟩ := sb_chr (c := 58) E2.1 S2 ⟨58, by omega, rfl⟩ (by rw [List.nil_append]; omega)
    have G3 := G2.tr g3
    have H3 := g2.tr g3
    obtain ⟨o3, y3, E3, -⟩ := keep G3
    rw [List.nil_append] at S2 S3
    have n3 : (tx (K 0) ++ [58]).length = (tx (K 0)).length + 1 := by rw [List.length_append, List.length_singleton]
    obtain ⟨s4, b4, c4, f4, S4, g4⟩ := sb_int (y := K 1) E3 S3 p1 (by omega) (by omega)
    have G4 := G3.tr g4
    have H4 := H3.tr g4
    obtain ⟨o4, y4, E4, r4, z4, -⟩ := keep G4
    have n4 : ((tx (K 0) ++ [58]) ++ tx (K 1)).length = (tx (K 0)).length + 1 + (tx (K 1)).length := by rw [List.length_append, n3]
    obtain ⟨s5, b5, c5, f5, S5, g5⟩ := sb_str E4 S4 z4 (by rw [n4]; show _ + 2 ≤ 35; omega) (by show 2 ≤ 10; omega)
    have G5 := G4.tr g5
    have H5 := H4.tr g5
    obtain ⟨o5, y5, E5, -⟩ := keep G5
    have n5 : (((tx (K 0) ++ [58]) ++ tx (K 1)) ++ [32, 118]).length = (tx (K 0)).length + 1 + (tx (K 1)).length + 2 := by
      rw [List.length_append, n4]
      rfl
    obtain ⟨s6, b6, c6, f6, S6, g6⟩ := sb_int (y := K 4) E5 S5 p4' (by omega) (by omega)
    have G6 := G5.tr g6
    have H6 := H5.tr g6
    obtain ⟨o6, y6, E6, -, -, r6, z6⟩ := keep G6
    have n6 : ((((tx (K 0) ++ [58]) ++ tx (K 1)) ++ [32, 118]) ++ tx (K 4)).length = (tx (K 0)).length + 1 + (tx (K 1)).length + 2 + (tx (K 4)).length := by rw [List.length_append, n5]
    rw [e2, cA_s, xo_4 o1, eA_s, kc_0 k0, eI_s, sb_cls S1, eC_s, f2, cA_s, sb_cls S2, eC_s, f3, cA_s, kc_1 (kk H3), eI_s, sb_cls S3, eC_s, f4, cA_s, xo_4 o4, eA_s, r4, eK_s, sb_cls S4, eC_s, f5, cA_s, kc_4 (kk H5), eI_s, sb_cls S5, eC_s, f6, cA_s, kc_5 (kk H6), eI_s]
    unfold q_txK
    by_cases hz : K 5 = 0
    · rw [if_pos hz, if_pos hz]
      exact ⟨s6, b6, c6, last _ _ S6 G6, S6, G6⟩
    · rw [if_neg hz, if_neg hz]
      obtain ⟨s7, b7, c7, f7, S7, g7⟩ := sb_str E6 S6 z6 (by rw [n6]; show _ + 2 ≤ 35; omega) (by show 2 ≤ 10; omega)
      have G7 := G6.tr g7
      have H7 := H6.tr g7
      obtain ⟨o7, y7, E7, -⟩ := keep G7
      have n7 : (((((tx (K 0) ++ [58]) ++ tx (K 1)) ++ [32, 118]) ++ tx (K 4)) ++ [32, 108]).length = (tx (K 0)).length + 1 + (tx (K 1)).length + 2 + (tx (K 4)).length + 2 := by
        rw [List.length_append, n6]
        rfl
      obtain ⟨s8, b8, c8, f8, S8, g8⟩ := sb_int (y := K 5) E7 S7 p5' (by omega) (by omega)
      refine ⟨s8, b8, c8, ?_, S8, G7.tr g8⟩
      rw [xo_4 o6, eA_s, r6, eK_s, sb_cls S6, eC_s, f7, cA_s, kc_5 (kk H7), eI_s, sb_cls S7, eC_s, f8, cA_s]
      exact last _ _ S8 (G7.tr g8)
  · rw [if_neg hi, kw_find_no y1.kw hi, cA_n]
    exact ⟨s1, vb, C, rfl, S1, g1⟩
theorem c_outputByte (ho : XO s x nb sb) (hE : EVd B s) (hS : SBs B s (x + 441) vb C l) : cl_ tb_ct tb_mt B K_X12_outputByte [.ref x, .int key] s = some (.inl (some (.int (if key < 0 then -1 else if nI l.length ≤ key then -1 else l.getD (nN key) 0))), s) := by
  have h35 : l.length ≤ 70 := by
    obtain ⟨-, -, h4, h5, -⟩ := hS
    omega
  rw [in_X12_outputByte, dc_X12_outputByte_0]
  by_cases c0 : key < 0
  · rw [if_pos c0, if_pos c0]
  · rw [if_neg c0, if_neg c0, xo_4 ho, eA_s, sb_cls hS, eC_s, sb_len hS, cI_s]
    by_cases c1 : nI l.length ≤ key
    · rw [if_pos c1, if_pos c1]
    · obtain ⟨m, hm, rfl⟩ := nI_of c0
      rw [if_neg c1, if_neg c1, xo_4 ho, eA_s, sb_cls hS, eC_s, bd_at hE.2.2.2 hS (Nat.lt_of_not_le fun hc => c1 ((nI_leI (a := l.length) (b := m) (by omega) hm).mpr hc)), cI_s]
      unfold nN
      rw [nat_n hm]
theorem c_loadError (ho : XO s x nb sb) (h : XSc s (x + 438) F T W) : cl_ tb_ct tb_mt B K_X12_loadError [.ref x] s = some (.inl (some (.int (F 7))), s) := by
  rw [in_X12_loadError, dc_X12_loadError_0, xo_3 ho, eA_s, xs_7 h, eI_s]
theorem c_loadStatement (ho : XO s x nb sb) (h : XSc s (x + 438) F T W) : cl_ tb_ct tb_mt B K_X12_loadStatement [.ref x] s = some (.inl (some (.int (if F 7 = 0 then -1 else F 5))), s) := by
  rw [in_X12_loadStatement, dc_X12_loadStatement_0, xo_3 ho, eA_s, xs_7 h, eI_s, eA_s, xs_5 h, eI_s]
  by_cases c : F 7 = 0
  · rw [if_pos c, if_pos c]
  · rw [if_neg c, if_neg c]
end Wk
