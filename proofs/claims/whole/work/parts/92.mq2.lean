/-! ===== the model: what is asked (2) ===== -/
theorem cn_or {p q : Nat → Bool} (n : Nat) : ∀ i, (∀ j, i ≤ j → j < i + n → p j = true → q j = false) → cn (fun j => p j || q j) i n = cn p i n + cn q i n := by
  induction n with
  | zero => intro i _; rfl
  | succ n ih =>
    intro i h
    rw [cn_s, cn_s, cn_s, ih (i + 1) fun j a b => h j (by omega) (by omega)]
    have := h i (by omega) (by omega)
    cases hp : p i with
    | false => cases q i <;> simp <;> omega
    | true => rw [this hp]; simp; omega
theorem cn_not {p : Nat → Bool} (n : Nat) : ∀ i, cn (fun j => !p j) i n + cn p i n = n := by
  induction n with
  | zero => intro i; rfl
  | succ n ih =>
    intro i
    rw [cn_s, cn_s]
    have := ih (i + 1)
    cases p i <;> simp <;> omega
theorem i_sub4 {a b c d : Int32} : (((a + b) + c) - d) - b = (a + c) - d := by
  simp only [Int32.sub_eq_add_neg]
  rw [show a + b + c + -d + -b = a + c + -d + (b + -b) by ac_rfl, Int32.add_right_neg, Int32.add_zero]
section Mk
variable {s s' : am_S} {B m i j n e c u : Nat} {v v' v'' : Nat → Int32} {F F' F'' : mrT} {g g' : Nat → Int32} {x y z l t f key : Int32} {σ σ' : stT} {R : am_R} {a z0 : Value} {P P' : Nat × rowT}
theorem mi_callz (h : MM B s m v F σ) {ok : Bool} {c : Int32} {f g : am_S → am_R} (h1 : ok = true → MR (moS s m (upd v 4 0) F) m (upd v 4 0) F (f (moS s m (upd v 4 0) F)) 0 a σ') (h2 : ok = false → g (moS s m (upd v 4 c) F) = some (.inl (some z0), moS s m (upd v 4 c) F)) : MR s m v F (cI (cl_ tb_ct tb_mt B K_X13_isThrown [.ref m, .int (if ok = true then 1 else 0), .int c] s) (fun x_2 s_1 => if x_2 = 0 then f s_1 else g s_1) xo) (if ok = true then 0 else c) (if ok = true then a else z0) (if ok = true then σ' else σ) := by
  rw [mi_go h]
  cases ok with
  | true => exact (h1 rfl).tr so_ov (KM.p (by omega))
  | false => exact ⟨_, _, _, h2 rfl, so_ov, OV.of, h.2.1, KM.p (by omega), upd_k⟩
theorem inR_lo (h : P.2 i 0 < f) : inR f t (P.2 i) = false := by
  unfold inR
  rw [decide_eq_true h]
  rfl
theorem inR_hi (h : t < P.2 i 0) : inR f t (P.2 i) = false := by
  unfold inR
  rw [decide_eq_true h, Bool.and_comm]
  rfl
theorem inR_in (h1 : ¬ P.2 i 0 < f) (h2 : ¬ t < P.2 i 0) : inR f t (P.2 i) = true := by
  unfold inR
  rw [decide_eq_false h1, decide_eq_false h2]
  rfl
theorem q_sum_skip : ∀ k i (w : Int64), (∀ j, i ≤ j → j < i + k → inR f t (P.2 j) = false) → ∀ k', q_sum P f t i (k + k') w = q_sum P f t (i + k) k' w := by
  intro k
  induction k with
  | zero => intro i w _ k'; rw [Nat.zero_add]; rfl
  | succ k ih =>
    intro i w h k'
    rw [show k + 1 + k' = (k + k') + 1 by omega, show i + (k + 1) = i + 1 + k by omega, ← ih (i + 1) w (fun j a b => h j (by omega) (by omega)) k']
    show q_sum P f t (i + 1) (k + k') (if inR f t (P.2 i) = true then w + (P.2 i 1).toInt64 else w) = _
    rw [h i (by omega) (by omega)]
    rfl
theorem q_sum_none : ∀ k i (w : Int64), (∀ j, i ≤ j → j < i + k → inR f t (P.2 j) = false) → q_sum P f t i k w = w := fun k i w h => q_sum_skip k i w h 0
theorem m_sum_lp (h : MO s m v F) (hP : PR v F P) (hn : P.1 ≤ 28) (h1 : ∀ i, i < pI P.2 P.1 (t + 1) → n ≤ i → inR f t (P.2 i) = true) (h2 : ∀ i, pI P.2 P.1 (t + 1) ≤ i → i < P.1 → inR f t (P.2 i) = false) {w1 w3 w4 w5 : Value} : ∀ k i (j : Int64), i + k = pI P.2 P.1 (t + 1) → n ≤ i → rn_ tb_ct tb_mt B mm_X13_sumAt 68 [.ref m, w1, .int t, w3, w4, w5, .long j, am_un, .int (nI i)] [] s = some (.inl (some (.long (q_sum P f t i (P.1 - i) j))), s) := by
  have hle : pI P.2 P.1 (t + 1) ≤ P.1 := pI_le
  intro k
  induction k generalizing w1 w3 w4 w5 with
  | zero =>
    intro i j hi hni
    rw [dc_X13_sumAt_68, mo_cls h, eC_s, mk_firstThen h hP hn, cI_s, if_pos (nI_le (by omega) (by omega)), q_sum_none _ _ _ fun q a b => h2 q (by omega) (by omega)]
  | succ k ih =>
    intro i j hi hni
    rw [dc_X13_sumAt_68, mo_cls h, eC_s, mk_firstThen h hP hn, cI_s, if_neg (nI_ge (by omega) (by omega)), mo_6 h, eA_s, mr_tv h (by omega), eI_s, (hP.2 i (by omega)).2, nI_1, ih (i + 1) _ (by omega) (by omega), show P.1 - i = (P.1 - (i + 1)) + 1 by omega]
    show _ = some (Sum.inl (some (Value.long (q_sum P f t (i + 1) (P.1 - (i + 1)) (if inR f t (P.2 i) = true then j + (P.2 i 1).toInt64 else j)))), s)
    rw [if_pos (h1 i (by omega) hni)]
theorem m_sumAt (h : MM B s m v F σ) (hI : IK σ.1 σ.2) : MR s m v F (cl_ tb_ct tb_mt B K_X13_sumAt [.ref m, .int f, .int t, .int y] s) (if (bRange f t && bNN y) = true then 0 else 1) (if (bRange f t && bNN y) = true then .long (if q_why σ y = 0 then q_sum (q_P σ y) f t 0 (q_P σ y).1 0 else (q_why σ y).toInt64) else .long 0) (if (bRange f t && bNN y) = true then σ else σ) := by
  have e : cl_ tb_ct tb_mt B K_X13_sumAt [.ref m, .int f, .int t, .int y] s = rn_ tb_ct tb_mt B mm_X13_sumAt 18 [.ref m, .int f, .int t, .int y, am_un, am_un, am_un, am_un, am_un] [.int (if (bRange f t && bNN y) = true then 1 else 0), .ref m] s := by
    rw [in_X13_sumAt, dc_X13_sumAt_0, mi_isRange, cI_s, if_b]
    cases bRange f t with
    | false => rw [if_neg (by decide), dc_X13_sumAt_17]; rfl
    | true =>
      rw [if_pos rfl]
      by_cases c : y < 0
      · rw [if_pos c, dc_X13_sumAt_17, show bNN y = false by unfold bNN; rw [decide_eq_true c]; rfl]
        rfl
      · rw [if_neg c, bNNN.mpr c]
        rfl
  rw [e, dc_X13_sumAt_18, mo_cls h.1, eC_s]
  refine mi_callz h (fun ok => ?_) fun _ => rfl
  rw [Bool.and_eq_true] at ok
  obtain ⟨b1, b2, b3, b4⟩ := bRangeN ok.1
  have h' := h.p4 (x := 0)
  obtain ⟨v2, F2, e2, p2, t2⟩ := mi_then h' hI y
  obtain ⟨o1, o2, o3⟩ := q_P_ok hI y
  rw [mo_cs, eC_s, mk_asked h', cI_s, mo_cs, eC_s, mk_why h', cI_s]
  unfold q_why
  by_cases c : whyN (σ.1 0) (σ.1 1) (askd (σ.1 0) y) = 0
  · rw [if_pos c, if_pos c, mo_cs, eC_s, mk_asked h', cI_s, mo_cs, eC_s, e2, cI_s, mo_cs, eC_s, mk_firstThen OV.of p2 (by omega), cI_s]
    have hm := pI_mono o1 b1 b2
    have hle : pI (q_P σ y).2 (q_P σ y).1 (t + 1) ≤ (q_P σ y).1 := pI_le
    refine MR.tk t2 h.2.1 upd_k ?_
    rw [m_sum_lp (v := v2) (F := F2) (f := f) (n := pI (q_P σ y).2 (q_P σ y).1 f) OV.of p2 (by omega) (fun i hi hn => inR_in (pI_ge o1 hn (by omega)) ((lt_s1 b4 (o3 i (by omega)).1).mp (pI_lt hi))) (fun i hi hn => inR_hi ?_) (pI (q_P σ y).2 (q_P σ y).1 (t + 1) - pI (q_P σ y).2 (q_P σ y).1 f) _ _ (by omega) (by omega)]
    · have := q_sum_skip (P := q_P σ y) (f := f) (t := t) (pI (q_P σ y).2 (q_P σ y).1 f) 0 0 (fun j a b => inR_lo (pI_lt (K := (q_P σ y).2) (n := (q_P σ y).1) (by omega))) ((q_P σ y).1 - pI (q_P σ y).2 (q_P σ y).1 f)
      rw [show pI (q_P σ y).2 (q_P σ y).1 f + ((q_P σ y).1 - pI (q_P σ y).2 (q_P σ y).1 f) = (q_P σ y).1 by omega, Nat.zero_add] at this
      rw [this]
    · exact Classical.byContradiction fun hc => pI_ge o1 hi hn ((lt_s1 b4 (o3 i hn).1).mpr hc)
  · rw [if_neg c, if_neg c]
    exact MR.in h'.1 h'.2.1 upd_k rfl
/-! how many keys changed -/
def m89 (F : mrT) (g8 g9 : Nat → Int32) : mrT := fun a => if a = 8 then g8 else if a = 9 then g9 else F a
theorem m89_id : m89 F (F 8) (F 9) = F := by
  funext a
  unfold m89
  by_cases c : a = 8
  · rw [if_pos c, c]
  · rw [if_neg c]
    by_cases d : a = 9
    · rw [if_pos d, d]
    · rw [if_neg d]
theorem m89_8 {x : Int32} : mup (m89 F g g') 8 j x = m89 F (upd g j x) g' := by
  funext a
  unfold mup m89
  by_cases c : a = 8
  · rw [if_pos c, if_pos c]
    rfl
  · rw [if_neg c, if_neg c, if_neg c]
theorem m89_9 {x : Int32} : mup (m89 F g g') 9 j x = m89 F g (upd g' j x) := by
  funext a
  unfold mup m89
  by_cases c : a = 8
  · rw [if_neg (by omega), if_pos c, if_pos c]
  · by_cases d : a = 9
    · rw [if_pos d, if_neg c, if_pos d]
      rfl
    · rw [if_neg d, if_neg c, if_neg d, if_neg c, if_neg d]
theorem m_cp_lp (hB : B ≤ m) (hx : v 7 = nI P.1) (hP : ∀ q, q < P.1 → F 5 q = P.2 q 0 ∧ F 6 q = P.2 q 1) (hn : P.1 ≤ 28) : ∀ k i g g' (w1 w3 w4 : Value), i + k = P.1 → (∀ q, q < i → g q = P.2 q 0 ∧ g' q = P.2 q 1) → ∃ g2 g3 w1' w3' w4', rn_ tb_ct tb_mt B mm_X13_changed 77 [.ref m, w1, .int y, w3, w4, .int x, .int (nI i), am_un, am_un, am_un] [] (moS s m v (m89 F g g')) = rn_ tb_ct tb_mt B mm_X13_changed 77 [.ref m, w1', .int y, w3', w4', .int x, .int (nI P.1), am_un, am_un, am_un] [] (moS s m v (m89 F g2 g3)) ∧ ∀ q, q < P.1 → g2 q = P.2 q 0 ∧ g3 q = P.2 q 1 := by
  intro k
  induction k with
  | zero =>
    intro i g g' w1 w3 w4 hi hg
    exact ⟨g, g', w1, w3, w4, by rw [show i = P.1 by omega], fun q hq => hg q (by omega)⟩
  | succ k ih =>
    intro i g g' w1 w3 w4 hi hg
    have h : MO (moS s m v (m89 F g g')) m v (m89 F g g') := OV.of
    have h2 : MO (moS s m v (m89 F (upd g i (P.2 i 0)) g')) m v (m89 F (upd g i (P.2 i 0)) g') := OV.of
    have e1 : m89 F g g' 5 i = P.2 i 0 := (hP i (by omega)).1
    have e2 : m89 F (upd g i (P.2 i 0)) g' 6 i = P.2 i 1 := (hP i (by omega)).2
    rw [dc_X13_changed_77, mo_7 h, eI_s, hx, if_neg (nI_ge (by omega) (by omega)), mo_17 h, eA_s, mo_5 h, eA_s, mr_tk h (by omega), eI_s, e1, mw_ok h hB (by omega), eS_s, mo_idem, m89_8, mo_18 h2, eA_s, mo_6 h2, eA_s, mr_tv h2 (by omega), eI_s, e2, mw_ov h2 hB (by omega), eS_s, mo_idem, m89_9, nI_1]
    refine ih (i + 1) _ _ _ _ _ (by omega) fun q hq => ?_
    unfold upd
    by_cases c : q = i
    · rw [if_pos c, if_pos c, c]
      exact ⟨rfl, rfl⟩
    · rw [if_neg c, if_neg c]
      exact hg q (by omega)
theorem m_ch_lp (h : MO s m v F) (hP : PR v F P') (hn : P.1 ≤ 28) (hn' : P'.1 ≤ 28) (h8 : ∀ q, q < P.1 → F 8 q = P.2 q 0 ∧ F 9 q = P.2 q 1) : ∀ k i c1 c2 (w2 w4 : Value), i + k = P.1 → rn_ tb_ct tb_mt B mm_X13_changed 140 [.ref m, am_un, w2, am_un, w4, .int (nI P.1), .int (nI c1), .int (nI c2), .int (nI i), am_un] [] s = some (.inl (some (.int ((nI (c2 + cn (fun j => !decide (q_then P' (P.2 j 0) = P.2 j 1)) i k) + nI P'.1) - nI (c1 + cn (fun j => !decide (q_then P' (P.2 j 0) = NOV)) i k)))), s) := by
  intro k
  induction k with
  | zero =>
    intro i c1 c2 w2 w4 hi
    rw [dc_X13_changed_140, if_pos (nI_le (by omega) (by omega)), mo_7 h, eI_s, hP.1]
    rfl
  | succ k ih =>
    intro i c1 c2 w2 w4 hi
    rw [dc_X13_changed_140, if_neg (nI_ge (by omega) (by omega)), mo_17 h, eA_s, mr_ok h (by omega), eI_s, mo_cls h, eC_s, (h8 i (by omega)).1, mk_valueThen h hP hn', cI_s, cn_s, cn_s]
    have key : ∀ d : Nat, rn_ tb_ct tb_mt B mm_X13_changed 174 [.ref m, am_un, am_un, am_un, am_un, .int (nI P.1), .int (nI c1), .int (nI c2), .int (nI i), .int (q_then P' (P.2 i 0))] [.int (nI d), .int (nI c1)] s = some (.inl (some (.int ((nI (c2 + ((if (!decide (q_then P' (P.2 i 0) = P.2 i 1)) = true then 1 else 0) + cn (fun j => !decide (q_then P' (P.2 j 0) = P.2 j 1)) (i + 1) k)) + nI P'.1) - nI (c1 + (d + cn (fun j => !decide (q_then P' (P.2 j 0) = NOV)) (i + 1) k))))), s) := by
      intro d
      rw [dc_X13_changed_174, mo_18 h, eA_s, mr_ov h (by omega), eI_s, (h8 i (by omega)).2]
      by_cases c : q_then P' (P.2 i 0) = P.2 i 1
      · rw [if_pos c, dc_X13_changed_196, nI_add, nI_1, show nI c2 + (0 : Int32) = nI (c2 + 0) from nI_add c2 0, ih (i + 1) _ _ _ _ (by omega), decide_eq_true c, Nat.add_assoc c1 d, Nat.add_assoc c2 0]
        rfl
      · rw [if_neg c, dc_X13_changed_196, nI_add, nI_1, nI_1, ih (i + 1) _ _ _ _ (by omega), decide_eq_false c, Nat.add_assoc c1 d, Nat.add_assoc c2 1]
        rfl
    by_cases c : q_then P' (P.2 i 0) = NOV
    · rw [if_pos (show q_then P' (P.2 i 0) = -(2000000000 : Int32) from c), decide_eq_true c]
      exact key 0
    · rw [if_neg (show ¬ q_then P' (P.2 i 0) = -(2000000000 : Int32) from c), decide_eq_false c]
      exact key 1
theorem dfK_eq (hv : ∀ i, i < P.1 → P.2 i 1 ≠ NOV) (hv' : ∀ i, i < P'.1 → P'.2 i 1 ≠ NOV) : (nI (cn (fun j => !decide (q_then P' (P.2 j 0) = P.2 j 1)) 0 P.1) + nI P'.1) - nI (cn (fun j => !decide (q_then P' (P.2 j 0) = NOV)) 0 P.1) = dfK P.2 P.1 P'.2 P'.1 := by
  have e1 : cn (fun j => !decide (q_then P' (P.2 j 0) = NOV)) 0 P.1 = cn (fun i => decide (pF P'.2 P'.1 (P.2 i 0) < P'.1)) 0 P.1 := cn_cg _ _ fun j _ hj => by
    show (!decide (q_then P' (P.2 j 0) = NOV)) = decide (pF P'.2 P'.1 (P.2 j 0) < P'.1)
    unfold q_then
    by_cases c : pF P'.2 P'.1 (P.2 j 0) < P'.1
    · rw [if_pos c, decide_eq_false (hv' _ c), decide_eq_true c]
      rfl
    · rw [if_neg c, decide_eq_true rfl, decide_eq_false c]
      rfl
  have e2 : cn (fun j => !decide (q_then P' (P.2 j 0) = P.2 j 1)) 0 P.1 = cn (fun j => !(decide (pF P'.2 P'.1 (P.2 j 0) < P'.1) && decide (P'.2 (pF P'.2 P'.1 (P.2 j 0)) 1 = P.2 j 1))) 0 P.1 := cn_cg _ _ fun j _ hj => by
    show (!decide (q_then P' (P.2 j 0) = P.2 j 1)) = !(decide (pF P'.2 P'.1 (P.2 j 0) < P'.1) && decide (P'.2 (pF P'.2 P'.1 (P.2 j 0)) 1 = P.2 j 1))
    unfold q_then
    by_cases c : pF P'.2 P'.1 (P.2 j 0) < P'.1
    · rw [if_pos c, decide_eq_true c]
      rfl
    · rw [if_neg c, decide_eq_false (Ne.symm (hv j (by omega))), decide_eq_false c]
      rfl
  have e3 := cn_not (p := fun j => decide (pF P'.2 P'.1 (P.2 j 0) < P'.1) && decide (P'.2 (pF P'.2 P'.1 (P.2 j 0)) 1 = P.2 j 1)) P.1 0
  rw [e1, e2]
  unfold dfK
  generalize cn (fun j => !(decide (pF P'.2 P'.1 (P.2 j 0) < P'.1) && decide (P'.2 (pF P'.2 P'.1 (P.2 j 0)) 1 = P.2 j 1))) 0 P.1 = a at *
  generalize cn (fun j => decide (pF P'.2 P'.1 (P.2 j 0) < P'.1) && decide (P'.2 (pF P'.2 P'.1 (P.2 j 0)) 1 = P.2 j 1)) 0 P.1 = b at *
  rw [← e3, ← nI_add, i_sub4]
theorem mk_two (h : MM B s m v F σ) (hI : IK σ.1 σ.2) (h4 : v 4 = 0) (c1 : q_why σ y = 0) (c2 : q_why σ z = 0) : MR s m v F (rn_ tb_ct tb_mt B mm_X13_changed 50 [.ref m, .int y, .int z, .int 0, am_un, am_un, am_un, am_un, am_un, am_un] [.int 0] s) 0 (.int (dfK (q_P σ y).2 (q_P σ y).1 (q_P σ z).2 (q_P σ z).1)) σ := by
  obtain ⟨v2, F2, e2, p2, t2⟩ := mi_then h hI y
  obtain ⟨o1, o2, o3⟩ := q_P_ok hI y
  obtain ⟨o1', o2', o3'⟩ := q_P_ok hI z
  rw [dc_X13_changed_50, if_pos rfl, mo_cls h.1, eC_s, mk_asked h, cI_s, mo_cls h.1, eC_s, e2, cI_s, mo_7s, eI_s, p2.1, show moS s m v2 F2 = moS s m v2 (m89 F2 (F2 8) (F2 9)) from by rw [m89_id]]
  obtain ⟨g2, g3, w1, w3, w4, e3, hg⟩ := m_cp_lp (s := s) (x := nI (q_P σ y).1) (y := z) (P := q_P σ y) h.2.2.2 p2.1 p2.2 (by omega) (q_P σ y).1 0 (F2 8) (F2 9) (.int y) (.int 0) (.int (nI (p_many σ.1 σ.2 (askd (σ.1 0) y)))) (by omega) (fun q hq => absurd hq (by omega))
  have h2 : MM B (moS s m v2 (m89 F2 g2 g3)) m v2 (m89 F2 g2 g3) σ := ⟨OV.of, by
    rw [show m89 F2 g2 g3 1 = F2 1 from rfl, t2.1 1 (by omega) (by omega)]
    exact h.2.1, h.2.2⟩
  obtain ⟨v3, F3, e4, p4, t4⟩ := mi_then h2 hI z
  show MR s m v F (rn_ tb_ct tb_mt B mm_X13_changed 77 [.ref m, .int y, .int z, .int 0, .int (nI (p_many σ.1 σ.2 (askd (σ.1 0) y))), .int (nI (q_P σ y).1), .int (nI 0), am_un, am_un, am_un] [] (moS s m v2 (m89 F2 (F2 8) (F2 9)))) _ _ _
  rw [e3, dc_X13_changed_77, mo_7 h2.1, eI_s, p2.1, if_pos (nI_le (by omega) (by omega)), mo_cs, eC_s, mk_asked h2, cI_s, mo_cs, eC_s, e4, cI_s, mo_idem]
  have e8 : F3 8 = g2 := t4.1 8 (by omega) (by omega)
  have e9 : F3 9 = g3 := t4.1 9 (by omega) (by omega)
  refine ⟨_, v3, F3, (m_ch_lp (s := moS s m v3 F3) (v := v3) (F := F3) (P := q_P σ y) OV.of p4 (by omega) (by omega) (fun q hq => by rw [e8, e9]; exact hg q hq) (q_P σ y).1 0 0 0 _ _ (by omega)).trans ?_, so_ov, OV.of, ?_, ⟨fun i hi => ?_, fun k k4 k7 => ?_⟩, ?_⟩
  · rw [Nat.zero_add, Nat.zero_add, dfK_eq (fun i hi => vOk_ne (o3 i hi).2) (fun i hi => vOk_ne (o3' i hi).2)]
  · rw [t4.1 1 (by omega) (by omega)]
    exact h2.2.1
  · rw [t4.1 i (by omega) (by omega)]
    show m89 F2 g2 g3 i = F i
    rw [← t2.1 i (by omega) (by omega)]
    unfold m89
    rw [if_neg (by omega), if_neg (by omega)]
  · rw [t4.2 k k7, t2.2 k k7]
  · rw [t4.2 4 (by omega), t2.2 4 (by omega), h4]
theorem m_changed (h : MM B s m v F σ) (hI : IK σ.1 σ.2) : MR s m v F (cl_ tb_ct tb_mt B K_X13_changed [.ref m, .int y, .int z] s) (if (bNN y && bNN z) = true then 0 else 1) (if (bNN y && bNN z) = true then .int (if q_why σ y = 0 then (if q_why σ z = 0 then dfK (q_P σ y).2 (q_P σ y).1 (q_P σ z).2 (q_P σ z).1 else q_why σ z) else q_why σ y) else .int 0) (if (bNN y && bNN z) = true then σ else σ) := by
  have e : cl_ tb_ct tb_mt B K_X13_changed [.ref m, .int y, .int z] s = rn_ tb_ct tb_mt B mm_X13_changed 14 [.ref m, .int y, .int z, am_un, am_un, am_un, am_un, am_un, am_un, am_un] [.int (if (bNN y && bNN z) = true then 1 else 0), .ref m] s := by
    rw [in_X13_changed, dc_X13_changed_0]
    by_cases c : y < 0
    · rw [if_pos c, dc_X13_changed_13, show bNN y = false by unfold bNN; rw [decide_eq_true c]; rfl]
      rfl
    · rw [if_neg c, bNNN.mpr c]
      by_cases d : z < 0
      · rw [if_pos d, dc_X13_changed_13, show bNN z = false by unfold bNN; rw [decide_eq_true d]; rfl]
        rfl
      · rw [if_neg d, bNNN.mpr d]
        rfl
  rw [e, dc_X13_changed_14, mo_cls h.1, eC_s]
  refine mi_call h (fun ok => ?_) fun _ => rfl
  have h' := h.p4 (x := 0)
  rw [mo_cs, eC_s, mk_asked h', cI_s, mo_cs, eC_s, mk_why h', cI_s]
  show MR _ _ _ _ (if q_why σ y = 0 then _ else _) _ _ _
  by_cases c1 : q_why σ y = 0
  · rw [if_pos c1, if_pos c1, mo_cs, eC_s, mk_asked h', cI_s, mo_cs, eC_s, mk_why h', cI_s]
    show MR _ _ _ _ (rn_ tb_ct tb_mt B mm_X13_changed 50 [.ref m, .int y, .int z, .int (q_why σ y), am_un, am_un, am_un, am_un, am_un, am_un] [.int (q_why σ z)] _) _ _ _
    rw [c1]
    by_cases c2 : q_why σ z = 0
    · rw [if_pos c2, c2]
      exact mk_two h' hI upd_k c1 c2
    · rw [if_neg c2, dc_X13_changed_50, if_neg c2]
      exact MR.in h'.1 h'.2.1 upd_k rfl
  · rw [if_neg c1, if_neg c1]
    show MR _ _ _ _ (rn_ tb_ct tb_mt B mm_X13_changed 50 [.ref m, .int y, .int z, .int (q_why σ y), am_un, am_un, am_un, am_un, am_un, am_un] [.int (q_why σ y)] _) _ _ _
    rw [dc_X13_changed_50, if_neg c1]
    exact MR.in h'.1 h'.2.1 upd_k rfl
end Mk
