/-! ===== the model: what is asked (1) ===== -/
section Mk
variable {s s' : am_S} {B m i j n e c u : Nat} {v v' v'' : Nat → Int32} {F F' F'' : mrT} {g g' : Nat → Int32} {x y z l t f key : Int32} {σ σ' : stT} {R : am_R} {a : Value} {P P' : Nat × rowT}
theorem MR.tk (hk : TK v v' F F') (hf : FR (F 1) σ') (h4 : v 4 = x) (e : R = some (.inl (some a), moS s m v' F')) : MR s m v F R x a σ' := MR.kt hk.kt (by rw [hk.1 1 (by omega) (by omega)]; exact hf) h4 e
theorem m_count (h : MM B s m v F σ) : MR s m v F (cl_ tb_ct tb_mt B K_X13_count [.ref m, .int y] s) (if bIn y 0 9 = true then 0 else 1) (if bIn y 0 9 = true then .int (q_count σ (nN y)) else .int 0) (if bIn y 0 9 = true then σ else σ) := by
  rw [in_X13_count, dc_X13_count_0, mi_in y 0 9 (j2 := 0) (j4 := 9) rfl rfl, cI_s, mo_cls h.1, eC_s]
  refine mi_call h (fun ok => MR.in OV.of h.2.1 upd_k ?_) fun _ => rfl
  have h' := h.p4 (x := 0)
  obtain ⟨j, hj, rfl⟩ := bInN (m := 9) (by omega) ok
  rw [nN_nI (by omega), nI_toInt (by omega)]
  match j, hj with
  | 0, _ =>
    show eA (gA tb_ct (moS s m (upd v 4 0) F) m 11 0) none (fun b_5 => eI (aI (moS s m (upd v 4 0) F) b_5 0) (fun x_6 => some (.inl (some (.int x_6)), moS s m (upd v 4 0) F))) = _
    rw [mo_0s, eA_s, show aI (moS s m (upd v 4 0) F) (m + 1) 0 = some (nI (σ.1 0)) from h'.gz (i := 0) (by omega), eI_s]
    rfl
  | 1, _ =>
    show eA (gA tb_ct (moS s m (upd v 4 0) F) m 11 0) none (fun b_5 => eI (aI (moS s m (upd v 4 0) F) b_5 1) (fun x_6 => some (.inl (some (.int x_6)), moS s m (upd v 4 0) F))) = _
    rw [mo_0s, eA_s, show aI (moS s m (upd v 4 0) F) (m + 1) 1 = some (nI (σ.1 1)) from h'.gz (i := 1) (by omega), eI_s]
    rfl
  | 2, _ =>
    show eA (gA tb_ct (moS s m (upd v 4 0) F) m 11 0) none (fun b_5 => eI (aI (moS s m (upd v 4 0) F) b_5 3) (fun x_6 => some (.inl (some (.int x_6)), moS s m (upd v 4 0) F))) = _
    rw [mo_0s, eA_s, show aI (moS s m (upd v 4 0) F) (m + 1) 3 = some (nI (σ.1 3)) from h'.gz (i := 3) (by omega), eI_s]
    rfl
  | 3, _ =>
    show eA (gA tb_ct (moS s m (upd v 4 0) F) m 11 0) none (fun b_5 => eI (aI (moS s m (upd v 4 0) F) b_5 4) (fun x_6 => some (.inl (some (.int x_6)), moS s m (upd v 4 0) F))) = _
    rw [mo_0s, eA_s, show aI (moS s m (upd v 4 0) F) (m + 1) 4 = some (nI (σ.1 4)) from h'.gz (i := 4) (by omega), eI_s]
    rfl
  | 4, _ =>
    show eA (gA tb_ct (moS s m (upd v 4 0) F) m 11 0) none (fun b_5 => eI (aI (moS s m (upd v 4 0) F) b_5 5) (fun x_6 => some (.inl (some (.int x_6)), moS s m (upd v 4 0) F))) = _
    rw [mo_0s, eA_s, show aI (moS s m (upd v 4 0) F) (m + 1) 5 = some (nI (σ.1 5)) from h'.gz (i := 5) (by omega), eI_s]
    rfl
  | 5, _ =>
    show eA (gA tb_ct (moS s m (upd v 4 0) F) m 11 0) none (fun b_5 => eI (aI (moS s m (upd v 4 0) F) b_5 6) (fun x_6 => some (.inl (some (.int x_6)), moS s m (upd v 4 0) F))) = _
    rw [mo_0s, eA_s, show aI (moS s m (upd v 4 0) F) (m + 1) 6 = some (nI (σ.1 6)) from h'.gz (i := 6) (by omega), eI_s]
    rfl
  | 6, _ =>
    show eA (gA tb_ct (moS s m (upd v 4 0) F) m 11 0) none (fun b_5 => eI (aI (moS s m (upd v 4 0) F) b_5 2) (fun x_6 => some (.inl (some (.int x_6)), moS s m (upd v 4 0) F))) = _
    rw [mo_0s, eA_s, show aI (moS s m (upd v 4 0) F) (m + 1) 2 = some (nI (σ.1 2)) from h'.gz (i := 2) (by omega), eI_s]
    rfl
  | 7, _ =>
    show eA (gA tb_ct (moS s m (upd v 4 0) F) m 11 0) none (fun b_5 => eI (aI (moS s m (upd v 4 0) F) b_5 9) (fun x_6 => some (.inl (some (.int x_6)), moS s m (upd v 4 0) F))) = _
    rw [mo_0s, eA_s, show aI (moS s m (upd v 4 0) F) (m + 1) 9 = some (nI (σ.1 9)) from h'.gz (i := 9) (by omega), eI_s]
    rfl
  | 8, _ =>
    show eA (gA tb_ct (moS s m (upd v 4 0) F) m 11 0) none (fun b_5 => eI (aI (moS s m (upd v 4 0) F) b_5 ((10 + nI 8) - 8)) (fun x_6 => some (.inl (some (.int x_6)), moS s m (upd v 4 0) F))) = _
    rw [mo_0s, eA_s, show ((10 : Int32) + nI 8) - 8 = nI 10 from by decide +kernel, h'.gz (by omega), eI_s]
    rfl
  | 9, _ =>
    show eA (gA tb_ct (moS s m (upd v 4 0) F) m 11 0) none (fun b_5 => eI (aI (moS s m (upd v 4 0) F) b_5 ((10 + nI 9) - 8)) (fun x_6 => some (.inl (some (.int x_6)), moS s m (upd v 4 0) F))) = _
    rw [mo_0s, eA_s, show ((10 : Int32) + nI 9) - 8 = nI 11 from by decide +kernel, h'.gz (by omega), eI_s]
    rfl
/-- two checks, one behind the other -/
theorem mi_call2 (h : MM B s m v F σ) {ok ok2 : Bool} {c c2 : Int32} {f : am_S → am_R} {g : am_S → am_R} {a : Value} (h1 : ok = true → ok2 = true → MR (moS s m (upd v 4 0) F) m (upd v 4 0) F (f (moS s m (upd v 4 0) F)) 0 a σ') (h1' : ok = true → ok2 = false → MR (moS s m (upd v 4 0) F) m (upd v 4 0) F (f (moS s m (upd v 4 0) F)) c2 (.int 0) σ) (h2 : ok = false → g (moS s m (upd v 4 c) F) = some (.inl (some (.int 0)), moS s m (upd v 4 c) F)) : MR s m v F (cI (cl_ tb_ct tb_mt B K_X13_isThrown [.ref m, .int (if ok = true then 1 else 0), .int c] s) (fun x_2 s_1 => if x_2 = 0 then f s_1 else g s_1) xo) (if ok = true then (if ok2 = true then 0 else c2) else c) (if ok = true then (if ok2 = true then a else .int 0) else .int 0) (if ok = true then (if ok2 = true then σ' else σ) else σ) := by
  rw [mi_go h]
  cases ok with
  | true =>
    cases ok2 with
    | true => exact (h1 rfl rfl).tr so_ov (KM.p (by omega))
    | false => exact (h1' rfl rfl).tr so_ov (KM.p (by omega))
  | false => exact ⟨_, _, _, h2 rfl, so_ov, OV.of, h.2.1, KM.p (by omega), upd_k⟩
theorem m_event (h : MM B s m v F σ) : MR s m v F (cl_ tb_ct tb_mt B K_X13_event [.ref m, .int y, .int z] s) (if bIx y (σ.1 6) = true then (if bIn z 0 5 = true then 0 else 2) else 1) (if bIx y (σ.1 6) = true then (if bIn z 0 5 = true then .int (σ.2 2 (nN y) (nN z)) else .int 0) else .int 0) (if bIx y (σ.1 6) = true then (if bIn z 0 5 = true then σ else σ) else σ) := by
  have h6 := h.2.2.1.2.2.1
  rw [in_X13_event, dc_X13_event_0, mo_0 h.1, eA_s, show (6 : Int32) = nI 6 from rfl, h.gz (by omega), eI_s, mi_in y 0 (nI (σ.1 6) - 1) (j2 := 0) rfl rfl, cI_s, bIn_ix (by omega), mo_cls h.1, eC_s]
  have h' := h.p4 (x := 0)
  have key : ∀ (ok2 : Bool), ok2 = bIn z 0 5 → bIx y (σ.1 6) = true → MR (moS s m (upd v 4 0) F) m (upd v 4 0) F (cI (cl_ tb_ct tb_mt B K_X13_in [.long z.toInt64, .long (0 : Int64), .long (5 : Int64)] (moS s m (upd v 4 0) F)) (fun x_8 s_7 => eC (am_cls s_7 m) 11 (cI (cl_ tb_ct tb_mt B K_X13_isThrown [.ref m, .int x_8, .int (2 : Int32)] s_7) (fun x_10 s_9 => if x_10 = 0 then eC (am_cls s_9 m) 11 (cI (cl_ tb_ct tb_mt B K_X13_eventAt [.ref m, .int y, .int z] s_9) (fun x_12 s_11 => some (.inl (some (.int x_12)), s_11)) xo) else some (.inl (some (.int (0 : Int32))), s_9)) xo)) xo) (if ok2 = true then 0 else 2) (if ok2 = true then .int (σ.2 2 (nN y) (nN z)) else .int 0) (if ok2 = true then σ else σ) := by
    intro ok2 e2 ok
    rw [mi_in z 0 5 (j2 := 0) (j4 := 5) rfl rfl, cI_s, ← e2, mo_cs, eC_s]
    refine mi_call h' (fun ok' => MR.in OV.of h.2.1 upd_k ?_) fun _ => rfl
    obtain ⟨j, rfl, hj⟩ := bIxN (by omega) ok
    obtain ⟨w, hw, rfl⟩ := bInN (m := 5) (by omega) (e2 ▸ ok')
    rw [mo_cs, eC_s, mk_event (h'.p4 (x := 0)) hj (by omega), cI_s, nN_nI (by omega), nN_nI (by omega)]
  refine mi_call2 h (fun ok ok2 => ?_) (fun ok ok2 => ?_) fun _ => rfl
  · have := key _ rfl ok
    rw [ok2] at this
    exact this
  · have := key _ rfl ok
    rw [ok2] at this
    exact this
/-! the keys of a revision -/
theorem mi_then (h : MM B s m v F σ) (hI : IK σ.1 σ.2) (y : Int32) : ∃ v' F', cl_ tb_ct tb_mt B K_X13_laysThen [.ref m, .int (askd (σ.1 0) y)] s = some (.inl (some (.int (nI (p_many σ.1 σ.2 (askd (σ.1 0) y))))), moS s m v' F') ∧ PR v' F' (q_P σ y) ∧ TK v v' F F' := mk_lays h hI.hok
theorem q_P_ok (hI : IK σ.1 σ.2) (y : Int32) : srt (q_P σ y).2 (q_P σ y).1 ∧ (q_P σ y).1 ≤ 22 ∧ ∀ i, i < (q_P σ y).1 → kOk ((q_P σ y).2 i 0) ∧ vOk ((q_P σ y).2 i 1) := by
  have hle : p_many σ.1 σ.2 (askd (σ.1 0) y) ≤ σ.1 6 := p_many_le
  obtain ⟨a, b⟩ := hI.1.2.1 _ hle
  exact ⟨a, b, fun i hi => hI.2.2.2.1 _ hle i hi⟩
theorem m_getAt (h : MM B s m v F σ) (hI : IK σ.1 σ.2) : MR s m v F (cl_ tb_ct tb_mt B K_X13_getAt [.ref m, .int key, .int y] s) (if (bKey key && bNN y) = true then 0 else 1) (if (bKey key && bNN y) = true then .int (if q_why σ y = 0 then q_then (q_P σ y) key else q_why σ y) else .int 0) (if (bKey key && bNN y) = true then σ else σ) := by
  have e : cl_ tb_ct tb_mt B K_X13_getAt [.ref m, .int key, .int y] s = rn_ tb_ct tb_mt B mm_X13_getAt 17 [.ref m, .int key, .int y, am_un, am_un] [.int (if (bKey key && bNN y) = true then 1 else 0), .ref m] s := by
    rw [in_X13_getAt, dc_X13_getAt_0, mi_isKey, cI_s, if_b]
    cases bKey key with
    | false => rw [if_neg (by decide), dc_X13_getAt_16]; rfl
    | true =>
      rw [if_pos rfl]
      by_cases c : y < 0
      · rw [if_pos c, dc_X13_getAt_16, show bNN y = false by unfold bNN; rw [decide_eq_true c]; rfl]
        rfl
      · rw [if_neg c, bNNN.mpr c]
        rfl
  rw [e, dc_X13_getAt_17, mo_cls h.1, eC_s]
  refine mi_call h (fun ok => ?_) fun _ => rfl
  have h' := h.p4 (x := 0)
  obtain ⟨v2, F2, e2, p2, t2⟩ := mi_then h' hI y
  obtain ⟨o1, o2, o3⟩ := q_P_ok hI y
  rw [mo_cs, eC_s, mk_asked h', cI_s, mo_cs, eC_s, mk_why h', cI_s]
  unfold q_why
  by_cases c : whyN (σ.1 0) (σ.1 1) (askd (σ.1 0) y) = 0
  · rw [if_pos c, if_pos c, mo_cs, eC_s, mk_asked h', cI_s, mo_cs, eC_s, e2, cI_s, mo_cs, eC_s, mk_valueThen OV.of p2 (by omega), cI_s]
    exact MR.tk t2 h.2.1 upd_k rfl
  · rw [if_neg c, if_neg c]
    exact MR.in h'.1 h'.2.1 upd_k rfl
theorem m_keysAt (h : MM B s m v F σ) (hI : IK σ.1 σ.2) : MR s m v F (cl_ tb_ct tb_mt B K_X13_keysAt [.ref m, .int f, .int t, .int y] s) (if (bRange f t && bNN y) = true then 0 else 1) (if (bRange f t && bNN y) = true then .int (if q_why σ y = 0 then nI (pI (q_P σ y).2 (q_P σ y).1 (t + 1)) - nI (pI (q_P σ y).2 (q_P σ y).1 f) else q_why σ y) else .int 0) (if (bRange f t && bNN y) = true then σ else σ) := by
  have e : cl_ tb_ct tb_mt B K_X13_keysAt [.ref m, .int f, .int t, .int y] s = rn_ tb_ct tb_mt B mm_X13_keysAt 18 [.ref m, .int f, .int t, .int y, am_un, am_un] [.int (if (bRange f t && bNN y) = true then 1 else 0), .ref m] s := by
    rw [in_X13_keysAt, dc_X13_keysAt_0, mi_isRange, cI_s, if_b]
    cases bRange f t with
    | false => rw [if_neg (by decide), dc_X13_keysAt_17]; rfl
    | true =>
      rw [if_pos rfl]
      by_cases c : y < 0
      · rw [if_pos c, dc_X13_keysAt_17, show bNN y = false by unfold bNN; rw [decide_eq_true c]; rfl]
        rfl
      · rw [if_neg c, bNNN.mpr c]
        rfl
  rw [e, dc_X13_keysAt_18, mo_cls h.1, eC_s]
  refine mi_call h (fun ok => ?_) fun _ => rfl
  have h' := h.p4 (x := 0)
  obtain ⟨v2, F2, e2, p2, t2⟩ := mi_then h' hI y
  obtain ⟨o1, o2, o3⟩ := q_P_ok hI y
  rw [mo_cs, eC_s, mk_asked h', cI_s, mo_cs, eC_s, mk_why h', cI_s]
  unfold q_why
  by_cases c : whyN (σ.1 0) (σ.1 1) (askd (σ.1 0) y) = 0
  · rw [if_pos c, if_pos c, mo_cs, eC_s, mk_asked h', cI_s, mo_cs, eC_s, e2, cI_s, mo_cs, eC_s, mk_firstThen OV.of p2 (by omega), cI_s, mo_cs, eC_s, mk_firstThen OV.of p2 (by omega), cI_s]
    exact MR.tk t2 h.2.1 upd_k rfl
  · rw [if_neg c, if_neg c]
    exact MR.in h'.1 h'.2.1 upd_k rfl
theorem pI_mono (hs : srt P.2 P.1) (hft : f ≤ t) (ht : t < t + 1) : pI P.2 P.1 f ≤ pI P.2 P.1 (t + 1) := by
  apply Nat.le_of_not_lt
  intro hc
  have h1 := pI_lt hc
  have hn : pI P.2 P.1 (t + 1) < P.1 := Nat.lt_of_lt_of_le hc pI_le
  exact pI_ge hs (Nat.le_refl _) hn (Int32.lt_trans h1 (Int32.lt_of_le_of_lt hft ht))
theorem q_keyAt_eq (hs : srt P.2 P.1) (hn : P.1 ≤ 22) (hft : f ≤ t) (ht : t < t + 1) (hk : ∀ i, i < P.1 → kOk (P.2 i 0)) (hlt : ∀ i, i < P.1 → (P.2 i 0 < t + 1 ↔ ¬ t < P.2 i 0)) : q_keyAt P f t x = if bIn x 0 (nI (pI P.2 P.1 (t + 1)) - nI (pI P.2 P.1 f) - 1) = true then P.2 (pI P.2 P.1 f + nN x) 0 else -1 := by
  have hm := pI_mono hs hft ht
  have hle : pI P.2 P.1 (t + 1) ≤ P.1 := pI_le
  unfold q_keyAt
  rw [nI_2 hm, bIn_ix (by omega)]
  by_cases c : x < 0
  · rw [if_pos (Or.inl c), if_neg]
    unfold bIx
    rw [decide_eq_true c, Bool.not_true, Bool.false_and]
    exact Bool.false_ne_true
  · obtain ⟨k, hk', rfl⟩ := nI_of c
    rw [nN_nI hk']
    have eb : bIx (nI k) (pI P.2 P.1 (t + 1) - pI P.2 P.1 f) = decide (k < pI P.2 P.1 (t + 1) - pI P.2 P.1 f) := by
      unfold bIx
      rw [decide_eq_false c]
      by_cases d : k < pI P.2 P.1 (t + 1) - pI P.2 P.1 f
      · rw [decide_eq_true d, decide_eq_true (nI_lt d (by omega))]
        rfl
      · rw [decide_eq_false d, decide_eq_false (nI_nlt (by omega) hk')]
        rfl
    rw [eb]
    by_cases d : k < pI P.2 P.1 (t + 1) - pI P.2 P.1 f
    · have hi : pI P.2 P.1 f + k < P.1 := by omega
      rw [if_pos (decide_eq_true d), if_neg, if_pos ⟨hi, (hlt _ hi).mp (pI_lt (K := P.2) (n := P.1) (by omega))⟩]
      rintro (h1 | h1)
      · exact c h1
      · exact absurd h1 (nI_ge (by omega) (by omega))
    · rw [if_neg (show ¬ decide (k < pI P.2 P.1 (t + 1) - pI P.2 P.1 f) = true by rw [decide_eq_true_eq]; exact d)]
      split
      · rfl
      · split
        · rename_i h2
          exact absurd ((hlt _ h2.1).mpr h2.2) (pI_ge hs (by omega) h2.1)
        · rfl
theorem lt_s1 (ht : kOk t) (hx : kOk x) : x < t + 1 ↔ ¬ t < x := by
  obtain ⟨a, a1, rfl⟩ := nI_of2 (M := 999) (n := 999) rfl ht.1 ht.2
  obtain ⟨b, b1, rfl⟩ := nI_of2 (M := 999) (n := 999) rfl hx.1 hx.2
  rw [nI_1, nI_ltI (by omega) (by omega), nI_ltI (by omega) (by omega)]
  omega
theorem m_keyAt (h : MM B s m v F σ) (hI : IK σ.1 σ.2) : MR s m v F (cl_ tb_ct tb_mt B K_X13_keyAt_ [.ref m, .int f, .int t, .int z, .int y] s) (if (bRange f t && bNN y) = true then 0 else 1) (if (bRange f t && bNN y) = true then .int (if q_why σ y = 0 then q_keyAt (q_P σ y) f t z else q_why σ y) else .int 0) (if (bRange f t && bNN y) = true then σ else σ) := by
  have e : cl_ tb_ct tb_mt B K_X13_keyAt_ [.ref m, .int f, .int t, .int z, .int y] s = rn_ tb_ct tb_mt B mm_X13_keyAt_ 19 [.ref m, .int f, .int t, .int z, .int y, am_un, am_un, am_un] [.int (if (bRange f t && bNN y) = true then 1 else 0), .ref m] s := by
    rw [in_X13_keyAt_, dc_X13_keyAt__0, mi_isRange, cI_s, if_b]
    cases bRange f t with
    | false => rw [if_neg (by decide), dc_X13_keyAt__18]; rfl
    | true =>
      rw [if_pos rfl]
      by_cases c : y < 0
      · rw [if_pos c, dc_X13_keyAt__18, show bNN y = false by unfold bNN; rw [decide_eq_true c]; rfl]
        rfl
      · rw [if_neg c, bNNN.mpr c]
        rfl
  rw [e, dc_X13_keyAt__19, mo_cls h.1, eC_s]
  refine mi_call h (fun ok => ?_) fun _ => rfl
  rw [Bool.and_eq_true] at ok
  obtain ⟨b1, b2, b3, b4⟩ := bRangeN ok.1
  have h' := h.p4 (x := 0)
  obtain ⟨v2, F2, e2, p2, t2⟩ := mi_then h' hI y
  obtain ⟨o1, o2, o3⟩ := q_P_ok hI y
  rw [mo_cs, eC_s, mk_asked h', cI_s, mo_cs, eC_s, mk_why h', cI_s]
  unfold q_why
  by_cases c : whyN (σ.1 0) (σ.1 1) (askd (σ.1 0) y) = 0
  · rw [if_pos c, if_pos c, mo_cs, eC_s, mk_asked h', cI_s, mo_cs, eC_s, e2, cI_s, mo_cs, eC_s, mk_firstThen OV.of p2 (by omega), cI_s, mo_cs, eC_s, mk_firstThen OV.of p2 (by omega), cI_s, mi_in z 0 (nI (pI (q_P σ y).2 (q_P σ y).1 (t + 1)) - nI (pI (q_P σ y).2 (q_P σ y).1 f) - 1) (j2 := 0) rfl rfl, cI_s, if_b, q_keyAt_eq o1 o2 b1 b2 (fun i hi => (o3 i hi).1) (fun i hi => lt_s1 b4 (o3 i hi).1)]
    have hm := pI_mono o1 b1 b2
    have hle : pI (q_P σ y).2 (q_P σ y).1 (t + 1) ≤ (q_P σ y).1 := pI_le
    by_cases d : bIn z 0 (nI (pI (q_P σ y).2 (q_P σ y).1 (t + 1)) - nI (pI (q_P σ y).2 (q_P σ y).1 f) - 1) = true
    · rw [if_pos d, if_pos d]
      rw [nI_2 hm, bIn_ix (by omega)] at d
      obtain ⟨k, rfl, hk⟩ := bIxN (by omega) d
      refine MR.tk t2 h.2.1 upd_k ?_
      rw [show gA tb_ct (moS (moS s m (upd v 4 0) F) m v2 F2) m 11 5 = some (some (m + 5)) from mo_5s, eA_s, nI_add, show aI (moS (moS s m (upd v 4 0) F) m v2 F2) (m + 5) (nI (pI (q_P σ y).2 (q_P σ y).1 f + k)) = some (F2 5 (pI (q_P σ y).2 (q_P σ y).1 f + k)) from mr_tk (v := v2) (F := F2) OV.of (by omega), eI_s, (p2.2 _ (by omega)).1, nN_nI (by omega)]
    · rw [if_neg d, if_neg d]
      exact MR.tk t2 h.2.1 upd_k rfl
  · rw [if_neg c, if_neg c]
    exact MR.in h'.1 h'.2.1 upd_k rfl
theorem m_dig_lp (h : MO s m v F) (hP : PR v F P) (hn : P.1 ≤ 28) : ∀ k i j w1 w2, i + k = P.1 → rn_ tb_ct tb_mt B mm_X13_digest 49 [.ref m, w1, w2, .int j, .int (nI i)] [] s = some (.inl (some (.int (q_dig P i k j))), s) := by
  intro k
  induction k with
  | zero =>
    intro i j w1 w2 hi
    rw [dc_X13_digest_49, mo_7 h, eI_s, hP.1, if_pos (nI_le (by omega) (by omega))]
    rfl
  | succ k ih =>
    intro i j w1 w2 hi
    obtain ⟨p5, p6⟩ := hP.2 i (by omega)
    rw [dc_X13_digest_49, mo_7 h, eI_s, hP.1, if_neg (nI_ge (by omega) (by omega)), mo_5 h, eA_s, mr_tk h (by omega), eI_s, p5, mo_6 h, eA_s, mr_tv h (by omega), eI_s, p6, nI_1]
    exact ih (i + 1) _ _ _ (by omega)
theorem m_digest (h : MM B s m v F σ) (hI : IK σ.1 σ.2) : MR s m v F (cl_ tb_ct tb_mt B K_X13_digest [.ref m, .int y] s) (if bNN y = true then 0 else 1) (if bNN y = true then .int (if q_why σ y = 0 then q_dig (q_P σ y) 0 (q_P σ y).1 17 else 0) else .int 0) (if bNN y = true then σ else σ) := by
  have e : cl_ tb_ct tb_mt B K_X13_digest [.ref m, .int y] s = rn_ tb_ct tb_mt B mm_X13_digest 10 [.ref m, .int y, am_un, am_un, am_un] [.int (if bNN y = true then 1 else 0), .ref m] s := by
    rw [in_X13_digest, dc_X13_digest_0]
    by_cases c : y < 0
    · rw [if_pos c, show bNN y = false by unfold bNN; rw [decide_eq_true c]; rfl]
      rfl
    · rw [if_neg c, bNNN.mpr c]
      rfl
  rw [e, dc_X13_digest_10, mo_cls h.1, eC_s]
  refine mi_call h (fun ok => ?_) fun _ => rfl
  have h' := h.p4 (x := 0)
  obtain ⟨v2, F2, e2, p2, t2⟩ := mi_then h' hI y
  obtain ⟨o1, o2, o3⟩ := q_P_ok hI y
  rw [mo_cs, eC_s, mk_asked h', cI_s, mo_cs, eC_s, mk_why h', cI_s]
  unfold q_why
  by_cases c : whyN (σ.1 0) (σ.1 1) (askd (σ.1 0) y) = 0
  · rw [if_pos c, if_pos c, mo_cs, eC_s, mk_asked h', cI_s, mo_cs, eC_s, e2, cI_s]
    refine MR.tk t2 h.2.1 upd_k ?_
    exact m_dig_lp (v := v2) (F := F2) OV.of p2 (by omega) (q_P σ y).1 0 17 _ _ (by omega)
  · rw [if_neg c, if_neg c]
    exact MR.in h'.1 h'.2.1 upd_k rfl
end Mk
