/-! ===== the model: put, compact, attach; leases ===== -/
section Ml
variable {s s' : am_S} {B m i j n e c u : Nat} {v v' v'' : Nat → Int32} {F F' F'' : mrT} {g g' h : Nat → Int32} {x y z f t key val l : Int32} {σ σ' : stT} {R : am_R} {a : Value} {L : rowT}
theorem MM.gz0 (h : MM B s m v F σ) : aI s (m + 1) 0 = some (nI (σ.1 0)) := h.gz (i := 0) (by omega)
theorem SZ.kp (hz : SZ σ) (k : Kp σ σ') (h3 : σ'.1 3 ≤ 22) (h12 : σ'.1 12 ≤ 16) (h6 : σ'.1 6 ≤ 152) : SZ σ' := by
  refine ⟨h3, h12, h6, ?_, ?_, ?_, ?_, ?_⟩
  · rw [k.1 4 (by omega)]
    exact hz.2.2.2.1
  · rw [k.1 5 (by omega)]
    exact hz.2.2.2.2.1
  · rw [k.1 9 (by omega)]
    exact hz.2.2.2.2.2.1
  · rw [k.1 10 (by omega)]
    exact hz.2.2.2.2.2.2.1
  · rw [k.1 11 (by omega)]
    exact hz.2.2.2.2.2.2.2
/-- a change is settled: from the row within it -/
theorem mk_done {T : Int32 → Prop} {r n0 : Nat} (h : MM B s m v F σ) (hc : IC r n0 T σ) (h3 : σ.1 3 ≤ 16) (ht : σ.1 7 + σ.1 6 < 2 ^ 31) : ∃ v' F', cl_ tb_ct tb_mt B K_X13_settles [.ref m] s = some (.inl none, moS s m v' F') ∧ FR (F' 1) (p_se 152 σ) ∧ KT v v' F F' := by
  have h6 := h.2.2.1.2.2.1
  rw [in_X13_settles]
  exact mk_settles 152 s v F σ h hc.1 h3 ht (by omega) am_un
theorem put70 (h : MM B s m v F σ) (hA : IA u σ) (hu : u + 1 < 2 ^ 25) (hk : kOk key) (hv : vOk val) (hl : ¬ l < 0) (h16 : ¬ (¬ isK σ key ∧ σ.1 3 = 16)) : ∃ v' F', rn_ tb_ct tb_mt B mm_X13_put 70 [.ref m, .int key, .int val, .int l, am_un] [] s = some (.inl (some (.int (nI (σ.1 0 + 1)))), moS s m v' F') ∧ FR (F' 1) (p_se 152 (p_wr (bg σ.1) σ.2 (nI (σ.1 0 + 1)) key val l)) ∧ KT v v' F F' := by
  obtain ⟨hM, hf, hz, hB⟩ := id h
  obtain ⟨r1, r2, r3, r4, r5⟩ := hA.rows
  obtain ⟨ic, i3⟩ := IC.put hA (by omega) hk hv hl h16
  have f1 : FR (upd (F 1) 0 (nI (σ.1 0 + 1))) (bg σ.1, σ.2) := hf.num hz (by omega) (fun j hj => upd_n hj) upd_k
  obtain ⟨g2, e2, f2⟩ := mk_writes (s := s) (v := v) (F := F) (σ := (bg σ.1, σ.2)) (key := key) (val := val) (l := l) hB f1 hz r3 (show σ.1 6 < 152 by omega) (fun _ => show σ.1 3 < 22 by omega)
  have k1 : Kp σ (p_wr (bg σ.1) σ.2 (nI (σ.1 0 + 1)) key val l) := (Kp.bg (σ := σ)).tr (Kp.wr (σ := (bg σ.1, σ.2)))
  have e6 : (p_wr (bg σ.1) σ.2 (nI (σ.1 0 + 1)) key val l).1 6 = σ.1 6 + 1 := p_wr_6
  have e7 : (p_wr (bg σ.1) σ.2 (nI (σ.1 0 + 1)) key val l).1 7 = σ.1 7 := p_wr_k (by omega) (by omega)
  have hz2 : SZ (p_wr (bg σ.1) σ.2 (nI (σ.1 0 + 1)) key val l) := hz.kp k1 (by omega) ic.1.2.2.2.2.2.2.1 (by omega)
  have hM2 : MM B (moS s m v (m1 F g2)) m v (m1 F g2) (p_wr (bg σ.1) σ.2 (nI (σ.1 0 + 1)) key val l) := MM.st hB f2 hz2
  obtain ⟨v3, F3, e3, f3, t3⟩ := mk_done hM2 ic i3 (by omega)
  have z0 : (p_wr (bg σ.1) σ.2 (nI (σ.1 0 + 1)) key val l).1 0 = σ.1 0 + 1 := ic.2.1
  refine ⟨v3, F3, ?_, f3, KT.tr KT.of t3⟩
  rw [dc_X13_put_70, mo_0 hM, eA_s, show (0 : Int32) = nI 0 from rfl, h.gz (by omega), eI_s, nI_1, mw1 hM hB (by omega), eS_s, mo_cs, eC_s, e2, cV_s, mo_0s, eA_s, hM2.gz (by omega), eI_s, z0, mo_cs, eC_s, e3, cV_s, mo_idem]
theorem m_put (h : MM B s m v F σ) (hA : IA u σ) (hu : u + 1 < 2 ^ 25) : MR s m v F (cl_ tb_ct tb_mt B K_X13_put [.ref m, .int key, .int val, .int l] s) (if (bKey key && (bVal val && bNN l)) = true then 0 else 1) (if (bKey key && (bVal val && bNN l)) = true then .int (p_put σ key val l).1 else .int 0) (if (bKey key && (bVal val && bNN l)) = true then (p_put σ key val l).2 else σ) := by
  have e : cl_ tb_ct tb_mt B K_X13_put [.ref m, .int key, .int val, .int l] s = rn_ tb_ct tb_mt B mm_X13_put 24 [.ref m, .int key, .int val, .int l, am_un] [.int (if (bKey key && (bVal val && bNN l)) = true then 1 else 0), .ref m] s := by
    rw [in_X13_put, dc_X13_put_0, mi_isKey, cI_s, if_b]
    cases bKey key with
    | false => rw [if_neg (by decide), dc_X13_put_23]; rfl
    | true =>
      rw [if_pos rfl, mi_isValue, cI_s, if_b]
      cases bVal val with
      | false => rw [if_neg (by decide), dc_X13_put_23]; rfl
      | true =>
        rw [if_pos rfl]
        by_cases c : l < 0
        · rw [if_pos c, dc_X13_put_23, show bNN l = false by unfold bNN; rw [decide_eq_true c]; rfl]
          rfl
        · rw [if_neg c, bNNN.mpr c]
          rfl
  rw [e, dc_X13_put_24, mo_cls h.1, eC_s]
  refine mi_call h (fun ok => ?_) fun _ => rfl
  rw [Bool.and_eq_true, Bool.and_eq_true] at ok
  obtain ⟨ok1, ok2, ok3⟩ := ok
  have hk := bKeyN ok1
  have hv := bValN ok2
  have hl := bNNN.mp ok3
  have h' := h.p4 (x := 0)
  obtain ⟨r1, r2, r3, r4, r5⟩ := hA.rows
  rw [mo_cs, eC_s, mk_there h' r3, cI_s, if_p]
  have fin : ¬ (¬ isK σ key ∧ σ.1 3 = 16) → MR (moS s m (upd v 4 0) F) m (upd v 4 0) F (rn_ tb_ct tb_mt B mm_X13_put 55 [.ref m, .int key, .int val, .int l, am_un] [] (moS s m (upd v 4 0) F)) 0 (.int (p_put σ key val l).1) (p_put σ key val l).2 := fun c16 => by
    unfold p_put
    rw [if_neg c16, dc_X13_put_55]
    obtain ⟨v2, F2, e2, f2, t2⟩ := put70 h' hA hu hk hv hl c16
    by_cases c0 : l = 0
    · rw [if_pos (show l ≤ 0 by rw [c0]; decide), if_neg (fun hc => hc.1 c0)]
      exact MR.kt t2 f2 upd_k e2
    · rw [if_neg (show ¬ l ≤ 0 from fun hc => c0 (Int32.le_antisymm hc (Int32.not_lt.mp hl))), mo_cs, eC_s, mk_isLease h', cI_s, if_p]
      by_cases c1 : pF (σ.2 3) (σ.1 4) l < σ.1 4
      · rw [if_pos c1, if_neg (fun hc => hc.2 c1)]
        exact MR.kt t2 f2 upd_k e2
      · rw [if_neg c1, if_pos ⟨c0, c1⟩]
        exact MR.in h'.1 h'.2.1 upd_k rfl
  by_cases c : isK σ key
  · rw [if_pos c]
    exact fin fun hc => hc.1 c
  · rw [if_neg c, mo_0s, eA_s, show (3 : Int32) = nI 3 from rfl, h'.gz (by omega), eI_s]
    by_cases c16 : σ.1 3 = 16
    · rw [if_pos (by rw [c16]; rfl)]
      unfold p_put
      rw [if_pos ⟨c, c16⟩]
      exact MR.in h'.1 h'.2.1 upd_k rfl
    · rw [if_neg (show ¬ nI (σ.1 3) = (16 : Int32) from fun hc => c16 ((nI_eq (b := 16) (by omega) (by omega)).mp hc))]
      exact fin fun hc => c16 hc.2
theorem m_compact (h : MM B s m v F σ) (hA : IA u σ) (hu : u + 1 < 2 ^ 25) : MR s m v F (cl_ tb_ct tb_mt B K_X13_compact [.ref m, .int y] s) (if (!decide (y < 1)) = true then 0 else 1) (if (!decide (y < 1)) = true then .int (p_compact σ y).1 else .int 0) (if (!decide (y < 1)) = true then (p_compact σ y).2 else σ) := by
  have e : cl_ tb_ct tb_mt B K_X13_compact [.ref m, .int y] s = rn_ tb_ct tb_mt B mm_X13_compact 11 [.ref m, .int y] [.int (if (!decide (y < 1)) = true then 1 else 0), .ref m] s := by
    rw [in_X13_compact, dc_X13_compact_0]
    by_cases c : y < 1
    · rw [if_pos c, decide_eq_true c]
      rfl
    · rw [if_neg c, decide_eq_false c]
      rfl
  rw [e, dc_X13_compact_11, mo_cls h.1, eC_s]
  refine mi_call h (fun ok => ?_) fun _ => rfl
  rw [Bool.not_eq_true', decide_eq_false_iff_not] at ok
  have h' := h.p4 (x := 0)
  obtain ⟨r1, r2, r3, r4, r5⟩ := hA.rows
  rw [mo_0s, eA_s, show (1 : Int32) = nI 1 from rfl, h'.gz (by omega), eI_s]
  unfold p_compact
  by_cases c1 : y ≤ nI (σ.1 1)
  · rw [if_neg (Int32.not_lt.mpr c1), if_pos c1]
    exact MR.in h'.1 h'.2.1 upd_k rfl
  · rw [if_pos (Int32.not_le.mp c1), if_neg c1, eA_s, h'.gz0, eI_s]
    by_cases c2 : y ≤ nI (σ.1 0)
    · rw [if_pos c2, if_neg (fun hc => hc c2)]
      obtain ⟨a, ha, rfl⟩ := nI_of (x := y) (fun hc => ok (Int32.lt_trans hc (by decide)))
      obtain ⟨v2, F2, e2, f2, t2⟩ := mk_compacts (a := a) h' hA.ik r1 ((nI_leI ha (by omega)).mp c2) (by omega)
      refine MR.kt t2 f2 upd_k ?_
      rw [mo_cs, eC_s, e2, cI_s]
    · rw [if_neg c2, if_pos c2]
      exact MR.in h'.1 h'.2.1 upd_k rfl
theorem m_attach (h : MM B s m v F σ) (hA : IA u σ) : MR s m v F (cl_ tb_ct tb_mt B K_X13_attach [.ref m, .int key, .int l] s) (if (bKey key && bNN l) = true then 0 else 1) (if (bKey key && bNN l) = true then .int (p_attach σ key l).1 else .int 0) (if (bKey key && bNN l) = true then (p_attach σ key l).2 else σ) := by
  have e : cl_ tb_ct tb_mt B K_X13_attach [.ref m, .int key, .int l] s = rn_ tb_ct tb_mt B mm_X13_attach 17 [.ref m, .int key, .int l, am_un, am_un] [.int (if (bKey key && bNN l) = true then 1 else 0), .ref m] s := by
    rw [in_X13_attach, dc_X13_attach_0, mi_isKey, cI_s, if_b]
    cases bKey key with
    | false => rw [if_neg (by decide), dc_X13_attach_16]; rfl
    | true =>
      rw [if_pos rfl]
      by_cases c : l < 0
      · rw [if_pos c, dc_X13_attach_16, show bNN l = false by unfold bNN; rw [decide_eq_true c]; rfl]
        rfl
      · rw [if_neg c, bNNN.mpr c]
        rfl
  rw [e, dc_X13_attach_17, mo_cls h.1, eC_s]
  refine mi_call h (fun ok => ?_) fun _ => rfl
  rw [Bool.and_eq_true] at ok
  have hl := bNNN.mp ok.2
  have h' := h.p4 (x := 0)
  have hB := h.2.2.2
  obtain ⟨r1, r2, r3, r4, r5⟩ := hA.rows
  rw [mo_cs, eC_s, mk_there h' r3, cI_s, if_p]
  unfold p_attach
  by_cases c : isK σ key
  · obtain ⟨c1, c2⟩ := (pI_there (key := key) r3).mp c
    have e2 : pF (σ.2 0) (σ.1 3) key = pI (σ.2 0) (σ.1 3) key := pF_of r3 c1 c2
    rw [if_pos c, if_pos c, e2]
    have fin : MR (moS s m (upd v 4 0) F) m (upd v 4 0) F (rn_ tb_ct tb_mt B mm_X13_attach 51 [.ref m, .int key, .int l, am_un, am_un] [] (moS s m (upd v 4 0) F)) 0 (.int (σ.2 0 (pI (σ.2 0) (σ.1 3) key) 5)) (σ.1, va_up σ.2 0 (up2 (σ.2 0) (pI (σ.2 0) (σ.1 3) key) 5 l)) := by
      have hidx : (13 : Int32) + (6 : Int32) * nI (pI (σ.2 0) (σ.1 3) key) + (5 : Int32) = nI (13 + 6 * pI (σ.2 0) (σ.1 3) key + 5) := by
        rw [show (13 : Int32) = nI 13 from rfl, show (6 : Int32) = nI 6 from rfl, show (5 : Int32) = nI 5 from rfl, nI_mul, nI_add, nI_add]
      refine MR.k1 (g := upd (F 1) (13 + 6 * pI (σ.2 0) (σ.1 3) key + 5) l) ?_ upd_k ?_
      · have hf := h.2.1
        have := hf.t0 (f' := upd (F 1) (13 + 6 * pI (σ.2 0) (σ.1 3) key + 5) l) (n' := σ.1 3) (R' := up2 (σ.2 0) (pI (σ.2 0) (σ.1 3) key) 5 l) h.2.2.1 (fun k k3 kr => upd_n (by omega)) ((upd_n (by omega)).trans (hf.1 3 (by omega))) (fun i w hi hw => by
          unfold up2
          by_cases ci : i = pI (σ.2 0) (σ.1 3) key ∧ w = 5
          · rw [if_pos ci, ci.1, ci.2, upd_k]
          · rw [if_neg ci, upd_n (by omega)]
            exact hf.2.1 i w hi hw)
        rw [va_id] at this
        exact this
      · rw [dc_X13_attach_51, mo_cs, eC_s, mk_place h', cI_s, mo_0s, eA_s, hidx, h'.gk c1 (by omega), eI_s, eA_s, mw1 h'.1 hB (by omega), eS_s]
    by_cases c0 : l = 0
    · rw [if_pos (show l ≤ 0 by rw [c0]; decide), if_neg (fun hc => hc.1 c0)]
      exact fin
    · rw [if_neg (show ¬ l ≤ 0 from fun hc => c0 (Int32.le_antisymm hc (Int32.not_lt.mp hl))), mo_cs, eC_s, mk_isLease h', cI_s, if_p]
      by_cases c3 : pF (σ.2 3) (σ.1 4) l < σ.1 4
      · rw [if_pos c3, if_neg (fun hc => hc.2 c3)]
        exact fin
      · rw [if_neg c3, if_pos ⟨c0, c3⟩]
        exact MR.in h'.1 h'.2.1 upd_k rfl
  · rw [if_neg c, if_neg c]
    exact MR.in h'.1 h'.2.1 upd_k rfl
theorem m_grant (h : MM B s m v F σ) : MR s m v F (cl_ tb_ct tb_mt B K_X13_grant [.ref m, .int y] s) (if bTck y = true then 0 else 1) (if bTck y = true then .int (p_grant σ y).1 else .int 0) (if bTck y = true then (p_grant σ y).2 else σ) := by
  rw [in_X13_grant, dc_X13_grant_0, mi_in y 1 1000 (j2 := 1) (j4 := 1000) rfl rfl, cI_s, mo_cls h.1, eC_s]
  refine mi_call (ok := bTck y) h (fun ok => ?_) fun _ => rfl
  have h' := h.p4 (x := 0)
  have hB := h.2.2.2
  have hf := h.2.1
  have h4 := h.2.2.1.2.2.2.1
  have g4 : F 1 4 = nI (σ.1 4) := hf.1 4 (by omega)
  rw [mo_0s, eA_s, show (4 : Int32) = nI 4 from rfl, h'.gz (by omega), eI_s]
  unfold p_grant
  by_cases c8 : σ.1 4 = 8
  · rw [if_pos (by rw [c8]; rfl), if_pos c8]
    exact MR.in h'.1 h'.2.1 upd_k rfl
  · rw [if_neg (show ¬ nI (σ.1 4) = (8 : Int32) from fun hc => c8 ((nI_eq (b := 8) (by omega) (by omega)).mp hc)), if_neg c8, eA_s, show (8 : Int32) = nI 8 from rfl, h'.gz (by omega), eI_s, nI_1, mw1 h'.1 hB (by omega), eS_s, mo_0s, eA_s, mr2 (by omega), eI_s, upd_n (by omega), g4, eA_s, eA_s, mr2 (by omega), eI_s, upd_k]
    rw [show (1149 : Int32) = nI 1149 from rfl, show (3 : Int32) = nI 3 from rfl, nI_mul, nI_add, mw2 hB (by omega), eS_s, mo_0s, eA_s, nI_1, mw2 hB (by omega), eS_s, mo_0s, eA_s, show (2 : Int32) = nI 2 from rfl, nI_add, mw2 hB (by omega), eS_s, mo_0s, eA_s, mr2 (by omega), eI_s, upd_n (by omega), upd_n (by omega), upd_n (by omega), upd_n (by omega), g4, nI_1, mw2 hB (by omega), eS_s, mo_0s, eA_s, mr2 (by omega), eI_s, upd_n (by omega), upd_n (by omega), upd_n (by omega), upd_n (by omega), upd_k]
    refine MR.k1 ?_ upd_k rfl
    have f1 := hf.num (k := 8) (n' := σ.1 8 + 1) (f' := upd (F 1) 8 (nI (σ.1 8 + 1))) h.2.2.1 (by omega) (fun j hj => upd_n hj) upd_k
    have f2 := f1.t3 (n' := σ.1 4 + 1) (R' := va_up (σ.2 3) (σ.1 4) (l3 (nI (σ.1 8 + 1)) y y)) (f' := upd (upd (upd (upd (upd (F 1) 8 (nI (σ.1 8 + 1))) (1149 + 3 * σ.1 4) (nI (σ.1 8 + 1))) (1149 + 3 * σ.1 4 + 1) y) (1149 + 3 * σ.1 4 + 2) y) 4 (nI (σ.1 4 + 1))) h.2.2.1 (fun k k4 kr => by
      rw [upd_n k4, upd_n (by omega), upd_n (by omega), upd_n (by omega)]) upd_k (fun i w hi hw => by
      rw [upd_n (by omega)]
      by_cases ci : i = σ.1 4
      · subst ci
        rw [va_us]
        match w, hw with
        | 0, _ =>
          rw [upd_n (by omega), upd_n (by omega)]
          exact upd_k
        | 1, _ =>
          rw [upd_n (by omega), upd_k]
          rfl
        | 2, _ =>
          rw [upd_k]
          rfl
      · rw [va_un ci, upd_n (by omega), upd_n (by omega), upd_n (by omega)]
        exact f1.2.2.2.2.1 i w (show i < σ.1 4 by omega) hw)
    refine f2.eq (fun i => ?_) fun _ => rfl
    show va_up (va_up σ.1 4 (σ.1 4 + 1)) 8 (σ.1 8 + 1) i = va_up (va_up σ.1 8 (σ.1 8 + 1)) 4 (σ.1 4 + 1) i
    by_cases c4 : i = 4
    · rw [c4, va_us, va_un (by omega), va_us]
    · rw [va_un c4]
      by_cases c5 : i = 8
      · rw [c5, va_us, va_us]
      · rw [va_un c5, va_un c5, va_un c4]
/-- a lease's row changed -/
theorem FR.lrow (hf : FR g σ) (hz : SZ σ) (hi : i < σ.1 4) {R : Nat → Int32} (hg : ∀ q, (q < 1149 + 3 * i ∨ 1149 + 3 * i + 3 ≤ q) → g' q = g q) (hr : ∀ w, w < 3 → g' (1149 + 3 * i + w) = R w) : FR g' (σ.1, va_up σ.2 3 (va_up (σ.2 3) i R)) := by
  have h4 := hz.2.2.2.1
  have := hf.t3 (f' := g') (n' := σ.1 4) (R' := va_up (σ.2 3) i R) hz (fun k k5 kr => hg k (by omega)) ((hg 4 (by omega)).trans (hf.1 4 (by omega))) (fun q w hq hw => by
    by_cases c : q = i
    · subst c
      rw [va_us]
      exact hr w hw
    · rw [va_un c, hg _ (by omega)]
      exact hf.2.2.2.2.1 q w hq hw)
  rw [va_id] at this
  exact this
theorem m_keepAlive (h : MM B s m v F σ) : MR s m v F (cl_ tb_ct tb_mt B K_X13_keepAlive [.ref m, .int l] s) 0 (.int (p_renew σ l).1) (p_renew σ l).2 := by
  have hB := h.2.2.2
  have h' := h.p4 (x := 0)
  have h4 := h.2.2.1.2.2.2.1
  rw [in_X13_keepAlive, dc_X13_keepAlive_0, mp_4 h.1 hB, eS_s, mo_cs, eC_s, mk_leaseOf h', cI_s]
  unfold p_renew
  by_cases c : pF (σ.2 3) (σ.1 4) l < σ.1 4
  · have i1 : (1149 : Int32) + (3 : Int32) * nI (pF (σ.2 3) (σ.1 4) l) + (1 : Int32) = nI (1149 + 3 * pF (σ.2 3) (σ.1 4) l + 1) := by
      rw [show (1149 : Int32) = nI 1149 from rfl, show (3 : Int32) = nI 3 from rfl, nI_mul, nI_add, nI_1]
    have i2 : (1149 : Int32) + (3 : Int32) * nI (pF (σ.2 3) (σ.1 4) l) + (2 : Int32) = nI (1149 + 3 * pF (σ.2 3) (σ.1 4) l + 2) := by
      rw [show (1149 : Int32) = nI 1149 from rfl, show (3 : Int32) = nI 3 from rfl, show (2 : Int32) = nI 2 from rfl, nI_mul, nI_add, nI_add]
    have hw1 : F 1 (1149 + 3 * pF (σ.2 3) (σ.1 4) l + 1) = σ.2 3 (pF (σ.2 3) (σ.1 4) l) 1 := h.2.1.2.2.2.2.1 _ 1 c (by omega)
    rw [if_pos c, if_neg (nI_m1 (by omega)), if_pos c, mo_0s, eA_s, eA_s, i1, h'.gl c (by omega), eI_s, i2, mw1 h'.1 hB (by omega), eS_s, mo_0s, eA_s, mr2 (by omega), eI_s, upd_n (by omega), hw1]
    refine MR.tr (MR.k1 (g := upd (F 1) (1149 + 3 * pF (σ.2 3) (σ.1 4) l + 2) (σ.2 3 (pF (σ.2 3) (σ.1 4) l) 1)) ?_ upd_k rfl) so_ov (KM.p (by omega))
    refine h.2.1.lrow h.2.2.1 c (fun q hq => upd_n (by omega)) (fun w hw => ?_)
    by_cases cw : w = 2
    · subst cw
      rw [upd_k, upd_k]
    · rw [upd_n (by omega), upd_n cw]
      exact h.2.1.2.2.2.2.1 _ w c hw
  · rw [if_neg c, if_neg c, if_pos rfl]
    exact MR.tr (MR.in h'.1 h'.2.1 upd_k rfl) so_ov (KM.p (by omega))
theorem mk_keysOf_lp (h : MM B s m v F σ) : ∀ k i j, i + k = σ.1 3 → rn_ tb_ct tb_mt B mm_X13_keysOf 4 [.ref m, .int l, .int (nI j), .int (nI i)] [] s = some (.inl (some (.int (nI (j + cn (fun i => decide (σ.2 0 i 5 = l)) i k)))), s) := by
  have h3 := h.2.2.1.1
  intro k
  induction k with
  | zero =>
    intro i j hi
    rw [dc_X13_keysOf_4, mo_0 h.1, eA_s, show (3 : Int32) = nI 3 from rfl, h.gz (by omega), eI_s, if_pos (nI_le (by omega) (by omega))]
    rfl
  | succ k ih =>
    intro i j hi
    rw [dc_X13_keysOf_4, mo_0 h.1, eA_s, show (3 : Int32) = nI 3 from rfl, h.gz (by omega), eI_s, if_neg (nI_ge (by omega) (by omega)), mo_cls h.1, eC_s, show (5 : Int32) = nI 5 from rfl, mk_keyAt h (by omega) (by omega), cI_s, cn_s]
    by_cases c : σ.2 0 i 5 = l
    · rw [if_pos c, dc_X13_keysOf_30, nI_1, nI_1, ih (i + 1) (j + 1) (by omega), if_pos (decide_eq_true c), Nat.add_assoc]
    · rw [if_neg c, dc_X13_keysOf_30, Int32.add_zero, nI_1, ih (i + 1) j (by omega), if_neg (show ¬ decide (σ.2 0 i 5 = l) = true by rw [decide_eq_true_eq]; exact c), Nat.zero_add]
theorem m_lease (h : MM B s m v F σ) : MR s m v F (cl_ tb_ct tb_mt B K_X13_lease [.ref m, .int l, .int y] s) (if bIn y 0 2 = true then 0 else 1) (if bIn y 0 2 = true then .int (q_lease σ l (nN y)) else .int 0) (if bIn y 0 2 = true then σ else σ) := by
  rw [in_X13_lease, dc_X13_lease_0, mi_in y 0 2 (j2 := 0) (j4 := 2) rfl rfl, cI_s, mo_cls h.1, eC_s]
  refine mi_call h (fun ok => MR.in OV.of h.2.1 upd_k ?_) fun _ => rfl
  have h' := h.p4 (x := 0)
  have h4 := h.2.2.1.2.2.2.1
  obtain ⟨j, hj, rfl⟩ := bInN (m := 2) (by omega) ok
  rw [mo_cs, eC_s, mk_leaseOf h', cI_s, nN_nI (by omega)]
  unfold q_lease
  by_cases c : pF (σ.2 3) (σ.1 4) l < σ.1 4
  · rw [if_pos c, if_neg (nI_m1 (by omega)), if_pos c]
    have idx : (1149 : Int32) + (3 : Int32) * nI (pF (σ.2 3) (σ.1 4) l) + (1 : Int32) + nI j = nI (1149 + 3 * pF (σ.2 3) (σ.1 4) l + (1 + j)) := by
      rw [show (1149 : Int32) = nI 1149 from rfl, show (3 : Int32) = nI 3 from rfl, nI_mul, nI_add, nI_1, nI_add, Nat.add_assoc]
    by_cases c2 : j = 2
    · subst c2
      rw [if_pos (show nI 2 = (2 : Int32) from rfl), mo_cs, eC_s, in_X13_keysOf, dc_X13_keysOf_0]
      have := mk_keysOf_lp (B := B) (l := l) h' (σ.1 3) 0 0 (by omega)
      rw [nI_0] at this
      rw [this, cI_s, Nat.zero_add]
      rfl
    · rw [if_neg (show ¬ nI j = (2 : Int32) from fun hc => c2 ((nI_eq (b := 2) (by omega) (by omega)).mp hc)), mo_0s, eA_s, idx, h'.gl c (by omega), eI_s]
      have hj1 : j = 0 ∨ j = 1 := by omega
      rcases hj1 with rfl | rfl
      · rfl
      · rfl
  · rw [if_neg c, if_pos rfl, if_neg c]
end Ml
