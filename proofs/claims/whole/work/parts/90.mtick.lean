/-! ===== the model: leases end; ticks ===== -/
def KS (v v' : Nat → Int32) (F F' : mrT) : Prop := (∀ i, (i = 2 ∨ i = 3 ∨ i = 4 ∨ i = 7 ∨ i = 11) → F' i = F i) ∧ ∀ k, k ≠ 7 → v' k = v k
section Me
variable {s s' : am_S} {B m i j n e c u : Nat} {v v' v'' : Nat → Int32} {F F' F'' : mrT} {g g' : Nat → Int32} {x y z l t : Int32} {σ σ' : stT} {R : am_R} {a : Value}
theorem KS.rf : KS v v F F := ⟨fun _ _ => rfl, fun _ _ => rfl⟩
theorem KS.tr (h : KS v v' F F') (h' : KS v' v'' F' F'') : KS v v'' F F'' := ⟨fun i hi => (h'.1 i hi).trans (h.1 i hi), fun k hk => (h'.2 k hk).trans (h.2 k hk)⟩
theorem KT.ks (h : KT v v' F F') : KS v v' F F' := ⟨fun i hi => h.1 i (by omega) (by omega) (by omega), h.2⟩
theorem KS.km (h : KS v v' F F') : KM v v' F F' := ⟨h.1, fun k _ h7 => h.2 k h7⟩
theorem KS.of10 (h : ∀ a, a ≠ 10 → F' a = F a) : KS v v F F' := ⟨fun i hi => h i (by omega), fun _ _ => rfl⟩
theorem MR.ks (hk : KS v v' F F') (hf : FR (F' 1) σ') (h4 : v 4 = x) (e : R = some (.inl (some a), moS s m v' F')) : MR s m v F R x a σ' := ⟨_, v', F', e, so_ov, OV.of, hf, hk.km, (hk.2 4 (by omega)).trans h4⟩
theorem ends_pick (hz : SZ σ) : ∀ k i c s F w1, i + k = σ.1 3 → c ≤ i → MM B s m v F σ → ∃ F', rn_ tb_ct tb_mt B mm_X13_ends 44 [.ref m, w1, .int l, .int (nI c), .int (nI i)] [] s = cI (cl_ tb_ct tb_mt B K_X13_deletesAll [.ref m, .int (nI (c + (dlk (hasL l) (σ.2 0) k i).length))] (moS s m v F')) (fun x_4 s_3 => some (.inl (some (.int x_4)), s_3)) xo ∧ (∀ a, a ≠ 10 → F' a = F a) ∧ (∀ j, j < c → F' 10 j = F 10 j) ∧ ∀ j, j < (dlk (hasL l) (σ.2 0) k i).length → F' 10 (c + j) = (dlk (hasL l) (σ.2 0) k i).getD j 0 := by
  have h3 := hz.1
  intro k
  induction k with
  | zero =>
    intro i c s F w1 hi hc h
    refine ⟨F, ?_, fun _ _ => rfl, fun _ _ => rfl, fun j hj => absurd hj (Nat.not_lt_zero _)⟩
    rw [dc_X13_ends_44, mo_0 h.1, eA_s, show (3 : Int32) = nI 3 from rfl, h.gz (by omega), eI_s, if_pos (nI_le (by omega) (by omega)), mo_cls h.1, eC_s, mo_self h.1]
    rfl
  | succ k ih =>
    intro i c s F w1 hi hc h
    have hB := h.2.2.2
    have e0 : cl_ tb_ct tb_mt B K_X13_keyAt [.ref m, .int (nI i), .int (0 : Int32)] s = some (.inl (some (.int (σ.2 0 i 0))), s) := mk_keyAt (w := 0) h (by omega) (by omega)
    have e5 : cl_ tb_ct tb_mt B K_X13_keyAt [.ref m, .int (nI i), .int (5 : Int32)] s = some (.inl (some (.int (σ.2 0 i 5))), s) := mk_keyAt (w := 5) h (by omega) (by omega)
    have st : rn_ tb_ct tb_mt B mm_X13_ends 44 [.ref m, w1, .int l, .int (nI c), .int (nI i)] [] s = if σ.2 0 i 5 = l then rn_ tb_ct tb_mt B mm_X13_ends 44 [.ref m, am_un, .int l, .int (nI (c + 1)), .int (nI (i + 1))] [] (moS s m v (mup F 10 c (σ.2 0 i 0))) else rn_ tb_ct tb_mt B mm_X13_ends 44 [.ref m, am_un, .int l, .int (nI c), .int (nI (i + 1))] [] s := by
      rw [dc_X13_ends_44, mo_0 h.1, eA_s, show (3 : Int32) = nI 3 from rfl, h.gz (by omega), eI_s, if_neg (nI_ge (by omega) (by omega)), mo_cls h.1, eC_s, e5, cI_s, mo_19 h.1, eA_s, mo_cls h.1, eC_s, e0, cI_s, mw_d h.1 hB (by omega), eS_s, dc_X13_ends_82, dc_X13_ends_82, nI_1, nI_1]
    rw [st]
    unfold dlk
    by_cases d : σ.2 0 i 5 = l
    · have dd : hasL l (σ.2 0 i) = true := decide_eq_true d
      rw [if_pos d, if_pos dd, List.length_cons]
      have h1 : MM B (moS s m v (mup F 10 c (σ.2 0 i 0))) m v (mup F 10 c (σ.2 0 i 0)) σ := ⟨OV.of, by rw [mup_n (by omega)]; exact h.2.1, h.2.2⟩
      obtain ⟨F', e, r1, r2, r3⟩ := ih (i + 1) (c + 1) _ _ am_un (by omega) (by omega) h1
      rw [mo_idem] at e
      refine ⟨F', ?_, fun a ha => (r1 a ha).trans (mup_n ha), fun j hj => ?_, fun j hj => ?_⟩
      · rw [e, show c + 1 + (dlk (hasL l) (σ.2 0) k (i + 1)).length = c + ((dlk (hasL l) (σ.2 0) k (i + 1)).length + 1) by omega]
      · rw [r2 j (by omega), mup_s, upd_n (by omega)]
      · rcases j with _ | j
        · show F' 10 c = σ.2 0 i 0
          rw [r2 c (by omega), mup_s, upd_k]
        · rw [show c + (j + 1) = c + 1 + j by omega, r3 j (by omega)]
          rfl
    · have dd : ¬ hasL l (σ.2 0 i) = true := by
        unfold hasL
        rw [decide_eq_true_eq]
        exact d
      rw [if_neg d, if_neg dd]
      exact ih (i + 1) c s F am_un (by omega) (by omega) h
theorem mk_ends (h : MM B s m v F σ) (hA : IA u σ) (hu : u + 1 < 2 ^ 25) (hi : i < σ.1 4) : ∃ v' F', cl_ tb_ct tb_mt B K_X13_ends [.ref m, .int (nI i)] s = some (.inl (some (.int (nI (dfn (hasL (σ.2 3 i 0)) σ 0 (σ.1 3))))), moS s m v' F') ∧ FR (F' 1) (p_ends i σ) ∧ KS v v' F F' := by
  obtain ⟨hM, hf, hz, hB⟩ := id h
  have h4 := hz.2.2.2.1
  have c4 : F 1 4 = nI (σ.1 4) := hf.1 4 (by omega)
  have e0 : aI s (m + 1) (nI (1149 + 3 * i)) = some (σ.2 3 i 0) := h.gl (i := i) (w := 0) hi (by omega)
  have ed := mv_dn (s := s) (v := v) (F := F) (g := F 1) (b := 1149) (w := 3) (p := i) (n := σ.1 4) hB (by omega) (by omega) (by omega)
  rw [m1_id rfl, mo_self hM] at ed
  obtain ⟨g2, hg2⟩ : ∃ g2, g2 = upd (shD (F 1) 1149 3 (3 * i) (3 * (σ.1 4 - 1))) 4 (nI (σ.1 4 - 1)) := ⟨_, rfl⟩
  have f2 : FR g2 (p_rl i σ) := hf.t3 (n' := σ.1 4 - 1) (R' := delR (σ.2 3) i (σ.1 4)) hz (fun k k4 kr => by
    rw [hg2, upd_n k4]
    exact if_neg (by omega)) (by rw [hg2, upd_k]) (fun j w hj hw => by
    rw [hg2, upd_n (by omega)]
    unfold shD delR
    by_cases c : i ≤ j ∧ j + 1 < σ.1 4
    · rw [if_pos c, if_pos (by omega), show 1149 + 3 * j + w + 3 = 1149 + 3 * (j + 1) + w by omega]
      exact hf.2.2.2.2.1 (j + 1) w c.2 hw
    · rw [if_neg c, if_neg (by omega)]
      exact hf.2.2.2.2.1 j w (by omega) hw)
  have hz2 : SZ (p_rl i σ) := ⟨hz.1, hz.2.1, hz.2.2.1, show σ.1 4 - 1 ≤ 8 by omega, hz.2.2.2.2⟩
  have hM2 : MM B (moS s m v (m1 F g2)) m v (m1 F g2) (p_rl i σ) := MM.st hB f2 hz2
  obtain ⟨F3, e3, r1, r2, r3⟩ := ends_pick (l := σ.2 3 i 0) hz2 (σ.1 3) 0 0 _ (m1 F g2) (.int (nI i)) (by rw [Nat.zero_add]; rfl) (Nat.le_refl _) hM2
  have el : (dlk (hasL (σ.2 3 i 0)) ((p_rl i σ).2 0) (σ.1 3) 0).length = dfn (hasL (σ.2 3 i 0)) σ 0 (σ.1 3) := dlk_len _ _
  rw [Nat.zero_add, el, mo_idem] at e3
  have hM3 : MM B (moS s m v F3) m v F3 (p_rl i σ) := ⟨OV.of, by rw [r1 1 (by omega)]; exact f2, hz2, hB⟩
  obtain ⟨v4, F4, e4, f4, t4⟩ := mk_deletesAll (p := hasL (σ.2 3 i 0)) hM3 (hA.rl hi) hu (fun j hj => by
    have := r3 j (by rw [el]; exact hj)
    rw [Nat.zero_add] at this
    exact this)
  have ed2 : dfn (hasL (σ.2 3 i 0)) (p_rl i σ) 0 ((p_rl i σ).1 3) = dfn (hasL (σ.2 3 i 0)) σ 0 (σ.1 3) := rfl
  rw [ed2, mo_idem] at e4
  refine ⟨v4, F4, ?_, f4, (KS.of10 (v := v) fun a ha => r1 a ha) |> fun k => (KT.of (v := v) (F := F) (g := g2)).ks.tr (k.tr t4.ks)⟩
  rw [in_X13_ends, dc_X13_ends_0, mo_0 hM, eA_s, show (1149 : Int32) = nI 1149 from rfl, show (3 : Int32) = nI 3 from rfl, nI_mul, nI_add, e0, eI_s, eA_s, show (4 : Int32) = nI 4 from rfl, h.gz (by omega), eI_s, mo_cls hM, eC_s, show -(1 : Int32) = -(1 : Int32) from rfl, ed, cV_s, mo_0s, eA_s, mr2 (by omega), eI_s, show shD (F 1) 1149 3 (3 * i) (3 * (σ.1 4 - 1)) 4 = nI (σ.1 4) from (if_neg (by omega)).trans c4, nI_sub1 (by omega), mw2 hB (by omega), eS_s, ← hg2]
  refine Eq.trans e3 ?_
  rw [e4, cI_s]
theorem m_revoke (h : MM B s m v F σ) (hA : IA u σ) (hu : u + 1 < 2 ^ 25) : MR s m v F (cl_ tb_ct tb_mt B K_X13_revoke [.ref m, .int l] s) 0 (.int (p_revoke σ l).1) (p_revoke σ l).2 := by
  have hB := h.2.2.2
  have h' := h.p4 (x := 0)
  have h4 := h.2.2.1.2.2.2.1
  rw [in_X13_revoke, dc_X13_revoke_0, mp_4 h.1 hB, eS_s, mo_cs, eC_s, mk_leaseOf h', cI_s]
  unfold p_revoke
  by_cases c : pF (σ.2 3) (σ.1 4) l < σ.1 4
  · have hl : σ.2 3 (pF (σ.2 3) (σ.1 4) l) 0 = l := pF_eq c
    obtain ⟨v2, F2, e2, f2, t2⟩ := mk_ends h' hA hu c
    rw [hl] at e2
    rw [if_pos c, if_neg (nI_m1 (by omega)), if_pos c, mo_cs, eC_s, e2, cI_s]
    exact MR.tr (MR.ks t2 f2 upd_k rfl) so_ov (KM.p (by omega))
  · rw [if_neg c, if_neg c, if_pos rfl]
    exact MR.tr (MR.in h'.1 h'.2.1 upd_k rfl) so_ov (KM.p (by omega))
/-! ticks -/
theorem tick_age (hB : B ≤ m) (hz : SZ σ) {x1 x2 : Int32} : ∀ k i g, i + k = σ.1 4 → FR g (σ.1, va_up σ.2 3 (agR (σ.2 3) (nI 1) 0 i)) → ∃ g', rn_ tb_ct tb_mt B mm_X13_tick 38 [.ref m, .int x1, .int x2, .int (nI i), am_un] [] (moS s m v (m1 F g)) = rn_ tb_ct tb_mt B mm_X13_tick 74 [.ref m, .int x1, .int x2, .int (nI 0), am_un] [] (moS s m v (m1 F g')) ∧ FR g' (p_age (nI 1) σ) := by
  have h4 := hz.2.2.2.1
  intro k
  induction k with
  | zero =>
    intro i g hi hf
    have hM : MM B (moS s m v (m1 F g)) m v (m1 F g) (σ.1, va_up σ.2 3 (agR (σ.2 3) (nI 1) 0 i)) := MM.st hB hf hz
    refine ⟨g, ?_, ?_⟩
    · rw [dc_X13_tick_38, mo_0s, eA_s, show (4 : Int32) = nI 4 from rfl, hM.gz (by omega), eI_s, if_pos (nI_le (show σ.1 4 ≤ i by omega) (by omega))]
      rfl
    · unfold p_age
      rw [show σ.1 4 = i by omega]
      exact hf
  | succ k ih =>
    intro i g hi hf
    have hM : MM B (moS s m v (m1 F g)) m v (m1 F g) (σ.1, va_up σ.2 3 (agR (σ.2 3) (nI 1) 0 i)) := MM.st hB hf hz
    have er : agR (σ.2 3) (nI 1) 0 i i = σ.2 3 i := by
      rw [agR_eq]
      exact if_neg (by omega)
    have ga : g (1149 + 3 * i + 2) = σ.2 3 i 2 := by
      refine (hf.2.2.2.2.1 i 2 (show i < σ.1 4 by omega) (by omega)).trans ?_
      show va_up σ.2 3 (agR (σ.2 3) (nI 1) 0 i) 3 i 2 = _
      rw [va_us, er]
    have f2 := hf.lrow (g' := upd g (1149 + 3 * i + 2) (σ.2 3 i 2 - nI 1)) (R := upd (σ.2 3 i) 2 (σ.2 3 i 2 - nI 1)) hz (show i < σ.1 4 by omega) (fun q hq => upd_n (by omega)) (fun w hw => by
      by_cases c : w = 2
      · subst c
        rw [upd_k, upd_k]
      · rw [upd_n (by omega), upd_n c]
        refine (hf.2.2.2.2.1 i w (show i < σ.1 4 by omega) hw).trans ?_
        show va_up σ.2 3 (agR (σ.2 3) (nI 1) 0 i) 3 i w = _
        rw [va_us, er])
    obtain ⟨g', e, r⟩ := ih (i + 1) _ (by omega) (f2.eq (fun _ => rfl) fun q => by
      show va_up σ.2 3 (agR (σ.2 3) (nI 1) 0 (i + 1)) q = va_up (va_up σ.2 3 (agR (σ.2 3) (nI 1) 0 i)) 3 (va_up (va_up σ.2 3 (agR (σ.2 3) (nI 1) 0 i) 3) i (upd (σ.2 3 i) 2 (σ.2 3 i 2 - nI 1))) q
      rw [va_va, va_us]
      congr 1
      rw [agR_eq, agR_eq]
      funext j
      unfold va_up
      by_cases cj : j = i
      · subst cj
        rw [if_pos (by omega), if_pos rfl]
      · rw [if_neg cj]
        by_cases cl : 0 ≤ j ∧ j < 0 + i
        · rw [if_pos (by omega)]
          simp only [if_pos cl]
        · rw [if_neg (by omega)]
          simp only [if_neg cl])
    refine ⟨g', ?_, r⟩
    rw [dc_X13_tick_38, mo_0s, eA_s, show (4 : Int32) = nI 4 from rfl, hM.gz (by omega), eI_s, if_neg (nI_ge (show i < σ.1 4 by omega) (by omega)), eA_s, show (1149 : Int32) = nI 1149 from rfl, show (3 : Int32) = nI 3 from rfl, show (2 : Int32) = nI 2 from rfl, nI_mul, nI_add, nI_add, mr2 (by omega), eI_s, ga, mw2 hB (by omega), eS_s, nI_1]
    exact e
theorem tick_ez {x1 x2 : Int32} : ∀ k i s v F w (σ : stT) u, σ.1 4 ≤ i + k → i ≤ 8 → MM B s m v F σ → IA u σ → u + k < 2 ^ 25 → ∃ v' F' x3, rn_ tb_ct tb_mt B mm_X13_tick 74 [.ref m, .int x1, .int x2, .int (nI i), w] [] s = rn_ tb_ct tb_mt B mm_X13_tick 21 [.ref m, .int x1, .int (x2 + 1), .int x3, am_un] [] (moS s m v' F') ∧ FR (F' 1) (p_ez k i σ) ∧ KS v v' F F' ∧ IA (u + k) (p_ez k i σ) ∧ SZ (p_ez k i σ) := by
  intro k
  induction k with
  | zero =>
    intro i s v F w σ u h4 hi8 h hA hu
    have h8 := h.2.2.1.2.2.2.1
    refine ⟨v, F, nI i, ?_, h.2.1, KS.rf, hA, h.2.2.1⟩
    rw [dc_X13_tick_74, mo_0 h.1, eA_s, show (4 : Int32) = nI 4 from rfl, h.gz (by omega), eI_s, if_pos (nI_le (by omega) (by omega)), mo_self h.1]
  | succ k ih =>
    intro i s v F w σ u h4 hi8 h hA hu
    have h8 := h.2.2.1.2.2.2.1
    unfold p_ez
    by_cases c : σ.1 4 ≤ i
    · rw [if_pos c]
      refine ⟨v, F, nI i, ?_, h.2.1, KS.rf, hA.mono (by omega), h.2.2.1⟩
      rw [dc_X13_tick_74, mo_0 h.1, eA_s, show (4 : Int32) = nI 4 from rfl, h.gz (by omega), eI_s, if_pos (nI_le (by omega) (by omega)), mo_self h.1]
    · rw [if_neg c]
      have i2 : (1149 : Int32) + (3 : Int32) * nI i + (2 : Int32) = nI (1149 + 3 * i + 2) := by
        rw [show (1149 : Int32) = nI 1149 from rfl, show (3 : Int32) = nI 3 from rfl, show (2 : Int32) = nI 2 from rfl, nI_mul, nI_add, nI_add]
      by_cases d : σ.2 3 i 2 = 0
      · rw [if_pos d]
        obtain ⟨v2, F2, e2, f2, t2⟩ := mk_ends (i := i) h hA (by omega) (by omega)
        obtain ⟨a1, a2⟩ := hA.ends (i := i) (by omega) (by omega)
        have hz2 : SZ (p_ends i σ) := by
          have hr : SZ (p_rl i σ) := ⟨h.2.2.1.1, h.2.2.1.2.1, h.2.2.1.2.2.1, show σ.1 4 - 1 ≤ 8 by omega, h.2.2.1.2.2.2.2⟩
          exact hr.kp a2 (Nat.le_trans a1.2.1 (by decide)) a1.1.2.2.2.2.2.2.1 (Nat.le_trans a1.2.2.1 (by decide))
        have hM2 : MM B (moS s m v2 F2) m v2 F2 (p_ends i σ) := ⟨OV.of, f2, hz2, h.2.2.2⟩
        obtain ⟨v3, F3, x3, e3, f3, t3, a3, z3⟩ := ih i _ v2 F2 (.int (nI (dfn (hasL (σ.2 3 i 0)) σ 0 (σ.1 3)))) (p_ends i σ) (u + 1) (by rw [ends_4]; omega) hi8 hM2 a1 (by omega)
        refine ⟨v3, F3, x3, ?_, f3, t2.tr t3, a3.mono (by omega), z3⟩
        rw [dc_X13_tick_74, mo_0 h.1, eA_s, show (4 : Int32) = nI 4 from rfl, h.gz (by omega), eI_s, if_neg (nI_ge (by omega) (by omega)), eA_s, i2, h.gl (by omega) (by omega), eI_s, if_pos d, mo_cls h.1, eC_s, e2, cI_s, e3, mo_idem]
      · rw [if_neg d]
        obtain ⟨v3, F3, x3, e3, f3, t3, a3, z3⟩ := ih (i + 1) s v F am_un σ u (by omega) (by omega) h hA (by omega)
        refine ⟨v3, F3, x3, ?_, f3, t3, a3.mono (by omega), z3⟩
        rw [dc_X13_tick_74, mo_0 h.1, eA_s, show (4 : Int32) = nI 4 from rfl, h.gz (by omega), eI_s, if_neg (nI_ge (by omega) (by omega)), eA_s, i2, h.gl (by omega) (by omega), eI_s, if_neg d, nI_1, e3]
theorem IA.tm (h : IA u σ) : IA (u + 1) (setT (σ.1 2 + 1) σ) := by
  obtain ⟨h1, h2, h3, h4, h5, b1, b2, b3, b4⟩ := h
  exact ⟨h1.cg rfl rfl rfl rfl rfl rfl rfl rfl rfl, h2, h3, h4, h5, Nat.le_succ_of_le b1, Nat.le_trans b2 (by omega), Nat.le_succ_of_le b3, show σ.1 2 + 1 ≤ 1000 * (u + 1) by omega⟩
theorem tick_all {tt : Nat} (ht : tt ≤ 1000) : ∀ k x2 s v F w3 (σ : stT) u, x2 + k = tt → MM B s m v F σ → IA u σ → ILp σ → u + 10 * k < 2 ^ 25 → ∃ v' F', rn_ tb_ct tb_mt B mm_X13_tick 21 [.ref m, .int (nI tt), .int (nI x2), w3, am_un] [] s = some (.inl (some (.int (nI (σ.1 2 + k)))), moS s m v' F') ∧ FR (F' 1) (p_tk k σ) ∧ KS v v' F F' := by
  intro k
  induction k with
  | zero =>
    intro x2 s v F w3 σ u hx h hA hL hu
    refine ⟨v, F, ?_, h.2.1, KS.rf⟩
    rw [dc_X13_tick_21, if_pos (nI_le (by omega) (by omega)), mo_0 h.1, eA_s, show (2 : Int32) = nI 2 from rfl, h.gz (by omega), eI_s, mo_self h.1]
    rfl
  | succ k ih =>
    intro x2 s v F w3 σ u hx h hA hL hu
    obtain ⟨hM, hf, hz, hB⟩ := id h
    have f1 : FR (upd (F 1) 2 (nI (σ.1 2 + 1))) (setT (σ.1 2 + 1) σ) := hf.num hz (by omega) (fun j hj => upd_n hj) upd_k
    obtain ⟨g2, e2, f2⟩ := tick_age (s := s) (v := v) (F := F) (σ := setT (σ.1 2 + 1) σ) (x1 := nI tt) (x2 := nI x2) hB hz (σ.1 4) 0 (upd (F 1) 2 (nI (σ.1 2 + 1))) (Nat.zero_add _) (f1.eq (fun _ => rfl) fun q => by
      show va_up σ.2 3 (σ.2 3) q = σ.2 q
      rw [va_id])
    have hA1 : IA (u + 1) (p_age (nI 1) (setT (σ.1 2 + 1) σ)) := hA.tm.age fun i hi => by
      have hi : i < σ.1 4 := hi
      obtain ⟨-, -, q, -, -, -, -, -, -, q7, q8⟩ := hA.2.2.2.1.2.1 i hi
      refine ⟨q, q7, ?_, by omega⟩
      have : q ≠ 0 := fun hc => hL i hi (by rw [q7, hc]; rfl)
      omega
    have hM2 : MM B (moS s m v (m1 F g2)) m v (m1 F g2) (p_age (nI 1) (setT (σ.1 2 + 1) σ)) := MM.st hB f2 hz
    obtain ⟨v3, F3, x3, e3, f3, t3, a3, z3⟩ := tick_ez (B := B) (m := m) (x1 := nI tt) (x2 := nI x2) 9 0 _ v (m1 F g2) am_un _ (u + 1) (by have := hz.2.2.2.1; show σ.1 4 ≤ 0 + 9; omega) (by omega) hM2 hA1 (by omega)
    have hM3 : MM B (moS s m v3 F3) m v3 F3 (p_one σ) := ⟨OV.of, f3, z3, hB⟩
    obtain ⟨l1, l2, l3⟩ := (LF.of hA).one hL
    obtain ⟨v4, F4, e4, f4, t4⟩ := ih (x2 + 1) _ v3 F3 (.int x3) (p_one σ) (u + 10) (by omega) hM3 (show IA (u + 10) (p_ez 9 0 (p_age (nI 1) (setT (σ.1 2 + 1) σ))) from a3) l2 (by omega)
    refine ⟨v4, F4, ?_, f4, KS.tr (KT.of (v := v) (F := F) (g := g2)).ks (t3.tr t4)⟩
    rw [dc_X13_tick_21, if_neg (nI_ge (by omega) (by omega)), mo_0 hM, eA_s, show (2 : Int32) = nI 2 from rfl, h.gz (by omega), eI_s, nI_1, mw1 hM hB (by omega), eS_s]
    refine Eq.trans e2 ?_
    rw [mo_idem] at e3
    rw [e3, nI_1, e4, mo_idem, l3, show σ.1 2 + 1 + k = σ.1 2 + (k + 1) by omega]
theorem m_tick (h : MM B s m v F σ) (hA : IA u σ) (hL : ILp σ) (hu : u + 10000 < 2 ^ 25) : MR s m v F (cl_ tb_ct tb_mt B K_X13_tick [.ref m, .int y] s) (if bTck y = true then 0 else 1) (if bTck y = true then .int (p_tick σ y).1 else .int 0) (if bTck y = true then (p_tick σ y).2 else σ) := by
  rw [in_X13_tick, dc_X13_tick_0, mi_in y 1 1000 (j2 := 1) (j4 := 1000) rfl rfl, cI_s, mo_cls h.1, eC_s]
  refine mi_call (ok := bTck y) h (fun ok => ?_) fun _ => rfl
  obtain ⟨tt, rfl, t1, t2⟩ := bTckN ok
  obtain ⟨v2, F2, e2, f2, k2⟩ := tick_all (B := B) (m := m) t2 tt 0 _ (upd v 4 0) F am_un σ u (by omega) h.p4 hA hL (by omega)
  obtain ⟨c1, c2⟩ := tick_tk hA hL t2
  rw [c1, c2]
  rw [nI_0] at e2
  exact MR.ks k2 f2 upd_k e2
end Me
