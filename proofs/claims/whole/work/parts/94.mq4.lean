/-! ===== the model: what is asked (4) ===== -/
theorem cn_pos {p : Nat → Bool} : ∀ k i j, i ≤ j → j < i + k → p j = true → 0 < cn p i k := by
  intro k
  induction k with
  | zero => intro i j a b; omega
  | succ k ih =>
    intro i j a b e
    rw [cn_s]
    by_cases c : j = i
    · subst c
      rw [e]
      simp
      omega
    · have := ih (i + 1) j (by omega) (by omega) e
      omega
theorem cn_ex {p : Nat → Bool} : ∀ k i, 0 < cn p i k → ∃ j, i ≤ j ∧ j < i + k ∧ p j = true := by
  intro k
  induction k with
  | zero => intro i h; exact absurd h (Nat.lt_irrefl 0)
  | succ k ih =>
    intro i h
    rw [cn_s] at h
    by_cases c : p i = true
    · exact ⟨i, Nat.le_refl _, by omega, c⟩
    · rw [if_neg c, Nat.zero_add] at h
      obtain ⟨j, a, b, e⟩ := ih (i + 1) h
      exact ⟨j, by omega, by omega, e⟩
section Mk
variable {s s' : am_S} {B m i j n e c u q : Nat} {v v' v'' : Nat → Int32} {F F' F'' : mrT} {g g' : Nat → Int32} {x y z l t f key : Int32} {σ σ' : stT} {R : am_R} {a z0 : Value} {P P' : Nat × rowT} {r : Option Nat} {W : Nat → Nat} {b : Int32}
/-! the part of the events that delete -/
theorem m_dp_lp (h : MM B s m v F σ) (h6 : σ.1 6 ≤ 120) (h1 : ∀ i, i < σ.1 6 → σ.2 2 i 1 = 0 ∨ σ.2 2 i 1 = 1) : ∀ k i c, i + k = σ.1 6 → c ≤ i → rn_ tb_ct tb_mt B mm_X13_deletedPart 9 [.ref m, .int (nI c), .int (nI i)] [] s = some (.inl (some (.double (if σ.1 6 = 0 then FP.dconst0 else FP.ddiv (FP.i2d (nI (c + cn (fun i => decide (σ.2 2 i 1 = 1)) i k))) (FP.i2d (nI (σ.1 6)))))), s) := by
  intro k
  induction k with
  | zero =>
    intro i c hi hc
    rw [dc_X13_deletedPart_9, mo_0 h.1, eA_s, show (6 : Int32) = nI 6 from rfl, h.gz (by omega), eI_s, if_pos (nI_le (by omega) (by omega)), eA_s, h.gz (by omega), eI_s]
    by_cases d : σ.1 6 = 0
    · rw [if_pos (show nI (σ.1 6) = 0 from by rw [d]; rfl), dc_X13_deletedPart_60, if_pos d]
    · rw [if_neg (show ¬ nI (σ.1 6) = 0 from fun hc => d ((nI_eq (a := σ.1 6) (b := 0) (by omega) (by omega)).mp hc)), eA_s, h.gz (by omega), eI_s, if_pos ((q_dok (σ.1 6) (by omega) c (by omega)).resolve_left d), dc_X13_deletedPart_60, if_neg d]
      rfl
  | succ k ih =>
    intro i c hi hc
    have e1 : cl_ tb_ct tb_mt B K_X13_eventAt [.ref m, .int (nI i), .int 1] s = _ := mk_event (w := 1) h (by omega) (by omega)
    rw [dc_X13_deletedPart_9, mo_0 h.1, eA_s, show (6 : Int32) = nI 6 from rfl, h.gz (by omega), eI_s, if_neg (nI_ge (by omega) (by omega)), mo_cls h.1, eC_s, e1, cI_s, cn_s, nI_1]
    rcases h1 i (by omega) with e | e
    · rw [e, Int32.add_zero, ih (i + 1) _ (by omega) (by omega), decide_eq_false (by decide), if_neg Bool.false_ne_true, Nat.zero_add]
    · rw [e, nI_1, ih (i + 1) _ (by omega) (by omega), decide_eq_true rfl, if_pos rfl, Nat.add_assoc]
theorem m_deletedPart (h : MM B s m v F σ) (h6 : σ.1 6 ≤ 120) (hI : IK σ.1 σ.2) : MR s m v F (cl_ tb_ct tb_mt B K_X13_deletedPart [.ref m] s) 0 (.double (q_dp σ)) σ := by
  rw [in_X13_deletedPart, dc_X13_deletedPart_0, mp_4 h.1 h.2.2.2, eS_s]
  refine ⟨_, _, F, m_dp_lp (h.p4 (x := 0)) h6 (fun i hi => (hI.1.1 i hi).1) (σ.1 6) 0 0 (by omega) (by omega) |>.trans ?_, so_ov, OV.of, h.2.1, KM.p (by omega), upd_k⟩
  rw [Nat.zero_add]
  rfl
/-! the busiest key -/
def BST (W : Nat → Nat) (b : Int32) : Prop := (b = -1 ∧ ∀ j, j < 1000 → W j = 0) ∨ ∃ p, p < 1000 ∧ b = nI p ∧ 0 < W p ∧ ∀ j, j < 1000 → W j ≤ W p ∧ (W j = W p → p ≤ j)
theorem BST.uq (h : BST W x) (h' : BST W y) : x = y := by
  rcases h with ⟨a, b⟩ | ⟨p, p1, p2, p3, p4⟩
  · rcases h' with ⟨a', b'⟩ | ⟨p', q1, q2, q3, q4⟩
    · rw [a, a']
    · exact absurd (b p' q1) (by omega)
  · rcases h' with ⟨a', b'⟩ | ⟨p', q1, q2, q3, q4⟩
    · exact absurd (b' p p1) (by omega)
    · have a1 := p4 p' q1
      have a2 := q4 p p1
      have e : W p = W p' := by omega
      rw [p2, q2, show p = p' by have := a1.2 e.symm; have := a2.2 e; omega]
theorem q_best_lp (hW : ∀ i, W i < 1000) : ∀ k i b mm, i + k = 1000 → ((b = -1 ∧ mm = nI 0 ∧ ∀ j, j < i → W j = 0) ∨ ∃ p, p < i ∧ b = nI p ∧ mm = nI (W p) ∧ 0 < W p ∧ ∀ j, j < i → W j ≤ W p ∧ (W j = W p → p ≤ j)) → BST W (q_best (fun i => nI (W i)) i k b mm) := by
  intro k
  induction k with
  | zero =>
    intro i b mm hi hb
    rcases hb with ⟨a1, a2, a3⟩ | ⟨p, p1, p2, p3, p4, p5⟩
    · exact Or.inl ⟨a1, fun j hj => a3 j (by omega)⟩
    · exact Or.inr ⟨p, by omega, p2, p4, fun j hj => p5 j (by omega)⟩
  | succ k ih =>
    intro i b mm hi hb
    have hw := hW i
    show BST W (if nI (W i) ≤ mm then q_best (fun i => nI (W i)) (i + 1) k b mm else q_best (fun i => nI (W i)) (i + 1) k (nI i) (nI (W i)))
    rcases hb with ⟨a1, a2, a3⟩ | ⟨p, p1, p2, p3, p4, p5⟩
    · subst a2
      by_cases c : W i ≤ 0
      · rw [if_pos ((nI_leI (by omega) (by omega)).mpr c)]
        refine ih (i + 1) _ _ (by omega) (Or.inl ⟨a1, rfl, fun j hj => ?_⟩)
        by_cases d : j = i
        · rw [d]; omega
        · exact a3 j (by omega)
      · rw [if_neg (fun hc => c ((nI_leI (by omega) (by omega)).mp hc))]
        refine ih (i + 1) _ _ (by omega) (Or.inr ⟨i, by omega, rfl, rfl, by omega, fun j hj => ?_⟩)
        by_cases d : j = i
        · rw [d]; exact ⟨Nat.le_refl _, fun _ => Nat.le_refl _⟩
        · have := a3 j (by omega)
          omega
    · have hwp := hW p
      subst p3
      by_cases c : W i ≤ W p
      · rw [if_pos ((nI_leI (by omega) (by omega)).mpr c)]
        refine ih (i + 1) _ _ (by omega) (Or.inr ⟨p, by omega, p2, rfl, p4, fun j hj => ?_⟩)
        by_cases d : j = i
        · rw [d]; exact ⟨c, fun _ => by omega⟩
        · exact p5 j (by omega)
      · rw [if_neg (fun hc => c ((nI_leI (by omega) (by omega)).mp hc))]
        refine ih (i + 1) _ _ (by omega) (Or.inr ⟨i, by omega, rfl, rfl, by omega, fun j hj => ?_⟩)
        by_cases d : j = i
        · rw [d]; exact ⟨Nat.le_refl _, fun _ => Nat.le_refl _⟩
        · have := p5 j (by omega)
          omega
theorem m_bu_lp (h : MM B s m v F σ) (hk : ∀ i, i < σ.1 6 → kOk (σ.2 2 i 2)) : ∀ k i b mm, i + k = σ.1 6 → ((b = -1 ∧ mm = nI 0 ∧ i = 0) ∨ ∃ p, p < 1000 ∧ b = nI p ∧ mm = nI (q_wrs σ (nI p)) ∧ 0 < q_wrs σ (nI p) ∧ ∀ j, j < i → ∀ q, q < 1000 → σ.2 2 j 2 = nI q → q_wrs σ (nI q) ≤ q_wrs σ (nI p) ∧ (q_wrs σ (nI q) = q_wrs σ (nI p) → p ≤ q)) → ∃ b', rn_ tb_ct tb_mt B mm_X13_busiest 11 [.ref m, .int b, .int mm, .int (nI i), am_un, am_un] [] s = some (.inl (some (.int b')), s) ∧ BST (fun q => q_wrs σ (nI q)) b' := by
  have h6 := h.2.2.1.2.2.1
  have hW : ∀ x, q_wrs σ x ≤ σ.1 6 := fun x => cn_le _ _ _
  intro k
  induction k with
  | zero =>
    intro i b mm hi hb
    rw [dc_X13_busiest_11, mo_0 h.1, eA_s, show (6 : Int32) = nI 6 from rfl, h.gz (by omega), eI_s, if_pos (nI_le (by omega) (by omega))]
    refine ⟨b, rfl, ?_⟩
    rcases hb with ⟨a1, a2, a3⟩ | ⟨p, p1, p2, p3, p4, p5⟩
    · exact Or.inl ⟨a1, fun j hj => by have := hW (nI j); show q_wrs σ (nI j) = 0; omega⟩
    · refine Or.inr ⟨p, p1, p2, p4, fun q hq => ?_⟩
      show q_wrs σ (nI q) ≤ q_wrs σ (nI p) ∧ (q_wrs σ (nI q) = q_wrs σ (nI p) → p ≤ q)
      by_cases c : 0 < q_wrs σ (nI q)
      · obtain ⟨j, _, j2, j3⟩ := cn_ex _ _ c
        exact p5 j (by omega) q hq (of_decide_eq_true j3)
      · omega
  | succ k ih =>
    intro i b mm hi hb
    obtain ⟨q, q1, q2⟩ := nI_of2 (M := 999) (n := 999) rfl (hk i (by omega)).1 (hk i (by omega)).2
    have hw := hW (nI q)
    have wp : 0 < q_wrs σ (nI q) := cn_pos _ _ i (by omega) (by omega) (decide_eq_true q2)
    rw [dc_X13_busiest_11, mo_0 h.1, eA_s, show (6 : Int32) = nI 6 from rfl, h.gz (by omega), eI_s, if_neg (nI_ge (by omega) (by omega)), mo_cls h.1, eC_s, show (2 : Int32) = nI 2 from rfl, mk_event h (by omega) (by omega), cI_s, mo_cls h.1, eC_s, mk_writesOf h, cI_s, q2]
    have e6 : rn_ tb_ct tb_mt B mm_X13_busiest 62 [.ref m, .int b, .int mm, .int (nI i), .int (nI q), .int (nI (q_wrs σ (nI q)))] [] s = rn_ tb_ct tb_mt B mm_X13_busiest 11 [.ref m, .int b, .int mm, .int (nI (i + 1)), am_un, am_un] [] s := by
      rw [dc_X13_busiest_62, nI_1]
    have e5 : rn_ tb_ct tb_mt B mm_X13_busiest 56 [.ref m, .int b, .int mm, .int (nI i), .int (nI q), .int (nI (q_wrs σ (nI q)))] [] s = rn_ tb_ct tb_mt B mm_X13_busiest 11 [.ref m, .int (nI q), .int (nI (q_wrs σ (nI q))), .int (nI (i + 1)), am_un, am_un] [] s := by
      rw [dc_X13_busiest_56, dc_X13_busiest_62, nI_1]
    rw [e5, e6]
    have same : ∀ j, j < i + 1 → ¬ j < i → ∀ q', q' < 1000 → σ.2 2 j 2 = nI q' → q' = q := fun j a b q' c d => by
      rw [show j = i by omega, q2] at d
      exact ((nI_eq (by omega) (by omega)).mp d).symm
    have new : (∀ j, j < i → ∀ q', q' < 1000 → σ.2 2 j 2 = nI q' → q_wrs σ (nI q') ≤ q_wrs σ (nI q) ∧ (q_wrs σ (nI q') = q_wrs σ (nI q) → q ≤ q')) → ∃ b', rn_ tb_ct tb_mt B mm_X13_busiest 11 [.ref m, .int (nI q), .int (nI (q_wrs σ (nI q))), .int (nI (i + 1)), am_un, am_un] [] s = some (.inl (some (.int b')), s) ∧ BST (fun q => q_wrs σ (nI q)) b' := by
      intro hh
      refine ih (i + 1) _ _ (by omega) (Or.inr ⟨q, by omega, rfl, rfl, wp, fun j hj q' hq' e => ?_⟩)
      by_cases c : j < i
      · exact hh j c q' hq' e
      · rw [same j hj c q' hq' e]
        exact ⟨Nat.le_refl _, fun _ => Nat.le_refl _⟩
    rcases hb with ⟨a1, a2, a3⟩ | ⟨p, p1, p2, p3, p4, p5⟩
    · subst a2
      rw [if_pos (nI_lt wp (by omega))]
      exact new fun j hj => absurd hj (by omega)
    · have hwp := hW (nI p)
      subst p2 p3
      have old : q_wrs σ (nI q) ≤ q_wrs σ (nI p) → (q_wrs σ (nI q) = q_wrs σ (nI p) → p ≤ q) → ∃ b', rn_ tb_ct tb_mt B mm_X13_busiest 11 [.ref m, .int (nI p), .int (nI (q_wrs σ (nI p))), .int (nI (i + 1)), am_un, am_un] [] s = some (.inl (some (.int b')), s) ∧ BST (fun q => q_wrs σ (nI q)) b' := by
        intro o1 o2
        refine ih (i + 1) _ _ (by omega) (Or.inr ⟨p, p1, rfl, rfl, p4, fun j hj q' hq' e => ?_⟩)
        by_cases c : j < i
        · exact p5 j c q' hq' e
        · rw [same j hj c q' hq' e]
          exact ⟨o1, o2⟩
      by_cases c : q_wrs σ (nI p) < q_wrs σ (nI q)
      · rw [if_pos (nI_lt c (by omega))]
        refine new fun j hj q' hq' e => ?_
        have := p5 j hj q' hq' e
        omega
      · rw [if_neg (nI_nlt (by omega) (by omega))]
        by_cases d : q_wrs σ (nI q) = q_wrs σ (nI p)
        · rw [if_pos (by rw [d])]
          by_cases d2 : p ≤ q
          · rw [if_pos (nI_le d2 (by omega))]
            exact old (by omega) fun _ => d2
          · rw [if_neg (nI_ge (by omega) (by omega))]
            refine new fun j hj q' hq' e => ?_
            have := p5 j hj q' hq' e
            refine ⟨by omega, fun e2 => ?_⟩
            have := this.2 (by omega)
            omega
        · rw [if_neg fun e => d ((nI_eq (by omega) (by omega)).mp e)]
          exact old (by omega) fun e => absurd e d
theorem m_busiest (h : MM B s m v F σ) (hk : ∀ i, i < σ.1 6 → kOk (σ.2 2 i 2)) : MR s m v F (cl_ tb_ct tb_mt B K_X13_busiest [.ref m] s) 0 (.int (q_busy σ)) σ := by
  have h6 := h.2.2.1.2.2.1
  rw [in_X13_busiest, dc_X13_busiest_0, mp_4 h.1 h.2.2.2, eS_s]
  obtain ⟨b', e1, e2⟩ := m_bu_lp (h.p4 (x := 0)) hk (σ.1 6) 0 (-1) (nI 0) (by omega) (Or.inl ⟨rfl, rfl, rfl⟩)
  have e3 : BST (fun q => q_wrs σ (nI q)) (q_busy σ) := q_best_lp (W := fun q => q_wrs σ (nI q)) (fun i => by have : q_wrs σ (nI i) ≤ σ.1 6 := cn_le _ _ _; show q_wrs σ (nI i) < 1000; omega) 1000 0 (-1) 0 (by omega) (Or.inl ⟨rfl, rfl, fun j hj => absurd hj (by omega)⟩)
  rw [← e2.uq e3]
  exact ⟨_, _, F, e1, so_ov, OV.of, h.2.1, KM.p (by omega), upd_k⟩
/-! the value of a version -/
theorem vMany_lt {E : rowT} {i j : Nat} (hij : i < j) (hj : j < n) (e : E j 2 = key) : vMany E n j key < vMany E n i key := by
  unfold vMany
  rw [show n - (i + 1) = (j - (i + 1)) + ((n - (j + 1)) + 1) by omega, cn_add, show i + 1 + (j - (i + 1)) = j by omega, cn_s, decide_eq_true e, if_pos rfl]
  omega
theorem m_va_lp (h : MM B s m v F σ) {K : Nat → Int32} {w c y' : Nat} (hw : w < 2 ^ 31) (h1 : 1 ≤ y') (hy : y' < 2 ^ 31) (hv : ∀ e, e < σ.1 6 → σ.2 2 e 2 = K 0 → (vMany (σ.2 2) (σ.1 6) e (K 0) < w → σ.2 2 e 1 = 0 ∧ σ.2 2 e 6 = nI (w - vMany (σ.2 2) (σ.1 6) e (K 0)) ∧ nI c ≤ σ.2 2 e 0) ∧ (w ≤ vMany (σ.2 2) (σ.1 6) e (K 0) → σ.2 2 e 0 < nI c)) (hc : K 2 = nI c) : ∀ r, r ≤ σ.1 6 → cn (fun j => decide (σ.2 2 j 2 = K 0)) r (σ.1 6 - r) ≤ w → (∀ e, r ≤ e → e < σ.1 6 → wroteB K (nI y') (σ.2 2 e) = false) → rn_ tb_ct tb_mt B mm_X13_versionAt 60 [.ref m, .int (K 0), .int (nI y'), .int (nI (w - cn (fun j => decide (σ.2 2 j 2 = K 0)) r (σ.1 6 - r))), .int (dI r)] [] s = some (.inl (some (.int (if fi (fun i => wroteB K (nI y') (σ.2 2 i)) 0 (σ.1 6) < σ.1 6 then σ.2 2 (fi (fun i => wroteB K (nI y') (σ.2 2 i)) 0 (σ.1 6)) 3 else NOV))), s) := by
  have h6 := h.2.2.1.2.2.1
  have wr : ∀ e, e < σ.1 6 → wroteB K (nI y') (σ.2 2 e) = true → σ.2 2 e 2 = K 0 ∧ vMany (σ.2 2) (σ.1 6) e (K 0) + y' = w := by
    intro e he hh
    unfold wroteB at hh
    simp only [Bool.and_eq_true, decide_eq_true_eq, Bool.not_eq_true', decide_eq_false_iff_not] at hh
    obtain ⟨a1, a2, a3, a4⟩ := hh
    refine ⟨a2, ?_⟩
    obtain ⟨b1, b2⟩ := hv e he a2
    have lt : vMany (σ.2 2) (σ.1 6) e (K 0) < w := by
      apply Nat.lt_of_not_le
      intro hle
      exact a4 (hc ▸ b2 hle)
    have := (nI_eq (by omega) (by omega)).mp (a3.symm.trans (b1 lt).2.1)
    omega
  intro r
  induction r with
  | zero =>
    intro hr hC hno
    rw [dI_0, dc_X13_versionAt_60, if_pos (by decide), dc_X13_versionAt_106, if_neg]
    · rfl
    · intro hlt
      have := fi_yes (fun i => wroteB K (nI y') (σ.2 2 i)) (σ.1 6) 0 (by omega)
      exact absurd (hno _ (Nat.zero_le _) hlt) (by rw [this]; decide)
  | succ r ih =>
    intro hr hC hno
    have eC : cn (fun j => decide (σ.2 2 j 2 = K 0)) r (σ.1 6 - r) = (if decide (σ.2 2 r 2 = K 0) = true then 1 else 0) + cn (fun j => decide (σ.2 2 j 2 = K 0)) (r + 1) (σ.1 6 - (r + 1)) := by
      rw [show σ.1 6 - r = (σ.1 6 - (r + 1)) + 1 by omega, cn_s]
    have eM : vMany (σ.2 2) (σ.1 6) r (K 0) = cn (fun j => decide (σ.2 2 j 2 = K 0)) (r + 1) (σ.1 6 - (r + 1)) := rfl
    have up : ∀ e, e < r + 1 → σ.2 2 e 2 = K 0 → vMany (σ.2 2) (σ.1 6) r (K 0) ≤ vMany (σ.2 2) (σ.1 6) e (K 0) := by
      intro e he _
      unfold vMany
      rw [show σ.1 6 - (e + 1) = (r - e) + (σ.1 6 - (r + 1)) by omega, cn_add, show e + 1 + (r - e) = r + 1 by omega]
      omega
    rw [eC] at ih
    rw [← eM] at hC ih ⊢
    rw [dI_s, dc_X13_versionAt_60, if_neg (nI_pos (by omega))]
    by_cases c1 : w - vMany (σ.2 2) (σ.1 6) r (K 0) < y'
    · rw [if_pos (nI_lt c1 (by omega)), dc_X13_versionAt_106, if_neg]
      · rfl
      · intro hlt
        have e1 := fi_yes (fun i => wroteB K (nI y') (σ.2 2 i)) (σ.1 6) 0 (by omega)
        obtain ⟨e2, e3⟩ := wr _ hlt e1
        by_cases c2 : fi (fun i => wroteB K (nI y') (σ.2 2 i)) 0 (σ.1 6) < r + 1
        · have := up _ c2 e2
          omega
        · exact absurd (hno _ (by omega) hlt) (by rw [show wroteB K (nI y') (σ.2 2 (fi (fun i => wroteB K (nI y') (σ.2 2 i)) 0 (σ.1 6))) = true from e1]; decide)
    · rw [if_neg (nI_nlt (by omega) (by omega)), mo_cls h.1, eC_s, show (2 : Int32) = nI 2 from rfl, mk_event h (by omega) (by omega), cI_s]
      by_cases c2 : σ.2 2 r 2 = K 0
      · rw [if_pos c2]
        obtain ⟨b1, b2⟩ := hv r (by omega) c2
        obtain ⟨b3, b4, b5⟩ := b1 (by omega)
        by_cases c3 : w - vMany (σ.2 2) (σ.1 6) r (K 0) = y'
        · rw [if_pos (by rw [c3]), mo_cls h.1, eC_s, show (3 : Int32) = nI 3 from rfl, mk_event h (by omega) (by omega), cI_s]
          have er : fi (fun i => wroteB K (nI y') (σ.2 2 i)) 0 (σ.1 6) = r := by
            refine fi_is (Nat.zero_le _) (by omega) (fun e _ he => ?_) fun _ => ?_
            · show wroteB K (nI y') (σ.2 2 e) = false
              rw [Bool.eq_false_iff]
              intro hh
              obtain ⟨d1, d2⟩ := wr e (by omega) hh
              have := vMany_lt (n := σ.1 6) he (by omega) c2
              omega
            · unfold wroteB
              rw [decide_eq_true b3, decide_eq_true c2, b4, c3, decide_eq_true rfl, hc, decide_eq_false (Int32.not_lt.mpr b5)]
              rfl
          rw [er, if_pos (by omega)]
        · rw [if_neg fun e => c3 ((nI_eq (by omega) (by omega)).mp e), dc_X13_versionAt_100, nI_neg1 (by omega), show w - vMany (σ.2 2) (σ.1 6) r (K 0) - 1 = w - ((if decide (σ.2 2 r 2 = K 0) = true then 1 else 0) + vMany (σ.2 2) (σ.1 6) r (K 0)) by rw [decide_eq_true c2, if_pos rfl]; omega, show nI r + -1 = dI r from nI_dI2]
          refine ih (by omega) (by rw [decide_eq_true c2, if_pos rfl]; omega) fun e e1 e2 => ?_
          by_cases c4 : e = r
          · subst c4
            rw [Bool.eq_false_iff]
            intro hh
            have := (wr e e2 hh).2
            omega
          · exact hno e (by omega) e2
      · rw [if_neg c2, dc_X13_versionAt_100, show nI r + -1 = dI r from nI_dI2]
        have e0 : (if decide (σ.2 2 r 2 = K 0) = true then 1 else 0) + vMany (σ.2 2) (σ.1 6) r (K 0) = vMany (σ.2 2) (σ.1 6) r (K 0) := by
          rw [decide_eq_false c2, if_neg Bool.false_ne_true, Nat.zero_add]
        rw [e0] at ih
        refine ih (by omega) hC fun e e1 e2 => ?_
        by_cases c4 : e = r
        · subst c4
          rw [Bool.eq_false_iff]
          intro hh
          exact c2 (wr e e2 hh).1
        · exact hno e (by omega) e2
theorem m_versionAt (h : MM B s m v F σ) (hI : IK σ.1 σ.2) (hs : srt (σ.2 0) (σ.1 3)) (h7 : σ.1 7 + σ.1 6 < 2 ^ 31) : MR s m v F (cl_ tb_ct tb_mt B K_X13_versionAt [.ref m, .int key, .int y] s) (if (bKey key && !decide (y < 1)) = true then 0 else 1) (if (bKey key && !decide (y < 1)) = true then .int (q_ver σ key y) else .int 0) (if (bKey key && !decide (y < 1)) = true then σ else σ) := by
  have e : cl_ tb_ct tb_mt B K_X13_versionAt [.ref m, .int key, .int y] s = rn_ tb_ct tb_mt B mm_X13_versionAt 18 [.ref m, .int key, .int y, am_un, am_un] [.int (if (bKey key && !decide (y < 1)) = true then 1 else 0), .ref m] s := by
    rw [in_X13_versionAt, dc_X13_versionAt_0, mi_isKey, cI_s, if_b]
    cases bKey key with
    | false => rw [if_neg (by decide), dc_X13_versionAt_17]; rfl
    | true =>
      rw [if_pos rfl]
      by_cases c : y < 1
      · rw [if_pos c, dc_X13_versionAt_17, decide_eq_true c]
        rfl
      · rw [if_neg c, decide_eq_false c]
        rfl
  rw [e, dc_X13_versionAt_18, mo_cls h.1, eC_s]
  refine mi_call h (fun ok => MR.in OV.of h.2.1 upd_k ?_) fun _ => rfl
  have h' := h.p4 (x := 0)
  have h6 := h.2.2.1.2.2.1
  rw [Bool.and_eq_true, Bool.not_eq_true', decide_eq_false_iff_not] at ok
  have hy : ¬ y < 0 := fun hc => ok.2 (Int32.lt_trans hc (by decide))
  obtain ⟨y', hy', rfl⟩ := nI_of hy
  have y1 : 1 ≤ y' := by
    apply Nat.le_of_not_lt
    intro hc
    exact ok.2 (nI_lt (b := 1) hc (by omega))
  rw [mo_cs, eC_s, mk_there h' hs, cI_s, if_p]
  unfold q_ver
  by_cases c : isK σ key
  · rw [if_pos c, if_pos c, mo_cs, eC_s, mk_place h', cI_s]
    obtain ⟨c1, c2⟩ := (pI_there (key := key) hs).mp c
    have ep := pF_of hs c1 c2
    obtain ⟨w, c0, w1, w2, w3, w4, w5, w6⟩ := (hI.2.1 (pI (σ.2 0) (σ.1 3) key) c1).2.2.2
    rw [mo_cs, eC_s, show (4 : Int32) = nI 4 from rfl, mk_keyAt h' c1 (by omega), cI_s, mo_0 h'.1, eA_s, show (6 : Int32) = nI 6 from rfl, h'.gz (by omega), eI_s, w1, nI_dI]
    have := m_va_lp (K := σ.2 0 (pI (σ.2 0) (σ.1 3) key)) h' (show w < 2 ^ 31 by omega) y1 hy' w6 w4 (σ.1 6) (Nat.le_refl _) (by rw [Nat.sub_self]; exact Nat.zero_le _) fun e a b => absurd a (by omega)
    rw [Nat.sub_self, show cn (fun j => decide (σ.2 2 j 2 = σ.2 0 (pI (σ.2 0) (σ.1 3) key) 0)) (σ.1 6) 0 = 0 from rfl, Nat.sub_zero, c2] at this
    rw [this]
    unfold q_vi
    rw [ep]
  · rw [if_neg c, if_neg c]
    rfl
end Mk
