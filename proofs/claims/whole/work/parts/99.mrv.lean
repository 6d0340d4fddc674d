/-! ===== the model: revert ===== -/
/-- two states say the same of a key -/
def AG (τ σ : stT) (x : Int32) : Prop := (isK τ x ↔ isK σ x) ∧ (isK σ x → τ.2 0 (pF (τ.2 0) (τ.1 3) x) = σ.2 0 (pF (σ.2 0) (σ.1 3) x))
section Rz
variable {σ τ τ' : stT} {i j n : Nat} {rv key val l x : Int32} {P : Nat × rowT} {p : (Nat → Int32) → Bool}
theorem AG.rf : AG σ σ x := ⟨Iff.rfl, fun _ => rfl⟩
theorem AG.tr (h : AG τ σ x) (h' : AG τ' τ x) : AG τ' σ x := ⟨h'.1.trans h.1, fun k => (h'.2 (h.1.mpr k)).trans (h.2 k)⟩
theorem AG.d (h : AG τ σ (P.2 i 0)) : dfr P τ i = dfr P σ i := by
  unfold dfr
  by_cases c : isK σ (P.2 i 0)
  · rw [decide_eq_true (show pF (σ.2 0) (σ.1 3) (P.2 i 0) < σ.1 3 from c), decide_eq_true (show pF (τ.2 0) (τ.1 3) (P.2 i 0) < τ.1 3 from h.1.mpr c), h.2 c]
  · rw [decide_eq_false (show ¬ pF (σ.2 0) (σ.1 3) (P.2 i 0) < σ.1 3 from c), decide_eq_false (show ¬ pF (τ.2 0) (τ.1 3) (P.2 i 0) < τ.1 3 from fun q => c (h.1.mp q))]
    rfl
theorem AG.wr (hs : srt (σ.2 0) (σ.1 3)) (hx : x ≠ key) : AG (p_wr σ.1 σ.2 rv key val l) σ x := ⟨isK_wr.trans ⟨fun h => h.resolve_right hx, Or.inl⟩, fun hk => wr_val hs hx hk⟩
theorem AG.de (hs : srt (σ.2 0) (σ.1 3)) (hi : i < σ.1 3) (hx : x ≠ σ.2 0 i 0) : AG (p_de σ.1 σ.2 rv i) σ x := by
  refine ⟨⟨fun h => ((isK_de hs hi).mp h).1, fun h => (isK_de hs hi).mpr ⟨h, hx⟩⟩, fun hk => ?_⟩
  have eq : σ.2 0 (pF (σ.2 0) (σ.1 3) x) 0 = x := pF_eq hk
  have hq : pF (σ.2 0) (σ.1 3) x < σ.1 3 := hk
  have hs' := srt_p_de (rv := rv) hs hi
  have ne : pF (σ.2 0) (σ.1 3) x ≠ i := fun e => hx (by rw [← eq, e])
  by_cases c : pF (σ.2 0) (σ.1 3) x < i
  · have e1 : (p_de σ.1 σ.2 rv i).2 0 (pF (σ.2 0) (σ.1 3) x) = σ.2 0 (pF (σ.2 0) (σ.1 3) x) := by
      rw [p_de_g0]
      exact if_neg (by omega)
    rw [pF_of hs' (show pF (σ.2 0) (σ.1 3) x < σ.1 3 - 1 by omega) (by rw [e1]; exact eq), e1]
  · have e1 : (p_de σ.1 σ.2 rv i).2 0 (pF (σ.2 0) (σ.1 3) x - 1) = σ.2 0 (pF (σ.2 0) (σ.1 3) x) := by
      rw [p_de_g0]
      unfold delR
      rw [if_pos (by omega), show pF (σ.2 0) (σ.1 3) x - 1 + 1 = pF (σ.2 0) (σ.1 3) x by omega]
    rw [pF_of hs' (show pF (σ.2 0) (σ.1 3) x - 1 < σ.1 3 - 1 by omega) (by rw [e1]; exact eq), e1]
theorem AG.df (hp : ∀ k, p k = true → x ≠ k 0) : ∀ n i σ, i + n = σ.1 3 → srt (σ.2 0) (σ.1 3) → AG (p_df p rv n i σ) σ x
  | 0, _, _, _, _ => AG.rf
  | n + 1, i, σ, hi, hs => by
    unfold p_df
    by_cases c : p (σ.2 0 i) = true
    · rw [if_pos c]
      exact (AG.de hs (by omega) (hp _ c)).tr (AG.df hp n i _ (by rw [p_de_3]; omega) (srt_p_de hs (by omega)))
    · rw [if_neg c]
      exact AG.df hp n (i + 1) σ (by omega) hs
theorem wu_6 (hP : srt P.2 P.1) : ∀ k i τ, i + k = P.1 → srt (τ.2 0) (τ.1 3) → (∀ j, i ≤ j → j < P.1 → AG τ σ (P.2 j 0)) → (p_wu P rv k i τ).1 6 = τ.1 6 + cn (dfr P σ) i k
  | 0, _, _, _, _, _ => rfl
  | k + 1, i, τ, hi, hs, h => by
    have ed : dfr P τ i = dfr P σ i := (h i (Nat.le_refl _) (by omega)).d
    show (p_wu P rv k (i + 1) (if dfr P τ i = true then p_wr τ.1 τ.2 rv (P.2 i 0) (P.2 i 1) 0 else τ)).1 6 = _
    rw [cn_s, ed]
    by_cases c : dfr P σ i = true
    · rw [if_pos c, if_pos c, wu_6 hP k (i + 1) _ (by omega) (srt_p_wr hs) fun j a b => (h j (by omega) b).tr (AG.wr hs fun e => absurd (hP i j (by omega) b) (by rw [e]; exact Int32.lt_irrefl)), p_wr_6]
      omega
    · rw [if_neg c, if_neg c, wu_6 hP k (i + 1) τ (by omega) hs fun j a b => h j (by omega) b]
      omega
end Rz
section Rv
variable {s s' : am_S} {B m i j n e c u q t r : Nat} {v v' : Nat → Int32} {F F' : mrT} {g g' h : Nat → Int32} {x y z k l key : Int32} {σ σ' τ : stT} {R : Nat → Int32} {a : Value} {P : Nat × rowT}
theorem PR.m1 (hP : PR v F P) : PR v (m1 F g) P := hP
theorem PR.mD (hP : PR v F P) : PR v (mD F g) P := hP
theorem mk_differs (h : MM B s m v F τ) (hP : PR v F P) (hs : srt (τ.2 0) (τ.1 3)) (hn : P.1 ≤ 28) (hi : i < P.1) : cl_ tb_ct tb_mt B K_X13_differs [.ref m, .int (nI i)] s = some (.inl (some (.int (if dfr P τ i = true then 1 else 0))), s) := by
  obtain ⟨p5, p6⟩ := hP.2 i hi
  rw [in_X13_differs, dc_X13_differs_0, mo_5 h.1, eA_s, mr_tk h.1 (by omega), eI_s, p5, mo_cls h.1, eC_s, mk_there h hs, cI_s, if_p]
  unfold dfr
  by_cases c : isK τ (P.2 i 0)
  · obtain ⟨c1, c2⟩ := (pI_there (key := P.2 i 0) hs).mp c
    have ep : pF (τ.2 0) (τ.1 3) (P.2 i 0) = pI (τ.2 0) (τ.1 3) (P.2 i 0) := pF_of hs c1 c2
    have e1 : cl_ tb_ct tb_mt B K_X13_keyAt [.ref m, .int (nI (pI (τ.2 0) (τ.1 3) (P.2 i 0))), .int 1] s = _ := mk_keyAt (w := 1) h c1 (by omega)
    rw [if_pos c, mo_5 h.1, eA_s, mr_tk h.1 (by omega), eI_s, p5, mo_cls h.1, eC_s, mk_place h, cI_s, mo_cls h.1, eC_s, e1, cI_s, mo_6 h.1, eA_s, mr_tv h.1 (by omega), eI_s, p6, decide_eq_true (show pF (τ.2 0) (τ.1 3) (P.2 i 0) < τ.1 3 from c), ep]
    by_cases d : τ.2 0 (pI (τ.2 0) (τ.1 3) (P.2 i 0)) 1 = P.2 i 1
    · rw [if_pos d, decide_eq_true d]
      rfl
    · rw [if_neg d, dc_X13_differs_37, decide_eq_false d]
      rfl
  · rw [if_neg c, dc_X13_differs_37, decide_eq_false (show ¬ pF (τ.2 0) (τ.1 3) (P.2 i 0) < τ.1 3 from c)]
    rfl
/-- which keys go: those that were not there then -/
theorem rev_pick (hz : SZ σ) (hn : P.1 ≤ 28) (hv : ∀ i, i < P.1 → vOk (P.2 i 1)) : ∀ k i c s F w1 w2 w3, i + k = σ.1 3 → c ≤ i → MM B s m v F σ → PR v F P → ∃ F', rn_ tb_ct tb_mt B mm_X13_revert 44 [.ref m, w1, w2, w3, .int (nI c), .int (nI i), am_un] [] s = rn_ tb_ct tb_mt B mm_X13_revert 100 [.ref m, am_un, am_un, am_un, .int (nI (c + (dlk (notIn P) (σ.2 0) k i).length)), .int (nI 0), .int (nI 0)] [] (moS s m v F') ∧ (∀ a, a ≠ 10 → F' a = F a) ∧ (∀ j, j < c → F' 10 j = F 10 j) ∧ ∀ j, j < (dlk (notIn P) (σ.2 0) k i).length → F' 10 (c + j) = (dlk (notIn P) (σ.2 0) k i).getD j 0 := by
  have h3 := hz.1
  intro k
  induction k with
  | zero =>
    intro i c s F w1 w2 w3 hi hc h hP
    refine ⟨F, ?_, fun _ _ => rfl, fun _ _ => rfl, fun j hj => absurd hj (Nat.not_lt_zero _)⟩
    rw [dc_X13_revert_44, mo_0 h.1, eA_s, show (3 : Int32) = nI 3 from rfl, h.gz (by omega), eI_s, if_pos (nI_le (by omega) (by omega)), mo_self h.1]
    rfl
  | succ k ih =>
    intro i c s F w1 w2 w3 hi hc h hP
    have hB := h.2.2.2
    have e0 : cl_ tb_ct tb_mt B K_X13_keyAt [.ref m, .int (nI i), .int (0 : Int32)] s = some (.inl (some (.int (σ.2 0 i 0))), s) := mk_keyAt (w := 0) h (by omega) (by omega)
    have hq : q_then P (σ.2 0 i 0) = -(2000000000 : Int32) ↔ notIn P (σ.2 0 i) = true := by
      unfold q_then notIn
      by_cases d : pF P.2 P.1 (σ.2 0 i 0) < P.1
      · rw [if_pos d, decide_eq_true d]
        exact ⟨fun hc => absurd hc (vOk_ne (hv _ d)), fun hc => absurd hc (by decide)⟩
      · rw [if_neg d, decide_eq_false d]
        exact ⟨fun _ => rfl, fun _ => rfl⟩
    have st : rn_ tb_ct tb_mt B mm_X13_revert 44 [.ref m, w1, w2, w3, .int (nI c), .int (nI i), am_un] [] s = if q_then P (σ.2 0 i 0) = -(2000000000 : Int32) then rn_ tb_ct tb_mt B mm_X13_revert 44 [.ref m, am_un, am_un, am_un, .int (nI (c + 1)), .int (nI (i + 1)), am_un] [] (moS s m v (mup F 10 c (σ.2 0 i 0))) else rn_ tb_ct tb_mt B mm_X13_revert 44 [.ref m, am_un, am_un, am_un, .int (nI c), .int (nI (i + 1)), am_un] [] s := by
      rw [dc_X13_revert_44, mo_0 h.1, eA_s, show (3 : Int32) = nI 3 from rfl, h.gz (by omega), eI_s, if_neg (nI_ge (by omega) (by omega)), mo_cls h.1, eC_s, e0, cI_s, mo_cls h.1, eC_s, mk_valueThen h.1 hP hn, cI_s, mo_19 h.1, eA_s, mo_cls h.1, eC_s, e0, cI_s, mw_d h.1 hB (by omega), eS_s, dc_X13_revert_88, dc_X13_revert_88, nI_1, nI_1]
    rw [st]
    unfold dlk
    by_cases d : notIn P (σ.2 0 i) = true
    · rw [if_pos (hq.mpr d), if_pos d, List.length_cons]
      have h1 : MM B (moS s m v (mup F 10 c (σ.2 0 i 0))) m v (mup F 10 c (σ.2 0 i 0)) σ := ⟨OV.of, by rw [mup_n (by omega)]; exact h.2.1, h.2.2⟩
      have hP1 : PR v (mup F 10 c (σ.2 0 i 0)) P := ⟨hP.1, fun j hj => by
        rw [mup_n (by omega), mup_n (by omega)]
        exact hP.2 j hj⟩
      obtain ⟨F', e, r1, r2, r3⟩ := ih (i + 1) (c + 1) _ _ am_un am_un am_un (by omega) (by omega) h1 hP1
      rw [mo_idem] at e
      refine ⟨F', ?_, fun a ha => (r1 a ha).trans (mup_n ha), fun j hj => ?_, fun j hj => ?_⟩
      · rw [e, show c + 1 + (dlk (notIn P) (σ.2 0) k (i + 1)).length = c + ((dlk (notIn P) (σ.2 0) k (i + 1)).length + 1) by omega]
      · rw [r2 j (by omega), mup_s, upd_n (by omega)]
      · rcases j with _ | j
        · show F' 10 c = σ.2 0 i 0
          rw [r2 c (by omega), mup_s, upd_k]
        · rw [show c + (j + 1) = c + 1 + j by omega, r3 j (by omega)]
          rfl
    · rw [if_neg (fun hc => d (hq.mp hc)), if_neg d]
      exact ih (i + 1) c s F am_un am_un am_un (by omega) (by omega) h hP
/-- how many are written -/
theorem rev_count (h : MM B s m v F σ) (hs : srt (σ.2 0) (σ.1 3)) (hP : PR v F P) (hn : P.1 ≤ 28) : ∀ r i c, i + r = P.1 → rn_ tb_ct tb_mt B mm_X13_revert 100 [.ref m, am_un, am_un, am_un, .int x, .int (nI c), .int (nI i)] [] s = rn_ tb_ct tb_mt B mm_X13_revert 100 [.ref m, am_un, am_un, am_un, .int x, .int (nI (c + cn (dfr P σ) i r)), .int (nI P.1)] [] s := by
  intro r
  induction r with
  | zero =>
    intro i c hi
    rw [show i = P.1 by omega]
    rfl
  | succ r ih =>
    intro i c hi
    rw [dc_X13_revert_100, mo_7 h.1, eI_s, hP.1, if_neg (nI_ge (by omega) (by omega)), mo_cls h.1, eC_s, mk_differs h hP hs hn (by omega), cI_s, if_b, cn_s]
    cases dfr P σ i with
    | true => rw [if_pos rfl, dc_X13_revert_125, nI_1, nI_1, ih (i + 1) (c + 1) (by omega), if_pos rfl, Nat.add_assoc]
    | false => rw [if_neg (by decide), dc_X13_revert_125, Int32.add_zero, nI_1, ih (i + 1) c (by omega), if_neg (by decide), Nat.zero_add]
/-- the picked keys are deleted -/
theorem rev_del {p : (Nat → Int32) → Bool} (hB : B ≤ m) {tot : Nat} (htot : tot ≤ 24) : ∀ k i c (σ : stT) g, i + k = σ.1 3 → FR g σ → SZ σ → srt (σ.2 0) (σ.1 3) → σ.1 6 + k ≤ 152 → c + (dlk p (σ.2 0) k i).length = tot → (∀ j, j < (dlk p (σ.2 0) k i).length → h (c + j) = (dlk p (σ.2 0) k i).getD j 0) → ∃ g', rn_ tb_ct tb_mt B mm_X13_revert 157 [.ref m, am_un, am_un, am_un, .int (nI tot), .int x, .int (nI c)] [] (moS s m v (m1 (mD F h) g)) = rn_ tb_ct tb_mt B mm_X13_revert 157 [.ref m, am_un, am_un, am_un, .int (nI tot), .int x, .int (nI tot)] [] (moS s m v (m1 (mD F h) g')) ∧ FR g' (p_df p (nI (σ.1 0)) k i σ) := by
  intro k
  induction k with
  | zero =>
    intro i c σ g hi hf hz hs h6 hc hh
    have : c = tot := hc
    subst this
    exact ⟨g, rfl, hf⟩
  | succ k ih =>
    intro i c σ g hi hf hz hs h6 hc hh
    unfold dlk at hc hh
    unfold p_df
    by_cases d : p (σ.2 0 i) = true
    · rw [if_pos d] at hc hh ⊢
      rw [List.length_cons] at hc hh
      have h0 : h c = σ.2 0 i 0 := hh 0 (by omega)
      have hz3 := hz.1
      obtain ⟨g1, e1, f1⟩ := mk_deletes (s := s) (v := v) (F := mD F h) (key := σ.2 0 i 0) (p := i) hB hf hz hs (by omega) (by omega) rfl
      have hz1 : SZ (p_de σ.1 σ.2 (nI (σ.1 0)) i) := ⟨show σ.1 3 - 1 ≤ 22 by omega, hz.2.1, show σ.1 6 + 1 ≤ 152 by omega, hz.2.2.2⟩
      have el : dlk p ((p_de σ.1 σ.2 (nI (σ.1 0)) i).2 0) k i = dlk p (σ.2 0) k (i + 1) := dlk_cg k (i + 1) i fun j hj => by
        show delR (σ.2 0) i (σ.1 3) (i + j) = _
        unfold delR
        rw [if_pos (by omega), show i + 1 + j = i + j + 1 by omega]
      obtain ⟨g2, e2, f2⟩ := ih i (c + 1) (p_de σ.1 σ.2 (nI (σ.1 0)) i) g1 (show i + k = σ.1 3 - 1 by omega) f1 hz1 (srt_p_de hs (by omega)) (show σ.1 6 + 1 + k ≤ 152 by omega) (by rw [el]; omega) (fun j hj => by
        rw [el] at hj ⊢
        have := hh (j + 1) (by omega)
        rw [show c + 1 + j = c + (j + 1) by omega, this]
        rfl)
      refine ⟨g2, ?_, f2⟩
      rw [dc_X13_revert_157, if_neg (nI_ge (by omega) (by omega)), show gA tb_ct (moS s m v (m1 (mD F h) g)) m 11 19 = some (some (m + 10)) from mo_19 OV.of, eA_s, show aI (moS s m v (m1 (mD F h) g)) (m + 10) (nI c) = some (h c) from mr_d (v := v) (F := m1 (mD F h) g) OV.of (by omega), eI_s, h0, mo_cs, eC_s, e1, cV_s, nI_1]
      exact e2
    · rw [if_neg d] at hc hh ⊢
      exact ih (i + 1) c σ g (by omega) hf hz hs (by omega) hc hh
/-- the laid keys are written -/
theorem rev_wu (hB : B ≤ m) (hP : PR v F P) (hn : P.1 ≤ 28) : ∀ k i (τ : stT) g, i + k = P.1 → FR g τ → SZ τ → srt (τ.2 0) (τ.1 3) → τ.1 6 + k ≤ 152 → (∀ j, j ≤ k → (p_wu P (nI (τ.1 0)) j i τ).1 3 ≤ 22) → ∃ g', rn_ tb_ct tb_mt B mm_X13_revert 184 [.ref m, am_un, am_un, am_un, .int x, .int y, .int (nI i)] [] (moS s m v (m1 F g)) = rn_ tb_ct tb_mt B mm_X13_revert 184 [.ref m, am_un, am_un, am_un, .int x, .int y, .int (nI P.1)] [] (moS s m v (m1 F g')) ∧ FR g' (p_wu P (nI (τ.1 0)) k i τ) := by
  intro k
  induction k with
  | zero =>
    intro i τ g hi hf hz hs h6 hb
    exact ⟨g, by rw [show i = P.1 by omega], hf⟩
  | succ k ih =>
    intro i τ g hi hf hz hs h6 hb
    have hM : MM B (moS s m v (m1 F g)) m v (m1 F g) τ := MM.st hB hf hz
    have hP1 : PR v (m1 F g) P := hP.m1
    obtain ⟨p5, p6⟩ := hP.2 i (by omega)
    have hb1 := hb 1 (by omega)
    have eb : ∀ j, p_wu P (nI (τ.1 0)) (j + 1) i τ = p_wu P (nI (τ.1 0)) j (i + 1) (if dfr P τ i = true then p_wr τ.1 τ.2 (nI (τ.1 0)) (P.2 i 0) (P.2 i 1) 0 else τ) := fun _ => rfl
    rw [eb 0] at hb1
    rw [dc_X13_revert_184, show gI tb_ct (moS s m v (m1 F g)) m 11 7 = some (v 7) from mo_7 OV.of, eI_s, hP.1, if_neg (nI_ge (by omega) (by omega)), mo_cs, eC_s, mk_differs hM hP1 hs hn (by omega), cI_s, if_b, eb k]
    by_cases c : dfr P τ i = true
    · rw [if_pos c] at hb1
      rw [if_pos c, if_pos c, show gA tb_ct (moS s m v (m1 F g)) m 11 5 = some (some (m + 5)) from mo_5 OV.of, eA_s, show aI (moS s m v (m1 F g)) (m + 5) (nI i) = some (F 5 i) from mr_tk (v := v) (F := m1 F g) OV.of (by omega), eI_s, show gA tb_ct (moS s m v (m1 F g)) m 11 6 = some (some (m + 6)) from mo_6 OV.of, eA_s, show aI (moS s m v (m1 F g)) (m + 6) (nI i) = some (F 6 i) from mr_tv (v := v) (F := m1 F g) OV.of (by omega), eI_s, p5, p6, mo_cs, eC_s]
      have hb2 : (p_wr τ.1 τ.2 (nI (τ.1 0)) (P.2 i 0) (P.2 i 1) 0).1 3 ≤ 22 := hb1
      obtain ⟨g1, w1, f1⟩ := mk_writes (s := s) (v := v) (F := F) (key := P.2 i 0) (val := P.2 i 1) (l := 0) hB hf hz hs (by omega) (fun hk => by
        rw [p_wr_3, if_neg hk] at hb2
        omega)
      have k0 : (p_wr τ.1 τ.2 (nI (τ.1 0)) (P.2 i 0) (P.2 i 1) 0).1 0 = τ.1 0 := p_wr_k (by omega) (by omega)
      have k12 : (p_wr τ.1 τ.2 (nI (τ.1 0)) (P.2 i 0) (P.2 i 1) 0).1 12 = τ.1 12 := p_wr_k (by omega) (by omega)
      have z1 : SZ (p_wr τ.1 τ.2 (nI (τ.1 0)) (P.2 i 0) (P.2 i 1) 0) := hz.kp Kp.wr hb2 (by rw [k12]; exact hz.2.1) (by rw [p_wr_6]; omega)
      obtain ⟨g', a1, a2⟩ := ih (i + 1) (p_wr τ.1 τ.2 (nI (τ.1 0)) (P.2 i 0) (P.2 i 1) 0) g1 (by omega) f1 z1 (srt_p_wr hs) (by rw [p_wr_6]; omega) (fun j hj => by
        have := hb (j + 1) (by omega)
        rw [eb j, if_pos c] at this
        rw [k0]
        exact this)
      rw [k0] at a2
      refine ⟨g', ?_, a2⟩
      rw [w1, cV_s, dc_X13_revert_221, nI_1, a1]
    · rw [if_neg c, if_neg c, dc_X13_revert_221, nI_1]
      exact ih (i + 1) τ g (by omega) hf hz hs (by omega) (fun j hj => by
        have := hb (j + 1) (by omega)
        rw [eb j, if_neg c] at this
        exact this)
theorem m_revert (h : MM B s m v F σ) (hA : IA u σ) (hu : u + 1 < 2 ^ 25) : MR s m v F (cl_ tb_ct tb_mt B K_X13_revert [.ref m, .int y] s) (if (!decide (y < 1)) = true then 0 else 1) (if (!decide (y < 1)) = true then .int (p_revert σ y).1 else .int 0) (if (!decide (y < 1)) = true then (p_revert σ y).2 else σ) := by
  have e : cl_ tb_ct tb_mt B K_X13_revert [.ref m, .int y] s = rn_ tb_ct tb_mt B mm_X13_revert 11 [.ref m, .int y, am_un, am_un, am_un, am_un, am_un] [.int (if (!decide (y < 1)) = true then 1 else 0), .ref m] s := by
    rw [in_X13_revert, dc_X13_revert_0]
    by_cases c : y < 1
    · rw [if_pos c, decide_eq_true c]
      rfl
    · rw [if_neg c, decide_eq_false c]
      rfl
  rw [e, dc_X13_revert_11, mo_cls h.1, eC_s]
  refine mi_call h (fun ok => ?_) fun _ => rfl
  have h' := h.p4 (x := 0)
  have hB := h.2.2.2
  obtain ⟨r1, r2, r3, r4, r5⟩ := hA.rows
  rw [mo_cs, eC_s, mk_why h', cI_s]
  unfold p_revert
  by_cases c : whyN (σ.1 0) (σ.1 1) y = 0
  · obtain ⟨t1, t2, t3⟩ := p_then_ok hA y
    obtain ⟨v1, F1, e1, hP, hk⟩ := mk_lays (x := y) h' hA.1.hok
    obtain ⟨i1, i2, i3, i4, i5⟩ := IC.rvt hA (by omega) y
    have f1 : FR (F1 1) σ := by rw [hk.1 1 (by omega) (by omega)]; exact h.2.1
    have hM1 : MM B (moS (moS s m (upd v 4 0) F) m v1 F1) m v1 F1 σ := ⟨OV.of, f1, h.2.2⟩
    obtain ⟨F2, e2, s1, s2, s3⟩ := rev_pick (P := p_then σ y) h.2.2.1 (by omega) (fun i hi => (t3 i hi).2) (σ.1 3) 0 0 _ F1 (.int y) (.int (0 : Int32)) (.int (nI (p_many σ.1 σ.2 y))) (Nat.zero_add _) (Nat.le_refl _) hM1 hP
    have el : (dlk (notIn (p_then σ y)) (σ.2 0) (σ.1 3) 0).length = dfn (notIn (p_then σ y)) σ 0 (σ.1 3) := dlk_len _ _
    have hle : dfn (notIn (p_then σ y)) σ 0 (σ.1 3) ≤ σ.1 3 := cn_le _ _ _
    have hcw : cn (dfr (p_then σ y) σ) 0 (p_then σ y).1 ≤ (p_then σ y).1 := cn_le _ _ _
    rw [show moS (moS (moS s m (upd v 4 0) F) m v1 F1) m v1 F2 = moS (moS s m (upd v 4 0) F) m v1 F2 from mo_idem, Nat.zero_add, el, nI_0] at e2
    have f2 : FR (F2 1) σ := by rw [s1 1 (by omega)]; exact f1
    have hM2 : MM B (moS (moS s m (upd v 4 0) F) m v1 F2) m v1 F2 σ := ⟨OV.of, f2, h.2.2⟩
    have hP2 : PR v1 F2 (p_then σ y) := ⟨hP.1, fun i hi => by rw [s1 5 (by omega), s1 6 (by omega)]; exact hP.2 i hi⟩
    have ks : KS (upd v 4 0) v1 F F2 := (hk.kt.ks).tr (KS.of10 s1)
    have e3 := rev_count (x := nI (dfn (notIn (p_then σ y)) σ 0 (σ.1 3))) hM2 r3 hP2 (by omega) (p_then σ y).1 0 0 (Nat.zero_add _)
    rw [nI_0, Nat.zero_add] at e3
    have h30 : 0 + σ.1 3 = (bg σ.1, σ.2).1 3 := by rw [Nat.zero_add]; rfl
    obtain ⟨d1, d2⟩ := p_df_6 (p := notIn (p_then σ y)) (rv := nI (σ.1 0 + 1)) (σ.1 3) 0 (bg σ.1, σ.2) h30
    obtain ⟨d3, d4⟩ := p_df_none (p := notIn (p_then σ y)) (rv := nI (σ.1 0 + 1)) (σ.1 3) 0 (bg σ.1, σ.2) h30 r3 fun j hj => absurd hj (Nat.not_lt_zero _)
    have hag : ∀ j, 0 ≤ j → j < (p_then σ y).1 → AG (p_df (notIn (p_then σ y)) (nI (σ.1 0 + 1)) (σ.1 3) 0 (bg σ.1, σ.2)) σ ((p_then σ y).2 j 0) := fun j _ hj => by
      have a1 : AG (p_df (notIn (p_then σ y)) (nI (σ.1 0 + 1)) (σ.1 3) 0 (bg σ.1, σ.2)) (bg σ.1, σ.2) ((p_then σ y).2 j 0) := AG.df (fun k hk => by
        unfold notIn at hk
        rw [Bool.not_eq_true', decide_eq_false_iff_not] at hk
        intro e
        apply hk
        rw [← e, pF_of t1 hj rfl]
        exact hj) (σ.1 3) 0 (bg σ.1, σ.2) h30 r3
      exact a1
    have e6 : (p_rv σ y).1 6 = σ.1 6 + dfn (notIn (p_then σ y)) σ 0 (σ.1 3) + cn (dfr (p_then σ y) σ) 0 (p_then σ y).1 := by
      have := wu_6 (rv := nI (σ.1 0 + 1)) t1 (p_then σ y).1 0 _ (Nat.zero_add _) d4 hag
      rw [d1] at this
      exact this
    rw [if_pos c, if_pos c, mo_cs, eC_s, e1, cI_s, c]
    have d1' : (p_df (notIn (p_then σ y)) (nI (σ.1 0 + 1)) (σ.1 3) 0 (bg σ.1, σ.2)).1 6 = σ.1 6 + dfn (notIn (p_then σ y)) σ 0 (σ.1 3) := d1
    have d2' : (p_df (notIn (p_then σ y)) (nI (σ.1 0 + 1)) (σ.1 3) 0 (bg σ.1, σ.2)).1 3 + dfn (notIn (p_then σ y)) σ 0 (σ.1 3) = σ.1 3 := d2
    rw [e2, e3, dc_X13_revert_100, mo_7 hM2.1, eI_s, hP2.1, if_pos (nI_le (Nat.le_refl _) (by omega)), nI_add]
    by_cases z : dfn (notIn (p_then σ y)) σ 0 (σ.1 3) + cn (dfr (p_then σ y) σ) 0 (p_then σ y).1 = 0
    · rw [if_pos (show nI (dfn (notIn (p_then σ y)) σ 0 (σ.1 3) + cn (dfr (p_then σ y) σ) 0 (p_then σ y).1) = 0 by rw [z]; rfl), if_pos (show (p_rv σ y).1 6 = σ.1 6 by omega)]
      exact MR.ks ks f2 upd_k rfl
    · have hD : mD F2 (F2 10) = F2 := by
        funext a
        unfold mD
        by_cases c10 : a = 10
        · rw [if_pos c10, c10]
        · rw [if_neg c10]
      have f3 : FR (upd (F2 1) 0 (nI (σ.1 0 + 1))) (bg σ.1, σ.2) := f2.num h.2.2.1 (by omega) (fun j hj => upd_n hj) upd_k
      obtain ⟨g4, e4, f4⟩ := rev_del (s := moS (moS s m (upd v 4 0) F) m v1 F2) (v := v1) (F := F2) (h := F2 10) (p := notIn (p_then σ y)) (tot := dfn (notIn (p_then σ y)) σ 0 (σ.1 3)) (x := nI (cn (dfr (p_then σ y) σ) 0 (p_then σ y).1)) hB (by omega) (σ.1 3) 0 0 (bg σ.1, σ.2) _ h30 f3 h.2.2.1 r3 (show σ.1 6 + σ.1 3 ≤ 152 by omega) ((Nat.zero_add _).trans el) (fun j hj => s3 j hj)
      rw [hD, nI_0] at e4
      have f4' : FR g4 (p_df (notIn (p_then σ y)) (nI (σ.1 0 + 1)) (σ.1 3) 0 (bg σ.1, σ.2)) := f4
      have k0 : (p_df (notIn (p_then σ y)) (nI (σ.1 0 + 1)) (σ.1 3) 0 (bg σ.1, σ.2)).1 0 = σ.1 0 + 1 := p_df_k (by omega) (by omega) _ _ _
      have k12 : (p_df (notIn (p_then σ y)) (nI (σ.1 0 + 1)) (σ.1 3) 0 (bg σ.1, σ.2)).1 12 = σ.1 12 := p_df_k (by omega) (by omega) _ _ _
      have z4 : SZ (p_df (notIn (p_then σ y)) (nI (σ.1 0 + 1)) (σ.1 3) 0 (bg σ.1, σ.2)) := h.2.2.1.kp (Kp.bg.tr Kp.df) (by omega) (by rw [k12]; exact h.2.2.1.2.1) (by omega)
      obtain ⟨g5, e5, f5⟩ := rev_wu (s := moS (moS s m (upd v 4 0) F) m v1 F2) (v := v1) (F := F2) (x := nI (dfn (notIn (p_then σ y)) σ 0 (σ.1 3))) (y := nI (cn (dfr (p_then σ y) σ) 0 (p_then σ y).1)) hB hP2 (by omega) (p_then σ y).1 0 _ g4 (Nat.zero_add _) f4' z4 d4 (by omega) (fun j hj => by
        rw [k0]
        exact Nat.le_trans (i2 j hj) (by omega))
      rw [k0] at f5
      rw [nI_0] at e5
      have f5' : FR g5 (p_rv σ y) := f5
      have q0 : (p_rv σ y).1 12 = σ.1 12 := (p_wu_k (by omega) (by omega) _ _ _).trans k12
      have q7 : (p_rv σ y).1 7 = σ.1 7 := (p_wu_k (by omega) (by omega) _ _ _).trans (p_df_k (by omega) (by omega) _ _ _)
      have q3 : (p_rv σ y).1 3 ≤ 16 := i2 _ (Nat.le_refl _)
      have z5 : SZ (p_rv σ y) := h.2.2.1.kp (Kp.bg.tr (Kp.df.tr Kp.wu)) (by omega) (by rw [q0]; exact h.2.2.1.2.1) (by omega)
      have hM5 : MM B (moS (moS (moS s m (upd v 4 0) F) m v1 F2) m v1 (m1 F2 g5)) m v1 (m1 F2 g5) (p_rv σ y) := MM.st hB f5' z5
      obtain ⟨v6, F6, e7, f7, t7⟩ := mk_done hM5 i1 q3 (by omega)
      rw [if_neg (show ¬ nI (dfn (notIn (p_then σ y)) σ 0 (σ.1 3) + cn (dfr (p_then σ y) σ) 0 (p_then σ y).1) = 0 from fun hc => z ((nI_eq (b := 0) (by omega) (by omega)).mp hc)), if_neg (show ¬ (p_rv σ y).1 6 = σ.1 6 by omega), mo_0 hM2.1, eA_s, hM2.gz0, eI_s, nI_1, mw1z hM2.1 hB, eS_s, e4, dc_X13_revert_157, if_pos (nI_le (Nat.le_refl _) (by omega)), e5, dc_X13_revert_184, show gI tb_ct (moS (moS (moS s m (upd v 4 0) F) m v1 F2) m v1 (m1 F2 g5)) m 11 7 = some (v1 7) from mo_7 OV.of, eI_s, hP2.1, if_pos (nI_le (Nat.le_refl _) (by omega)), mo_cs, eC_s, e7, cV_s, nI_add, mo_idem, mo_idem, show dfn (notIn (p_then σ y)) σ 0 (σ.1 3) + cn (dfr (p_then σ y) σ) 0 (p_then σ y).1 = (p_rv σ y).1 6 - σ.1 6 by omega]
      exact MR.ks (ks.tr (KT.tr KT.of t7).ks) f7 upd_k rfl
  · rw [if_neg c, if_neg c]
    exact MR.in h'.1 h'.2.1 upd_k rfl
end Rv
