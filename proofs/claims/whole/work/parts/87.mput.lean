/-! ===== the model: put, delete ===== -/
/-- the keys that p picks -/
def dlk (p : (Nat → Int32) → Bool) (K : rowT) : Nat → Nat → List Int32
  | 0, _ => []
  | n + 1, i => if p (K i) = true then K i 0 :: dlk p K n (i + 1) else dlk p K n (i + 1)
def mD (F : mrT) (h : Nat → Int32) : mrT := fun a => if a = 10 then h else F a
section Mp
variable {s s' : am_S} {B m i j n e c u : Nat} {v v' v'' : Nat → Int32} {F F' F'' : mrT} {g g' h : Nat → Int32} {x y z f t key val l : Int32} {σ σ' : stT} {p : (Nat → Int32) → Bool} {R : am_R} {K K' : rowT} {a : Value}
theorem dlk_len : ∀ n i, (dlk p K n i).length = cn (fun j => p (K j)) i n
  | 0, _ => rfl
  | n + 1, i => by
    unfold dlk
    rw [cn_s]
    by_cases c : p (K i) = true
    · rw [if_pos c, if_pos c, List.length_cons, dlk_len n (i + 1), Nat.add_comm]
    · rw [if_neg c, if_neg c, dlk_len n (i + 1), Nat.zero_add]
theorem dlk_cg : ∀ n i i', (∀ j, j < n → K' (i' + j) = K (i + j)) → dlk p K' n i' = dlk p K n i
  | 0, _, _, _ => rfl
  | n + 1, i, i', h => by
    unfold dlk
    rw [show K' i' = K i from h 0 (by omega), dlk_cg n (i + 1) (i' + 1) fun j hj => by
      rw [show i' + 1 + j = i' + (j + 1) by omega, show i + 1 + j = i + (j + 1) by omega]
      exact h (j + 1) (by omega)]
theorem MR.kt (hk : KT v v' F F') (hf : FR (F' 1) σ') (h4 : v 4 = x) (e : R = some (.inl (some a), moS s m v' F')) : MR s m v F R x a σ' := ⟨_, v', F', e, so_ov, OV.of, hf, hk.km, (hk.2 4 (by omega)).trans h4⟩
theorem MR.k1 (hf : FR g σ') (h4 : v 4 = x) (e : R = some (.inl (some a), moS s m v (m1 F g))) : MR s m v F R x a σ' := MR.kt KT.of hf h4 e
theorem wl_d (hB : B ≤ m) (hj : j < 24) : wI B (moS s m v F) (m + 10) (nI j) x = some (moS s m v (mup F 10 j x)) := by
  rw [mw_d (OV.of : MO (moS s m v F) m v F) hB hj, mo_idem]
theorem m1_mD : m1 (mD F h) g 10 = h := rfl
/-- the picked keys are deleted, one by one -/
theorem del_lp (hB : B ≤ m) {tot : Nat} (htot : tot ≤ 24) : ∀ k i c (σ : stT) g, i + k = σ.1 3 → FR g σ → SZ σ → srt (σ.2 0) (σ.1 3) → σ.1 6 + k ≤ 152 → c + (dlk p (σ.2 0) k i).length = tot → (∀ j, j < (dlk p (σ.2 0) k i).length → h (c + j) = (dlk p (σ.2 0) k i).getD j 0) → ∃ g', rn_ tb_ct tb_mt B mm_X13_deletesAll 16 [.ref m, .int (nI tot), .int (nI c)] [] (moS s m v (m1 (mD F h) g)) = rn_ tb_ct tb_mt B mm_X13_deletesAll 16 [.ref m, .int (nI tot), .int (nI tot)] [] (moS s m v (m1 (mD F h) g')) ∧ FR g' (p_df p (nI (σ.1 0)) k i σ) := by
  intro k
  induction k with
  | zero =>
    intro i c σ g hi hf hz hs h6 hc hh
    have : c = tot := hc
    subst this
    exact ⟨g, rfl, hf⟩
  | succ k ih =>
    intro i c σ g hi hf hz hs h6 hc hh
    unfold dlk at hc hh
    unfold p_df
    by_cases d : p (σ.2 0 i) = true
    · rw [if_pos d] at hc hh ⊢
      rw [List.length_cons] at hc hh
      have h0 : h c = σ.2 0 i 0 := hh 0 (by omega)
      have hz3 := hz.1
      obtain ⟨g1, e1, f1⟩ := mk_deletes (s := s) (v := v) (F := mD F h) (key := σ.2 0 i 0) (p := i) hB hf hz hs (by omega) (by omega) rfl
      have hz1 : SZ (p_de σ.1 σ.2 (nI (σ.1 0)) i) := ⟨show σ.1 3 - 1 ≤ 22 by omega, hz.2.1, show σ.1 6 + 1 ≤ 152 by omega, hz.2.2.2⟩
      have el : dlk p ((p_de σ.1 σ.2 (nI (σ.1 0)) i).2 0) k i = dlk p (σ.2 0) k (i + 1) := dlk_cg k (i + 1) i fun j hj => by
        show delR (σ.2 0) i (σ.1 3) (i + j) = _
        unfold delR
        rw [if_pos (by omega), show i + 1 + j = i + j + 1 by omega]
      obtain ⟨g2, e2, f2⟩ := ih i (c + 1) (p_de σ.1 σ.2 (nI (σ.1 0)) i) g1 (show i + k = σ.1 3 - 1 by omega) f1 hz1 (srt_p_de hs (by omega)) (show σ.1 6 + 1 + k ≤ 152 by omega) (by rw [el]; omega) (fun j hj => by
        rw [el] at hj ⊢
        have := hh (j + 1) (by omega)
        rw [show c + 1 + j = c + (j + 1) by omega, this]
        rfl)
      refine ⟨g2, ?_, f2⟩
      rw [dc_X13_deletesAll_16, if_neg (nI_ge (by omega) (by omega)), show gA tb_ct (moS s m v (m1 (mD F h) g)) m 11 19 = some (some (m + 10)) from mo_19 OV.of, eA_s, show aI (moS s m v (m1 (mD F h) g)) (m + 10) (nI c) = some (h c) from mr_d (v := v) (F := m1 (mD F h) g) OV.of (by omega), eI_s, h0, mo_cs, eC_s, e1, cV_s, nI_1]
      exact e2
    · rw [if_neg d] at hc hh ⊢
      exact ih (i + 1) c σ g (by omega) hf hz hs (by omega) hc hh
theorem mk_deletesAll (h : MM B s m v F σ) (hA : IA u σ) (hu : u + 1 < 2 ^ 25) (hh : ∀ j, j < dfn p σ 0 (σ.1 3) → F 10 j = (dlk p (σ.2 0) (σ.1 3) 0).getD j 0) : ∃ v' F', cl_ tb_ct tb_mt B K_X13_deletesAll [.ref m, .int (nI (dfn p σ 0 (σ.1 3)))] s = some (.inl (some (.int (nI (dfn p σ 0 (σ.1 3))))), moS s m v' F') ∧ FR (F' 1) (p_del p σ) ∧ KT v v' F F' := by
  obtain ⟨hM, hf, hz, hB⟩ := id h
  obtain ⟨r1, r2, r3, r4, r5⟩ := hA.rows
  have hle : dfn p σ 0 (σ.1 3) ≤ σ.1 3 := cn_le _ _ _
  unfold p_del
  rw [in_X13_deletesAll, dc_X13_deletesAll_0]
  by_cases c : dfn p σ 0 (σ.1 3) = 0
  · rw [if_pos c, c, if_pos (show nI 0 ≤ 0 by decide +kernel), dc_X13_deletesAll_14, dc_X13_deletesAll_16, if_pos (show nI 0 ≤ 0 by decide +kernel), mo_cls hM, eC_s]
    refine ⟨v, F, ?_, hf, KT.rf⟩
    rw [in_X13_settles, dc_X13_settles_0, mo_0 hM, eA_s, show (6 : Int32) = nI 6 from rfl, h.gz (by omega), eI_s, if_pos (show nI (σ.1 6) ≤ (120 : Int32) from nI_le (b := 120) r2 (by omega)), cV_s, mo_self hM]
  · rw [if_neg c, if_neg (nI_nle (by omega) (by omega)), mo_0 hM, eA_s, show (0 : Int32) = nI 0 from rfl, h.gz (by omega), eI_s, nI_1, mw1 hM hB (by omega), eS_s, dc_X13_deletesAll_14]
    have f1 : FR (upd (F 1) 0 (nI (σ.1 0 + 1))) (bg σ.1, σ.2) := hf.num hz (by omega) (fun j hj => upd_n hj) upd_k
    have hD : mD F (F 10) = F := by
      funext a
      unfold mD
      by_cases c10 : a = 10
      · rw [if_pos c10, c10]
      · rw [if_neg c10]
    have ec : (dlk p (σ.2 0) (σ.1 3) 0).length = dfn p σ 0 (σ.1 3) := dlk_len _ _
    obtain ⟨g2, e2, f2⟩ := del_lp (s := s) (v := v) (F := F) (h := F 10) (p := p) (tot := dfn p σ 0 (σ.1 3)) hB (by omega) (σ.1 3) 0 0 (bg σ.1, σ.2) _ (by rw [Nat.zero_add]; rfl) f1 hz r3 (show σ.1 6 + σ.1 3 ≤ 152 by omega) ((Nat.zero_add _).trans ec) (fun j hj => by
      rw [Nat.zero_add]
      exact hh j (by rw [← ec]; exact hj))
    rw [hD] at e2
    obtain ⟨i1, i2, i3⟩ := IC.del (p := p) hA (by omega)
    have k1 : Kp σ (p_df p (nI (σ.1 0 + 1)) (σ.1 3) 0 (bg σ.1, σ.2)) := Kp.bg.tr Kp.df
    have hz2 : SZ (p_df p (nI (σ.1 0 + 1)) (σ.1 3) 0 (bg σ.1, σ.2)) := by
      refine ⟨by omega, ?_, by omega, ?_, ?_, ?_, ?_, ?_⟩
      · exact i1.1.2.2.2.2.2.2.1
      · rw [k1.1 4 (by omega)]
        exact hz.2.2.2.1
      · rw [k1.1 5 (by omega)]
        exact hz.2.2.2.2.1
      · rw [k1.1 9 (by omega)]
        exact hz.2.2.2.2.2.1
      · rw [k1.1 10 (by omega)]
        exact hz.2.2.2.2.2.2.1
      · rw [k1.1 11 (by omega)]
        exact hz.2.2.2.2.2.2.2
    have hM2 : MM B (moS s m v (m1 F g2)) m v (m1 F g2) (p_df p (nI (σ.1 0 + 1)) (σ.1 3) 0 (bg σ.1, σ.2)) := MM.st hB f2 hz2
    have h7 : (p_df p (nI (σ.1 0 + 1)) (σ.1 3) 0 (bg σ.1, σ.2)).1 7 = σ.1 7 := by
      rw [p_df_k (by omega) (by omega)]
      rfl
    obtain ⟨v3, F3, e3, f3, t3⟩ := mk_settles 152 _ v (m1 F g2) _ hM2 i1.1 i3 (by omega) (by omega) am_un
    refine ⟨v3, F3, ?_, f3, KT.tr KT.of t3⟩
    rw [show (0 : Int32) = nI 0 from rfl] at *
    rw [e2, dc_X13_deletesAll_16, if_pos (nI_le (Nat.le_refl _) (by omega)), mo_cs, eC_s, in_X13_settles, e3, cV_s, mo_idem]
/-- which keys go: a range -/
theorem del_pick (hz : SZ σ) : ∀ k i c s F, i + k = σ.1 3 → c ≤ i → MM B s m v F σ → ∃ F', rn_ tb_ct tb_mt B mm_X13_delete 20 [.ref m, .int f, .int t, .int (nI c), .int (nI i)] [] s = cI (cl_ tb_ct tb_mt B K_X13_deletesAll [.ref m, .int (nI (c + (dlk (inR f t) (σ.2 0) k i).length))] (moS s m v F')) (fun x_4 s_3 => some (.inl (some (.int x_4)), s_3)) xo ∧ (∀ a, a ≠ 10 → F' a = F a) ∧ (∀ j, j < c → F' 10 j = F 10 j) ∧ ∀ j, j < (dlk (inR f t) (σ.2 0) k i).length → F' 10 (c + j) = (dlk (inR f t) (σ.2 0) k i).getD j 0 := by
  have h3 := hz.1
  intro k
  induction k with
  | zero =>
    intro i c s F hi hc h
    refine ⟨F, ?_, fun _ _ => rfl, fun _ _ => rfl, fun j hj => absurd hj (Nat.not_lt_zero _)⟩
    rw [dc_X13_delete_20, mo_0 h.1, eA_s, show (3 : Int32) = nI 3 from rfl, h.gz (by omega), eI_s, if_pos (nI_le (by omega) (by omega)), mo_cls h.1, eC_s, mo_self h.1]
    rfl
  | succ k ih =>
    intro i c s F hi hc h
    have hB := h.2.2.2
    have e0 : cl_ tb_ct tb_mt B K_X13_keyAt [.ref m, .int (nI i), .int (0 : Int32)] s = some (.inl (some (.int (σ.2 0 i 0))), s) := mk_keyAt (w := 0) h (by omega) (by omega)
    have st : rn_ tb_ct tb_mt B mm_X13_delete 20 [.ref m, .int f, .int t, .int (nI c), .int (nI i)] [] s = if inR f t (σ.2 0 i) = true then rn_ tb_ct tb_mt B mm_X13_delete 20 [.ref m, .int f, .int t, .int (nI (c + 1)), .int (nI (i + 1))] [] (moS s m v (mup F 10 c (σ.2 0 i 0))) else rn_ tb_ct tb_mt B mm_X13_delete 20 [.ref m, .int f, .int t, .int (nI c), .int (nI (i + 1))] [] s := by
      rw [dc_X13_delete_20, mo_0 h.1, eA_s, show (3 : Int32) = nI 3 from rfl, h.gz (by omega), eI_s, if_neg (nI_ge (by omega) (by omega)), mo_cls h.1, eC_s, mk_isIn h (by omega), cI_s, if_b, mo_19 h.1, eA_s, mo_cls h.1, eC_s, e0, cI_s, mw_d h.1 hB (by omega), eS_s, dc_X13_delete_58, dc_X13_delete_58, nI_1, nI_1]
    rw [st]
    unfold dlk
    by_cases d : inR f t (σ.2 0 i) = true
    · rw [if_pos d, if_pos d, List.length_cons]
      have h1 : MM B (moS s m v (mup F 10 c (σ.2 0 i 0))) m v (mup F 10 c (σ.2 0 i 0)) σ := ⟨OV.of, by rw [mup_n (by omega)]; exact h.2.1, h.2.2⟩
      obtain ⟨F', e, r1, r2, r3⟩ := ih (i + 1) (c + 1) _ _ (by omega) (by omega) h1
      rw [mo_idem] at e
      refine ⟨F', ?_, fun a ha => (r1 a ha).trans (mup_n ha), fun j hj => ?_, fun j hj => ?_⟩
      · rw [e, show c + 1 + (dlk (inR f t) (σ.2 0) k (i + 1)).length = c + ((dlk (inR f t) (σ.2 0) k (i + 1)).length + 1) by omega]
      · rw [r2 j (by omega), mup_s, upd_n (by omega)]
      · rcases j with _ | j
        · show F' 10 c = σ.2 0 i 0
          rw [r2 c (by omega), mup_s, upd_k]
        · rw [show c + (j + 1) = c + 1 + j by omega, r3 j (by omega)]
          rfl
    · rw [if_neg d, if_neg d]
      exact ih (i + 1) c s F (by omega) (by omega) h
theorem m_delete (h : MM B s m v F σ) (hA : IA u σ) (hu : u + 1 < 2 ^ 25) : MR s m v F (cl_ tb_ct tb_mt B K_X13_delete [.ref m, .int f, .int t] s) (if bRange f t = true then 0 else 1) (if bRange f t = true then .int (nI (dfn (inR f t) σ 0 (σ.1 3))) else .int 0) (if bRange f t = true then p_del (inR f t) σ else σ) := by
  rw [in_X13_delete, dc_X13_delete_0, mi_isRange, cI_s, mo_cls h.1, eC_s]
  refine mi_call h (fun _ => ?_) fun _ => rfl
  obtain ⟨F1, e1, r1, r2, r3⟩ := del_pick (f := f) (t := t) h.2.2.1 (σ.1 3) 0 0 _ F (by omega) (by omega) (h.p4 (x := 0))
  have el : (dlk (inR f t) (σ.2 0) (σ.1 3) 0).length = dfn (inR f t) σ 0 (σ.1 3) := dlk_len _ _
  rw [Nat.zero_add, el] at e1
  have hM1 : MM B (moS (moS s m (upd v 4 0) F) m (upd v 4 0) F1) m (upd v 4 0) F1 σ := ⟨OV.of, by rw [r1 1 (by omega)]; exact h.2.1, h.2.2⟩
  obtain ⟨v2, F2, e2, f2, t2⟩ := mk_deletesAll (p := inR f t) hM1 hA hu (fun j hj => by
    have := r3 j (by rw [el]; exact hj)
    rw [Nat.zero_add] at this
    exact this)
  rw [show (0 : Int32) = nI 0 from rfl] at *
  rw [e1]
  simp only [mo_idem] at e2
  refine ⟨moS (moS s m (upd v 4 (nI 0)) F) m v2 F2, v2, F2, ?_, so_ov, OV.of, f2, ?_, ?_⟩
  · simp only [mo_idem]
    rw [e2, cI_s]
  · exact KM.tr (F' := F1) (v' := upd v 4 (nI 0)) ⟨fun i hi => r1 i (by omega), fun _ _ _ => rfl⟩ t2.km
  · exact (t2.2 4 (by omega)).trans upd_k
end Mp
