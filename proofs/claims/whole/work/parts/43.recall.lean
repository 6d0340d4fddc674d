/-! ===== the state at an earlier revision ===== -/
/-- a KeyRow whose keys and values are P's -/
def KP (s : am_S) (p : Nat) (P : Nat × rowT) : Prop := ∃ K, KW s p P.1 K ∧ ∀ i, i < P.1 → K i 0 = P.2 i 0 ∧ K i 1 = P.2 i 1
/-- the event fits the row that it leads on from -/
def okEv (P : Nat × rowT) (e : Nat → Int32) : Prop := (e 1 = 0 ∨ e 1 = 1) ∧ ((pF P.2 P.1 (e 2) < P.1 ∧ e 4 = P.2 (pF P.2 P.1 (e 2)) 1 ∧ e 4 ≠ NOV) ∨ (¬ pF P.2 P.1 (e 2) < P.1 ∧ e 4 = NOV ∧ e 1 = 0))
theorem lt_of_nlt_ne {x y : Int32} (h1 : ¬ x < y) (h2 : x ≠ y) : y < x := by
  rw [Int32.lt_iff_toInt_lt] at h1 ⊢
  have : x.toInt ≠ y.toInt := fun e => h2 (Int32.toInt_inj.mp e)
  omega
theorem srt_del {R : rowT} {n q : Nat} (h : srt R n) (hq : q < n) : srt (delR R q n) (n - 1) := by
  intro i j hij hj
  unfold delR
  by_cases h1 : q ≤ i
  · rw [if_pos (by omega), if_pos (by omega)]
    exact h _ _ (by omega) (by omega)
  · rw [if_neg (by omega)]
    by_cases h2 : q ≤ j
    · rw [if_pos (by omega)]
      exact h _ _ (by omega) (by omega)
    · rw [if_neg (by omega)]
      exact h _ _ hij (by omega)
theorem srt_upd {R : rowT} {n q : Nat} {x : Nat → Int32} (h : srt R n) (hx : x 0 = R q 0) : srt (va_up R q x) n := by
  have e : ∀ i, va_up R q x i 0 = R i 0 := by
    intro i
    by_cases hi : i = q
    · subst hi
      rw [va_us, hx]
    · rw [va_un hi]
  intro i j hij hj
  rw [e, e]
  exact h i j hij hj
theorem srt_ins {R : rowT} {n : Nat} {x : Nat → Int32} {key : Int32} (h : srt R n) (hx : x 0 = key) (hf : ¬ pF R n key < n) : srt (insR R (pI R n key) n x) (n + 1) := by
  have hle : pI R n key ≤ n := pI_le
  have hno : ∀ j, j < n → R j 0 ≠ key := fun j hj e => hf (pF_of h hj e ▸ hj)
  intro i j hij hj
  unfold insR
  by_cases h1 : i = pI R n key
  · rw [if_pos h1, if_neg (by omega), if_pos (by omega), hx]
    exact lt_of_nlt_ne (pI_ge h (by omega) (by omega)) (hno _ (by omega))
  · rw [if_neg h1]
    by_cases h2 : pI R n key < i
    · rw [if_pos (by omega), if_neg (by omega), if_pos (by omega)]
      exact h _ _ (by omega) (by omega)
    · rw [if_neg (by omega)]
      by_cases h3 : j = pI R n key
      · rw [if_pos h3, hx]
        exact pI_lt (n := n) (by omega)
      · rw [if_neg h3]
        by_cases h4 : pI R n key < j
        · rw [if_pos (by omega)]
          exact h _ _ (by omega) (by omega)
        · rw [if_neg (by omega)]
          exact h _ _ hij (by omega)
theorem srt_go {P : Nat × rowT} {e : Nat → Int32} (h : srt P.2 P.1) : srt (goOn P e).2 (goOn P e).1 := by
  unfold goOn
  by_cases h1 : e 1 = 1
  · rw [if_pos h1]
    by_cases h2 : pF P.2 P.1 (e 2) < P.1
    · rw [if_pos h2]
      exact srt_del h h2
    · rw [if_neg h2]
      exact h
  · rw [if_neg h1]
    by_cases h2 : pF P.2 P.1 (e 2) < P.1
    · rw [if_pos h2]
      exact srt_upd h (by rw [pF_eq h2]; rfl)
    · rw [if_neg h2]
      exact srt_ins h rfl h2
def dI (k : Nat) : Int32 := if k = 0 then -1 else nI (k - 1)
theorem dI_0 : dI 0 = -1 := rfl
theorem dI_s {k : Nat} : dI (k + 1) = nI k := rfl
theorem nI_dI {n : Nat} : nI n - 1 = dI n := by
  cases n with
  | zero => decide
  | succ n =>
    rw [nI_sub1 (by omega), dI_s]
    rfl
theorem nI_dI2 {n : Nat} : nI n + (-1) = dI n := by
  cases n with
  | zero => decide
  | succ n =>
    rw [nI_neg1 (by omega), dI_s]
    rfl
section Re
variable {s s' : am_S} {B b r n p a : Nat} {Z : nmT} {G : rwT} {P : Nat × rowT} {e : Nat → Int32} {x : Int32}
theorem KP.at (h : KP s p P) (hs : ∀ q, p ≤ q → q < p + 24 → s'.1 q = s.1 q) : KP s' p P := by
  obtain ⟨K, h1, h2⟩ := h
  exact ⟨K, h1.at hs, h2⟩
theorem st_undo44 {w1 : Value} {K : rowT} {q : Nat} (hE : EC s a e) (hK : KW s p n K) (hB : B ≤ p) (hq : q < n) {c : Nat} (hc : cl_ tb_ct tb_mt B K_X4_at [.ref p, .int (nI q)] s = some (.inl (some (.ref c)), s)) : ∃ s', rn_ tb_ct tb_mt B mm_X8_undo 44 [.ref a, w1, va_rf (some c)] [] s = some (.inl none, s') ∧ so s s' p (p + 24) ∧ KW s' p n (up2 K q 1 (e 4)) := by
  obtain ⟨s1, e1, o1, k1, -⟩ := kw_put hK hB hq c hc mm_X8_undo 1 (e 4) (by omega)
  refine ⟨s1, ?_, o1, k1⟩
  rw [dc_X8_undo_44]
  simp only [eA_s, ec_4 hE, eI_s, e1, eS_s]
theorem st_undo (hE : EC s a e) (ha : a < p ∨ p + 24 ≤ a) (hP : KP s p (goOn P e)) (hs : srt P.2 P.1) (hn : P.1 ≤ 22) (hok : okEv P e) (hB : B ≤ p) : ∃ s', cl_ tb_ct tb_mt B K_X8_undo [.ref a, .ref p] s = some (.inl none, s') ∧ so s s' p (p + 24) ∧ KP s' p P := by
  obtain ⟨K, hK, hv⟩ := hP
  have hcls := kw_cls hK
  obtain ⟨hkd, ⟨hf, h4, h4n⟩ | ⟨hf, h4, hk0⟩⟩ := hok
  · have hne : ¬ e 4 = (-2000000000 : Int32) := h4n
    by_cases h1 : e 1 = 1
    · -- it was deleted
      have eg : goOn P e = (P.1 - 1, delR P.2 (pF P.2 P.1 (e 2)) P.1) := by
        unfold goOn
        rw [if_pos h1, if_pos hf]
      rw [eg] at hK hv
      dsimp only at hK hv
      have hsd := srt_del hs hf
      have hsK : srt K (P.1 - 1) := by
        intro i j hij hj
        rw [(hv i (by omega)).1, (hv j hj).1]
        exact hsd i j hij hj
      have hno : ¬ pF K (P.1 - 1) (e 2) < P.1 - 1 := by
        intro hc
        have h5 := pF_eq hc
        rw [(hv _ hc).1] at h5
        unfold delR at h5
        have h6 := pF_eq hf
        split at h5
        · have := srt_inj hs (by omega) hf (h5.trans h6.symm)
          omega
        · have := srt_inj hs (by omega) hf (h5.trans h6.symm)
          omega
      have hpi : pI K (P.1 - 1) (e 2) = pF P.2 P.1 (e 2) := by
        refine fi_is (Nat.zero_le _) (by omega) (fun j _ hj => ?_) (fun hj => ?_)
        · simp only [Bool.not_eq_false', decide_eq_true_eq]
          rw [(hv j (by omega)).1]
          unfold delR
          rw [if_neg (by omega), ← pF_eq hf]
          exact hs j _ hj hf
        · simp only [Bool.not_eq_true', decide_eq_false_iff_not]
          rw [(hv _ (by omega)).1]
          unfold delR
          rw [if_pos (by omega)]
          have := hs _ (pF P.2 P.1 (e 2) + 1) (Nat.lt_succ_self _) (by omega)
          rw [pF_eq hf] at this
          exact Int32.not_lt.mpr (Int32.le_of_lt this)
      obtain ⟨s1, c, k, e1, o1, k1, hk0, hk4, a1⟩ := kw_insert hK hsK (by omega) hB (e 2)
      rw [hpi] at k1 a1
      have hn1 : P.1 - 1 + 1 = P.1 := by omega
      rw [hn1] at k1
      have hE1 : EC s1 a e := hE.at (o1.1 a ha)
      obtain ⟨s2, e2, o2, k2⟩ := st_undo44 (w1 := .ref p) hE1 k1 hB hf a1
      refine ⟨s2, ?_, so_tr o1 o2, _, k2, fun i hi => ?_⟩
      · rw [in_X8_undo, dc_X8_undo_0]
        simp only [ec_4 hE, eI_s, if_neg hne, ec_2 hE, hcls, eC_s, kw_find_no hK hno, cA_n, e1, cA_s]
        exact e2
      · by_cases hi2 : i = pF P.2 P.1 (e 2)
        · subst hi2
          rw [h4]
          have h6 := pF_eq hf
          constructor
          · simp [up2, insR, hk0, h6]
          · simp [up2]
        · by_cases hi3 : pF P.2 P.1 (e 2) < i
          · obtain ⟨v1, v2⟩ := hv (i - 1) (by omega)
            unfold delR at v1 v2
            rw [if_pos (by omega), show i - 1 + 1 = i by omega] at v1 v2
            constructor
            · rw [← v1]
              simp [up2, insR, hi2, hi3, show i ≤ P.1 - 1 by omega]
            · rw [← v2]
              simp [up2, insR, hi2, hi3, show i ≤ P.1 - 1 by omega]
          · obtain ⟨v1, v2⟩ := hv i (by omega)
            unfold delR at v1 v2
            rw [if_neg (by omega)] at v1 v2
            constructor
            · rw [← v1]
              simp [up2, insR, hi2, hi3]
            · rw [← v2]
              simp [up2, insR, hi2, hi3]
    · -- it was written over
      have eg : goOn P e = (P.1, va_up P.2 (pF P.2 P.1 (e 2)) (k2 (e 2) (e 3))) := by
        unfold goOn
        rw [if_neg h1, if_pos hf]
      rw [eg] at hK hv
      dsimp only at hK hv
      have hsK : srt K P.1 := by
        intro i j hij hj
        rw [(hv i (by omega)).1, (hv j hj).1]
        exact srt_upd hs (x := k2 (e 2) (e 3)) (pF_eq hf).symm i j hij hj
      have hq : pF K P.1 (e 2) = pF P.2 P.1 (e 2) := pF_of hsK hf (by
        rw [(hv _ hf).1, va_us]
        rfl)
      have hfK : pF K P.1 (e 2) < P.1 := by rw [hq]; exact hf
      obtain ⟨c, e1, a1⟩ := kw_find_at (B := B) hK hfK
      obtain ⟨s2, e2, o2, k2⟩ := st_undo44 (w1 := .ref p) hE hK hB hfK a1
      refine ⟨s2, ?_, o2, _, k2, fun i hi => ?_⟩
      · rw [in_X8_undo, dc_X8_undo_0]
        simp only [ec_4 hE, eI_s, if_neg hne, ec_2 hE, hcls, eC_s, e1, cA_s]
        exact e2
      · rw [hq]
        obtain ⟨v1, v2⟩ := hv i hi
        by_cases hi2 : i = pF P.2 P.1 (e 2)
        · subst hi2
          rw [va_us] at v1
          constructor
          · have : K (pF P.2 P.1 (e 2)) 0 = e 2 := v1
            simp [up2, this, pF_eq hf]
          · simp [up2, h4]
        · rw [va_un hi2] at v1 v2
          constructor
          · rw [← v1]
            simp [up2]
          · rw [← v2]
            simp [up2, hi2]
  · -- it came into being
    have h1 : ¬ e 1 = 1 := by rw [hk0]; decide
    have eg : goOn P e = (P.1 + 1, insR P.2 (pI P.2 P.1 (e 2)) P.1 (k2 (e 2) (e 3))) := by
      unfold goOn
      rw [if_neg h1, if_neg hf]
    rw [eg] at hK hv
    dsimp only at hK hv
    have hpi : pI P.2 P.1 (e 2) ≤ P.1 := pI_le
    have hsK : srt K (P.1 + 1) := by
      intro i j hij hj
      rw [(hv i (by omega)).1, (hv j hj).1]
      exact srt_ins (x := k2 (e 2) (e 3)) (key := e 2) hs rfl hf i j hij hj
    have hq : pF K (P.1 + 1) (e 2) = pI P.2 P.1 (e 2) := pF_of hsK (by omega) (by
      rw [(hv _ (by omega)).1]
      unfold insR
      rw [if_pos rfl]
      rfl)
    obtain ⟨s1, e1, o1, k1⟩ := kw_removeAt hK hB (show pI P.2 P.1 (e 2) < P.1 + 1 by omega)
    refine ⟨s1, ?_, o1, _, k1, fun i hi => ?_⟩
    · rw [in_X8_undo, dc_X8_undo_0]
      simp only [ec_4 hE, eI_s, if_pos (show e 4 = (-2000000000 : Int32) from h4), ec_2 hE, hcls, eC_s, kw_indexOf hK, hq, if_pos (show pI P.2 P.1 (e 2) < P.1 + 1 by omega), cI_s, e1, cV_s]
    · unfold delR
      by_cases hi2 : pI P.2 P.1 (e 2) ≤ i
      · rw [if_pos (by omega)]
        obtain ⟨v1, v2⟩ := hv (i + 1) (by omega)
        rw [v1, v2]
        unfold insR
        rw [if_neg (by omega), if_pos (by omega), Nat.add_sub_cancel]
        exact ⟨rfl, rfl⟩
      · rw [if_neg (by omega)]
        obtain ⟨v1, v2⟩ := hv i (by omega)
        rw [v1, v2]
        unfold insR
        rw [if_neg (by omega), if_neg (by omega)]
        exact ⟨rfl, rfl⟩
/-- what is so of rows and events -/
def okRows (Z : nmT) (G : rwT) : Prop := (∀ k, k < Z 6 → okEv (p_row Z G k) (G 2 k)) ∧ (∀ k, k ≤ Z 6 → srt (p_row Z G k).2 (p_row Z G k).1 ∧ (p_row Z G k).1 ≤ 22) ∧ (p_row Z G (Z 6)).1 = Z 3 ∧ (∀ i, i < Z 3 → G 0 i 0 = (p_row Z G (Z 6)).2 i 0 ∧ G 0 i 1 = (p_row Z G (Z 6)).2 i 1) ∧ ∀ i j, i ≤ j → j < Z 6 → G 2 i 0 ≤ G 2 j 0
theorem st_recall_lp (hS : SR s b r Z G) (hI : okRows Z G) (hB : B ≤ p) (hd : p + 24 ≤ b ∨ b + 218 ≤ p) (x : Int32) : ∀ k s w, so s s p (p + 24) → SR s b r Z G → k ≤ Z 6 → p_many Z G x ≤ k → KP s p (p_row Z G k) → ∃ s', rn_ tb_ct tb_mt B mm_X8_recall 54 [.ref b, am_un, .ref p, .int x, .int (dI k), w] [] s = some (.inl (some (.int 0)), s') ∧ so s s' p (p + 24) ∧ KP s' p (p_row Z G (p_many Z G x)) := by
  intro k
  induction k with
  | zero =>
    intro s w _ h hk hm hP
    refine ⟨s, ?_, so_rfl, ?_⟩
    · rw [dc_X8_recall_54, dI_0, if_pos (by decide)]
    · rw [show p_many Z G x = 0 by omega]
      exact hP
  | succ k ih =>
    intro s w _ h hk hm hP
    have n6 := h.n6
    obtain ⟨a, ea, ca, l1, l2⟩ := ew_at (B := B) h.ew (show k < Z 6 by omega)
    rw [dc_X8_recall_54, dI_s, if_neg (nI_pos (by omega))]
    simp only [sr_e h, eA_s, sr_ec h, eC_s, ea, cA_s, ec_0 ca, eI_s]
    by_cases hx : x < G 2 k 0
    · rw [if_pos hx]
      have ha : a < p ∨ p + 24 ≤ a := by
        rcases hd with hd | hd
        · exact Or.inr (by omega)
        · exact Or.inl (Nat.lt_of_lt_of_le l2 (by omega))
      have hm2 : p_many Z G x ≤ k := by
        by_cases hc : p_many Z G x ≤ k
        · exact hc
        · have := fi_no (fun i => !decide (G 2 i 0 ≤ x)) (Z 6) 0 k (by omega) (by
            change k < p_many Z G x
            omega)
          simp only [Bool.not_eq_false', decide_eq_true_eq] at this
          exact absurd hx (Int32.not_lt.mpr this)
      obtain ⟨s1, e1, o1, p1⟩ := st_undo (B := B) (P := p_row Z G k) ca ha hP (hI.2.1 k (by omega)).1 (hI.2.1 k (by omega)).2 (hI.1 k (by omega)) hB
      have h1 : SR s1 b r Z G := h.at fun q _ _ => o1.1 q (by omega)
      obtain ⟨s2, e2, o2, p2⟩ := ih s1 (.ref a) so_rfl h1 (by omega) hm2 p1
      refine ⟨s2, ?_, so_tr o1 o2, p2⟩
      simp only [e1, cV_s, nI_dI2]
      exact e2
    · rw [if_neg hx]
      refine ⟨s, rfl, so_rfl, ?_⟩
      have : p_many Z G x = k + 1 := by
        refine fi_is (Nat.zero_le _) (by omega) (fun j _ hj => ?_) (fun hj => ?_)
        · simp only [Bool.not_eq_false', decide_eq_true_eq]
          exact Int32.le_trans (hI.2.2.2.2 j k (by omega) (by omega)) (Int32.not_lt.mp hx)
        · have h5 := fi_yes (fun i => !decide (G 2 i 0 ≤ x)) (Z 6) 0
          by_cases hc : p_many Z G x = k + 1
          · have := h5 (by
              change p_many Z G x < 0 + Z 6
              omega)
            change (fun i => !decide (G 2 i 0 ≤ x)) (p_many Z G x) = true at this
            rw [hc] at this
            exact this
          · have := h5 (by
              change p_many Z G x < 0 + Z 6
              omega)
            simp only [Bool.not_eq_true', decide_eq_false_iff_not] at this
            exact absurd (Int32.le_trans (hI.2.2.2.2 (p_many Z G x) k (by omega) (by omega)) (Int32.not_lt.mp hx)) this
      rw [this]
      exact hP
/-- what a revision that is asked means; why it can't be asked -/
def askd (r : Nat) (x : Int32) : Int32 := if x = 0 then nI r else x
def whyN (r g : Nat) (x : Int32) : Int32 := if x < nI g then -2000000001 else if nI r < x then -2000000002 else 0
theorem st_recall {K0 : rowT} (h : SR s b r Z G) (hI : okRows Z G) (hB : B ≤ p) (hd : p + 24 ≤ b ∨ b + 218 ≤ p) (hp : KW s p n K0) (x : Int32) : (whyN r (Z 1) (askd r x) ≠ 0 → cl_ tb_ct tb_mt B K_X8_recall [.ref b, .int x, .ref p] s = some (.inl (some (.int (whyN r (Z 1) (askd r x)))), s)) ∧ (whyN r (Z 1) (askd r x) = 0 → ∃ s', cl_ tb_ct tb_mt B K_X8_recall [.ref b, .int x, .ref p] s = some (.inl (some (.int 0)), s') ∧ so s s' p (p + 24) ∧ KP s' p (p_row Z G (p_many Z G (askd r x)))) := by
  have n3 := h.n3
  have h12 : cl_ tb_ct tb_mt B K_X8_recall [.ref b, .int x, .ref p] s = rn_ tb_ct tb_mt B mm_X8_recall 12 [.ref b, .int x, .ref p, am_un, am_un, am_un] [.int (askd r x)] s := by
    rw [in_X8_recall, dc_X8_recall_0]
    unfold askd
    by_cases hx : x = 0
    · simp only [if_pos hx, sr_5 h, eI_s]
    · simp only [if_neg hx]
  rw [h12, dc_X8_recall_12]
  simp only [sr_6 h, eI_s, sr_5 h]
  unfold whyN
  by_cases h1 : askd r x < nI (Z 1)
  · rw [if_pos h1, if_neg (Int32.not_le.mpr h1)]
    exact ⟨fun _ => rfl, fun hc => absurd hc (by decide)⟩
  · rw [if_neg h1, if_pos (Int32.not_lt.mp h1)]
    by_cases h2 : nI r < askd r x
    · rw [if_pos h2, if_neg (Int32.not_le.mpr h2)]
      exact ⟨fun _ => rfl, fun hc => absurd hc (by decide)⟩
    · rw [if_neg h2, if_pos (Int32.not_lt.mp h2)]
      refine ⟨fun hc => absurd rfl hc, fun _ => ?_⟩
      obtain ⟨s1, e1, o1, k1⟩ := kw_copyFrom hp h.kw (by omega) hB
      have hS1 : SR s1 b r Z G := h.at fun q _ _ => o1.1 q (by omega)
      have hP1 : KP s1 p (p_row Z G (Z 6)) := by
        refine ⟨G 0, ?_, fun i hi => ?_⟩
        · rw [hI.2.2.1]
          exact k1
        · rw [hI.2.2.1] at hi
          exact hI.2.2.2.1 i hi
      obtain ⟨s2, e2, o2, p2⟩ := st_recall_lp (B := B) hS1 hI hB hd (askd r x) (Z 6) s1 am_un so_rfl hS1 (Nat.le_refl _) p_many_le hP1
      refine ⟨s2, ?_, so_tr o1 o2, p2⟩
      simp only [sr_k h, eA_s, kw_cls hp, eC_s, e1, cV_s, sr_e hS1, sr_en hS1, eI_s, nI_dI]
      exact e2
end Re
