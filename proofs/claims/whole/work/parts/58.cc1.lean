/-! ===== WatchedKeys: calls (1) ===== -/
def PST (s : am_S) (x : Nat) : Prop := (∃ n K, KW s (x + 443) n K) ∧ (∃ n K, KW s (x + 467) n K) ∧ ∃ f, s.1 (x + 491) = some (.inl (.int, 1000, .inl f))
def fr (s s' : am_S) (x nb : Nat) : Prop := (∀ q, (q < nb ∨ nb + 218 ≤ q) → (q < x + 443 ∨ x + 492 ≤ q) → s'.1 q = s.1 q) ∧ s'.2 = s.2
def CX (B : Nat) (s : am_S) (x nb sb u : Nat) (σ : stT) : Prop := XO s x nb sb ∧ SS s nb σ ∧ IA u σ ∧ ILp σ ∧ PST s x ∧ B ≤ x ∧ (nb = x + 1 ∨ nb = x + 219) ∧ u + 9 < 2 ^ 24
def CO (s : am_S) (x nb : Nat) (R : am_R) (ok : Bool) (v : Value) (σ' : stT) : Prop := (ok = true → ∃ s', R = some (.inl (some v), s') ∧ fr s s' x nb ∧ SS s' nb σ' ∧ PST s' x) ∧ (ok = false → R = some (.inr 0, am_bump s))
def CO2 (s : am_S) (x nb : Nat) (R : am_R) (ok1 ok2 : Bool) (v : Value) (σ' : stT) : Prop := (ok1 = false → R = some (.inr 1, am_bump s)) ∧ (ok1 = true → ok2 = false → R = some (.inr 0, am_bump s)) ∧ (ok1 = true → ok2 = true → ∃ s', R = some (.inl (some v), s') ∧ fr s s' x nb ∧ SS s' nb σ' ∧ PST s' x)
section Ca
variable {s s' : am_S} {B x nb sb u i : Nat} {σ : stT} {key v l f t y : Int32}
theorem CX.o (h : CX B s x nb sb u σ) : XO s x nb sb := h.1
theorem CX.ss (h : CX B s x nb sb u σ) : SS s nb σ := h.2.1
theorem CX.a (h : CX B s x nb sb u σ) : IA u σ := h.2.2.1
theorem CX.p (h : CX B s x nb sb u σ) : PST s x := h.2.2.2.2.1
theorem CX.n (h : CX B s x nb sb u σ) : x < nb ∧ nb + 218 ≤ x + 437 ∧ B ≤ nb ∧ B ≤ x := by
  obtain ⟨-, -, -, -, -, h1, h2, -⟩ := h
  omega
theorem CX.uu (h : CX B s x nb sb u σ) : u + 9 < 2 ^ 24 := h.2.2.2.2.2.2.2
theorem CX.tt (h : CX B s x nb sb u σ) : σ.1 7 + σ.1 6 < 2 ^ 31 := by
  have := h.a.rows.2.2.2.1
  have := h.uu
  omega
theorem PST.at (h : PST s x) (hs : ∀ q, x + 443 ≤ q → q < x + 492 → s'.1 q = s.1 q) : PST s' x := by
  obtain ⟨⟨n, K, h1⟩, ⟨n', K', h2⟩, g, h3⟩ := h
  exact ⟨⟨n, K, h1.at fun q _ _ => hs q (by omega) (by omega)⟩, ⟨n', K', h2.at fun q _ _ => hs q (by omega) (by omega)⟩, g, (hs _ (by omega) (by omega)).trans h3⟩
theorem fr_rf : fr s s x nb := ⟨fun _ _ _ => rfl, rfl⟩
/-- a call that changes the present store alone -/
theorem CX.ret (h : CX B s x nb sb u σ) {R : am_R} {w : Value} {σ' : stT} (hr : ∃ s', R = some (.inl (some w), s') ∧ so s s' nb (nb + 218) ∧ SS s' nb σ') : ∃ s', R = some (.inl (some w), s') ∧ fr s s' x nb ∧ SS s' nb σ' ∧ PST s' x := by
  obtain ⟨s', e, o, h'⟩ := hr
  have := h.n
  exact ⟨s', e, ⟨fun q h1 _ => o.1 q h1, o.2⟩, h', h.p.at fun q _ _ => o.1 q (by omega)⟩
theorem CX.same (h : CX B s x nb sb u σ) {R : am_R} {w : Value} (hr : R = some (.inl (some w), s)) : ∃ s', R = some (.inl (some w), s') ∧ fr s s' x nb ∧ SS s' nb σ ∧ PST s' x := ⟨s, hr, fr_rf, h.ss, h.p⟩
theorem cVb {b : Bool} {g : am_S → am_R} : cV (if b = true then some (.inl none, s) else some (.inr 0, am_bump s)) g xo = if b = true then g s else some (.inr 0, am_bump s) := by cases b <;> rfl
theorem bTckN (h : bTck y = true) : ∃ n : Nat, y = nI n ∧ 1 ≤ n ∧ n ≤ 1000 := by
  unfold bTck bIn at h
  simp only [Bool.and_eq_true, Bool.not_eq_true', decide_eq_false_iff_not] at h
  obtain ⟨h1, h2⟩ := h
  obtain ⟨j, hj, e⟩ := nI_of2 (M := 1000) (n := 1000) rfl (x := y) (fun hc => h1 (Int32.lt_trans hc (by decide))) (Int32.not_lt.mp h2)
  refine ⟨j, e, ?_, hj⟩
  by_cases h0 : j = 0
  · subst h0
    subst e
    exact absurd (by decide) h1
  · omega
theorem bKeyN (h : bKey y = true) : kOk y := by
  unfold bKey bIn at h
  simp only [Bool.and_eq_true, Bool.not_eq_true', decide_eq_false_iff_not] at h
  exact ⟨h.1, Int32.not_lt.mp h.2⟩
theorem bValN (h : bVal y = true) : vOk y := by
  unfold bVal bIn at h
  simp only [Bool.and_eq_true, Bool.not_eq_true', decide_eq_false_iff_not] at h
  exact ⟨Int32.not_lt.mp h.1, Int32.not_lt.mp h.2⟩
theorem bNNN : bNN y = true ↔ ¬ y < 0 := by
  unfold bNN
  simp
theorem bRangeN (h : bRange f t = true) : f ≤ t ∧ t < t + 1 ∧ kOk f ∧ kOk t := by
  unfold bRange bIn at h
  simp only [Bool.and_eq_true, Bool.not_eq_true', decide_eq_false_iff_not] at h
  obtain ⟨h1, h2, h3⟩ := h
  have ht := bKeyN h1
  have hft := Int32.not_lt.mp h3
  refine ⟨hft, ?_, ⟨h2, Int32.le_trans hft ht.2⟩, ht⟩
  obtain ⟨j, hj, e⟩ := nI_of2 (M := 999) (n := 999) rfl ht.1 ht.2
  rw [e, nI_1]
  exact nI_lt (by omega) (by omega)
theorem c_put (h : CX B s x nb sb u σ) : CO s x nb (cl_ tb_ct tb_mt B K_X12_put [.ref x, .int key, .int v, .int l] s) (bKey key && (bVal v && bNN l)) (.int (p_put σ key v l).1) (p_put σ key v l).2 := by
  rw [in_X12_put, dc_X12_put_0]
  simp only [c_needKey, cVb]
  cases hk : bKey key with
  | false => exact ⟨fun hc => (by cases hc), fun _ => rfl⟩
  | true =>
    simp only [if_true, c_isValue, cI_s, c_needB, cVb, Bool.true_and]
    cases hv : bVal v with
    | false => exact ⟨fun hc => (by cases hc), fun _ => rfl⟩
    | true =>
      simp only [if_true, Bool.true_and]
      by_cases hl : l < 0
      · rw [if_pos hl, dc_X12_put_20, c_need0]
        refine ⟨fun hc => absurd hl (bNNN.mp hc), fun _ => rfl⟩
      · rw [if_neg hl, dc_X12_put_20, c_need1]
        refine ⟨fun _ => h.ret ?_, fun hc => absurd (bNNN.mpr hl) (by rw [hc]; decide)⟩
        obtain ⟨s', e, o, hh⟩ := st_putKey (B := B) h.ss h.a (by have := h.uu; omega) h.n.2.2.1 (bKeyN hk) (bValN hv) hl
        refine ⟨s', ?_, o, hh⟩
        simp only [cV_s, xo_0 h.o, eA_s, sr_cls h.ss, eC_s, e, cI_s]
theorem c_delete (h : CX B s x nb sb u σ) : CO s x nb (cl_ tb_ct tb_mt B K_X12_delete [.ref x, .int f, .int t] s) (bRange f t) (.int (nI (dfn (inR f t) σ 0 (σ.1 3)))) (p_del (inR f t) σ) := by
  rw [in_X12_delete, dc_X12_delete_0]
  simp only [c_needRange, cVb]
  cases hk : bRange f t with
  | false => exact ⟨fun hc => (by cases hc), fun _ => rfl⟩
  | true =>
    obtain ⟨h1, h2, -⟩ := bRangeN hk
    refine ⟨fun _ => h.ret ?_, fun hc => by cases hc⟩
    obtain ⟨s', e, o, hh⟩ := st_delete (B := B) h.ss h.a (by have := h.uu; omega) h.n.2.2.1 h1 h2
    refine ⟨s', ?_, o, hh⟩
    simp only [if_true, xo_0 h.o, eA_s, sr_cls h.ss, eC_s, e, cI_s]
/-- compact: its answer and state -/
def p_compact (σ : stT) (y : Int32) : Int32 × stT := if y ≤ nI (σ.1 1) then (-2000000001, σ) else if ¬ y ≤ nI (σ.1 0) then (-2000000002, σ) else (nI (p_many σ.1 σ.2 y), p_co σ.1 σ.2 y)
theorem st_compact (h : SS s nb σ) (hB : B ≤ nb) (hy : ¬ y < 0) (ht : σ.1 7 + σ.1 6 < 2 ^ 31) : ∃ s', cl_ tb_ct tb_mt B K_X8_compactFor [.ref nb, .int y] s = some (.inl (some (.int (p_compact σ y).1)), s') ∧ so s s' nb (nb + 218) ∧ SS s' nb (p_compact σ y).2 := by
  obtain ⟨c1, c2, c3⟩ := st_compactFor (B := B) h hB hy ht
  unfold p_compact
  by_cases h1 : y ≤ nI (σ.1 1)
  · rw [if_pos h1]
    exact ⟨s, c1 h1, so_rfl, h⟩
  · rw [if_neg h1]
    by_cases h2 : y ≤ nI (σ.1 0)
    · rw [if_neg (fun hc => hc h2)]
      exact c3 h1 h2
    · rw [if_pos h2]
      exact ⟨s, c2 h1 h2, so_rfl, h⟩
theorem IA.compact (h : IA u σ) (hy : ¬ y < 0) : IA u (p_compact σ y).2 ∧ Kp σ (p_compact σ y).2 := by
  unfold p_compact
  split
  · exact ⟨h, Kp.rf⟩
  · split
    · exact ⟨h, Kp.rf⟩
    · rename_i h1 h2
      obtain ⟨j, hj, e⟩ := nI_of hy
      subst e
      have h2 : nI j ≤ nI (σ.1 0) := Classical.not_not.mp h2
      have h0 := IK.h0 h.1
      have hle : j ≤ σ.1 0 := (nI_leI hj (by omega)).mp h2
      obtain ⟨g1, g2, g3, g4, g5, b1, b2, b3, b4⟩ := h
      refine ⟨⟨g1.co g2 hle, ?_, ?_, g4.kp Kp.co, g5.kp Kp.co, ?_, ?_, ?_, ?_⟩, Kp.co⟩
      · rw [p_co_k (by omega) (by omega) (by omega) (by omega)]
        exact g2
      · rw [p_co_6]
        omega
      · rw [p_co_k (by omega) (by omega) (by omega) (by omega)]
        exact b1
      · have : p_many σ.1 σ.2 (nI j) ≤ σ.1 6 := p_many_le
        rw [p_co_6, p_co_7]
        omega
      · rw [p_co_k (by omega) (by omega) (by omega) (by omega)]
        exact b3
      · rw [p_co_k (by omega) (by omega) (by omega) (by omega)]
        exact b4
theorem c_compact (h : CX B s x nb sb u σ) : CO s x nb (cl_ tb_ct tb_mt B K_X12_compact [.ref x, .int y] s) (!decide (y < 1)) (.int (p_compact σ y).1) (p_compact σ y).2 := by
  rw [in_X12_compact, dc_X12_compact_0]
  by_cases hy : y < 1
  · rw [if_pos hy, decide_eq_true hy, dc_X12_compact_10, c_need0]
    exact ⟨fun hc => (by cases hc), fun _ => rfl⟩
  · rw [if_neg hy, decide_eq_false hy, dc_X12_compact_10, c_need1]
    refine ⟨fun _ => h.ret ?_, fun hc => by cases hc⟩
    obtain ⟨s', e, o, hh⟩ := st_compact (B := B) h.ss h.n.2.2.1 (y := y) (fun hc => hy (Int32.lt_trans hc (by decide))) h.tt
    refine ⟨s', ?_, o, hh⟩
    simp only [cV_s, xo_0 h.o, eA_s, sr_cls h.ss, eC_s, e, cI_s]
theorem c_attach (h : CX B s x nb sb u σ) : CO s x nb (cl_ tb_ct tb_mt B K_X12_attach [.ref x, .int key, .int l] s) (bKey key && bNN l) (.int (p_attach σ key l).1) (p_attach σ key l).2 := by
  rw [in_X12_attach, dc_X12_attach_0]
  simp only [c_needKey, cVb]
  cases hk : bKey key with
  | false => exact ⟨fun hc => (by cases hc), fun _ => rfl⟩
  | true =>
    simp only [if_true, Bool.true_and]
    by_cases hl : l < 0
    · rw [if_pos hl, dc_X12_attach_13, c_need0]
      refine ⟨fun hc => absurd hl (bNNN.mp hc), fun _ => rfl⟩
    · rw [if_neg hl, dc_X12_attach_13, c_need1]
      refine ⟨fun _ => h.ret ?_, fun hc => absurd (bNNN.mpr hl) (by rw [hc]; decide)⟩
      obtain ⟨s', e, o, hh⟩ := st_attach (B := B) (key := key) (l := l) h.ss h.n.2.2.1
      refine ⟨s', ?_, o, hh⟩
      simp only [cV_s, xo_0 h.o, eA_s, sr_cls h.ss, eC_s, e, cI_s]
theorem c_grant (h : CX B s x nb sb u σ) : CO s x nb (cl_ tb_ct tb_mt B K_X12_grant [.ref x, .int y] s) (bTck y) (.int (p_grant σ y).1) (p_grant σ y).2 := by
  rw [in_X12_grant, dc_X12_grant_0]
  simp only [c_isTicks, cI_s, c_needB, cVb]
  cases hk : bTck y with
  | false => exact ⟨fun hc => (by cases hc), fun _ => rfl⟩
  | true =>
    refine ⟨fun _ => h.ret ?_, fun hc => by cases hc⟩
    obtain ⟨s', e, o, hh⟩ := st_grant (B := B) (x := y) h.ss h.n.2.2.1
    refine ⟨s', ?_, o, hh⟩
    simp only [if_true, xo_0 h.o, eA_s, sr_cls h.ss, eC_s, e, cI_s]
theorem c_tick (h : CX B s x nb sb u σ) : CO s x nb (cl_ tb_ct tb_mt B K_X12_tick [.ref x, .int y] s) (bTck y) (.int (p_tick σ y).1) (p_tick σ y).2 := by
  rw [in_X12_tick, dc_X12_tick_0]
  simp only [c_isTicks, cI_s, c_needB, cVb]
  cases hk : bTck y with
  | false => exact ⟨fun hc => (by cases hc), fun _ => rfl⟩
  | true =>
    obtain ⟨n, e, n1, n2⟩ := bTckN hk
    subst e
    refine ⟨fun _ => h.ret ?_, fun hc => by cases hc⟩
    obtain ⟨s', e, o, hh⟩ := st_tick (B := B) h.ss h.a h.uu h.n.2.2.1 n2
    refine ⟨s', ?_, o, hh⟩
    simp only [if_true, xo_0 h.o, eA_s, sr_cls h.ss, eC_s, e, cI_s]
theorem c_keepAlive (h : CX B s x nb sb u σ) : CO s x nb (cl_ tb_ct tb_mt B K_X12_keepAlive [.ref x, .int y] s) true (.int (p_renew σ y).1) (p_renew σ y).2 := by
  refine ⟨fun _ => h.ret ?_, fun hc => by cases hc⟩
  obtain ⟨s', e, o, hh⟩ := st_keep (B := B) (x := y) h.ss h.n.2.2.1
  refine ⟨s', ?_, o, hh⟩
  rw [in_X12_keepAlive, dc_X12_keepAlive_0]
  simp only [xo_0 h.o, eA_s, sr_cls h.ss, eC_s, e, cI_s]
theorem c_revoke (h : CX B s x nb sb u σ) : CO s x nb (cl_ tb_ct tb_mt B K_X12_revoke [.ref x, .int y] s) true (.int (p_revoke σ y).1) (p_revoke σ y).2 := by
  refine ⟨fun _ => h.ret ?_, fun hc => by cases hc⟩
  obtain ⟨s', e, o, hh⟩ := st_endLease (B := B) (l := y) h.ss h.a (by have := h.uu; omega) h.n.2.2.1
  refine ⟨s', ?_, o, hh⟩
  rw [in_X12_revoke, dc_X12_revoke_0]
  simp only [xo_0 h.o, eA_s, sr_cls h.ss, eC_s, e, cI_s]
theorem c_commit (h : CX B s x nb sb u σ) : CO s x nb (cl_ tb_ct tb_mt B K_X12_commit [.ref x] s) true (.int (p_commit σ).1) (p_commit σ).2 := by
  refine ⟨fun _ => h.ret ?_, fun hc => by cases hc⟩
  obtain ⟨s', e, o, hh⟩ := st_commit (B := B) h.ss h.a (by have := h.uu; omega) h.n.2.2.1
  refine ⟨s', ?_, o, hh⟩
  rw [in_X12_commit, dc_X12_commit_0]
  simp only [xo_0 h.o, eA_s, sr_cls h.ss, eC_s, e, cI_s]
theorem c_drop (h : CX B s x nb sb u σ) : CO s x nb (cl_ tb_ct tb_mt B K_X12_drop [.ref x] s) true (.int ((nI (σ.1 9) + nI (σ.1 10)) + nI (σ.1 11))) (p_clr σ) := by
  refine ⟨fun _ => h.ret ?_, fun hc => by cases hc⟩
  obtain ⟨s', e, o, hh⟩ := st_txClear (B := B) h.ss h.n.2.2.1
  refine ⟨s', ?_, so_up o (by omega) (by omega), hh⟩
  rw [in_X12_drop, dc_X12_drop_0]
  simp only [xo_0 h.o, eA_s, sr_t h.ss, tw_cls h.ss.tw, eC_s, e, cI_s]
/-- the transaction put together -/
def p_when (σ : stT) (x1 x2 x3 x4 : Int32) : Int32 × stT := if σ.1 9 = 6 then (-2, σ) else (nI (σ.1 9 + 1), (va_up σ.1 9 (σ.1 9 + 1), va_up σ.2 5 (va_up (σ.2 5) (σ.1 9) (q4 x1 x2 x3 x4))))
def p_step (σ : stT) (g : Nat) (kd ky v : Int32) : Int32 × stT := if σ.1 (10 + g) = 6 then (-2, σ) else if fi (fun i => decide (σ.2 (6 + g) i 1 = ky)) 0 (σ.1 (10 + g)) < σ.1 (10 + g) then (-4, σ) else (nI (σ.1 (10 + g) + 1), (va_up σ.1 (10 + g) (σ.1 (10 + g) + 1), va_up σ.2 (6 + g) (va_up (σ.2 (6 + g)) (σ.1 (10 + g)) (l3 kd ky v))))
theorem c_when (h : CX B s x nb sb u σ) : CO s x nb (cl_ tb_ct tb_mt B K_X12_when [.ref x, .int key, .int v, .int l, .int y] s) (bKey key && (bIn v 0 3 && bIn l 0 3)) (.int (p_when σ key v l y).1) (p_when σ key v l y).2 := by
  have e35 : CO s x nb (rn_ tb_ct tb_mt B mm_X12_when 35 [.ref x, .int key, .int v, .int l, .int y] [.int 1] s) true (.int (p_when σ key v l y).1) (p_when σ key v l y).2 := by
    refine ⟨fun _ => h.ret ?_, fun hc => by cases hc⟩
    obtain ⟨c1, c2⟩ := tw_add (B := B) h.ss.tw (by have := h.n; omega) key v l y
    rw [dc_X12_when_35, c_need1]
    unfold p_when
    by_cases h6 : σ.1 9 = 6
    · rw [if_pos h6]
      refine ⟨s, ?_, so_rfl, h.ss⟩
      simp only [cV_s, xo_0 h.o, eA_s, sr_t h.ss, tw_cls h.ss.tw, eC_s, c1 h6, cI_s]
    · rw [if_neg h6]
      obtain ⟨s', e, o, k⟩ := c2 h6
      refine ⟨s', ?_, so_up o (by omega) (by omega), SR.setT h.ss o k⟩
      simp only [cV_s, xo_0 h.o, eA_s, sr_t h.ss, tw_cls h.ss.tw, eC_s, e, cI_s]
  rw [in_X12_when, dc_X12_when_0]
  simp only [c_needKey, cVb]
  cases hk : bKey key with
  | false => exact ⟨fun hc => (by cases hc), fun _ => rfl⟩
  | true =>
    simp only [if_true, Bool.true_and]
    have e18 : CO s x nb (rn_ tb_ct tb_mt B mm_X12_when 18 [.ref x, .int key, .int v, .int l, .int y] [.int 1] s) (bIn l 0 3) (.int (p_when σ key v l y).1) (p_when σ key v l y).2 := by
      rw [dc_X12_when_18, c_need1]
      simp only [cV_s]
      unfold bIn
      by_cases h1 : l < 0
      · rw [if_pos h1, decide_eq_true h1, dc_X12_when_34, dc_X12_when_35, c_need0]
        exact ⟨fun hc => (by cases hc), fun _ => rfl⟩
      · by_cases h2 : (3 : Int32) < l
        · rw [if_neg h1, if_pos h2, decide_eq_false h1, decide_eq_true h2, dc_X12_when_34, dc_X12_when_35, c_need0]
          exact ⟨fun hc => (by cases hc), fun _ => rfl⟩
        · rw [if_neg h1, if_neg h2, decide_eq_false h1, decide_eq_false h2]
          exact e35
    have e18n : rn_ tb_ct tb_mt B mm_X12_when 17 [.ref x, .int key, .int v, .int l, .int y] [] s = some (.inr 0, am_bump s) := by
      rw [dc_X12_when_17, dc_X12_when_18, c_need0]
      rfl
    have eb : ∀ w, bIn w 0 3 = (!decide (w < 0) && !decide ((3 : Int32) < w)) := fun _ => rfl
    rw [eb v]
    by_cases h1 : v < 0
    · rw [if_pos h1, decide_eq_true h1, e18n]
      exact ⟨fun hc => (by cases hc), fun _ => rfl⟩
    · by_cases h2 : (3 : Int32) < v
      · rw [if_neg h1, if_pos h2, decide_eq_false h1, decide_eq_true h2, e18n]
        exact ⟨fun hc => (by cases hc), fun _ => rfl⟩
      · rw [if_neg h1, if_neg h2, decide_eq_false h1, decide_eq_false h2]
        exact e18
theorem c_then (h : CX B s x nb sb u σ) : CO s x nb (cl_ tb_ct tb_mt B K_X12_then [.ref x, .int key, .int v, .int l] s) (bStep key v l) (.int (p_step σ 0 key v l).1) (p_step σ 0 key v l).2 := by
  rw [in_X12_then, dc_X12_then_0]
  simp only [c_needStep, cVb]
  cases hk : bStep key v l with
  | false => exact ⟨fun hc => (by cases hc), fun _ => rfl⟩
  | true =>
    refine ⟨fun _ => h.ret ?_, fun hc => by cases hc⟩
    obtain ⟨c1, c2, c3⟩ := pw_add (B := B) h.ss.p1 (by have := h.n; omega) key v l
    simp only [if_true, xo_0 h.o, eA_s, sr_t h.ss, tw_s1 h.ss.tw, pw_cls h.ss.p1, eC_s]
    unfold p_step
    by_cases h6 : σ.1 10 = 6
    · rw [if_pos h6]
      exact ⟨s, by rw [c1 h6]; rfl, so_rfl, h.ss⟩
    · rw [if_neg h6]
      by_cases hf : fi (fun i => decide (σ.2 6 i 1 = v)) 0 (σ.1 10) < σ.1 10
      · rw [if_pos hf]
        exact ⟨s, by rw [c2 h6 hf]; rfl, so_rfl, h.ss⟩
      · rw [if_neg hf]
        obtain ⟨s', e, o, k⟩ := c3 h6 hf
        exact ⟨s', by rw [e]; rfl, so_up o (by omega) (by omega), SR.setP1 h.ss o k⟩
theorem c_otherwise (h : CX B s x nb sb u σ) : CO s x nb (cl_ tb_ct tb_mt B K_X12_otherwise [.ref x, .int key, .int v, .int l] s) (bStep key v l) (.int (p_step σ 1 key v l).1) (p_step σ 1 key v l).2 := by
  rw [in_X12_otherwise, dc_X12_otherwise_0]
  simp only [c_needStep, cVb]
  cases hk : bStep key v l with
  | false => exact ⟨fun hc => (by cases hc), fun _ => rfl⟩
  | true =>
    refine ⟨fun _ => h.ret ?_, fun hc => by cases hc⟩
    obtain ⟨c1, c2, c3⟩ := pw_add (B := B) h.ss.p2 (by have := h.n; omega) key v l
    simp only [if_true, xo_0 h.o, eA_s, sr_t h.ss, tw_s2 h.ss.tw, pw_cls h.ss.p2, eC_s]
    unfold p_step
    by_cases h6 : σ.1 11 = 6
    · rw [if_pos h6]
      exact ⟨s, by rw [c1 h6]; rfl, so_rfl, h.ss⟩
    · rw [if_neg h6]
      by_cases hf : fi (fun i => decide (σ.2 7 i 1 = v)) 0 (σ.1 11) < σ.1 11
      · rw [if_pos hf]
        exact ⟨s, by rw [c2 h6 hf]; rfl, so_rfl, h.ss⟩
      · rw [if_neg hf]
        obtain ⟨s', e, o, k⟩ := c3 h6 hf
        exact ⟨s', by rw [e]; rfl, so_up o (by omega) (by omega), SR.setP2 h.ss o k⟩
theorem c_holds (h : CX B s x nb sb u σ) : CO s x nb (cl_ tb_ct tb_mt B K_X12_holds [.ref x] s) true (.int (if p_fail σ < σ.1 9 then nI (p_fail σ) else -1)) σ := by
  refine ⟨fun _ => h.same ?_, fun hc => by cases hc⟩
  have e := tw_failing (B := B) h.ss.tw h.a.2.2.2.2.1.2.1 h.ss.kw
  rw [in_X12_holds, dc_X12_holds_0]
  simp only [xo_0 h.o, eA_s, sr_t h.ss, sr_k h.ss, tw_cls h.ss.tw, eC_s, e, cI_s]
  rfl
theorem c_wouldWrite (h : CX B s x nb sb u σ) : CO s x nb (cl_ tb_ct tb_mt B K_X12_wouldWrite [.ref x] s) true (.int (nI (p_does σ))) σ := by
  refine ⟨fun _ => h.same ?_, fun hc => by cases hc⟩
  have e := tw_stepsFor (B := B) h.ss.tw h.a.2.2.2.2.1.2.1 h.ss.kw
  have hP := st_pw h.ss
  have e2 := pw_events (B := B) hP h.ss.kw
  have ea : (if fi (cdK (σ.2 5) (σ.2 0) (σ.1 3)) 0 (σ.1 9) < σ.1 9 then nb + 181 + 9 else nb + 181 + 5) = if p_fail σ < σ.1 9 then nb + 190 else nb + 186 := rfl
  rw [in_X12_wouldWrite, dc_X12_wouldWrite_0]
  simp only [xo_0 h.o, eA_s, sr_t h.ss, sr_k h.ss, tw_cls h.ss.tw, eC_s, e, cA_s]
  rw [ea, pw_cls hP]
  simp only [eC_s, e2, cI_s]
  rfl
end Ca
