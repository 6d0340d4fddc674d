/-! ===== the model: watches ===== -/
section Ms
variable {s s' : am_S} {B m i j n e : Nat} {v v' : Nat → Int32} {F F' : mrT} {g g' : Nat → Int32} {x y f t key : Int32} {σ σ' : stT} {R : Nat → Int32}
theorem bIn_ix (hn : n < 2 ^ 30) : bIn x 0 (nI n - 1) = bIx x n := by
  unfold bIn bIx
  by_cases c : x < 0
  · rw [decide_eq_true c]
    rfl
  · obtain ⟨k, hk, rfl⟩ := nI_of c
    congr 1
    have e : (nI n - 1).toInt = (n : Int) - 1 := by
      rw [Int32.toInt_sub, nI_toInt (by omega), show (1 : Int32).toInt = 1 from rfl, Int.bmod_eq_of_le (by omega) (by omega)]
    by_cases d : k < n
    · rw [decide_eq_true (nI_lt d (by omega)), decide_eq_false (fun hc => by
        rw [Int32.lt_iff_toInt_lt, e, nI_toInt hk] at hc
        omega)]
      rfl
    · rw [decide_eq_false (nI_nlt (by omega) hk), decide_eq_true (by
        rw [Int32.lt_iff_toInt_lt, e, nI_toInt hk]
        omega)]
      rfl
theorem mk_wat {w : Nat} (h : MM B s m v F σ) (hi : i < σ.1 5) (hw : w < 12) : cl_ tb_ct tb_mt B K_X13_watchAt [.ref m, .int (nI i), .int (nI w)] s = some (.inl (some (.int (σ.2 4 i w))), s) := by
  rw [in_X13_watchAt, dc_X13_watchAt_0, mo_0 h.1, eA_s]
  simp only [nn0, nn1, nn2, nn3, nn4, nn5, nn6, nn7, nn8, nn9, nn10, nn11, nn12, nn13, nn15, nn16, nn18, nn28, nn45, nn48, nn57, nn58, nn59, nn97, nn120, nn122, nn157, nn189, nn500, nn999, nn1000, nn1149, nn1173, nn1269, nn1293, nn1311, nn1329, nn9999, nI_add, nI_mul]
  rw [h.gw hi hw, eI_s]
theorem mk_isWatch (h : MM B s m v F σ) : cl_ tb_ct tb_mt B K_X13_isWatch [.ref m, .int x] s = some (.inl (some (.int (if bIx x (σ.1 5) = true then 1 else 0))), s) := by
  have h5 := h.2.2.1.2.2.2.2.1
  rw [in_X13_isWatch, dc_X13_isWatch_0, mo_0 h.1, eA_s, show (5 : Int32) = nI 5 from rfl, h.gz (by omega), eI_s, mi_in x 0 (nI (σ.1 5) - 1) (j2 := 0) rfl rfl, cI_s, bIn_ix (by omega)]
  exact rt_b
theorem w1k {a b : Int32} : a = b - 1 ↔ b = a + 1 := by
  constructor
  · intro h
    rw [h, Int32.sub_add_cancel]
  · intro h
    rw [h, Int32.add_sub_cancel]
theorem mk_sees (h : MM B s m v F σ) (hi : i < σ.1 5) (he : e < σ.1 6) (ht : σ.1 7 + σ.1 6 < 2 ^ 31) : cl_ tb_ct tb_mt B K_X13_sees [.ref m, .int (nI i), .int (nI e)] s = some (.inl (some (.int (if p_sw σ i e = true then 1 else 0))), s) := by
  have w0 : cl_ tb_ct tb_mt B K_X13_watchAt [.ref m, .int (nI i), .int (0 : Int32)] s = some (.inl (some (.int (σ.2 4 i 0))), s) := mk_wat (w := 0) h hi (by omega)
  have w1 : cl_ tb_ct tb_mt B K_X13_watchAt [.ref m, .int (nI i), .int (1 : Int32)] s = some (.inl (some (.int (σ.2 4 i 1))), s) := mk_wat (w := 1) h hi (by omega)
  have w2 : cl_ tb_ct tb_mt B K_X13_watchAt [.ref m, .int (nI i), .int (2 : Int32)] s = some (.inl (some (.int (σ.2 4 i 2))), s) := mk_wat (w := 2) h hi (by omega)
  have w3 : cl_ tb_ct tb_mt B K_X13_watchAt [.ref m, .int (nI i), .int (3 : Int32)] s = some (.inl (some (.int (σ.2 4 i 3))), s) := mk_wat (w := 3) h hi (by omega)
  have v1 : cl_ tb_ct tb_mt B K_X13_eventAt [.ref m, .int (nI e), .int (1 : Int32)] s = some (.inl (some (.int (σ.2 2 e 1))), s) := mk_event (w := 1) h he (by omega)
  have v2 : cl_ tb_ct tb_mt B K_X13_eventAt [.ref m, .int (nI e), .int (2 : Int32)] s = some (.inl (some (.int (σ.2 2 e 2))), s) := mk_event (w := 2) h he (by omega)
  rw [in_X13_sees, dc_X13_sees_0, mo_cls h.1, eC_s, w2, cI_s, mo_0 h.1, eA_s, show (7 : Int32) = nI 7 from rfl, h.gz (by omega), eI_s, mo_cls h.1, eC_s, w3, cI_s, nI_add]
  unfold p_sw sW seeB
  by_cases c1 : nI (σ.1 7 + e) < σ.2 4 i 3
  · rw [if_pos c1, decide_eq_true c1]
    rfl
  · rw [if_neg c1, decide_eq_false c1, mo_cls h.1, eC_s, v2, cI_s, mo_cls h.1, eC_s, w0, cI_s, mo_cls h.1, eC_s, w1, cI_s, mi_in (σ.2 2 e 2) (σ.2 4 i 0) (σ.2 4 i 1) rfl rfl, cI_s, if_b]
    unfold bIn
    cases decide (σ.2 2 e 2 < σ.2 4 i 0) with
    | true => rfl
    | false =>
      cases decide (σ.2 4 i 1 < σ.2 2 e 2) with
      | true => rfl
      | false =>
        rw [if_pos (show (!false && !false) = true from rfl)]
        by_cases c2 : σ.2 4 i 2 = 0
        · rw [if_pos c2, dc_X13_sees_68, decide_eq_true c2]
          rfl
        · rw [if_neg c2, mo_cls h.1, eC_s, v1, cI_s, decide_eq_false c2]
          by_cases c3 : σ.2 2 e 1 = σ.2 4 i 2 - 1
          · rw [if_pos c3, dc_X13_sees_68, decide_eq_true (w1k.mp c3)]
            rfl
          · rw [if_neg c3, decide_eq_false (fun hc => c3 (w1k.mpr hc))]
            rfl
theorem mk_waiting_lp (h : MM B s m v F σ) (hi : i < σ.1 5) (ht : σ.1 7 + σ.1 6 < 2 ^ 31) : ∀ k e j, e + k = σ.1 6 → rn_ tb_ct tb_mt B mm_X13_waiting 4 [.ref m, .int (nI i), .int (nI j), .int (nI e)] [] s = some (.inl (some (.int (nI (j + cn (p_sw σ i) e k)))), s) := by
  have h6 := h.2.2.1.2.2.1
  intro k
  induction k with
  | zero =>
    intro e j he
    rw [dc_X13_waiting_4, mo_0 h.1, eA_s, show (6 : Int32) = nI 6 from rfl, h.gz (by omega), eI_s, if_pos (nI_le (by omega) (by omega))]
    rfl
  | succ k ih =>
    intro e j he
    rw [dc_X13_waiting_4, mo_0 h.1, eA_s, show (6 : Int32) = nI 6 from rfl, h.gz (by omega), eI_s, if_neg (nI_ge (by omega) (by omega)), mo_cls h.1, eC_s, mk_sees h hi (by omega) ht, cI_s, if_b, cn_s]
    cases p_sw σ i e with
    | true => rw [if_pos rfl, dc_X13_waiting_30, nI_1, nI_1, ih (e + 1) (j + 1) (by omega), if_pos rfl, Nat.add_assoc]
    | false => rw [if_neg (by decide), dc_X13_waiting_30, Int32.add_zero, nI_1, ih (e + 1) j (by omega), if_neg (by decide), Nat.zero_add]
theorem mk_waiting (h : MM B s m v F σ) (hi : i < σ.1 5) (ht : σ.1 7 + σ.1 6 < 2 ^ 31) : cl_ tb_ct tb_mt B K_X13_waiting [.ref m, .int (nI i)] s = some (.inl (some (.int (nI (p_wt σ i)))), s) := by
  rw [in_X13_waiting, dc_X13_waiting_0]
  have := mk_waiting_lp (B := B) h hi ht (σ.1 6) 0 0 (by omega)
  rw [Nat.zero_add] at this
  exact this
theorem mk_firstOf_lp (h : MM B s m v F σ) (hi : i < σ.1 5) (ht : σ.1 7 + σ.1 6 < 2 ^ 31) : ∀ k e, e + k = σ.1 6 → rn_ tb_ct tb_mt B mm_X13_firstOf 2 [.ref m, .int (nI i), .int (nI e)] [] s = some (.inl (some (.int (if fi (p_sw σ i) e k < σ.1 6 then nI (fi (p_sw σ i) e k) else -1))), s) := by
  have h6 := h.2.2.1.2.2.1
  intro k
  induction k with
  | zero =>
    intro e he
    rw [dc_X13_firstOf_2, mo_0 h.1, eA_s, show (6 : Int32) = nI 6 from rfl, h.gz (by omega), eI_s, if_pos (nI_le (by omega) (by omega)), fi_0, if_neg (by omega)]
  | succ k ih =>
    intro e he
    rw [dc_X13_firstOf_2, mo_0 h.1, eA_s, show (6 : Int32) = nI 6 from rfl, h.gz (by omega), eI_s, if_neg (nI_ge (by omega) (by omega)), mo_cls h.1, eC_s, mk_sees h hi (by omega) ht, cI_s, if_b, fi_s]
    cases p_sw σ i e with
    | true => rw [if_pos rfl, if_pos rfl, if_pos (by omega)]
    | false =>
      simp only [Bool.false_eq_true, if_false]
      rw [nI_1]
      exact ih (e + 1) (by omega)
theorem mk_firstOf (h : MM B s m v F σ) (hi : i < σ.1 5) (ht : σ.1 7 + σ.1 6 < 2 ^ 31) : cl_ tb_ct tb_mt B K_X13_firstOf [.ref m, .int (nI i)] s = some (.inl (some (.int (if p_ff σ i < σ.1 6 then nI (p_ff σ i) else -1))), s) := by
  rw [in_X13_firstOf, dc_X13_firstOf_0]
  exact mk_firstOf_lp h hi ht (σ.1 6) 0 (by omega)
/-! what changes a watch -/
theorem FR.wrow (h : FR g σ) (hz : SZ σ) (hi : i < σ.1 5) (hg : ∀ q, (q < 1173 + 12 * i ∨ 1173 + 12 * i + 12 ≤ q) → g' q = g q) (hr : ∀ w, w < 12 → g' (1173 + 12 * i + w) = R w) : FR g' (upW σ i R) := by
  have h5 := hz.2.2.2.2.1
  have := h.t4 (f' := g') (n' := σ.1 5) (R' := va_up (σ.2 4) i R) hz (fun k k5 kr => hg k (by omega)) ((hg 5 (by omega)).trans (h.1 5 (by omega))) (fun q w hq hw => by
    by_cases c : q = i
    · subst c
      rw [va_us]
      exact hr w hw
    · rw [va_un c, hg _ (by omega)]
      exact h.2.2.2.2.2.1 q w hq hw)
  rw [va_id] at this
  exact this
theorem mk_sets {w : Nat} (hB : B ≤ m) (hj : 1173 + 12 * i + w < 1329) : cl_ tb_ct tb_mt B K_X13_sets [.ref m, .int (nI i), .int (nI w), .int x] (moS s m v (m1 F g)) = some (.inl none, moS s m v (m1 F (upd g (1173 + 12 * i + w) x))) := by
  rw [in_X13_sets, dc_X13_sets_0, mo_0s, eA_s]
  simp only [nn0, nn1, nn2, nn3, nn4, nn5, nn6, nn7, nn8, nn9, nn10, nn11, nn12, nn13, nn15, nn16, nn18, nn28, nn45, nn48, nn57, nn58, nn59, nn97, nn120, nn122, nn157, nn189, nn500, nn999, nn1000, nn1149, nn1173, nn1269, nn1293, nn1311, nn1329, nn9999, nI_add, nI_mul]
  rw [mw2 hB hj, eS_s]
theorem ev_le {a : Int32} (h0 : ¬ x < 0) (hx : x ≠ 0) : (x ≤ a) ↔ ¬ (a ≤ x - 1) := by
  obtain ⟨k, hk, rfl⟩ := nI_of h0
  have hk0 : 0 < k := by
    rcases Nat.eq_zero_or_pos k with c | c
    · subst c
      exact absurd rfl hx
    · exact c
  rw [nI_sub1 hk0, Int32.not_le, Int32.le_iff_toInt_le, Int32.lt_iff_toInt_lt, nI_toInt hk, nI_toInt (by omega)]
  omega
theorem mk_starts_lp (h : MM B s m v F σ) (h0 : ¬ x < 0) : ∀ k e, e + k = σ.1 6 → rn_ tb_ct tb_mt B mm_X13_starts 2 [.ref m, .int (nI i), .int x, .int (nI e)] [] s = rn_ tb_ct tb_mt B mm_X13_starts 33 [.ref m, .int (nI i), .int x, .int (nI (if x = 0 then σ.1 6 else fi (fun i => !decide (σ.2 2 i 0 ≤ x - 1)) e k))] [] s := by
  have h6 := h.2.2.1.2.2.1
  intro k
  induction k with
  | zero =>
    intro e he
    rw [dc_X13_starts_2, mo_0 h.1, eA_s, show (6 : Int32) = nI 6 from rfl, h.gz (by omega), eI_s, if_pos (nI_le (by omega) (by omega)), fi_0, show σ.1 6 = e by omega, ite_self]
  | succ k ih =>
    intro e he
    rw [dc_X13_starts_2, mo_0 h.1, eA_s, show (6 : Int32) = nI 6 from rfl, h.gz (by omega), eI_s, if_neg (nI_ge (by omega) (by omega)), fi_s]
    have ih' := ih (e + 1) (by omega)
    by_cases c : x = 0
    · rw [if_pos c] at ih' ⊢
      rw [if_pos c, dc_X13_starts_27, nI_1, ih']
    · rw [if_neg c] at ih' ⊢
      rw [if_neg c, mo_cls h.1, eC_s, show (0 : Int32) = nI 0 from rfl, mk_event h (by omega) (by omega), cI_s]
      by_cases d : x ≤ σ.2 2 e 0
      · rw [if_pos d, decide_eq_false ((ev_le h0 c).mp d)]
        rfl
      · rw [if_neg d, decide_eq_true (Classical.not_not.mp fun hc => d ((ev_le h0 c).mpr hc)), dc_X13_starts_27, nI_1, ih']
        rfl
theorem mk_starts (hB : B ≤ m) (hf : FR g σ) (hz : SZ σ) (h0 : ¬ x < 0) (hi : i < 8) : cl_ tb_ct tb_mt B K_X13_starts [.ref m, .int (nI i), .int x] (moS s m v (m1 F g)) = some (.inl none, moS s m v (m1 F (upd g (1173 + 12 * i + 3) (nI (σ.1 7 + p_first (σ.2 2) (σ.1 6) x))))) := by
  have hM : MM B (moS s m v (m1 F g)) m v (m1 F g) σ := MM.st hB hf hz
  rw [in_X13_starts, dc_X13_starts_0]
  refine Eq.trans (mk_starts_lp hM h0 (σ.1 6) 0 (by omega)) ?_
  rw [dc_X13_starts_33, mo_0s, eA_s, show (7 : Int32) = nI 7 from rfl, hM.gz (by omega), eI_s, nI_add, mo_cs, eC_s, show (3 : Int32) = nI 3 from rfl, mk_sets hB (by omega), cV_s]
  rfl
end Ms
