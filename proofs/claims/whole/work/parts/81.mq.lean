/-! ===== the model: keys, events, checks ===== -/
def MM (B : Nat) (s : am_S) (m : Nat) (v : Nat → Int32) (F : mrT) (σ : stT) : Prop := MO s m v F ∧ FR (F 1) σ ∧ SZ σ ∧ B ≤ m
/-- a call of the model: what it answers, what is thrown, the row behind it -/
def MR (s : am_S) (m : Nat) (v : Nat → Int32) (F : mrT) (R : am_R) (c : Int32) (a : Value) (σ' : stT) : Prop := ∃ s' v' F', R = some (.inl (some a), s') ∧ so s s' m (m + 12) ∧ MO s' m v' F' ∧ FR (F' 1) σ' ∧ KM v v' F F' ∧ v' 4 = c
section Mq
variable {s s' s1 : am_S} {B m i j n : Nat} {v v' v1 : Nat → Int32} {F F' F1 : mrT} {σ σ' : stT} {x y c key : Int32} {a : Value} {R : am_R}
theorem MR.tr (h : MR s1 m v1 F1 R c a σ') (ho : so s s1 m (m + 12)) (hk : KM v v1 F F1) : MR s m v F R c a σ' := by
  obtain ⟨s', v', F', h1, h2, h3, h4, h5, h6⟩ := h
  exact ⟨s', v', F', h1, so_tr ho h2, h3, h4, hk.tr h5, h6⟩
theorem MR.in (h : MO s m v F) (hf : FR (F 1) σ') (h4 : v 4 = c) (e : R = some (.inl (some a), s)) : MR s m v F R c a σ' := ⟨s, v, F, e, so_rfl, h, hf, KM.rf, h4⟩
theorem MM.p4 (h : MM B s m v F σ) {x : Int32} : MM B (moS s m (upd v 4 x) F) m (upd v 4 x) F σ := ⟨OV.of, h.2⟩
theorem MM.p7 (h : MM B s m v F σ) {x : Int32} : MM B (moS s m (upd v 7 x) F) m (upd v 7 x) F σ := ⟨OV.of, h.2⟩
theorem MM.gz (h : MM B s m v F σ) (hk : i ≤ 12) : aI s (m + 1) (nI i) = some (nI (σ.1 i)) := by
  rw [mr_n h.1 (by omega), h.2.1.1 i hk]
theorem MM.gk {w : Nat} (h : MM B s m v F σ) (hi : i < σ.1 3) (hw : w < 6) : aI s (m + 1) (nI (13 + 6 * i + w)) = some (σ.2 0 i w) := by
  have := h.2.2.1.1
  rw [mr_n h.1 (by omega), h.2.1.2.1 i w hi hw]
theorem MM.gev {w : Nat} (h : MM B s m v F σ) (hi : i < σ.1 6) (hw : w < 6) : aI s (m + 1) (nI (189 + 6 * i + w)) = some (σ.2 2 i w) := by
  have := h.2.2.1.2.2.1
  rw [mr_n h.1 (by omega), h.2.1.2.2.2.1 i w hi hw]
theorem MM.gl {w : Nat} (h : MM B s m v F σ) (hi : i < σ.1 4) (hw : w < 3) : aI s (m + 1) (nI (1149 + 3 * i + w)) = some (σ.2 3 i w) := by
  have := h.2.2.1.2.2.2.1
  rw [mr_n h.1 (by omega), h.2.1.2.2.2.2.1 i w hi hw]
theorem MM.gw {w : Nat} (h : MM B s m v F σ) (hi : i < σ.1 5) (hw : w < 12) : aI s (m + 1) (nI (1173 + 12 * i + w)) = some (σ.2 4 i w) := by
  have := h.2.2.1.2.2.2.2.1
  rw [mr_n h.1 (by omega), h.2.1.2.2.2.2.2.1 i w hi hw]
theorem i64_lt {x y : Int32} : x.toInt64 < y.toInt64 ↔ x < y := by
  rw [Int64.lt_iff_toInt_lt, Int32.lt_iff_toInt_lt, Int32.toInt_toInt64, Int32.toInt_toInt64]
theorem mi_in (x y z : Int32) {j2 j4 : Int64} (h2 : y.toInt64 = j2) (h4 : z.toInt64 = j4) : cl_ tb_ct tb_mt B K_X13_in [.long x.toInt64, .long j2, .long j4] s = some (.inl (some (.int (if bIn x y z = true then 1 else 0))), s) := by
  subst h2 h4
  rw [in_X13_in, dc_X13_in_0]
  unfold bIn
  by_cases c1 : x < y
  · rw [if_pos ((lg_cmp_lt _ _).mpr (i64_lt.mpr c1)), decide_eq_true c1]
    rfl
  · by_cases c2 : z < x
    · rw [if_neg (fun hc => c1 (i64_lt.mp ((lg_cmp_lt _ _).mp hc))), if_pos ((lg_cmp_gt _ _).mpr (i64_lt.mpr c2)), decide_eq_true c2, decide_eq_false c1]
      rfl
    · rw [if_neg (fun hc => c1 (i64_lt.mp ((lg_cmp_lt _ _).mp hc))), if_neg (fun hc => c2 (i64_lt.mp ((lg_cmp_gt _ _).mp hc))), decide_eq_false c1, decide_eq_false c2]
      rfl
theorem if_b {b : Bool} {f g : am_R} : (if (if b = true then (1 : Int32) else 0) = 0 then f else g) = if b = true then g else f := by
  cases b <;> rfl
theorem if_p {p : Prop} [Decidable p] {f g : am_R} : (if (if p then (1 : Int32) else 0) = 0 then f else g) = if p then g else f := by
  by_cases h : p
  · rw [if_pos h, if_pos h, if_neg (by decide)]
  · rw [if_neg h, if_neg h, if_pos rfl]
theorem rt_b {b : Bool} : rtI .boolean (if b = true then 1 else 0) s = some (.inl (some (.int (if b = true then 1 else 0))), s) := by
  cases b <;> rfl
theorem mi_isKey : cl_ tb_ct tb_mt B K_X13_isKey [.int x] s = some (.inl (some (.int (if bKey x = true then 1 else 0))), s) := by
  rw [in_X13_isKey, dc_X13_isKey_0, mi_in x 0 999 (j2 := 0) (j4 := 999) rfl rfl, cI_s]
  exact rt_b
theorem mi_isValue : cl_ tb_ct tb_mt B K_X13_isValue [.int x] s = some (.inl (some (.int (if bVal x = true then 1 else 0))), s) := by
  rw [in_X13_isValue, dc_X13_isValue_0, mi_in x (-1000000) 1000000 (j2 := 18446744073708551616) (j4 := 1000000) (by decide +kernel) rfl, cI_s]
  exact rt_b
theorem mi_isRange : cl_ tb_ct tb_mt B K_X13_isRange [.int x, .int y] s = some (.inl (some (.int (if bRange x y = true then 1 else 0))), s) := by
  rw [in_X13_isRange, dc_X13_isRange_0, mi_isKey, cI_s, if_b]
  unfold bRange
  cases bKey y with
  | false => rfl
  | true =>
    rw [if_pos rfl, mi_in x 0 y (j2 := 0) rfl rfl, cI_s]
    cases bIn x 0 y <;> rfl
theorem mi_thr (h : MO s m v F) (hB : B ≤ m) {b : Bool} : cl_ tb_ct tb_mt B K_X13_isThrown [.ref m, .int (if b = true then 1 else 0), .int c] s = some (.inl (some (.int (if b = true then 0 else 1))), moS s m (upd v 4 (if b = true then 0 else c)) F) := by
  rw [in_X13_isThrown, dc_X13_isThrown_0, if_b]
  cases b with
  | false =>
    rw [if_neg (by decide), dc_X13_isThrown_10, mp_4 h hB, eS_s, if_b]
    rfl
  | true =>
    rw [if_pos rfl, dc_X13_isThrown_10, mp_4 h hB, eS_s, if_b]
    rfl
theorem mi_go (h : MM B s m v F σ) (ok : Bool) {c : Int32} {f g : am_S → am_R} : cI (cl_ tb_ct tb_mt B K_X13_isThrown [.ref m, .int (if ok = true then 1 else 0), .int c] s) (fun x_2 s_1 => if x_2 = 0 then f s_1 else g s_1) xo = if ok = true then f (moS s m (upd v 4 0) F) else g (moS s m (upd v 4 c) F) := by
  rw [mi_thr h.1 h.2.2.2, cI_s]
  cases ok <;> rfl
/-- the whole of a call that looks at its arguments first -/
theorem mi_call (h : MM B s m v F σ) {ok : Bool} {f g : am_S → am_R} (h1 : ok = true → MR (moS s m (upd v 4 0) F) m (upd v 4 0) F (f (moS s m (upd v 4 0) F)) 0 a σ') (h2 : ok = false → g (moS s m (upd v 4 c) F) = some (.inl (some (.int 0)), moS s m (upd v 4 c) F)) : MR s m v F (cI (cl_ tb_ct tb_mt B K_X13_isThrown [.ref m, .int (if ok = true then 1 else 0), .int c] s) (fun x_2 s_1 => if x_2 = 0 then f s_1 else g s_1) xo) (if ok = true then 0 else c) (if ok = true then a else .int 0) (if ok = true then σ' else σ) := by
  rw [mi_go h]
  cases ok with
  | true => exact (h1 rfl).tr so_ov (KM.p (by omega))
  | false => exact ⟨_, _, _, h2 rfl, so_ov, OV.of, h.2.1, KM.p (by omega), upd_k⟩
theorem mk_keyAt {w : Nat} (h : MM B s m v F σ) (hi : i < σ.1 3) (hw : w < 6) : cl_ tb_ct tb_mt B K_X13_keyAt [.ref m, .int (nI i), .int (nI w)] s = some (.inl (some (.int (σ.2 0 i w))), s) := by
  rw [in_X13_keyAt, dc_X13_keyAt_0, mo_0 h.1, eA_s]
  simp only [nn0, nn1, nn2, nn3, nn4, nn5, nn6, nn7, nn8, nn9, nn10, nn11, nn12, nn13, nn15, nn16, nn18, nn28, nn45, nn48, nn57, nn58, nn59, nn97, nn120, nn122, nn157, nn189, nn500, nn999, nn1000, nn1149, nn1173, nn1269, nn1293, nn1311, nn1329, nn9999, nI_add, nI_mul]
  rw [h.gk hi hw, eI_s]
theorem mk_event {w : Nat} (h : MM B s m v F σ) (hi : i < σ.1 6) (hw : w < 6) : cl_ tb_ct tb_mt B K_X13_eventAt [.ref m, .int (nI i), .int (nI w)] s = some (.inl (some (.int (σ.2 2 i w))), s) := by
  rw [in_X13_eventAt, dc_X13_eventAt_0, mo_0 h.1, eA_s]
  simp only [nn0, nn1, nn2, nn3, nn4, nn5, nn6, nn7, nn8, nn9, nn10, nn11, nn12, nn13, nn15, nn16, nn18, nn28, nn45, nn48, nn57, nn58, nn59, nn97, nn120, nn122, nn157, nn189, nn500, nn999, nn1000, nn1149, nn1173, nn1269, nn1293, nn1311, nn1329, nn9999, nI_add, nI_mul]
  rw [h.gev hi hw, eI_s]
theorem mk_place_lp (h : MM B s m v F σ) : ∀ k i, i + k = σ.1 3 → rn_ tb_ct tb_mt B mm_X13_placeOf 2 [.ref m, .int key, .int (nI i)] [] s = some (.inl (some (.int (nI (fi (fun i => !decide (σ.2 0 i 0 < key)) i k)))), s) := by
  have h3 := h.2.2.1.1
  intro k
  induction k with
  | zero =>
    intro i hi
    rw [dc_X13_placeOf_2, mo_0 h.1, eA_s, show (3 : Int32) = nI 3 from rfl, h.gz (by omega), eI_s, if_pos (nI_le (by omega) (by omega)), fi_0]
  | succ k ih =>
    intro i hi
    rw [dc_X13_placeOf_2, mo_0 h.1, eA_s, show (3 : Int32) = nI 3 from rfl, h.gz (by omega), eI_s, if_neg (nI_ge (by omega) (by omega)), mo_cls h.1, eC_s, show (0 : Int32) = nI 0 from rfl, mk_keyAt h (by omega) (by omega), cI_s, fi_s]
    by_cases c : σ.2 0 i 0 < key
    · rw [if_neg (Int32.not_le.mpr c), decide_eq_true c, nI_1]
      exact ih (i + 1) (by omega)
    · rw [if_pos (Int32.not_lt.mp c), decide_eq_false c]
      rfl
theorem mk_place (h : MM B s m v F σ) : cl_ tb_ct tb_mt B K_X13_placeOf [.ref m, .int key] s = some (.inl (some (.int (nI (pI (σ.2 0) (σ.1 3) key)))), s) := by
  rw [in_X13_placeOf, dc_X13_placeOf_0]
  exact mk_place_lp h (σ.1 3) 0 (by omega)
theorem mk_there (h : MM B s m v F σ) (hs : srt (σ.2 0) (σ.1 3)) : cl_ tb_ct tb_mt B K_X13_isThere [.ref m, .int key] s = some (.inl (some (.int (if isK σ key then 1 else 0))), s) := by
  have h3 := h.2.2.1.1
  have hp : pI (σ.2 0) (σ.1 3) key ≤ σ.1 3 := pI_le
  have iff := pI_there (key := key) hs
  rw [in_X13_isThere, dc_X13_isThere_0, mo_cls h.1, eC_s, mk_place h, cI_s, mo_0 h.1, eA_s, show (3 : Int32) = nI 3 from rfl, h.gz (by omega), eI_s]
  by_cases c : pI (σ.2 0) (σ.1 3) key < σ.1 3
  · rw [if_neg (nI_ge c (by omega)), mo_cls h.1, eC_s, show (0 : Int32) = nI 0 from rfl, mk_keyAt h c (by omega), cI_s]
    by_cases d : σ.2 0 (pI (σ.2 0) (σ.1 3) key) 0 = key
    · rw [if_pos d, if_pos (iff.mpr ⟨c, d⟩)]
    · rw [if_neg d, if_neg (fun hc => d (iff.mp hc).2)]
  · rw [if_pos (nI_le (by omega) (by omega)), if_neg (fun hc => c (iff.mp hc).1)]
theorem mk_asked (h : MM B s m v F σ) : cl_ tb_ct tb_mt B K_X13_asked [.ref m, .int x] s = some (.inl (some (.int (askd (σ.1 0) x))), s) := by
  rw [in_X13_asked, dc_X13_asked_0]
  unfold askd
  by_cases c : x = 0
  · rw [if_pos c, if_pos c, mo_0 h.1, eA_s, show (0 : Int32) = nI 0 from rfl, h.gz (by omega), eI_s]
  · rw [if_neg c, if_neg c]
theorem mk_why (h : MM B s m v F σ) : cl_ tb_ct tb_mt B K_X13_whyNot [.ref m, .int x] s = some (.inl (some (.int (whyN (σ.1 0) (σ.1 1) x))), s) := by
  rw [in_X13_whyNot, dc_X13_whyNot_0, mo_0 h.1, eA_s, show (1 : Int32) = nI 1 from rfl, h.gz (by omega), eI_s]
  unfold whyN
  by_cases c : x < nI (σ.1 1)
  · rw [if_neg (Int32.not_le.mpr c), if_pos c]
  · rw [if_pos (Int32.not_lt.mp c), if_neg c, eA_s, show (0 : Int32) = nI 0 from rfl, h.gz (by omega), eI_s]
    by_cases d : nI (σ.1 0) < x
    · rw [if_neg (Int32.not_le.mpr d), if_pos d]
    · rw [if_pos (Int32.not_lt.mp d), if_neg d]
theorem mk_isIn (h : MM B s m v F σ) (hi : i < σ.1 3) : cl_ tb_ct tb_mt B K_X13_isIn [.ref m, .int (nI i), .int x, .int y] s = some (.inl (some (.int (if inR x y (σ.2 0 i) = true then 1 else 0))), s) := by
  rw [in_X13_isIn, dc_X13_isIn_0, mo_cls h.1, eC_s, show (0 : Int32) = nI 0 from rfl, mk_keyAt h hi (by omega), cI_s, mi_in (σ.2 0 i 0) x y rfl rfl, cI_s]
  exact rt_b
theorem mk_leaseOf_lp (h : MM B s m v F σ) : ∀ k i, i + k = σ.1 4 → rn_ tb_ct tb_mt B mm_X13_leaseOf 2 [.ref m, .int x, .int (nI i)] [] s = some (.inl (some (.int (if fi (fun i => decide (σ.2 3 i 0 = x)) i k < σ.1 4 then nI (fi (fun i => decide (σ.2 3 i 0 = x)) i k) else -1))), s) := by
  have h4 := h.2.2.1.2.2.2.1
  intro k
  induction k with
  | zero =>
    intro i hi
    rw [dc_X13_leaseOf_2, mo_0 h.1, eA_s, show (4 : Int32) = nI 4 from rfl, h.gz (by omega), eI_s, if_pos (nI_le (by omega) (by omega)), fi_0, if_neg (by omega)]
  | succ k ih =>
    intro i hi
    rw [dc_X13_leaseOf_2, mo_0 h.1, eA_s, show (4 : Int32) = nI 4 from rfl, h.gz (by omega), eI_s, if_neg (nI_ge (by omega) (by omega)), eA_s]
    simp only [nn0, nn1, nn2, nn3, nn4, nn5, nn6, nn7, nn8, nn9, nn10, nn11, nn12, nn13, nn15, nn16, nn18, nn28, nn45, nn48, nn57, nn58, nn59, nn97, nn120, nn122, nn157, nn189, nn500, nn999, nn1000, nn1149, nn1173, nn1269, nn1293, nn1311, nn1329, nn9999, nI_add, nI_mul]
    have e : aI s (m + 1) (nI (1149 + 3 * i)) = some (σ.2 3 i 0) := h.gl (i := i) (w := 0) (by omega) (by omega)
    rw [e, eI_s, fi_s]
    by_cases c : σ.2 3 i 0 = x
    · rw [if_pos c, if_pos (decide_eq_true c), if_pos (by omega)]
    · rw [if_neg c, if_neg (show ¬ decide (σ.2 3 i 0 = x) = true by rw [decide_eq_true_eq]; exact c)]
      exact ih (i + 1) (by omega)
theorem mk_leaseOf (h : MM B s m v F σ) : cl_ tb_ct tb_mt B K_X13_leaseOf [.ref m, .int x] s = some (.inl (some (.int (if pF (σ.2 3) (σ.1 4) x < σ.1 4 then nI (pF (σ.2 3) (σ.1 4) x) else -1))), s) := by
  rw [in_X13_leaseOf, dc_X13_leaseOf_0]
  exact mk_leaseOf_lp h (σ.1 4) 0 (by omega)
theorem mk_isLease (h : MM B s m v F σ) : cl_ tb_ct tb_mt B K_X13_isLease [.ref m, .int x] s = some (.inl (some (.int (if pF (σ.2 3) (σ.1 4) x < σ.1 4 then 1 else 0))), s) := by
  have h4 := h.2.2.1.2.2.2.1
  rw [in_X13_isLease, dc_X13_isLease_0, mo_cls h.1, eC_s, mk_leaseOf h, cI_s]
  by_cases c : pF (σ.2 3) (σ.1 4) x < σ.1 4
  · rw [if_pos c, if_pos c, if_neg (nI_m1 (by omega))]
  · rw [if_neg c, if_neg c, if_pos rfl]
theorem mk_writesOf_lp (h : MM B s m v F σ) : ∀ k i j, i + k = σ.1 6 → rn_ tb_ct tb_mt B mm_X13_writesOf 4 [.ref m, .int key, .int (nI j), .int (nI i)] [] s = some (.inl (some (.int (nI (j + cn (fun i => decide (σ.2 2 i 2 = key)) i k)))), s) := by
  have h6 := h.2.2.1.2.2.1
  intro k
  induction k with
  | zero =>
    intro i j hi
    rw [dc_X13_writesOf_4, mo_0 h.1, eA_s, show (6 : Int32) = nI 6 from rfl, h.gz (by omega), eI_s, if_pos (nI_le (by omega) (by omega))]
    rfl
  | succ k ih =>
    intro i j hi
    rw [dc_X13_writesOf_4, mo_0 h.1, eA_s, show (6 : Int32) = nI 6 from rfl, h.gz (by omega), eI_s, if_neg (nI_ge (by omega) (by omega)), mo_cls h.1, eC_s, show (2 : Int32) = nI 2 from rfl, mk_event h (by omega) (by omega), cI_s, cn_s]
    by_cases c : σ.2 2 i 2 = key
    · rw [if_pos c, dc_X13_writesOf_31, nI_1, nI_1, ih (i + 1) (j + 1) (by omega), if_pos (decide_eq_true c), Nat.add_assoc]
    · rw [if_neg c, dc_X13_writesOf_31, Int32.add_zero, nI_1, ih (i + 1) j (by omega), if_neg (show ¬ decide (σ.2 2 i 2 = key) = true by rw [decide_eq_true_eq]; exact c), Nat.zero_add]
theorem mk_writesOf (h : MM B s m v F σ) : cl_ tb_ct tb_mt B K_X13_writesOf [.ref m, .int key] s = some (.inl (some (.int (nI (q_wrs σ key)))), s) := by
  rw [in_X13_writesOf, dc_X13_writesOf_0]
  have := mk_writesOf_lp (B := B) (key := key) h (σ.1 6) 0 0 (by omega)
  rw [Nat.zero_add] at this
  exact this
theorem m_writes (h : MM B s m v F σ) : MR s m v F (cl_ tb_ct tb_mt B K_X13_writes_ [.ref m, .int key] s) (if bKey key = true then 0 else 1) (if bKey key = true then .int (nI (q_wrs σ key)) else .int 0) (if bKey key = true then σ else σ) := by
  rw [in_X13_writes_, dc_X13_writes__0, mi_isKey, cI_s, mo_cls h.1, eC_s]
  refine mi_call h (fun _ => MR.in OV.of h.2.1 upd_k ?_) fun _ => rfl
  rw [mo_cls h.p4.1, eC_s, mk_writesOf h.p4, cI_s]
theorem m_get (h : MM B s m v F σ) (hs : srt (σ.2 0) (σ.1 3)) : MR s m v F (cl_ tb_ct tb_mt B K_X13_get [.ref m, .int key, .int y] s) (if (bKey key && bIn y 0 4) = true then 0 else 1) (if (bKey key && bIn y 0 4) = true then .int (q_get σ key (nN y)) else .int 0) (if (bKey key && bIn y 0 4) = true then σ else σ) := by
  have e : cl_ tb_ct tb_mt B K_X13_get [.ref m, .int key, .int y] s = rn_ tb_ct tb_mt B mm_X13_get 25 [.ref m, .int key, .int y] [.int (if (bKey key && bIn y 0 4) = true then 1 else 0), .ref m] s := by
    rw [in_X13_get, dc_X13_get_0, mi_isKey, cI_s, if_b]
    cases bKey key with
    | false => rw [if_neg (by decide), dc_X13_get_24]; rfl
    | true =>
      rw [if_pos rfl, mi_in y 0 4 (j2 := 0) (j4 := 4) rfl rfl, cI_s, if_b]
      cases bIn y 0 4 with
      | false => rw [if_neg (by decide), dc_X13_get_24]; rfl
      | true => rfl
  rw [e, dc_X13_get_25, mo_cls h.1, eC_s]
  refine mi_call h (fun ok => MR.in OV.of h.2.1 upd_k ?_) fun _ => rfl
  rw [Bool.and_eq_true] at ok
  obtain ⟨j, hj, rfl⟩ := bInN (m := 4) (by omega) ok.2
  have h' := h.p4 (x := 0)
  rw [mo_cls h'.1, eC_s, mk_there h' hs, cI_s, if_p]
  unfold q_get
  by_cases c : isK σ key
  · obtain ⟨c1, c2⟩ := (pI_there (key := key) hs).mp c
    have e2 : pF (σ.2 0) (σ.1 3) key = pI (σ.2 0) (σ.1 3) key := pF_of hs c1 c2
    rw [if_pos c, mo_cls h'.1, eC_s, mk_place h', cI_s, mo_cls h'.1, eC_s, show (1 : Int32) = nI 1 from rfl, nI_add, mk_keyAt h' c1 (by omega), cI_s, if_pos c, e2, nN_nI (by omega), Nat.add_comm]
  · rw [if_neg c, if_neg c]
    rfl
end Mq
