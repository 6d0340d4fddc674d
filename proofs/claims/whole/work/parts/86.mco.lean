/-! ===== the model: compaction ===== -/
def KT (v v' : Nat → Int32) (F F' : mrT) : Prop := (∀ i, i ≠ 1 → i ≠ 5 → i ≠ 6 → F' i = F i) ∧ ∀ k, k ≠ 7 → v' k = v k
/-- i watches told what they miss -/
def loS (σ : stT) (c i : Nat) : stT := (σ.1, va_up σ.2 4 (fun j => if j < i then loW (σ.1 7) c (σ.2 2) (σ.2 4 j) else σ.2 4 j))
def baF (g : Nat → Int32) (P : Nat × rowT) (k : Nat) : Nat → Int32 := fun q => if 157 ≤ q ∧ q < 157 + 2 * k then (if (q - 157) % 2 = 0 then P.2 ((q - 157) / 2) 0 else P.2 ((q - 157) / 2) 1) else g q
section Mc
variable {s s' : am_S} {B m i j n e c : Nat} {v v' v'' : Nat → Int32} {F F' F'' : mrT} {g g' : Nat → Int32} {x y z key : Int32} {σ σ' : stT} {R : Nat → Int32} {P : Nat × rowT}
theorem KT.rf : KT v v F F := ⟨fun _ _ _ _ => rfl, fun _ _ => rfl⟩
theorem KT.tr (h : KT v v' F F') (h' : KT v' v'' F' F'') : KT v v'' F F'' := ⟨fun i a b c => (h'.1 i a b c).trans (h.1 i a b c), fun k a => (h'.2 k a).trans (h.2 k a)⟩
theorem KT.km (h : KT v v' F F') : KM v v' F F' := ⟨fun i hi => h.1 i (by omega) (by omega) (by omega), fun k _ h7 => h.2 k h7⟩
theorem TK.kt (h : TK v v' F F') : KT v v' F F' := ⟨fun i _ b c => h.1 i b c, h.2⟩
theorem KT.of : KT v v F (m1 F g) := ⟨fun _ h _ _ => if_neg h, fun _ _ => rfl⟩
theorem KT.k1 (h : K1 F F') : KT v v F F' := ⟨fun i h1 _ _ => h i h1, fun _ _ => rfl⟩
theorem FR.eq (h : FR g σ) (e1 : ∀ i, σ'.1 i = σ.1 i) (e2 : ∀ i, σ'.2 i = σ.2 i) : FR g σ' := by
  have : σ' = σ := Prod.ext (funext e1) (funext e2)
  rw [this]
  exact h
theorem FR.c4 (h : FR g σ) (e1 : ∀ i, σ'.1 i = σ.1 i) (e2 : ∀ q, q ≠ 4 → σ'.2 q = σ.2 q) (e4 : ∀ i, i < σ.1 5 → σ'.2 4 i = σ.2 4 i) : FR g σ' := by
  obtain ⟨h0, h1, h2, h3, h4, h5, h6, h7, h8⟩ := h
  refine ⟨fun i hi => ?_, fun i w hi hw => ?_, fun i w hi hw => ?_, fun i w hi hw => ?_, fun i w hi hw => ?_, fun i w hi hw => ?_, fun i w hi hw => ?_, fun i w hi hw => ?_, fun i w hi hw => ?_⟩
  · rw [e1]
    exact h0 i hi
  · rw [e1] at hi
    rw [e2 0 (by omega)]
    exact h1 i w hi hw
  · rw [e1] at hi
    rw [e2 1 (by omega)]
    exact h2 i w hi hw
  · rw [e1] at hi
    rw [e2 2 (by omega)]
    exact h3 i w hi hw
  · rw [e1] at hi
    rw [e2 3 (by omega)]
    exact h4 i w hi hw
  · rw [e1] at hi
    rw [e4 i hi]
    exact h5 i w hi hw
  · rw [e1] at hi
    rw [e2 5 (by omega)]
    exact h6 i w hi hw
  · rw [e1] at hi
    rw [e2 6 (by omega)]
    exact h7 i w hi hw
  · rw [e1] at hi
    rw [e2 7 (by omega)]
    exact h8 i w hi hw
theorem mk_misses_lp (hB : B ≤ m) (hf : FR g σ) (hz : SZ σ) (hi : i < σ.1 5) (ht : σ.1 7 + σ.1 6 < 2 ^ 31) (hc : c ≤ σ.1 6) : ∀ k e z, e + k = c → rn_ tb_ct tb_mt B mm_X13_misses 2 [.ref m, .int (nI i), .int (nI c), .int (nI e)] [] (moS s m v (m1 F (upd g (1173 + 12 * i + 4) z))) = some (.inl none, moS s m v (m1 F (upd g (1173 + 12 * i + 4) (z + nI (cn (p_sw σ i) e k))))) := by
  have h6 := hz.2.2.1
  have h5 := hz.2.2.2.2.1
  intro k
  induction k with
  | zero =>
    intro e z he
    rw [dc_X13_misses_2, if_pos (nI_le (by omega) (by omega))]
    show _ = some (Sum.inl none, moS s m v (m1 F (upd g (1173 + 12 * i + 4) (z + 0))))
    rw [Int32.add_zero]
  | succ k ih =>
    intro e z he
    have hf2 : FR (upd g (1173 + 12 * i + 4) z) (upW σ i (upd (σ.2 4 i) 4 z)) := hf.wrow hz hi (fun q hq => upd_n (by omega)) (fun w hw => by
      by_cases c4 : w = 4
      · subst c4
        rw [upd_k, upd_k]
      · rw [upd_n (by omega), upd_n c4]
        exact hf.2.2.2.2.2.1 i w hi hw)
    have hM : MM B (moS s m v (m1 F (upd g (1173 + 12 * i + 4) z))) m v (m1 F (upd g (1173 + 12 * i + 4) z)) (upW σ i (upd (σ.2 4 i) 4 z)) := MM.st hB hf2 hz
    have es : p_sw (upW σ i (upd (σ.2 4 i) 4 z)) i e = p_sw σ i e := by
      show sW (σ.1 7) (va_up (σ.2 4) i (upd (σ.2 4 i) 4 z) i) (σ.2 2 e) e = sW (σ.1 7) (σ.2 4 i) (σ.2 2 e) e
      rw [va_us]
      rfl
    have e4 : cl_ tb_ct tb_mt B K_X13_watchAt [.ref m, .int (nI i), .int (4 : Int32)] (moS s m v (m1 F (upd g (1173 + 12 * i + 4) z))) = some (.inl (some (.int z)), moS s m v (m1 F (upd g (1173 + 12 * i + 4) z))) := by
      refine Eq.trans (mk_wat (w := 4) hM hi (by omega)) ?_
      show some (Sum.inl (some (Value.int (va_up (σ.2 4) i (upd (σ.2 4 i) 4 z) i 4))), _) = _
      rw [va_us, upd_k]
    rw [dc_X13_misses_2, if_neg (nI_ge (by omega) (by omega)), mo_cs, eC_s, mk_sees hM hi (show e < σ.1 6 by omega) ht, cI_s, if_b, es, cn_s]
    cases p_sw σ i e with
    | true =>
      rw [if_pos rfl, if_pos rfl, mo_cs, eC_s, e4, cI_s, mo_cs, eC_s, show (4 : Int32) = nI 4 from rfl, mk_sets hB (by omega), cV_s, dc_X13_misses_30, upd_s, nI_1, ih (e + 1) (z + 1) (by omega), ← nI_add, Int32.add_assoc]
      rfl
    | false =>
      rw [if_neg (by decide), if_neg (by decide), dc_X13_misses_30, nI_1, ih (e + 1) z (by omega), Nat.zero_add]
theorem mk_misses (hB : B ≤ m) (hf : FR g σ) (hz : SZ σ) (hi : i < σ.1 5) (ht : σ.1 7 + σ.1 6 < 2 ^ 31) (hc : c ≤ σ.1 6) : cl_ tb_ct tb_mt B K_X13_misses [.ref m, .int (nI i), .int (nI c)] (moS s m v (m1 F g)) = some (.inl none, moS s m v (m1 F (upd g (1173 + 12 * i + 4) (σ.2 4 i 4 + nI (cn (p_sw σ i) 0 c))))) := by
  have e := mk_misses_lp (s := s) (v := v) (F := F) hB hf hz hi ht hc c 0 (σ.2 4 i 4) (by omega)
  rw [upd_e (hf.2.2.2.2.2.1 i 4 hi (by omega))] at e
  rw [in_X13_misses, dc_X13_misses_0]
  exact e
theorem FR.lo (h : FR g (loS σ c i)) (hz : SZ σ) (hi : i < σ.1 5) : FR (upd g (1173 + 12 * i + 4) (σ.2 4 i 4 + nI (cn (p_sw σ i) 0 c))) (loS σ c (i + 1)) := by
  have h5 := hz.2.2.2.2.1
  have := h.wrow (σ := loS σ c i) (g' := upd g (1173 + 12 * i + 4) (σ.2 4 i 4 + nI (cn (p_sw σ i) 0 c))) (R := loW (σ.1 7) c (σ.2 2) (σ.2 4 i)) hz hi (fun q hq => upd_n (by omega)) (fun w hw => by
    unfold loW
    by_cases c4 : w = 4
    · subst c4
      rw [upd_k, upd_k]
      rfl
    · rw [upd_n (by omega), upd_n c4]
      refine (h.2.2.2.2.2.1 i w hi hw).trans ?_
      show (if i < i then _ else σ.2 4 i) w = _
      rw [if_neg (by omega)])
  refine this.eq (fun _ => rfl) fun q => ?_
  by_cases c4 : q = 4
  · subst c4
    funext r
    show (if r < i + 1 then loW (σ.1 7) c (σ.2 2) (σ.2 4 r) else σ.2 4 r) = va_up (fun j => if j < i then loW (σ.1 7) c (σ.2 2) (σ.2 4 j) else σ.2 4 j) i (loW (σ.1 7) c (σ.2 2) (σ.2 4 i)) r
    by_cases cr : r = i
    · subst cr
      rw [va_us, if_pos (by omega)]
    · rw [va_un cr]
      by_cases cl : r < i
      · rw [if_pos cl, if_pos (by omega)]
      · rw [if_neg cl, if_neg (by omega)]
  · exact (va_un c4).trans ((va_un c4).trans (va_un c4)).symm
theorem co_wat (hB : B ≤ m) (hz : SZ σ) (ht : σ.1 7 + σ.1 6 < 2 ^ 31) (hc : c ≤ σ.1 6) (h7 : v 7 = nI n) : ∀ k i g, i + k = σ.1 5 → FR g (loS σ c i) → ∃ g', rn_ tb_ct tb_mt B mm_X13_compacts 8 [.ref m, .int x, .int (nI c), .int (nI i)] [] (moS s m v (m1 F g)) = rn_ tb_ct tb_mt B mm_X13_compacts 43 [.ref m, .int x, .int (nI c), .int (nI 0)] [] (moS s m v (m1 F (upd g' 12 (nI n)))) ∧ FR g' (loS σ c (σ.1 5)) := by
  have h5 := hz.2.2.2.2.1
  intro k
  induction k with
  | zero =>
    intro i g hi hf
    refine ⟨g, ?_, by rw [show σ.1 5 = i by omega]; exact hf⟩
    have g5 : g 5 = nI (σ.1 5) := hf.1 5 (by omega)
    rw [dc_X13_compacts_8, mo_0s, eA_s, show (5 : Int32) = nI 5 from rfl, mr2 (by omega), eI_s, g5, if_pos (nI_le (by omega) (by omega)), eA_s, mo_7s, eI_s, h7, show (12 : Int32) = nI 12 from rfl, mw2 hB (by omega), eS_s]
    rfl
  | succ k ih =>
    intro i g hi hf
    have g5 : g 5 = nI (σ.1 5) := hf.1 5 (by omega)
    have hii : i < σ.1 5 := by omega
    have em := mk_misses (s := s) (v := v) (F := F) (σ := loS σ c i) (c := c) hB hf hz hii ht hc
    have er : (loS σ c i).2 4 i = σ.2 4 i := by
      show (if i < i then _ else σ.2 4 i) = _
      rw [if_neg (by omega)]
    have ep : p_sw (loS σ c i) i = p_sw σ i := by
      funext e
      show sW (σ.1 7) ((loS σ c i).2 4 i) (σ.2 2 e) e = sW (σ.1 7) (σ.2 4 i) (σ.2 2 e) e
      rw [er]
    rw [er, ep] at em
    obtain ⟨g', e1, e2⟩ := ih (i + 1) _ (by omega) (hf.lo hz hii)
    refine ⟨g', ?_, e2⟩
    rw [dc_X13_compacts_8, mo_0s, eA_s, show (5 : Int32) = nI 5 from rfl, mr2 (by omega), eI_s, g5, if_neg (nI_ge (by omega) (by omega)), mo_cs, eC_s, em, cV_s, nI_1]
    exact e1
theorem baF_s {k : Nat} : upd (upd (baF g P k) (157 + 2 * k) (P.2 k 0)) (157 + 2 * k + 1) (P.2 k 1) = baF g P (k + 1) := by
  funext q
  unfold upd baF
  by_cases c1 : q = 157 + 2 * k + 1
  · rw [if_pos c1, if_pos (by omega), if_neg (by omega), show (q - 157) / 2 = k by omega]
  · rw [if_neg c1]
    by_cases c2 : q = 157 + 2 * k
    · rw [if_pos c2, if_pos (by omega), if_pos (by omega), show (q - 157) / 2 = k by omega]
    · rw [if_neg c2]
      by_cases c3 : 157 ≤ q ∧ q < 157 + 2 * k
      · rw [if_pos c3, if_pos (show 157 ≤ q ∧ q < 157 + 2 * (k + 1) by omega)]
      · rw [if_neg c3, if_neg (show ¬ (157 ≤ q ∧ q < 157 + 2 * (k + 1)) by omega)]
theorem co_base (hB : B ≤ m) (hP : PR v F P) (h16 : P.1 ≤ 16) : ∀ k i, i + k = P.1 → rn_ tb_ct tb_mt B mm_X13_compacts 43 [.ref m, .int x, .int y, .int (nI i)] [] (moS s m v (m1 F (baF g P i))) = rn_ tb_ct tb_mt B mm_X13_compacts 97 [.ref m, .int x, .int y, .int (nI 0)] [] (moS s m v (m1 F (baF g P P.1))) := by
  have r5 : ∀ {g j}, j < 28 → aI (moS s m v (m1 F g)) (m + 5) (nI j) = some (F 5 j) := fun {g j} hj => mr_tk (v := v) (F := m1 F g) OV.of hj
  have r6 : ∀ {g j}, j < 28 → aI (moS s m v (m1 F g)) (m + 6) (nI j) = some (F 6 j) := fun {g j} hj => mr_tv (v := v) (F := m1 F g) OV.of hj
  intro k
  induction k with
  | zero =>
    intro i hi
    rw [dc_X13_compacts_43, mo_7s, eI_s, hP.1, if_pos (nI_le (by omega) (by omega)), show P.1 = i by omega]
    rfl
  | succ k ih =>
    intro i hi
    obtain ⟨p5, p6⟩ := hP.2 i (by omega)
    rw [dc_X13_compacts_43, mo_7s, eI_s, hP.1, if_neg (nI_ge (by omega) (by omega)), mo_0s, eA_s, mo_5s, eA_s, r5 (by omega), eI_s, p5, show (157 : Int32) + (2 : Int32) * nI i = nI (157 + 2 * i) by rw [show (157 : Int32) = nI 157 from rfl, show (2 : Int32) = nI 2 from rfl, nI_mul, nI_add], mw2 hB (by omega), eS_s, mo_0s, eA_s, mo_6s, eA_s, r6 (by omega), eI_s, p6, nI_1, mw2 hB (by omega), eS_s, nI_1, baF_s]
    exact ih (i + 1) (by omega)
theorem co_ev (hB : B ≤ m) (h6 : g 6 = nI n) (hn : n ≤ 160) (hc : c ≤ n) : ∀ k j g, g 6 = nI n → j + k = 6 * (n - c) → rn_ tb_ct tb_mt B mm_X13_compacts 97 [.ref m, .int x, .int (nI c), .int (nI j)] [] (moS s m v (m1 F g)) = rn_ tb_ct tb_mt B mm_X13_compacts 97 [.ref m, .int x, .int (nI c), .int (nI (6 * (n - c)))] [] (moS s m v (m1 F (shD g 189 (6 * c) j (6 * (n - c))))) := by
  intro k
  induction k with
  | zero =>
    intro j g hg hj
    rw [show shD g 189 (6 * c) j (6 * (n - c)) = g from funext fun q => if_neg (by omega), show j = 6 * (n - c) by omega]
  | succ k ih =>
    intro j g hg hj
    rw [dc_X13_compacts_97, mo_0s, eA_s, show (6 : Int32) = nI 6 from rfl, mr2 (by omega), eI_s, hg, nI_2 hc, nI_mul, if_neg (nI_ge (by omega) (by omega)), eA_s, eA_s, show (189 : Int32) = nI 189 from rfl, nI_mul, nI_add, nI_add, mr2 (by omega), eI_s, nI_add, mw2 hB (by omega), eS_s, nI_1, ih (j + 1) _ ((upd_n (by omega)).trans hg) (by omega)]
    refine congrArg (fun g => rn_ tb_ct tb_mt B mm_X13_compacts 97 [.ref m, .int x, .int (nI c), .int (nI (6 * (n - c)))] [] (moS s m v (m1 F g))) (funext fun q => ?_)
    unfold shD upd
    by_cases c1 : 189 + (j + 1) ≤ q ∧ q < 189 + 6 * (n - c)
    · rw [if_pos c1, if_neg (show ¬ q + 6 * c = 189 + j by omega), if_pos (show 189 + j ≤ q ∧ q < 189 + 6 * (n - c) by omega)]
    · rw [if_neg c1]
      by_cases c2 : q = 189 + j
      · rw [if_pos c2, if_pos (show 189 + j ≤ q ∧ q < 189 + 6 * (n - c) by omega), show q + 6 * c = 189 + 6 * c + j by omega]
      · rw [if_neg c2, if_neg (show ¬ (189 + j ≤ q ∧ q < 189 + 6 * (n - c)) by omega)]
theorem IK.hok (hI : IK σ.1 σ.2) : ∀ k, k ≤ σ.1 6 → srt (p_row σ.1 σ.2 k).2 (p_row σ.1 σ.2 k).1 ∧ (p_row σ.1 σ.2 k).1 ≤ 27 := fun k hk => ⟨(hI.1.2.1 k hk).1, Nat.le_trans (hI.1.2.1 k hk).2 (by decide)⟩
theorem SZ.co {a : Nat} (hz : SZ σ) (hI : IK (p_co σ.1 σ.2 (nI a)).1 (p_co σ.1 σ.2 (nI a)).2) : SZ (p_co σ.1 σ.2 (nI a)) := by
  obtain ⟨z1, z2, z3, z4, z5, z6, z7, z8⟩ := hz
  refine ⟨?_, hI.2.2.2.2.2.2.1, ?_, ?_, ?_, ?_, ?_, ?_⟩
  · rw [p_co_k (by omega) (by omega) (by omega) (by omega)]
    exact z1
  · rw [p_co_6]
    omega
  · rw [p_co_k (by omega) (by omega) (by omega) (by omega)]
    exact z4
  · rw [p_co_k (by omega) (by omega) (by omega) (by omega)]
    exact z5
  · rw [p_co_k (by omega) (by omega) (by omega) (by omega)]
    exact z6
  · rw [p_co_k (by omega) (by omega) (by omega) (by omega)]
    exact z7
  · rw [p_co_k (by omega) (by omega) (by omega) (by omega)]
    exact z8
theorem mk_compacts {a : Nat} (h : MM B s m v F σ) (hI : IK σ.1 σ.2) (h3 : σ.1 3 ≤ 16) (ha : a ≤ σ.1 0) (ht : σ.1 7 + σ.1 6 < 2 ^ 31) : ∃ v' F', cl_ tb_ct tb_mt B K_X13_compacts [.ref m, .int (nI a)] s = some (.inl (some (.int (nI (p_many σ.1 σ.2 (nI a))))), moS s m v' F') ∧ FR (F' 1) (p_co σ.1 σ.2 (nI a)) ∧ KT v v' F F' := by
  obtain ⟨hM, hf, hz, hB⟩ := id h
  have h6 := hz.2.2.1
  have hI2 := hI.co h3 ha
  have h16 : (p_then σ (nI a)).1 ≤ 16 := hI2.2.2.2.2.2.2.1
  have h30 := IK.h0 hI
  have hc : p_many σ.1 σ.2 (nI a) ≤ σ.1 6 := p_many_le
  obtain ⟨v1, F1, e1, p1, t1⟩ := mk_lays (x := nI a) h hI.hok
  have f1 : FR (F1 1) σ := by
    rw [t1.1 1 (by omega) (by omega)]
    exact hf
  have e1' : moS s m v1 F1 = moS s m v1 (m1 F1 (F1 1)) := by rw [m1_id rfl]
  obtain ⟨g2, e2, f2⟩ := co_wat (s := s) (v := v1) (F := F1) (x := nI a) (c := p_many σ.1 σ.2 (nI a)) (n := (p_then σ (nI a)).1) hB hz ht hc p1.1 (σ.1 5) 0 (F1 1) (by omega) (f1.eq (fun _ => rfl) fun q => by
    by_cases c4 : q = 4
    · subst c4
      funext r
      exact (if_neg (Nat.not_lt_zero r) : (if r < 0 then loW (σ.1 7) (p_many σ.1 σ.2 (nI a)) (σ.2 2) (σ.2 4 r) else σ.2 4 r) = σ.2 4 r)
    · exact va_un c4)
  have e3 := co_base (s := s) (v := v1) (F := F1) (B := B) (g := upd g2 12 (nI (p_then σ (nI a)).1)) (x := nI a) (y := nI (p_many σ.1 σ.2 (nI a))) hB p1 h16 (p_then σ (nI a)).1 0 (by omega)
  rw [show baF (upd g2 12 (nI (p_then σ (nI a)).1)) (p_then σ (nI a)) 0 = upd g2 12 (nI (p_then σ (nI a)).1) from funext fun q => if_neg (by omega)] at e3
  obtain ⟨g3, hg3⟩ : ∃ g3, g3 = baF (upd g2 12 (nI (p_then σ (nI a)).1)) (p_then σ (nI a)) (p_then σ (nI a)).1 := ⟨_, rfl⟩
  rw [← hg3] at e3
  have f3 := f2.t1 (f' := g3) (n' := (p_then σ (nI a)).1) (R' := (p_then σ (nI a)).2) hz (fun k k12 kr => by
    rw [hg3]
    exact (if_neg (by omega)).trans (upd_n k12)) (by
    rw [hg3]
    exact (if_neg (by omega)).trans upd_k) (fun i w hi hw => by
    rw [hg3]
    unfold baF
    rw [if_pos (by omega)]
    match w, hw with
    | 0, _ => rw [if_pos (by omega), show (157 + 2 * i + 0 - 157) / 2 = i by omega]
    | 1, _ => rw [if_neg (by omega), show (157 + 2 * i + 1 - 157) / 2 = i by omega])
  have hz3 : SZ (va_up (loS σ (p_many σ.1 σ.2 (nI a)) (σ.1 5)).1 12 (p_then σ (nI a)).1, va_up (loS σ (p_many σ.1 σ.2 (nI a)) (σ.1 5)).2 1 (p_then σ (nI a)).2) := ⟨hz.1, h16, hz.2.2⟩
  have g36 : g3 6 = nI (σ.1 6) := f3.1 6 (by omega)
  have e4 := co_ev (s := s) (v := v1) (F := F1) (x := nI a) (c := p_many σ.1 σ.2 (nI a)) (n := σ.1 6) hB g36 (by omega) hc (6 * (σ.1 6 - p_many σ.1 σ.2 (nI a))) 0 g3 g36 (by omega)
  obtain ⟨g4, hg4⟩ : ∃ g4, g4 = shD g3 189 (6 * p_many σ.1 σ.2 (nI a)) 0 (6 * (σ.1 6 - p_many σ.1 σ.2 (nI a))) := ⟨_, rfl⟩
  rw [← hg4] at e4
  have g46 : g4 6 = nI (σ.1 6) := by
    rw [hg4]
    exact (if_neg (by omega)).trans g36
  have g47 : g4 7 = nI (σ.1 7) := by
    rw [hg4]
    exact (if_neg (by omega)).trans (f3.1 7 (by omega))
  have f4 := f3.t2 (f' := upd g4 6 (nI (σ.1 6 - p_many σ.1 σ.2 (nI a)))) (n' := σ.1 6 - p_many σ.1 σ.2 (nI a)) (R' := fun i => σ.2 2 (i + p_many σ.1 σ.2 (nI a))) hz3 (fun k k6 kr => by
    rw [upd_n k6, hg4]
    exact if_neg (by omega)) upd_k (fun i w hi hw => by
    rw [upd_n (by omega), hg4]
    unfold shD
    rw [if_pos (by omega), show 189 + 6 * i + w + 6 * p_many σ.1 σ.2 (nI a) = 189 + 6 * (i + p_many σ.1 σ.2 (nI a)) + w by omega]
    exact f3.2.2.2.1 (i + p_many σ.1 σ.2 (nI a)) w (show i + p_many σ.1 σ.2 (nI a) < σ.1 6 by omega) hw)
  have hz4 : SZ (va_up (va_up (loS σ (p_many σ.1 σ.2 (nI a)) (σ.1 5)).1 12 (p_then σ (nI a)).1) 6 (σ.1 6 - p_many σ.1 σ.2 (nI a)), va_up (va_up (loS σ (p_many σ.1 σ.2 (nI a)) (σ.1 5)).2 1 (p_then σ (nI a)).2) 2 (fun i => σ.2 2 (i + p_many σ.1 σ.2 (nI a)))) := ⟨hz3.1, hz3.2.1, show σ.1 6 - p_many σ.1 σ.2 (nI a) ≤ 152 by omega, hz3.2.2.2⟩
  have f5 := f4.num (k := 7) (f' := upd (upd g4 6 (nI (σ.1 6 - p_many σ.1 σ.2 (nI a)))) 7 (nI (σ.1 7 + p_many σ.1 σ.2 (nI a)))) hz4 (by omega) (fun j hj => upd_n hj) upd_k
  have f6 := f5.num (k := 1) (n' := a) (f' := upd (upd (upd g4 6 (nI (σ.1 6 - p_many σ.1 σ.2 (nI a)))) 7 (nI (σ.1 7 + p_many σ.1 σ.2 (nI a)))) 1 (nI a)) hz4 (by omega) (fun j hj => upd_n hj) upd_k
  refine ⟨v1, m1 F1 (upd (upd (upd g4 6 (nI (σ.1 6 - p_many σ.1 σ.2 (nI a)))) 7 (nI (σ.1 7 + p_many σ.1 σ.2 (nI a)))) 1 (nI a)), ?_, ?_, t1.kt.tr KT.of⟩
  · rw [in_X13_compacts, dc_X13_compacts_0, mo_cls hM, eC_s, e1, cI_s, e1', show (0 : Int32) = nI 0 from rfl, e2, e3, e4, dc_X13_compacts_97, mo_0s, eA_s, show (6 : Int32) = nI 6 from rfl, mr2 (by omega), eI_s, g46, nI_2 hc, nI_mul, if_pos (nI_le (Nat.le_refl _) (by omega)), eA_s, mr2 (by omega), eI_s, g46, nI_2 hc, mw2 hB (by omega), eS_s, mo_0s, eA_s, show (7 : Int32) = nI 7 from rfl, mr2 (by omega), eI_s, upd_n (by omega), g47, nI_add, mw2 hB (by omega), eS_s, mo_0s, eA_s, show (1 : Int32) = nI 1 from rfl, mw2 hB (by omega), eS_s]
  · refine f6.c4 (fun i => ?_) (fun q hq => ?_) (fun i hi => ?_)
    · show va_up (va_up (va_up (va_up σ.1 12 (p_then σ (nI a)).1) 6 (σ.1 6 - p_many σ.1 σ.2 (nI a))) 7 (σ.1 7 + p_many σ.1 σ.2 (nI a))) 1 (nN (nI a)) i = _
      rw [nN_nI (by omega)]
      rfl
    · show va_up (va_up (va_up σ.2 1 (p_then σ (nI a)).2) 4 (fun i => loW (σ.1 7) (p_many σ.1 σ.2 (nI a)) (σ.2 2) (σ.2 4 i))) 2 (fun i => σ.2 2 (i + p_many σ.1 σ.2 (nI a))) q = va_up (va_up (loS σ (p_many σ.1 σ.2 (nI a)) (σ.1 5)).2 1 (p_then σ (nI a)).2) 2 (fun i => σ.2 2 (i + p_many σ.1 σ.2 (nI a))) q
      by_cases c2 : q = 2
      · rw [c2, va_us, va_us]
      · rw [va_un c2, va_un c2, va_un hq]
        by_cases c1 : q = 1
        · rw [c1, va_us, va_us]
        · rw [va_un c1, va_un c1]
          exact (va_un hq).symm
    · show loW (σ.1 7) (p_many σ.1 σ.2 (nI a)) (σ.2 2) (σ.2 4 i) = if i < σ.1 5 then loW (σ.1 7) (p_many σ.1 σ.2 (nI a)) (σ.2 2) (σ.2 4 i) else σ.2 4 i
      exact (if_pos hi).symm
theorem mk_settles : ∀ k s v F (σ : stT), MM B s m v F σ → IK σ.1 σ.2 → σ.1 3 ≤ 16 → σ.1 7 + σ.1 6 < 2 ^ 31 → σ.1 6 ≤ 120 + k → ∀ w, ∃ v' F', rn_ tb_ct tb_mt B mm_X13_settles 0 [.ref m, w] [] s = some (.inl none, moS s m v' F') ∧ FR (F' 1) (p_se k σ) ∧ KT v v' F F' := by
  intro k
  induction k with
  | zero =>
    intro s v F σ h hI h3 ht h6 w
    refine ⟨v, F, ?_, h.2.1, KT.rf⟩
    rw [dc_X13_settles_0, mo_0 h.1, eA_s, show (6 : Int32) = nI 6 from rfl, h.gz (by omega), eI_s, if_pos (show nI (σ.1 6) ≤ (120 : Int32) from nI_le (b := 120) (by omega) (by omega)), mo_self h.1]
  | succ k ih =>
    intro s v F σ h hI h3 ht h6 w
    have hz6 := h.2.2.1.2.2.1
    unfold p_se
    by_cases c : σ.1 6 ≤ 120
    · rw [if_pos c]
      refine ⟨v, F, ?_, h.2.1, KT.rf⟩
      rw [dc_X13_settles_0, mo_0 h.1, eA_s, show (6 : Int32) = nI 6 from rfl, h.gz (by omega), eI_s, if_pos (show nI (σ.1 6) ≤ (120 : Int32) from nI_le (b := 120) c (by omega)), mo_self h.1]
    · obtain ⟨re, r1, r2, r3, r4⟩ := IK.ev0 hI (by omega)
      have h30 := IK.h0 hI
      obtain ⟨v1, F1, e1, f1, t1⟩ := mk_compacts (a := re) h hI h3 r3 ht
      have hI1 := hI.co h3 r3
      rw [r1] at r4
      have hM1 : MM B (moS s m v1 F1) m v1 F1 (p_co σ.1 σ.2 (nI re)) := ⟨OV.of, f1, h.2.2.1.co hI1, h.2.2.2⟩
      obtain ⟨v2, F2, e2, f2, t2⟩ := ih (moS s m v1 F1) v1 F1 (p_co σ.1 σ.2 (nI re)) hM1 hI1 (by rw [p_co_k (by omega) (by omega) (by omega) (by omega)]; exact h3) (by
        have : p_many σ.1 σ.2 (nI re) ≤ σ.1 6 := p_many_le
        rw [p_co_6, p_co_7]
        omega) (by
        rw [p_co_6]
        omega) (.int (nI (p_many σ.1 σ.2 (nI re))))
      rw [if_neg c, r1]
      refine ⟨v2, F2, ?_, f2, t1.tr t2⟩
      have e0 : cl_ tb_ct tb_mt B K_X13_eventAt [.ref m, .int (0 : Int32), .int (0 : Int32)] s = some (.inl (some (.int (nI re))), s) := by
        rw [← r1]
        exact mk_event (i := 0) (w := 0) h (by omega) (by omega)
      rw [dc_X13_settles_0, mo_0 h.1, eA_s, show (6 : Int32) = nI 6 from rfl, h.gz (by omega), eI_s, if_neg (show ¬ nI (σ.1 6) ≤ (120 : Int32) from nI_ge (a := 120) (by omega) (by omega)), mo_cls h.1, eC_s, e0, cI_s, mo_cls h.1, eC_s, e1, cI_s, e2, mo_idem]
end Mc
