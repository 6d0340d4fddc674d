/-! ===== the model: the transaction ===== -/
def setN (q t : Nat) (σ : stT) : stT := (va_up σ.1 q t, σ.2)
section My
variable {s s' : am_S} {B m i j n e c u q t : Nat} {v v' : Nat → Int32} {F F' : mrT} {g g' : Nat → Int32} {x y z k l key : Int32} {σ σ' : stT} {R : Nat → Int32} {a : Value}
theorem setN_row : ∀ k, (q = 9 ∨ q = 10 ∨ q = 11) → p_row (setN q t σ).1 (setN q t σ).2 k = p_row σ.1 σ.2 k := fun k hq => p_row_cg (Z := σ.1) (Z' := (setN q t σ).1) (G := σ.2) (G' := (setN q t σ).2) (va_un (by omega)) rfl k fun _ _ => rfl
theorem setN_co (hq : q = 9 ∨ q = 10 ∨ q = 11) : p_co (setN q t σ).1 (setN q t σ).2 x = setN q t (p_co σ.1 σ.2 x) := by
  have e6 : (setN q t σ).1 6 = σ.1 6 := va_un (by omega)
  have e7 : (setN q t σ).1 7 = σ.1 7 := va_un (by omega)
  have em : p_many (setN q t σ).1 (setN q t σ).2 x = p_many σ.1 σ.2 x := by
    unfold p_many
    rw [e6]
    rfl
  unfold p_co
  rw [em, setN_row _ hq, e6, e7]
  refine Prod.ext ?_ rfl
  show va_up (va_up (va_up (va_up (va_up σ.1 q t) 12 (p_row σ.1 σ.2 (p_many σ.1 σ.2 x)).1) 6 (σ.1 6 - p_many σ.1 σ.2 x)) 7 (σ.1 7 + p_many σ.1 σ.2 x)) 1 (nN x) = va_up (va_up (va_up (va_up (va_up σ.1 12 (p_row σ.1 σ.2 (p_many σ.1 σ.2 x)).1) 6 (σ.1 6 - p_many σ.1 σ.2 x)) 7 (σ.1 7 + p_many σ.1 σ.2 x)) 1 (nN x)) q t
  rw [va_cm (f := σ.1) (i := q) (j := 12) (by omega), va_cm (i := q) (j := 6) (by omega), va_cm (i := q) (j := 7) (by omega), va_cm (i := q) (j := 1) (by omega)]
theorem setN_se (hq : q = 9 ∨ q = 10 ∨ q = 11) : ∀ k σ, p_se k (setN q t σ) = setN q t (p_se k σ)
  | 0, _ => rfl
  | k + 1, σ => by
    have e6 : (setN q t σ).1 6 = σ.1 6 := va_un (by omega)
    unfold p_se
    rw [e6]
    show (if σ.1 6 ≤ 120 then setN q t σ else p_se k (p_co (setN q t σ).1 (setN q t σ).2 (σ.2 2 0 0))) = _
    rw [setN_co hq, setN_se hq k]
    split <;> rfl
theorem clr_se (k : Nat) (σ : stT) : p_se k (p_clr σ) = p_clr (p_se k σ) := by
  have e : ∀ σ : stT, p_clr σ = setN 11 0 (setN 10 0 (setN 9 0 σ)) := fun _ => rfl
  rw [e, e, setN_se (by omega), setN_se (by omega), setN_se (by omega)]
theorem SZ.pq (hz : SZ σ) (hq : q < 2) : σ.1 (10 + q) ≤ 6 := by
  match q, hq with
  | 0, _ => exact hz.2.2.2.2.2.2.1
  | 1, _ => exact hz.2.2.2.2.2.2.2
theorem FR.st (h : FR g σ) (hq : q < 2) (hi : i < σ.1 (10 + q)) {w : Nat} (hw : w < 3) : g (1293 + 3 * (6 * q + i) + w) = σ.2 (6 + q) i w := by
  match q, hq with
  | 0, _ =>
    rw [show 1293 + 3 * (6 * 0 + i) + w = 1293 + 3 * i + w by omega]
    exact h.2.2.2.2.2.2.2.1 i w hi hw
  | 1, _ =>
    rw [show 1293 + 3 * (6 * 1 + i) + w = 1311 + 3 * i + w by omega]
    exact h.2.2.2.2.2.2.2.2 i w hi hw
theorem mk_stepAt {w : Nat} (h : MM B s m v F σ) (hq : q < 2) (hi : i < σ.1 (10 + q)) (hw : w < 3) : cl_ tb_ct tb_mt B K_X13_stepAt [.ref m, .int (nI q), .int (nI i), .int (nI w)] s = some (.inl (some (.int (σ.2 (6 + q) i w))), s) := by
  have h6 := h.2.2.1.pq hq
  rw [in_X13_stepAt, dc_X13_stepAt_0, mo_0 h.1, eA_s]
  simp only [nn0, nn1, nn2, nn3, nn4, nn5, nn6, nn7, nn8, nn9, nn10, nn11, nn12, nn13, nn15, nn16, nn18, nn28, nn45, nn48, nn57, nn58, nn59, nn97, nn120, nn122, nn157, nn189, nn500, nn999, nn1000, nn1149, nn1173, nn1269, nn1293, nn1311, nn1329, nn9999, nI_add, nI_mul]
  rw [mr_n h.1 (by omega), eI_s, h.2.1.st hq hi hw]
theorem FR.step (h : FR g σ) (hz : SZ σ) (hq : q < 2) (h6 : σ.1 (10 + q) < 6) : FR (upd (upd (upd (upd g (1293 + 3 * (6 * q + σ.1 (10 + q))) k) (1293 + 3 * (6 * q + σ.1 (10 + q)) + 1) key) (1293 + 3 * (6 * q + σ.1 (10 + q)) + 2) y) (10 + q) (nI (σ.1 (10 + q) + 1))) (va_up σ.1 (10 + q) (σ.1 (10 + q) + 1), va_up σ.2 (6 + q) (va_up (σ.2 (6 + q)) (σ.1 (10 + q)) (l3 k key y))) := by
  match q, hq with
  | 0, _ =>
    refine h.t6 hz (fun p p1 p2 => ?_) upd_k (fun p w hp hw => ?_)
    · rw [upd_n p1, upd_n (by omega), upd_n (by omega), upd_n (by omega)]
    · rw [upd_n (by omega)]
      by_cases c : p = σ.1 (10 + 0)
      · subst c
        rw [va_us, show 1293 + 3 * (6 * 0 + σ.1 (10 + 0)) = 1293 + 3 * σ.1 (10 + 0) by omega]
        match w, hw with
        | 0, _ =>
          rw [upd_n (by omega), upd_n (by omega)]
          exact upd_k
        | 1, _ => rw [upd_n (by omega), upd_k]; rfl
        | 2, _ => rw [upd_k]; rfl
      · rw [va_un c, upd_n (by omega), upd_n (by omega), upd_n (by omega)]
        exact h.2.2.2.2.2.2.2.1 p w (show p < σ.1 (10 + 0) by omega) hw
  | 1, _ =>
    refine h.t7 hz (fun p p1 p2 => ?_) upd_k (fun p w hp hw => ?_)
    · rw [upd_n p1, upd_n (by omega), upd_n (by omega), upd_n (by omega)]
    · rw [upd_n (by omega)]
      by_cases c : p = σ.1 (10 + 1)
      · subst c
        rw [va_us, show 1293 + 3 * (6 * 1 + σ.1 (10 + 1)) = 1311 + 3 * σ.1 (10 + 1) by omega]
        match w, hw with
        | 0, _ =>
          rw [upd_n (by omega), upd_n (by omega)]
          exact upd_k
        | 1, _ => rw [upd_n (by omega), upd_k]; rfl
        | 2, _ => rw [upd_k]; rfl
      · rw [va_un c, upd_n (by omega), upd_n (by omega), upd_n (by omega)]
        exact h.2.2.2.2.2.2.2.2 p w (show p < σ.1 (10 + 1) by omega) hw
theorem bIn01 : bIn k 0 1 = (decide (k = 0) || decide (k = 1)) := by
  by_cases c0 : k = 0
  · subst c0
    rfl
  · by_cases c1 : k = 1
    · subst c1
      rfl
    · rw [decide_eq_false c0, decide_eq_false c1]
      cases h : bIn k 0 1 with
      | false => rfl
      | true =>
        obtain ⟨j, hj, rfl⟩ := bInN (m := 1) (by omega) h
        have : j = 0 ∨ j = 1 := by omega
        rcases this with rfl | rfl
        · exact absurd rfl c0
        · exact absurd rfl c1
theorem mk_adds (h : MM B s m v F σ) (hq : q < 2) : MR s m v F (cl_ tb_ct tb_mt B K_X13_adds [.ref m, .int (nI q), .int k, .int key, .int y] s) (if bStep k key y = true then 0 else 1) (if bStep k key y = true then .int (p_step σ q k key y).1 else .int 0) (if bStep k key y = true then (p_step σ q k key y).2 else σ) := by
  have e : cl_ tb_ct tb_mt B K_X13_adds [.ref m, .int (nI q), .int k, .int key, .int y] s = rn_ tb_ct tb_mt B mm_X13_adds 36 [.ref m, .int (nI q), .int k, .int key, .int y, am_un, am_un] [.int (if bStep k key y = true then 1 else 0), .ref m] s := by
    rw [in_X13_adds, dc_X13_adds_0, mi_in k 0 1 (j2 := 0) (j4 := 1) rfl rfl, cI_s, if_b]
    unfold bStep
    rw [← bIn01]
    cases bIn k 0 1 with
    | false => rw [if_neg (by decide), dc_X13_adds_35]; rfl
    | true =>
      rw [if_pos rfl, mi_isKey, cI_s, if_b]
      cases bKey key with
      | false => rw [if_neg (by decide), dc_X13_adds_35]; rfl
      | true =>
        rw [if_pos rfl]
        by_cases c : k = 1
        · rw [if_pos c, dc_X13_adds_31, decide_eq_true c]
          rfl
        · rw [if_neg c, mi_isValue, cI_s, if_b, decide_eq_false c]
          cases bVal y with
          | false => rw [if_neg (by decide), dc_X13_adds_35]; rfl
          | true => rw [if_pos rfl, dc_X13_adds_31]; rfl
  rw [e, dc_X13_adds_36, mo_cls h.1, eC_s]
  refine mi_call h (fun ok => ?_) fun _ => rfl
  have h' := h.p4 (x := 0)
  have hB := h.2.2.2
  have h6 := h.2.2.1.pq hq
  have g10 : F 1 (10 + q) = nI (σ.1 (10 + q)) := h.2.1.1 (10 + q) (by omega)
  rw [mo_0s, eA_s, show (10 : Int32) = nI 10 from rfl, nI_add, h'.gz (by omega), eI_s]
  unfold p_step
  by_cases c6 : σ.1 (10 + q) = 6
  · rw [if_pos (show nI (σ.1 (10 + q)) = (6 : Int32) by rw [c6]; rfl), if_pos c6]
    exact MR.in h'.1 h'.2.1 upd_k rfl
  · have lp : ∀ r i, i + r = σ.1 (10 + q) → rn_ tb_ct tb_mt B mm_X13_adds 69 [.ref m, .int (nI q), .int k, .int key, .int y, .int (nI (σ.1 (10 + q))), .int (nI i)] [] (moS s m (upd v 4 0) F) = if fi (fun i => decide (σ.2 (6 + q) i 1 = key)) i r < σ.1 (10 + q) then some (.inl (some (.int (-(4 : Int32)))), moS s m (upd v 4 0) F) else rn_ tb_ct tb_mt B mm_X13_adds 69 [.ref m, .int (nI q), .int k, .int key, .int y, .int (nI (σ.1 (10 + q))), .int (nI (σ.1 (10 + q)))] [] (moS s m (upd v 4 0) F) := by
      intro r
      induction r with
      | zero =>
        intro i hi
        rw [fi_0, if_neg (by omega), show i = σ.1 (10 + q) by omega]
      | succ r ih =>
        intro i hi
        have e1 : cl_ tb_ct tb_mt B K_X13_stepAt [.ref m, .int (nI q), .int (nI i), .int 1] (moS s m (upd v 4 0) F) = _ := mk_stepAt (w := 1) h' hq (by omega) (by omega)
        rw [dc_X13_adds_69, if_neg (nI_ge (by omega) (by omega)), mo_cs, eC_s, e1, cI_s, fi_s]
        by_cases d : σ.2 (6 + q) i 1 = key
        · rw [if_pos d, if_pos (decide_eq_true d), if_pos (by omega)]
        · rw [if_neg d, if_neg (show ¬ decide (σ.2 (6 + q) i 1 = key) = true by rw [decide_eq_true_eq]; exact d), nI_1]
          exact ih (i + 1) (by omega)
    rw [if_neg (show ¬ nI (σ.1 (10 + q)) = (6 : Int32) from fun hc => c6 ((nI_eq (b := 6) (by omega) (by omega)).mp hc)), if_neg c6]
    have l0 := lp (σ.1 (10 + q)) 0 (by omega)
    rw [nI_0] at l0
    rw [l0]
    by_cases c7 : fi (fun i => decide (σ.2 (6 + q) i 1 = key)) 0 (σ.1 (10 + q)) < σ.1 (10 + q)
    · rw [if_pos c7, if_pos c7]
      exact MR.in h'.1 h'.2.1 upd_k rfl
    · rw [if_neg c7, if_neg c7, dc_X13_adds_69, if_pos (nI_le (Nat.le_refl _) (by omega))]
      have i0 : (1293 : Int32) + (3 : Int32) * ((6 : Int32) * nI q + nI (σ.1 (10 + q))) = nI (1293 + 3 * (6 * q + σ.1 (10 + q))) := by
        rw [show (1293 : Int32) = nI 1293 from rfl, show (3 : Int32) = nI 3 from rfl, show (6 : Int32) = nI 6 from rfl, nI_mul, nI_add, nI_mul, nI_add]
      have i1 : nI (1293 + 3 * (6 * q + σ.1 (10 + q))) + (1 : Int32) = nI (1293 + 3 * (6 * q + σ.1 (10 + q)) + 1) := nI_1 _
      have i2 : nI (1293 + 3 * (6 * q + σ.1 (10 + q))) + (2 : Int32) = nI (1293 + 3 * (6 * q + σ.1 (10 + q)) + 2) := nI_add _ _
      have i3 : (10 : Int32) + nI q = nI (10 + q) := nI_add _ _
      rw [i0, i1, i2, i3, mo_0s, eA_s, mw1 h'.1 hB (by omega), eS_s, mo_0s, eA_s, mw2 hB (by omega), eS_s, mo_0s, eA_s, mw2 hB (by omega), eS_s, mo_0s, eA_s, mr2 (by omega), eI_s, upd_n (by omega), upd_n (by omega), upd_n (by omega), g10, nI_1, mw2 hB (by omega), eS_s]
      exact MR.k1 (h.2.1.step h.2.2.1 hq (by omega)) upd_k rfl
theorem m_then (h : MM B s m v F σ) : MR s m v F (cl_ tb_ct tb_mt B K_X13_then [.ref m, .int k, .int key, .int y] s) (if bStep k key y = true then 0 else 1) (if bStep k key y = true then .int (p_step σ 0 k key y).1 else .int 0) (if bStep k key y = true then (p_step σ 0 k key y).2 else σ) := by
  obtain ⟨s', v', F', e1, o1, h1, f1, k1, c1⟩ := mk_adds (k := k) (key := key) (y := y) h (show 0 < 2 by omega)
  refine ⟨s', v', F', ?_, o1, h1, f1, k1, c1⟩
  rw [nI_0] at e1
  rw [in_X13_then, dc_X13_then_0, mo_cls h.1, eC_s, e1]
  cases bStep k key y <;> rfl
theorem m_otherwise (h : MM B s m v F σ) : MR s m v F (cl_ tb_ct tb_mt B K_X13_otherwise [.ref m, .int k, .int key, .int y] s) (if bStep k key y = true then 0 else 1) (if bStep k key y = true then .int (p_step σ 1 k key y).1 else .int 0) (if bStep k key y = true then (p_step σ 1 k key y).2 else σ) := by
  obtain ⟨s', v', F', e1, o1, h1, f1, k1, c1⟩ := mk_adds (k := k) (key := key) (y := y) h (show 1 < 2 by omega)
  refine ⟨s', v', F', ?_, o1, h1, f1, k1, c1⟩
  have e2 : cl_ tb_ct tb_mt B K_X13_adds [.ref m, .int 1, .int k, .int key, .int y] s = _ := e1
  rw [in_X13_otherwise, dc_X13_otherwise_0, mo_cls h.1, eC_s, e2]
  cases bStep k key y <;> rfl
theorem m_when (h : MM B s m v F σ) : MR s m v F (cl_ tb_ct tb_mt B K_X13_when [.ref m, .int key, .int x, .int y, .int z] s) (if (bKey key && (bIn x 0 3 && bIn y 0 3)) = true then 0 else 1) (if (bKey key && (bIn x 0 3 && bIn y 0 3)) = true then .int (p_when σ key x y z).1 else .int 0) (if (bKey key && (bIn x 0 3 && bIn y 0 3)) = true then (p_when σ key x y z).2 else σ) := by
  have e : cl_ tb_ct tb_mt B K_X13_when [.ref m, .int key, .int x, .int y, .int z] s = rn_ tb_ct tb_mt B mm_X13_when 37 [.ref m, .int key, .int x, .int y, .int z, am_un] [.int (if (bKey key && (bIn x 0 3 && bIn y 0 3)) = true then 1 else 0), .ref m] s := by
    rw [in_X13_when, dc_X13_when_0, mi_isKey, cI_s, if_b]
    cases bKey key with
    | false => rw [if_neg (by decide), dc_X13_when_36]; rfl
    | true =>
      rw [if_pos rfl, mi_in x 0 3 (j2 := 0) (j4 := 3) rfl rfl, cI_s, if_b]
      cases bIn x 0 3 with
      | false => rw [if_neg (by decide), dc_X13_when_36]; rfl
      | true =>
        rw [if_pos rfl, mi_in y 0 3 (j2 := 0) (j4 := 3) rfl rfl, cI_s, if_b]
        cases bIn y 0 3 with
        | false => rw [if_neg (by decide), dc_X13_when_36]; rfl
        | true => rw [if_pos rfl]; rfl
  rw [e, dc_X13_when_37, mo_cls h.1, eC_s]
  refine mi_call h (fun ok => ?_) fun _ => rfl
  have h' := h.p4 (x := 0)
  have hB := h.2.2.2
  have h9 := h.2.2.1.2.2.2.2.2.1
  have g9 : F 1 9 = nI (σ.1 9) := h.2.1.1 9 (by omega)
  rw [mo_0s, eA_s, show (9 : Int32) = nI 9 from rfl, h'.gz (by omega), eI_s]
  unfold p_when
  by_cases c6 : σ.1 9 = 6
  · rw [if_pos (show nI (σ.1 9) = (6 : Int32) by rw [c6]; rfl), if_pos c6]
    exact MR.in h'.1 h'.2.1 upd_k rfl
  · have i0 : (1269 : Int32) + (4 : Int32) * nI (σ.1 9) = nI (1269 + 4 * σ.1 9) := by
      rw [show (1269 : Int32) = nI 1269 from rfl, show (4 : Int32) = nI 4 from rfl, nI_mul, nI_add]
    have i1 : nI (1269 + 4 * σ.1 9) + (1 : Int32) = nI (1269 + 4 * σ.1 9 + 1) := nI_1 _
    have i2 : nI (1269 + 4 * σ.1 9) + (2 : Int32) = nI (1269 + 4 * σ.1 9 + 2) := nI_add _ _
    have i3 : nI (1269 + 4 * σ.1 9) + (3 : Int32) = nI (1269 + 4 * σ.1 9 + 3) := nI_add _ _
    rw [if_neg (show ¬ nI (σ.1 9) = (6 : Int32) from fun hc => c6 ((nI_eq (b := 6) (by omega) (by omega)).mp hc)), if_neg c6, eA_s, h'.gz (by omega), eI_s, eA_s, i0, i1, i2, i3, mw1 h'.1 hB (by omega), eS_s, mo_0s, eA_s, mw2 hB (by omega), eS_s, mo_0s, eA_s, mw2 hB (by omega), eS_s, mo_0s, eA_s, mw2 hB (by omega), eS_s, mo_0s, eA_s, mr2 (by omega), eI_s, upd_n (by omega), upd_n (by omega), upd_n (by omega), upd_n (by omega), g9, nI_1, mw2 hB (by omega), eS_s, mo_0s, eA_s, mr2 (by omega), eI_s, upd_k]
    refine MR.k1 ?_ upd_k rfl
    refine h.2.1.t5 h.2.2.1 (fun p p1 p2 => ?_) upd_k (fun p w hp hw => ?_)
    · rw [upd_n p1, upd_n (by omega), upd_n (by omega), upd_n (by omega), upd_n (by omega)]
    · rw [upd_n (by omega)]
      by_cases c : p = σ.1 9
      · subst c
        rw [va_us]
        match w, hw with
        | 0, _ =>
          rw [upd_n (by omega), upd_n (by omega), upd_n (by omega)]
          exact upd_k
        | 1, _ => rw [upd_n (by omega), upd_n (by omega), upd_k]; rfl
        | 2, _ => rw [upd_n (by omega), upd_k]; rfl
        | 3, _ => rw [upd_k]; rfl
      · rw [va_un c, upd_n (by omega), upd_n (by omega), upd_n (by omega), upd_n (by omega)]
        exact h.2.1.2.2.2.2.2.2.1 p w (by omega) hw
end My
