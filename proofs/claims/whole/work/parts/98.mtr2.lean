/-! ===== the model: the transaction (2) ===== -/
section My
variable {s s' : am_S} {B m i j n e c u q t r : Nat} {v v' : Nat → Int32} {F F' : mrT} {g g' : Nat → Int32} {x y z k l key : Int32} {σ σ' τ : stT} {R : Nat → Int32} {a : Value}
theorem MM.gc {w : Nat} (h : MM B s m v F σ) (hi : i < σ.1 9) (hw : w < 4) : aI s (m + 1) (nI (1269 + 4 * i + w)) = some (σ.2 5 i w) := by
  have h9 := h.2.2.1.2.2.2.2.2.1
  rw [mr_n h.1 (by omega), h.2.1.2.2.2.2.2.2.1 i w hi hw]
theorem mk_rel (h : MM B s m v F σ) (hi : i < σ.1 9) (hc : cdOk (σ.1 9) (σ.2 5)) {w3 : Value} : rn_ tb_ct tb_mt B mm_X13_holdsAt 68 [.ref m, am_un, .int (nI (1269 + 4 * i)), w3, am_un] [.int x] s = some (.inl (some (.int (if reB x (σ.2 5 i 2) (σ.2 5 i 3) = true then 1 else 0))), s) := by
  have h9 := h.2.2.1.2.2.2.2.2.1
  obtain ⟨-, r, hr, er⟩ := hc i hi
  have i2 : nI (1269 + 4 * i) + (2 : Int32) = nI (1269 + 4 * i + 2) := nI_add _ _
  have i3 : nI (1269 + 4 * i) + (3 : Int32) = nI (1269 + 4 * i + 3) := nI_add _ _
  have e2 := h.gc (w := 2) hi (by omega)
  have e3 := h.gc (w := 3) hi (by omega)
  rw [dc_X13_holdsAt_68]
  simp only [mo_0 h.1, eA_s, i2, i3, e2, e3, eI_s]
  rw [er, nI_toInt (by omega)]
  match r, hr with
  | 0, _ =>
    show (if x = σ.2 5 i 3 then (some (.inl (some (.int (1 : Int32))), s) : am_R) else some (.inl (some (.int (0 : Int32))), s)) = (some (.inl (some (.int (if decide (x = σ.2 5 i 3) = true then 1 else 0))), s) : am_R)
    by_cases c : x = σ.2 5 i 3
    · rw [if_pos c, decide_eq_true c]
      rfl
    · rw [if_neg c, decide_eq_false c]
      rfl
  | 1, _ =>
    show (if x = σ.2 5 i 3 then (some (.inl (some (.int (0 : Int32))), s) : am_R) else some (.inl (some (.int (1 : Int32))), s)) = (some (.inl (some (.int (if (!decide (x = σ.2 5 i 3)) = true then 1 else 0))), s) : am_R)
    by_cases c : x = σ.2 5 i 3
    · rw [if_pos c, decide_eq_true c]
      rfl
    · rw [if_neg c, decide_eq_false c]
      rfl
  | 2, _ =>
    show (if σ.2 5 i 3 ≤ x then (some (.inl (some (.int (0 : Int32))), s) : am_R) else some (.inl (some (.int (1 : Int32))), s)) = (some (.inl (some (.int (if decide (x < σ.2 5 i 3) = true then 1 else 0))), s) : am_R)
    by_cases c : x < σ.2 5 i 3
    · rw [if_neg (Int32.not_le.mpr c), decide_eq_true c]
      rfl
    · rw [if_pos (Int32.not_lt.mp c), decide_eq_false c]
      rfl
  | 3, _ =>
    show (if x ≤ σ.2 5 i 3 then (some (.inl (some (.int (0 : Int32))), s) : am_R) else some (.inl (some (.int (1 : Int32))), s)) = (some (.inl (some (.int (if decide (σ.2 5 i 3 < x) = true then 1 else 0))), s) : am_R)
    by_cases c : σ.2 5 i 3 < x
    · rw [if_neg (Int32.not_le.mpr c), decide_eq_true c]
      rfl
    · rw [if_pos (Int32.not_lt.mp c), decide_eq_false c]
      rfl
theorem nb_if {b : Bool} : (if (!b) = true then (0 : Int32) else 1) = if b = true then 1 else 0 := by cases b <;> rfl
theorem mk_holdsAt (h : MM B s m v F σ) (hs : srt (σ.2 0) (σ.1 3)) (hi : i < σ.1 9) (hc : cdOk (σ.1 9) (σ.2 5)) : cl_ tb_ct tb_mt B K_X13_holdsAt [.ref m, .int (nI i)] s = some (.inl (some (.int (if cdK (σ.2 5) (σ.2 0) (σ.1 3) i = true then 0 else 1))), s) := by
  obtain ⟨⟨w, hw, ew⟩, -⟩ := hc i hi
  have i0 : (1269 : Int32) + (4 : Int32) * nI i = nI (1269 + 4 * i) := by
    rw [show (1269 : Int32) = nI 1269 from rfl, show (4 : Int32) = nI 4 from rfl, nI_mul, nI_add]
  have i1 : nI (1269 + 4 * i) + (1 : Int32) = nI (1269 + 4 * i + 1) := nI_add _ _
  have e0 : aI s (m + 1) (nI (1269 + 4 * i)) = some (σ.2 5 i 0) := h.gc (w := 0) hi (by omega)
  have e1 := h.gc (w := 1) hi (by omega)
  rw [in_X13_holdsAt, dc_X13_holdsAt_0, mo_0 h.1, eA_s, i0, e0, eI_s, mo_cls h.1, eC_s, mk_there h hs, cI_s, if_p]
  unfold cdK
  by_cases c : pF (σ.2 0) (σ.1 3) (σ.2 5 i 0) < σ.1 3
  · obtain ⟨c1, c2⟩ := (pI_there (key := σ.2 5 i 0) hs).mp c
    have ep : pF (σ.2 0) (σ.1 3) (σ.2 5 i 0) = pI (σ.2 0) (σ.1 3) (σ.2 5 i 0) := pF_of hs c1 c2
    have c' : isK σ (σ.2 5 i 0) := c
    rw [if_pos c', if_pos c', if_pos c, dc_X13_holdsAt_36, if_neg (show ¬ (1 : Int32) = 0 by decide), mo_0 h.1, eA_s, e0, eI_s, mo_cls h.1, eC_s, mk_place h, cI_s, mo_0 h.1, eA_s, i1, e1, eI_s, mo_cls h.1, eC_s, ew, show (1 : Int32) + nI w = nI (1 + w) from nI_add 1 w, mk_keyAt h c1 (by omega), cI_s, mk_rel h hi hc, ep, nI_toInt (by omega), nb_if, Nat.add_comm 1 w]
    rfl
  · have c' : ¬ isK σ (σ.2 5 i 0) := c
    rw [if_neg c', if_neg c', if_neg c, mo_0 h.1, eA_s, i1, e1, eI_s]
    by_cases d : σ.2 5 i 1 = 0
    · rw [if_pos d, decide_eq_true d]
      rfl
    · rw [if_neg d, decide_eq_false d, dc_X13_holdsAt_36, if_pos rfl, mk_rel h hi hc, Bool.false_or, nb_if]
theorem mk_failing (h : MM B s m v F σ) (hs : srt (σ.2 0) (σ.1 3)) (hc : cdOk (σ.1 9) (σ.2 5)) : cl_ tb_ct tb_mt B K_X13_firstFailing [.ref m] s = some (.inl (some (.int (if p_fail σ < σ.1 9 then nI (p_fail σ) else -1))), s) := by
  have h9 := h.2.2.1.2.2.2.2.2.1
  have lp : ∀ k i, i + k = σ.1 9 → rn_ tb_ct tb_mt B mm_X13_firstFailing 2 [.ref m, .int (nI i)] [] s = some (.inl (some (.int (if fi (cdK (σ.2 5) (σ.2 0) (σ.1 3)) i k < σ.1 9 then nI (fi (cdK (σ.2 5) (σ.2 0) (σ.1 3)) i k) else -1))), s) := by
    intro k
    induction k with
    | zero =>
      intro i hi
      rw [dc_X13_firstFailing_2, mo_0 h.1, eA_s, show (9 : Int32) = nI 9 from rfl, h.gz (by omega), eI_s, if_pos (nI_le (by omega) (by omega)), fi_0, if_neg (by omega)]
    | succ k ih =>
      intro i hi
      rw [dc_X13_firstFailing_2, mo_0 h.1, eA_s, show (9 : Int32) = nI 9 from rfl, h.gz (by omega), eI_s, if_neg (nI_ge (by omega) (by omega)), mo_cls h.1, eC_s, mk_holdsAt h hs (by omega) hc, cI_s, fi_s]
      cases d : cdK (σ.2 5) (σ.2 0) (σ.1 3) i with
      | true => rw [if_pos rfl, if_pos rfl, if_pos rfl, if_pos (by omega)]
      | false =>
        simp only [Bool.false_eq_true, if_false]
        rw [if_neg (by decide), nI_1]
        exact ih (i + 1) (by omega)
  rw [in_X13_firstFailing, dc_X13_firstFailing_0]
  exact lp (σ.1 9) 0 (by omega)
theorem m_holds (h : MM B s m v F σ) (hs : srt (σ.2 0) (σ.1 3)) (hc : cdOk (σ.1 9) (σ.2 5)) : MR s m v F (cl_ tb_ct tb_mt B K_X13_holds [.ref m] s) 0 (.int (if p_fail σ < σ.1 9 then nI (p_fail σ) else -1)) σ := by
  rw [in_X13_holds, dc_X13_holds_0, mp_4 h.1 h.2.2.2, eS_s, mo_cs, eC_s, mk_failing (h.p4 (x := 0)) hs hc, cI_s]
  exact ⟨_, _, F, rfl, so_ov, OV.of, h.2.1, KM.p (by omega), upd_k⟩
theorem br_lt : p_br σ < 2 := by
  unfold p_br
  split <;> omega
theorem mk_branch (h : MM B s m v F σ) (hs : srt (σ.2 0) (σ.1 3)) (hc : cdOk (σ.1 9) (σ.2 5)) : cl_ tb_ct tb_mt B K_X13_branch [.ref m] s = some (.inl (some (.int (nI (p_br σ)))), s) := by
  have h9 := h.2.2.1.2.2.2.2.2.1
  rw [in_X13_branch, dc_X13_branch_0, mo_cls h.1, eC_s, mk_failing h hs hc, cI_s]
  unfold p_br
  by_cases c : p_fail σ < σ.1 9
  · rw [if_pos c, if_pos c, if_neg (nI_m1 (by omega))]
    rfl
  · rw [if_neg c, if_neg c, if_pos rfl]
    rfl
theorem mk_does (h : MM B s m v F σ) (hs : srt (σ.2 0) (σ.1 3)) (hq : q < 2) (hi : i < σ.1 (10 + q)) : cl_ tb_ct tb_mt B K_X13_does [.ref m, .int (nI q), .int (nI i)] s = some (.inl (some (.int (if doesK (σ.2 (6 + q)) (σ.2 0) (σ.1 3) i = true then 1 else 0))), s) := by
  have e0 : cl_ tb_ct tb_mt B K_X13_stepAt [.ref m, .int (nI q), .int (nI i), .int 0] s = _ := mk_stepAt (w := 0) h hq hi (by omega)
  have e1 : cl_ tb_ct tb_mt B K_X13_stepAt [.ref m, .int (nI q), .int (nI i), .int 1] s = _ := mk_stepAt (w := 1) h hq hi (by omega)
  rw [in_X13_does, dc_X13_does_0, mo_cls h.1, eC_s, e0, cI_s]
  unfold doesK
  by_cases c : σ.2 (6 + q) i 0 = 0
  · rw [if_pos c, dc_X13_does_24, decide_eq_true c]
    rfl
  · rw [if_neg c, mo_cls h.1, eC_s, e1, cI_s, mo_cls h.1, eC_s, mk_there h hs, cI_s, if_p, decide_eq_false c]
    by_cases d : isK σ (σ.2 (6 + q) i 1)
    · rw [if_pos d, dc_X13_does_24, decide_eq_true (show pF (σ.2 0) (σ.1 3) (σ.2 (6 + q) i 1) < σ.1 3 from d)]
      rfl
    · rw [if_neg d, decide_eq_false (show ¬ pF (σ.2 0) (σ.1 3) (σ.2 (6 + q) i 1) < σ.1 3 from d)]
      rfl
theorem mk_eventsOf (h : MM B s m v F σ) (hs : srt (σ.2 0) (σ.1 3)) (hq : q < 2) : cl_ tb_ct tb_mt B K_X13_eventsOf [.ref m, .int (nI q)] s = some (.inl (some (.int (nI (cn (doesK (σ.2 (6 + q)) (σ.2 0) (σ.1 3)) 0 (σ.1 (10 + q)))))), s) := by
  have h6 := h.2.2.1.pq hq
  have lp : ∀ k i j, i + k = σ.1 (10 + q) → rn_ tb_ct tb_mt B mm_X13_eventsOf 4 [.ref m, .int (nI q), .int (nI j), .int (nI i)] [] s = some (.inl (some (.int (nI (j + cn (doesK (σ.2 (6 + q)) (σ.2 0) (σ.1 3)) i k)))), s) := by
    intro k
    induction k with
    | zero =>
      intro i j hi
      rw [dc_X13_eventsOf_4, mo_0 h.1, eA_s, show (10 : Int32) = nI 10 from rfl, nI_add, h.gz (by omega), eI_s, if_pos (nI_le (by omega) (by omega))]
      rfl
    | succ k ih =>
      intro i j hi
      rw [dc_X13_eventsOf_4, mo_0 h.1, eA_s, show (10 : Int32) = nI 10 from rfl, nI_add, h.gz (by omega), eI_s, if_neg (nI_ge (by omega) (by omega)), mo_cls h.1, eC_s, mk_does h hs hq (by omega), cI_s, if_b, cn_s]
      cases doesK (σ.2 (6 + q)) (σ.2 0) (σ.1 3) i with
      | true => rw [if_pos rfl, dc_X13_eventsOf_32, nI_1, nI_1, ih (i + 1) (j + 1) (by omega), if_pos rfl, Nat.add_assoc]
      | false => rw [if_neg (by decide), dc_X13_eventsOf_32, Int32.add_zero, nI_1, ih (i + 1) j (by omega), if_neg (by decide), Nat.zero_add]
  rw [in_X13_eventsOf, dc_X13_eventsOf_0]
  have := lp (σ.1 (10 + q)) 0 0 (by omega)
  rw [nI_0, Nat.zero_add] at this
  exact this
theorem m_wouldWrite (h : MM B s m v F σ) (hs : srt (σ.2 0) (σ.1 3)) (hc : cdOk (σ.1 9) (σ.2 5)) : MR s m v F (cl_ tb_ct tb_mt B K_X13_wouldWrite [.ref m] s) 0 (.int (nI (p_does σ))) σ := by
  have h' := h.p4 (x := 0)
  rw [in_X13_wouldWrite, dc_X13_wouldWrite_0, mp_4 h.1 h.2.2.2, eS_s, mo_cs, eC_s, mk_branch h' hs hc, cI_s, mo_cs, eC_s, mk_eventsOf h' hs br_lt, cI_s]
  exact ⟨_, _, F, rfl, so_ov, OV.of, h.2.1, KM.p (by omega), upd_k⟩
theorem mk_keysBehind (h : MM B s m v F σ) (hs : srt (σ.2 0) (σ.1 3)) (hq : q < 2) (ht : ∀ i, i < σ.1 (10 + q) → σ.2 (6 + q) i 0 = 0 ∨ σ.2 (6 + q) i 0 = 1) : cl_ tb_ct tb_mt B K_X13_keysBehind [.ref m, .int (nI q)] s = some (.inl (some (.int (nI (σ.1 3) + smI (groK (σ.2 (6 + q)) (σ.2 0) (σ.1 3)) 0 (σ.1 (10 + q))))), s) := by
  have h6 := h.2.2.1.pq hq
  have lp : ∀ k i x, i + k = σ.1 (10 + q) → rn_ tb_ct tb_mt B mm_X13_keysBehind 9 [.ref m, .int (nI q), .int x, .int (nI i), am_un] [] s = some (.inl (some (.int (x + smI (groK (σ.2 (6 + q)) (σ.2 0) (σ.1 3)) i k))), s) := by
    intro k
    induction k with
    | zero =>
      intro i x hi
      rw [dc_X13_keysBehind_9, mo_0 h.1, eA_s, show (10 : Int32) = nI 10 from rfl, nI_add, h.gz (by omega), eI_s, if_pos (nI_le (by omega) (by omega))]
      show _ = (some (.inl (some (.int (x + 0))), s) : am_R)
      rw [Int32.add_zero]
    | succ k ih =>
      intro i x hi
      have e0 : cl_ tb_ct tb_mt B K_X13_stepAt [.ref m, .int (nI q), .int (nI i), .int 0] s = _ := mk_stepAt (w := 0) h hq (by omega) (by omega)
      have e1 : cl_ tb_ct tb_mt B K_X13_stepAt [.ref m, .int (nI q), .int (nI i), .int 1] s = _ := mk_stepAt (w := 1) h hq (by omega) (by omega)
      have es : smI (groK (σ.2 (6 + q)) (σ.2 0) (σ.1 3)) i (k + 1) = groK (σ.2 (6 + q)) (σ.2 0) (σ.1 3) i + smI (groK (σ.2 (6 + q)) (σ.2 0) (σ.1 3)) (i + 1) k := rfl
      rw [dc_X13_keysBehind_9, mo_0 h.1, eA_s, show (10 : Int32) = nI 10 from rfl, nI_add, h.gz (by omega), eI_s, if_neg (nI_ge (by omega) (by omega)), mo_cls h.1, eC_s, e1, cI_s, mo_cls h.1, eC_s, mk_there h hs, cI_s, mo_cls h.1, eC_s, e0, cI_s, if_p, if_p, es, ← Int32.add_assoc]
      unfold groK
      by_cases d : pF (σ.2 0) (σ.1 3) (σ.2 (6 + q) i 1) < σ.1 3
      · have d' : isK σ (σ.2 (6 + q) i 1) := d
        simp only [if_pos d, if_pos d']
        by_cases c : σ.2 (6 + q) i 0 = 0
        · rw [if_pos c, if_pos c, dc_X13_keysBehind_69, nI_1]
          exact ih (i + 1) _ (by omega)
        · rw [if_neg c, if_neg c, if_pos ((ht i (by omega)).resolve_left c), dc_X13_keysBehind_69, nI_1]
          exact ih (i + 1) _ (by omega)
      · have d' : ¬ isK σ (σ.2 (6 + q) i 1) := d
        simp only [if_neg d, if_neg d']
        by_cases c : σ.2 (6 + q) i 0 = 0
        · rw [if_pos c, if_pos c, dc_X13_keysBehind_69, nI_1]
          exact ih (i + 1) _ (by omega)
        · rw [if_neg c, if_neg c, if_pos ((ht i (by omega)).resolve_left c), dc_X13_keysBehind_69, nI_1]
          exact ih (i + 1) _ (by omega)
  rw [in_X13_keysBehind, dc_X13_keysBehind_0, mo_0 h.1, eA_s, show aI s (m + 1) 3 = some (nI (σ.1 3)) from h.gz (i := 3) (by omega), eI_s]
  exact lp (σ.1 (10 + q)) 0 _ (by omega)
/-! the transaction emptied -/
def clF (g : Nat → Int32) : Nat → Int32 := upd (upd (upd g 9 0) 10 0) 11 0
theorem FR.clr (h : FR g σ) (hz : SZ σ) : FR (clF g) (p_clr σ) := by
  have f9 : FR (upd g 9 0) (va_up σ.1 9 0, σ.2) := by
    have := h.t5 (f' := upd g 9 0) (n' := 0) (R' := σ.2 5) hz (fun p p1 _ => upd_n p1) upd_k (fun i w hi _ => by omega)
    rw [va_id] at this
    exact this
  have z9 : SZ (va_up σ.1 9 0, σ.2) := ⟨hz.1, hz.2.1, hz.2.2.1, hz.2.2.2.1, hz.2.2.2.2.1, Nat.zero_le _, hz.2.2.2.2.2.2⟩
  have f10 : FR (upd (upd g 9 0) 10 0) (va_up (va_up σ.1 9 0) 10 0, σ.2) := by
    have := f9.t6 (f' := upd (upd g 9 0) 10 0) (n' := 0) (R' := σ.2 6) z9 (fun p p1 _ => upd_n p1) upd_k (fun i w hi _ => by omega)
    rw [va_id] at this
    exact this
  have z10 : SZ (va_up (va_up σ.1 9 0) 10 0, σ.2) := ⟨hz.1, hz.2.1, hz.2.2.1, hz.2.2.2.1, hz.2.2.2.2.1, Nat.zero_le _, Nat.zero_le _, hz.2.2.2.2.2.2.2⟩
  have := f10.t7 (f' := clF g) (n' := 0) (R' := σ.2 7) z10 (fun p p1 _ => upd_n p1) upd_k (fun i w hi _ => by omega)
  rw [va_id] at this
  exact this
theorem SZ.clr (hz : SZ σ) : SZ (p_clr σ) := ⟨hz.1, hz.2.1, hz.2.2.1, hz.2.2.2.1, hz.2.2.2.2.1, Nat.zero_le _, Nat.zero_le _, Nat.zero_le _⟩
theorem mk_empties (h : MO s m v F) (hB : B ≤ m) : cl_ tb_ct tb_mt B K_X13_emptiesTransaction [.ref m] s = some (.inl none, moS s m v (m1 F (clF (F 1)))) := by
  rw [in_X13_emptiesTransaction, dc_X13_emptiesTransaction_0, mo_0 h, eA_s, show (9 : Int32) = nI 9 from rfl, mw1 h hB (by omega), eS_s, mo_0s, eA_s, show (10 : Int32) = nI 10 from rfl, mw2 hB (by omega), eS_s, mo_0s, eA_s, show (11 : Int32) = nI 11 from rfl, mw2 hB (by omega), eS_s]
  rfl
theorem m_drop (h : MM B s m v F σ) : MR s m v F (cl_ tb_ct tb_mt B K_X13_drop [.ref m] s) 0 (.int ((nI (σ.1 9) + nI (σ.1 10)) + nI (σ.1 11))) (p_clr σ) := by
  have h' := h.p4 (x := 0)
  rw [in_X13_drop, dc_X13_drop_0, mp_4 h.1 h.2.2.2, eS_s, mo_0s, eA_s, show (9 : Int32) = nI 9 from rfl, h'.gz (by omega), eI_s, eA_s, show (10 : Int32) = nI 10 from rfl, h'.gz (by omega), eI_s, eA_s, show (11 : Int32) = nI 11 from rfl, h'.gz (by omega), eI_s, mo_cs, eC_s, mk_empties h'.1 h.2.2.2, cV_s]
  exact (MR.k1 (h.2.1.clr h.2.2.1) upd_k rfl).tr so_ov (KM.p (by omega))
/-! the steps, one by one -/
theorem mk_steps (hB : B ≤ m) (hq : q < 2) : ∀ k i (τ : stT) g, i + k = τ.1 (10 + q) → FR g τ → SZ τ → τ.1 6 + k ≤ 152 → (∀ j, j ≤ k → srt ((p_sts (τ.2 (6 + q)) (nI (τ.1 0)) j i τ).2 0) ((p_sts (τ.2 (6 + q)) (nI (τ.1 0)) j i τ).1 3) ∧ (p_sts (τ.2 (6 + q)) (nI (τ.1 0)) j i τ).1 3 ≤ 22) → ∃ g', rn_ tb_ct tb_mt B mm_X13_commit 43 [.ref m, .int (nI q), .int (nI i)] [] (moS s m v (m1 F g)) = rn_ tb_ct tb_mt B mm_X13_commit 43 [.ref m, .int (nI q), .int (nI (τ.1 (10 + q)))] [] (moS s m v (m1 F g')) ∧ FR g' (p_sts (τ.2 (6 + q)) (nI (τ.1 0)) k i τ) := by
  intro k
  induction k with
  | zero =>
    intro i τ g hi hf hz h6 hs
    exact ⟨g, by rw [show i = τ.1 (10 + q) by omega], hf⟩
  | succ k ih =>
    intro i τ g hi hf hz h6 hs
    have hn := hz.pq hq
    have hM : MM B (moS s m v (m1 F g)) m v (m1 F g) τ := MM.st hB hf hz
    have s0 : srt (τ.2 0) (τ.1 3) := (hs 0 (Nat.zero_le _)).1
    have s1 := (hs 1 (by omega)).2
    have eq1 : p_sts (τ.2 (6 + q)) (nI (τ.1 0)) 1 i τ = p_st (τ.2 (6 + q)) (nI (τ.1 0)) i τ := rfl
    rw [eq1] at s1
    have e0 : cl_ tb_ct tb_mt B K_X13_stepAt [.ref m, .int (nI q), .int (nI i), .int 0] (moS s m v (m1 F g)) = _ := mk_stepAt (w := 0) hM hq (by omega) (by omega)
    have e1 : cl_ tb_ct tb_mt B K_X13_stepAt [.ref m, .int (nI q), .int (nI i), .int 1] (moS s m v (m1 F g)) = _ := mk_stepAt (w := 1) hM hq (by omega) (by omega)
    have e2 : cl_ tb_ct tb_mt B K_X13_stepAt [.ref m, .int (nI q), .int (nI i), .int 2] (moS s m v (m1 F g)) = _ := mk_stepAt (w := 2) hM hq (by omega) (by omega)
    have kp : Kp τ (p_st (τ.2 (6 + q)) (nI (τ.1 0)) i τ) := Kp.sts (n := 1)
    have k0 : (p_st (τ.2 (6 + q)) (nI (τ.1 0)) i τ).1 0 = τ.1 0 := p_sts_k (T := τ.2 (6 + q)) (rv := nI (τ.1 0)) (j := 0) (by omega) (by omega) 1 i τ
    have k12 : (p_st (τ.2 (6 + q)) (nI (τ.1 0)) i τ).1 12 = τ.1 12 := p_sts_k (T := τ.2 (6 + q)) (rv := nI (τ.1 0)) (j := 12) (by omega) (by omega) 1 i τ
    have kq : (p_st (τ.2 (6 + q)) (nI (τ.1 0)) i τ).1 (10 + q) = τ.1 (10 + q) := p_sts_k (T := τ.2 (6 + q)) (rv := nI (τ.1 0)) (by omega) (by omega) 1 i τ
    have kg : (p_st (τ.2 (6 + q)) (nI (τ.1 0)) i τ).2 (6 + q) = τ.2 (6 + q) := p_sts_g (T := τ.2 (6 + q)) (rv := nI (τ.1 0)) (by omega) (by omega) 1 i τ
    have k6 : (p_st (τ.2 (6 + q)) (nI (τ.1 0)) i τ).1 6 ≤ τ.1 6 + 1 := by
      rw [p_st_6]
      split <;> omega
    have z1 : SZ (p_st (τ.2 (6 + q)) (nI (τ.1 0)) i τ) := hz.kp kp s1 (by rw [k12]; exact hz.2.1) (by omega)
    have fin : ∀ g1, FR g1 (p_st (τ.2 (6 + q)) (nI (τ.1 0)) i τ) → ∃ g', rn_ tb_ct tb_mt B mm_X13_commit 113 [.ref m, .int (nI q), .int (nI i)] [] (moS s m v (m1 F g1)) = rn_ tb_ct tb_mt B mm_X13_commit 43 [.ref m, .int (nI q), .int (nI (τ.1 (10 + q)))] [] (moS s m v (m1 F g')) ∧ FR g' (p_sts (τ.2 (6 + q)) (nI (τ.1 0)) (k + 1) i τ) := by
      intro g1 f1
      obtain ⟨g', a1, a2⟩ := ih (i + 1) (p_st (τ.2 (6 + q)) (nI (τ.1 0)) i τ) g1 (by rw [kq]; omega) f1 z1 (by omega) (fun j hj => by
        rw [kg, k0]
        exact hs (j + 1) (by omega))
      rw [kg, k0] at a2
      rw [kq] at a1
      refine ⟨g', ?_, a2⟩
      rw [dc_X13_commit_113, nI_1, a1]
    rw [dc_X13_commit_43, mo_0s, eA_s, show (10 : Int32) = nI 10 from rfl, nI_add, hM.gz (by omega), eI_s, if_neg (nI_ge (by omega) (by omega)), mo_cs, eC_s, e0, cI_s]
    by_cases c : τ.2 (6 + q) i 0 = 0
    · have es : p_st (τ.2 (6 + q)) (nI (τ.1 0)) i τ = p_wr τ.1 τ.2 (nI (τ.1 0)) (τ.2 (6 + q) i 1) (τ.2 (6 + q) i 2) 0 := if_pos c
      rw [es] at s1
      obtain ⟨g1, w1, f1⟩ := mk_writes (s := s) (v := v) (F := F) (key := τ.2 (6 + q) i 1) (val := τ.2 (6 + q) i 2) (l := 0) hB hf hz s0 (by omega) (fun hk => by
        rw [p_wr_3, if_neg hk] at s1
        omega)
      rw [if_pos c, mo_cs, eC_s, e1, cI_s, mo_cs, eC_s, e2, cI_s, mo_cs, eC_s, w1, cV_s]
      exact fin g1 (by rw [es]; exact f1)
    · rw [if_neg c, mo_cs, eC_s, e1, cI_s, mo_cs, eC_s, mk_there hM s0, cI_s, if_p]
      by_cases d : pF (τ.2 0) (τ.1 3) (τ.2 (6 + q) i 1) < τ.1 3
      · have d' : isK τ (τ.2 (6 + q) i 1) := d
        have es : p_st (τ.2 (6 + q)) (nI (τ.1 0)) i τ = p_de τ.1 τ.2 (nI (τ.1 0)) (pF (τ.2 0) (τ.1 3) (τ.2 (6 + q) i 1)) := (if_neg c).trans (if_pos d)
        obtain ⟨g1, w1, f1⟩ := mk_deletes (s := s) (v := v) (F := F) (key := τ.2 (6 + q) i 1) hB hf hz s0 (by omega) d (pF_eq d)
        rw [if_pos d', mo_cs, eC_s, e1, cI_s, mo_cs, eC_s, w1, cV_s]
        exact fin g1 (by rw [es]; exact f1)
      · have d' : ¬ isK τ (τ.2 (6 + q) i 1) := d
        have es : p_st (τ.2 (6 + q)) (nI (τ.1 0)) i τ = τ := (if_neg c).trans (if_neg d)
        rw [if_neg d']
        exact fin g (by rw [es]; exact hf)
theorem sts_no : ∀ k i (σ : stT) (T : rowT) (rv : Int32), cn (doesK T (σ.2 0) (σ.1 3)) i k = 0 → p_sts T rv k i σ = σ
  | 0, _, _, _, _, _ => rfl
  | k + 1, i, σ, T, rv, h => by
    rw [cn_s] at h
    have e : p_st T rv i σ = σ := by
      unfold p_st
      by_cases c : T i 0 = 0
      · rw [show doesK T (σ.2 0) (σ.1 3) i = true by unfold doesK; rw [decide_eq_true c]; rfl] at h
        rw [if_pos rfl] at h
        omega
      · rw [if_neg c]
        by_cases d : pF (σ.2 0) (σ.1 3) (T i 1) < σ.1 3
        · rw [show doesK T (σ.2 0) (σ.1 3) i = true by unfold doesK; rw [decide_eq_true d, Bool.or_true]] at h
          rw [if_pos rfl] at h
          omega
        · rw [if_neg d]
    show p_sts T rv k (i + 1) (p_st T rv i σ) = σ
    rw [e]
    exact sts_no k (i + 1) σ T rv (by omega)
theorem sts_none (d : p_does σ = 0) (hj : j ≤ p_n σ) (rv : Int32) : p_sts (p_T σ) rv j 0 σ = σ := by
  refine sts_no j 0 σ _ rv ?_
  unfold p_does at d
  rw [show p_n σ = j + (p_n σ - j) by omega, cn_add] at d
  omega
theorem mw1z (h : MO s m v F) (hB : B ≤ m) : wI B s (m + 1) 0 x = some (moS s m v (m1 F (upd (F 1) 0 x))) := mw1 (j := 0) h hB (by omega)
theorem m_commit (h : MM B s m v F σ) (hA : IA u σ) (hu : u + 1 < 2 ^ 25) : MR s m v F (cl_ tb_ct tb_mt B K_X13_commit [.ref m] s) 0 (.int (p_commit σ).1) (p_commit σ).2 := by
  have h' := h.p4 (x := 0)
  have hB := h.2.2.2
  obtain ⟨r1, r2, r3, r4, r5⟩ := hA.rows
  have hT := hA.2.2.2.2.1
  have hok := IT.ok hT
  have hn := hok.1
  have hq : p_br σ < 2 := br_lt
  have hd : p_does σ ≤ p_n σ := cn_le _ _ _
  rw [in_X13_commit, dc_X13_commit_0, mp_4 h.1 hB, eS_s, mo_cs, eC_s, mk_branch h' r3 hT.2.1, cI_s, mo_cs, eC_s, mk_keysBehind h' r3 hq (fun i hi => by
    rcases (hok.2.1 i hi).1 with a1 | a1
    · exact Or.inl a1.1
    · exact Or.inr a1), cI_s]
  unfold p_commit
  change MR s m v F (if nI (σ.1 3) + smI (groK (p_T σ) (σ.2 0) (σ.1 3)) 0 (p_n σ) ≤ 16 then _ else _) _ _ _
  by_cases c : nI (σ.1 3) + smI (groK (p_T σ) (σ.2 0) (σ.1 3)) 0 (p_n σ) ≤ 16
  · rw [if_pos c, if_pos c, mo_cs, eC_s, mk_eventsOf h' r3 hq, cI_s]
    change MR s m v F (if nI (p_does σ) ≤ 0 then _ else _) _ _ _
    have tail : ∀ g (τ : stT), FR g τ → SZ τ → τ.1 (10 + p_br σ) = p_n σ → IK τ.1 τ.2 → τ.1 3 ≤ 16 → τ.1 7 + τ.1 6 < 2 ^ 31 → MR (moS s m (upd v 4 0) F) m (upd v 4 0) F (rn_ tb_ct tb_mt B mm_X13_commit 43 [.ref m, .int (nI (p_br σ)), .int (nI (p_n σ))] [] (moS (moS s m (upd v 4 0) F) m (upd v 4 0) (m1 F g))) 0 (.int (nI (1 - p_br σ))) (p_clr (p_se 152 τ)) := by
      intro g τ hf hz hnn hI h3 ht
      have hM : MM B (moS (moS s m (upd v 4 0) F) m (upd v 4 0) (m1 F g)) m (upd v 4 0) (m1 F g) τ := MM.st hB hf hz
      have h6 := hz.2.2.1
      have fc : FR (clF g) (p_clr τ) := hf.clr hz
      have hM2 : MM B (moS (moS (moS s m (upd v 4 0) F) m (upd v 4 0) (m1 F g)) m (upd v 4 0) (m1 (m1 F g) (clF g))) m (upd v 4 0) (m1 (m1 F g) (clF g)) (p_clr τ) := MM.st hB fc hz.clr
      have hI2 : IK (p_clr τ).1 (p_clr τ).2 := hI.cg rfl rfl rfl rfl rfl rfl rfl rfl rfl
      obtain ⟨v3, F3, e3, f3, t3⟩ := mk_settles 152 _ (upd v 4 0) (m1 (m1 F g) (clF g)) (p_clr τ) hM2 hI2 h3 ht (show τ.1 6 ≤ 120 + 152 by omega) am_un
      rw [clr_se] at f3
      have ee : cl_ tb_ct tb_mt B K_X13_emptiesTransaction [.ref m] (moS (moS s m (upd v 4 0) F) m (upd v 4 0) (m1 F g)) = _ := mk_empties hM.1 hB
      rw [dc_X13_commit_43, mo_0s, eA_s, show (10 : Int32) = nI 10 from rfl, nI_add, hM.gz (by omega), eI_s, hnn, if_pos (nI_le (Nat.le_refl _) (by omega)), mo_cs, eC_s, ee, cV_s, mo_cs, eC_s, in_X13_settles]
      change MR _ _ _ _ (cV (rn_ tb_ct tb_mt B mm_X13_settles 0 [.ref m, am_un] [] (moS (moS (moS s m (upd v 4 0) F) m (upd v 4 0) (m1 F g)) m (upd v 4 0) (m1 (m1 F g) (clF g)))) _ _) _ _ _
      rw [e3, cV_s, show (1 : Int32) - nI (p_br σ) = nI (1 - p_br σ) from nI_2 (a := 1) (by omega), mo_idem, mo_idem]
      exact MR.kt (KT.tr KT.of (KT.tr KT.of t3)) f3 upd_k rfl
    by_cases d : p_does σ = 0
    · rw [if_pos (show nI (p_does σ) ≤ 0 by rw [d]; exact Int32.le_refl _), if_pos d]
      obtain ⟨g', a1, a2⟩ := mk_steps (s := moS s m (upd v 4 0) F) (v := upd v 4 0) (F := F) hB hq (p_n σ) 0 σ (F 1) (Nat.zero_add _) h.2.1 h.2.2.1 (by omega) (fun j hj => by
        rw [show p_sts (σ.2 (6 + p_br σ)) (nI (σ.1 0)) j 0 σ = σ from sts_none d hj _]
        exact ⟨r3, by omega⟩)
      rw [show p_sts (σ.2 (6 + p_br σ)) (nI (σ.1 0)) (p_n σ) 0 σ = σ from sts_none d (Nat.le_refl _) _] at a2
      rw [m1_id rfl, mo_self h'.1, nI_0] at a1
      have tl := tail g' σ a2 h.2.2.1 rfl hA.1 r1 (by omega)
      rw [p_se_done r2] at tl
      rw [dc_X13_commit_41, a1]
      exact tl.tr so_ov (KM.p (by omega))
    · rw [if_neg (show ¬ nI (p_does σ) ≤ 0 from nI_nle (by omega) (by omega)), if_neg d, mo_0s, eA_s, h'.gz0, eI_s, nI_1, mw1z h'.1 hB, eS_s, dc_X13_commit_41]
      obtain ⟨i1, i2, i3, i4⟩ := IC.sts hA (by omega)
      have f1 : FR (upd (F 1) 0 (nI (σ.1 0 + 1))) (bg σ.1, σ.2) := h.2.1.num h.2.2.1 (by omega) (fun j hj => upd_n hj) upd_k
      have kk : (bg σ.1, σ.2).1 (10 + p_br σ) = p_n σ := va_un (by omega)
      obtain ⟨g', a1, a2⟩ := mk_steps (s := moS s m (upd v 4 0) F) (v := upd v 4 0) (F := F) hB hq (p_n σ) 0 (bg σ.1, σ.2) (upd (F 1) 0 (nI (σ.1 0 + 1))) (by rw [kk]; exact Nat.zero_add _) f1 h.2.2.1 (show σ.1 6 + p_n σ ≤ 152 by omega) (fun j hj => ⟨(i4 j hj).1, Nat.le_trans (i4 j hj).2.1 (by omega)⟩)
      have kp : Kp σ (p_sts (p_T σ) (nI (σ.1 0 + 1)) (p_n σ) 0 (bg σ.1, σ.2)) := Kp.bg.tr Kp.sts
      have k12 : (p_sts (p_T σ) (nI (σ.1 0 + 1)) (p_n σ) 0 (bg σ.1, σ.2)).1 12 = σ.1 12 := p_sts_k (by omega) (by omega) _ _ _
      have k7 : (p_sts (p_T σ) (nI (σ.1 0 + 1)) (p_n σ) 0 (bg σ.1, σ.2)).1 7 = σ.1 7 := p_sts_k (by omega) (by omega) _ _ _
      have h16 : (p_sts (p_T σ) (nI (σ.1 0 + 1)) (p_n σ) 0 (bg σ.1, σ.2)).1 3 ≤ 16 := by
        rw [← i2] at c
        exact nI_le16 (by have := (i4 _ (Nat.le_refl _)).2.1; omega) c
      have hz2 : SZ (p_sts (p_T σ) (nI (σ.1 0 + 1)) (p_n σ) 0 (bg σ.1, σ.2)) := h.2.2.1.kp kp (by omega) (by rw [k12]; exact h.2.2.1.2.1) (by omega)
      have a2' : FR g' (p_sts (p_T σ) (nI (σ.1 0 + 1)) (p_n σ) 0 (bg σ.1, σ.2)) := a2
      have tl := tail g' _ a2' hz2 ((p_sts_k (by omega) (by omega) _ _ _).trans kk) i1.1 h16 (by
        rw [k7, i3]
        omega)
      rw [kk, nI_0] at a1
      rw [a1]
      exact tl.tr so_ov (KM.p (by omega))
  · rw [if_neg c, if_neg c]
    exact ⟨_, _, F, rfl, so_ov, OV.of, h.2.1, KM.p (by omega), upd_k⟩
end My
