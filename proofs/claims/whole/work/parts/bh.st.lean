/-! ===== the start as a state of the machine of rows ===== -/
def sg_te (s : State) (k : Nat) : Value := match tb_sT[k]? with
  | some q => ((Term.static q.1 q.2.1 q.2.2).eval #[] s none [] s).getD .null
  | none => match tb_sS[k - 100]? with
    | some q => ((Term.string q.1 q.2.1).eval #[] s none [] s).getD .null
    | none => .null
section Si
variable {s : State} {args : Array Value} {D : va_G}
theorem sg_teT {k : Nat} {q : String × String × String} {v : Value} (h : tb_sT[k]? = some q) (hv : (Term.static q.1 q.2.1 q.2.2).eval args s none [] s = some v) : sg_te s k = v := by
  have e : (Term.static q.1 q.2.1 q.2.2).eval #[] s none [] s = (Term.static q.1 q.2.1 q.2.2).eval args s none [] s := by simp only [Term.eval]
  unfold sg_te
  rw [h]
  show ((Term.static q.1 q.2.1 q.2.2).eval #[] s none [] s).getD .null = v
  rw [e, hv]
  rfl
theorem sg_teS {k : Nat} {q : String × Nat × String} {v : Value} (h : tb_sS[k]? = some q) (hv : (Term.string q.1 q.2.1).eval args s none [] s = some v) : sg_te s (100 + k) = v := by
  have e : (Term.string q.1 q.2.1).eval #[] s none [] s = (Term.string q.1 q.2.1).eval args s none [] s := by simp only [Term.eval]
  have h0 : tb_sT[100 + k]? = none := List.getElem?_eq_none (by show 7 ≤ 100 + k; omega)
  unfold sg_te
  rw [h0]
  dsimp only
  rw [Nat.add_sub_cancel_left, h]
  show ((Term.string q.1 q.2.1).eval #[] s none [] s).getD .null = v
  rw [e, hv]
  rfl
theorem sg_g (hts : ∀ w ∈ lw_tbl, w.before args s = true) : ∀ w ∈ lw_g, w.before args s = true := by
  intro w hw
  rcases lw_tbx_or (List.mem_filter.mp hw).1 with h | h
  · rw [lw_x_eq] at h
    obtain ⟨y, hy, rfl⟩ := List.mem_map.mp h
    have h9 := List.all_eq_true.mp sg_kY y hy
    simp only [Bool.and_eq_true] at h9
    obtain ⟨⟨h1, h2⟩, h3⟩ := h9
    have hi := hts _ (List.contains_iff_mem.mp sg_kI)
    cases hc : s.vm.findClass RJ4 with
    | none =>
      simp [Cond.before, Cond.holds, Cond.value, hc] at hi
    | some cC => exact sm_selUp hc (hts _ (List.contains_iff_mem.mp h1)) (hts _ (List.contains_iff_mem.mp h2)) (hts _ (List.contains_iff_mem.mp h3))
  · exact hts w h
theorem sg_hV (hw : ∀ w ∈ sg_wv 9, w.before args s = true) : ∃ (cC : ClassId) (iS : Nat → Nat), (∀ k, k < 6 → st_F s tb_TV k (iS k)) ∧ sm_CA s RX10 cC false := by
  obtain ⟨a, c, cell, k, h1, h2, h3, h4, -⟩ := Cond.exactly_spec (hw _ List.mem_cons_self)
  have m2 := hw _ (List.mem_cons_of_mem _ List.mem_cons_self)
  have m3 := hw _ (List.mem_cons_of_mem _ (List.mem_cons_of_mem _ List.mem_cons_self))
  have m4 := hw _ (List.mem_cons_of_mem _ (List.mem_cons_of_mem _ (List.mem_cons_of_mem _ List.mem_cons_self)))
  have m5 := hw _ (List.mem_cons_of_mem _ (List.mem_cons_of_mem _ (List.mem_cons_of_mem _ (List.mem_cons_of_mem _ List.mem_cons_self))))
  have m6 := hw _ (List.mem_cons_of_mem _ (List.mem_cons_of_mem _ (List.mem_cons_of_mem _ (List.mem_cons_of_mem _ (List.mem_cons_of_mem _ List.mem_cons_self)))))
  have m7 := hw _ (List.mem_cons_of_mem _ (List.mem_cons_of_mem _ (List.mem_cons_of_mem _ (List.mem_cons_of_mem _ (List.mem_cons_of_mem _ (List.mem_cons_of_mem _ List.mem_cons_self))))))
  obtain ⟨y, hy, -⟩ := Cond.eq_one m3
  have hF : ∀ j, ∃ i, j < 6 → st_F s tb_TV j i := by
    have mk : ∀ {j : Nat} {v : Value}, (Term.field (sg_T 9) (tb_TV j).1 (tb_TV j).2.1 (tb_TV j).2.2.1).eval args s none [] s = some v → ∃ i, j < 6 → st_F s tb_TV j i := by
      intro j v hv
      obtain ⟨cf, kf, fi, f, f1, f2⟩ := sg_ff hv
      exact ⟨f.slot, fun _ => ⟨cf, kf, fi, f, f1, f2, rfl⟩⟩
    intro j
    rcases j with _ | _ | _ | _ | _ | _ | j
    · exact mk (j := 0) hy
    · exact mk (j := 1) (Cond.eq_int m4 rfl)
    · exact mk (j := 2) (Cond.eq_int m5 rfl)
    · exact mk (j := 3) (Cond.eq_int m6 rfl)
    · exact mk (j := 4) (Cond.eq_int m7 rfl)
    · exact mk (j := 5) (Cond.eq_int m2 rfl)
    · exact ⟨0, fun q => absurd q (by omega)⟩
  exact ⟨c, fun j => Classical.choose (hF j), fun j hj => Classical.choose_spec (hF j) hj, h2, k, h4, fun q => by cases q⟩
theorem sg_ev (hs : (Jvm.Cond.and given_1 narrow_1).before args s = true) {k : Nat} {q : String × String × String} (hk : tb_sT[k]? = some q) : ∃ v, (Term.static q.1 q.2.1 q.2.2).eval args s none [] s = some v := by
  have hz := sg_use sg_kZ hs
  have hr : ∀ {t : Term}, Cond.isRef t ∈ sg_z → ∃ v, t.eval args s none [] s = some v := fun h => by
    obtain ⟨v, hv, -⟩ := Cond.isRef_spec (hz _ h)
    exact ⟨v, hv⟩
  rcases k with _ | _ | _ | _ | _ | _ | _ | k
  · cases hk
    obtain ⟨a, -, -, -, hv, -⟩ := Cond.exactly_spec (hz (.exactly (sg_T 9) RX10) (by simp [sg_z]))
    exact ⟨_, hv⟩
  · cases hk
    exact hr (by simp [sg_z])
  · cases hk
    exact hr (by simp [sg_z])
  · cases hk
    exact ⟨_, Cond.eq_int (hz _ List.mem_cons_self) rfl⟩
  · cases hk
    exact hr (by simp [sg_z])
  · cases hk
    exact hr (by simp [sg_z])
  · cases hk
    exact hr (by simp [sg_z])
  · rw [List.getElem?_eq_none (by show 7 ≤ k + 7; omega)] at hk
    cases hk
theorem sg_env (hts : ∀ w ∈ lw_tbl, w.before args s = true) (hs : (Jvm.Cond.and given_1 narrow_1).before args s = true) (hg : ∀ w ∈ lw_g, w.before args s = true) (hD : ∀ (ci : Nat) (r : am_C), tb_ct[ci]? = some r → sm_K s D ci r) : sm_env tb_ct tb_sT tb_sS D s.heap.size s.heap (sg_te s) s := by
  have hA : ∀ a : Nat, a < s.heap.size → ¬ s.heap.size ≤ a := fun a h q => absurd h (by omega)
  have hz := sg_use sg_kZ hs
  have hx := sg_kX
  simp only [Bool.and_eq_true] at hx
  obtain ⟨⟨x1, x2⟩, x3⟩ := hx
  have z1 := hz _ (List.mem_cons_of_mem _ (List.mem_cons_of_mem _ List.mem_cons_self))
  have z2 := hz _ (List.mem_cons_of_mem _ (List.mem_cons_of_mem _ (List.mem_cons_of_mem _ List.mem_cons_self)))
  have z3 := hz _ (List.mem_cons_of_mem _ (List.mem_cons_of_mem _ (List.mem_cons_of_mem _ (List.mem_cons_of_mem _ List.mem_cons_self))))
  have z4 := hz _ (List.mem_cons_of_mem _ (List.mem_cons_of_mem _ (List.mem_cons_of_mem _ (List.mem_cons_of_mem _ (List.mem_cons_of_mem _ List.mem_cons_self)))))
  refine ⟨hD, fun k q hk => ?_, fun k q hk => ?_, vx_Zqof (hts _ (List.contains_iff_mem.mp x1)) (hts _ (List.contains_iff_mem.mp x3)) z1 hA, vx_Zqof (hts _ (List.contains_iff_mem.mp x2)) (hts _ (List.contains_iff_mem.mp x3)) z2 hA, va_Nc.of z3, va_Nc.of z4, fun w hw hn => ?_⟩
  · have h9 := sg_kW q (List.mem_of_getElem? hk)
    simp only [Bool.and_eq_true] at h9
    obtain ⟨v, hv⟩ := sg_ev hs hk
    rw [sg_teT hk hv]
    exact va_Zof (hts _ (List.contains_iff_mem.mp h9.1)) (hts _ (List.contains_iff_mem.mp h9.2)) hv hA
  · have h2 := sg_use sg_kE hs _ (List.mem_map.mpr ⟨q, List.mem_of_getElem? hk, rfl⟩)
    obtain ⟨a, -, -, -, hv, -⟩ := Cond.exactly_spec h2
    exact ⟨a, sg_teS hk hv, vk_R.of (hts _ (List.contains_iff_mem.mp (sg_kU q (List.mem_of_getElem? hk)))) hv⟩
  · have hq := hg w (List.mem_filter.mpr ⟨hw, by rw [hn, Bool.or_true]⟩)
    unfold lw_nw at hn
    split at hn
    · exact va_Nw.of rfl hq
    · exact va_Nw.of rfl hq
    · exact va_Nw.of rfl hq
    · exact va_Nw.of rfl hq
    · exact va_AO.of hq
    · cases hn
theorem sg_EVd (hs : (Jvm.Cond.and given_1 narrow_1).before args s = true) (n m : Nat) : EVd s.heap.size (sg_f s D, n, m, sg_te s) := by
  have hz := sg_use sg_kZ hs
  have t3 : sg_te s 3 = .int 1 := sg_teT (args := args) (k := 3) rfl (Cond.eq_int (hz _ List.mem_cons_self) rfl)
  obtain ⟨v, hv, hr⟩ := Cond.isRef_spec (hz _ (List.mem_cons_of_mem _ List.mem_cons_self))
  have t6 : sg_te s 6 = v := sg_teT (args := args) (k := 6) rfl hv
  obtain ⟨a, g, a1, a2, a3, a4⟩ := sg_avI (D := D) (n := 100) (by decide) (Or.inr rfl) (sg_use sg_kO hs)
  obtain ⟨b, f, b1, b2, b3, b4⟩ := sg_avI (D := D) (n := 100) (by decide) (Or.inr rfl) (sg_use sg_kD hs)
  have t4 : sg_te s 4 = .ref a := sg_teT (args := args) (k := 4) rfl a1
  have t5 : sg_te s 5 = .ref b := sg_teT (args := args) (k := 5) rfl b1
  refine ⟨?_, ⟨a, g, ?_, a2, a3, a4⟩, ⟨b, f, ?_, b2, b3, b4⟩, ?_⟩
  · unfold stI
    show (match sg_te s 3 with | .int a => some a | _ => none) = _
    rw [t3]
  · unfold stR
    show (match sg_te s 4 with | .ref a => some a | _ => none) = _
    rw [t4]
  · unfold stR
    show (match sg_te s 5 with | .ref a => some a | _ => none) = _
    rw [t5]
  · unfold stA
    show ∃ o, (match sg_te s 6 with | .ref a => some (some a) | .null => some none | _ => none) = some o
    rw [t6]
    cases v with
    | ref a => exact ⟨_, rfl⟩
    | null => exact ⟨_, rfl⟩
    | _ => cases hr
theorem sg_stR {n m k q : Nat} (h : sg_te s k = .ref q) : stR (sg_f s D, n, m, sg_te s) k = some q := by
  unfold stR
  show (match sg_te s k with | .ref a => some a | _ => none) = _
  rw [h]
theorem sg_EV (hs : (Jvm.Cond.and given_1 narrow_1).before args s = true) (hg : ∀ w ∈ lw_g, w.before args s = true) (hD : ∀ (ci : Nat) (r : am_C), tb_ct[ci]? = some r → sm_K s D ci r) (n m : Nat) : ∃ V Q : Nat → Nat, EVv s.heap.size (sg_f s D, n, m, sg_te s) V ∧ ELt s.heap.size (sg_f s D, n, m, sg_te s) Q ∧ (∃ q, stR (sg_f s D, n, m, sg_te s) 100 = some q ∧ STR s.heap.size (sg_f s D, n, m, sg_te s) q [32, 118]) ∧ ∃ q, stR (sg_f s D, n, m, sg_te s) 101 = some q ∧ STR s.heap.size (sg_f s D, n, m, sg_te s) q [32, 108] := by
  have hK13 : sm_K s D 13 (RJ0, TJ0, 4, tyJ0, false) := hD 13 _ rfl
  have hK14 : sm_K s D 14 (RX10, tb_TV, 6, tb_tyV, false) := hD 14 _ rfl
  have hV := hK14.2.1
  have hv : ∀ i, ∃ a, i < 10 → (sg_T i).eval args s none [] s = some (.ref a) ∧ a < s.heap.size ∧ ∃ q, sg_f s D a = some (.inr (14, [.ref q, .int (nI (vb_n i)), .int (nI (vb_k i 0)), .int (nI (vb_k i 1)), .int (nI (vb_k i 2)), .int (nI i)])) ∧ STR s.heap.size (sg_f s D, n, m, sg_te s) q (vb_w i) := by
    intro i
    by_cases hi : i < 10
    · obtain ⟨q, q1, q2⟩ := sg_str (te := sg_te s) hK13 hV hg (sg_bv i hi) (sg_lv i hi) (sg_use (sg_kT i hi) hs)
      obtain ⟨a, a1, a2, a3⟩ := sg_vb hK14 (sg_use (sg_kV i hi) hs) q1
      exact ⟨a, fun _ => ⟨a1, a2, q, a3, q2 n m⟩⟩
    · exact ⟨0, fun q => absurd q hi⟩
  have hq : ∀ i, ∃ a, i < 10 → sg_te s (LI i) = .ref a ∧ STR s.heap.size (sg_f s D, n, m, sg_te s) a (vb_w i) := by
    intro i
    by_cases hi : i < 10
    · obtain ⟨q, q1, q2⟩ := sg_str (te := sg_te s) hK13 hV hg (sg_bv i hi) (sg_lv i hi) (sg_use (sg_kM i hi) hs)
      obtain ⟨l1, l2⟩ := sg_Li i hi
      refine ⟨q, fun _ => ⟨?_, q2 n m⟩⟩
      obtain ⟨r, r1, r2⟩ := Option.map_eq_some_iff.mp l2
      have e1 : r.1 = "WatchedKeysModel" := congrArg Prod.fst r2
      have e2 : r.2.1 = sg_mx i := congrArg Prod.snd r2
      have := sg_teS (args := args) (v := .ref q) r1 (by rw [e1, e2]; exact q1)
      rwa [Nat.add_sub_cancel' l1] at this
    · exact ⟨0, fun q => absurd q hi⟩
  obtain ⟨V, hV2⟩ : ∃ V : Nat → Nat, ∀ i, i < 10 → (sg_T i).eval args s none [] s = some (.ref (V i)) ∧ V i < s.heap.size ∧ ∃ q, sg_f s D (V i) = some (.inr (14, [.ref q, .int (nI (vb_n i)), .int (nI (vb_k i 0)), .int (nI (vb_k i 1)), .int (nI (vb_k i 2)), .int (nI i)])) ∧ STR s.heap.size (sg_f s D, n, m, sg_te s) q (vb_w i) := ⟨fun i => Classical.choose (hv i), fun i hi => Classical.choose_spec (hv i) hi⟩
  obtain ⟨Q, hQ2⟩ : ∃ Q : Nat → Nat, ∀ i, i < 10 → sg_te s (LI i) = .ref (Q i) ∧ STR s.heap.size (sg_f s D, n, m, sg_te s) (Q i) (vb_w i) := ⟨fun i => Classical.choose (hq i), fun i hi => Classical.choose_spec (hq i) hi⟩
  obtain ⟨w1, w2, w3⟩ := sg_avs (sg_use sg_kQ hs)
  obtain ⟨A, cell, k1, k2, k3, k4, k5, k6⟩ := sg_arr (f := fun i => .ref (V i)) (by decide) w1 w2 w3 (fun i hi => (hV2 i hi).1) (fun i _ => Or.inr (Or.inr rfl))
  obtain ⟨g, g1, g2⟩ := sg_fQ (D := D) k2 k3 k4 k5 k6
  obtain ⟨mm, f, m1, m2, m3, m4⟩ := sg_avI (D := D) (n := 10) (by decide) (Or.inl rfl) (sg_use sg_kS hs)
  obtain ⟨qa, qa1, qa2⟩ := sg_str (te := sg_te s) hK13 hV hg sg_b2 (by decide) (sg_use sg_kA hs)
  obtain ⟨qb, qb1, qb2⟩ := sg_str (te := sg_te s) hK13 hV hg sg_b3 (by decide) (sg_use sg_kB hs)
  refine ⟨V, Q, ⟨⟨A, g, sg_stR (sg_teT (args := args) (k := 1) rfl k1), sg_lt k2, g1, g2⟩, fun i hi => ⟨(hV2 i hi).2.1, (hV2 i hi).2.2⟩, sg_stR (sg_teT (args := args) (k := 0) rfl (hV2 9 (by decide)).1), mm, f, sg_stR (sg_teT (args := args) (k := 2) rfl m1), m2, m3, m4⟩, fun i hi => ⟨sg_stR (hQ2 i hi).1, (hQ2 i hi).2⟩, ⟨qa, sg_stR (sg_teS (args := args) (k := 0) rfl qa1), qa2 n m⟩, qb, sg_stR (sg_teS (args := args) (k := 1) rfl qb1), qb2 n m⟩
end Si
