section SMW
variable {p : Program} {l : Launch} {e : Env} {R : Room} {s : State} {m : MethodId} {args : Array Value} {below : List Frame} {meth : Method} {c : Code} {H : Heap} {locs : List Loc} {cells slots : Nat} {Q : State → Prop}
variable {cc : ByteArray} {pc nL r2 r3 k : Nat} {ls : Array Slot} {L As st rest : List Value} {te : Nat → Value} {ct : List am_C} {mt : List am_M} {sT : List (String × String × String)} {sS : List (String × Nat × String)} {M N : am_M} {B : Nat} {D : va_G} {H00 : Heap} {g g' : am_S} {o : am_O} {b : Nat}
/-- a call, from its run to what comes behind -/
theorem sm_call (hr : sm_Rn ct D B H00 p l e R s m args below meth c H locs cells slots pc ls st As rest g o g')
    (kx : ∀ (k : Nat) (ce : Cell) (q9 : Addr) (H1 : Heap) (locs1 : List Loc), o = .inr k → k < 2 → sm_Rep ct D B H00 s g' H1 → (∀ z ∈ locs1, B ≤ z.base) → H1[q9]? = some ce → ce.vm = .none → s.vm.findClass (am_exn k) = some ce.cls → vx_W p l e R s m args below meth c H1 (locs ++ locs1) (cells + (g'.2.1 - g.2.1)) (slots + (g'.2.2.1 - g.2.2.1)) Q (F0 m pc ls rest) q9)
    (kk : ∀ (v : Option Value) (H1 : Heap) (locs1 : List Loc), o = .inl v → sm_Rep ct D B H00 s g' H1 → (∀ z ∈ locs1, B ≤ z.base) → W p l e R s m args below meth c H1 (locs ++ locs1) (cells + (g'.2.1 - g.2.1)) (slots + (g'.2.2.1 - g.2.2.1)) Q (F0 m (pc + 3) ls (v.toList ++ rest))) : W p l e R s m args below meth c H locs cells slots Q (F0 m pc ls st) := by
  intro T hT X
  rcases hr T hT X with ⟨v, st₀, t, T', L, h0, X', hL, e1, e2, ⟨v', hv, hv2, hR⟩, st⟩ | ⟨q, st₀, t, T', L, E, ce, h0, X', hL, e1, e2, ⟨k, ho, hE, hk2, hR⟩, hce, hcv, hcl, st⟩
  · cases hv2
    have hal : t.vm.Alike s.vm := by rw [← e2]; exact X'.warmed.alike.symm
    obtain ⟨t2, a1, b1⟩ := kk v T'.heap L hv (by rw [e1]; exact hR.moved hal) hL T' rfl X'
    exact ⟨t2, st t2 a1, b1⟩
  · have hal : t.vm.Alike s.vm := by rw [← e2]; exact X'.warmed.alike.symm
    obtain ⟨t2, a1, b1⟩ := kx k ce q T'.heap L ho hk2 (by rw [e1]; exact hR.moved hal) hL (by rw [e1]; exact hce) hcv (by rw [← hE]; exact hcl) T' rfl X'
    exact ⟨t2, st.trans a1, b1⟩
/-- what the tables must say of a method's handlers -/
def am_okHh (M : am_M) : Bool := (am_hh M).all fun h => decide (h.2.2.2.1 ≠ 0) && decide (h.2.2.2.2 < 2) && lw_in (.classLink (am_name M).cls h.2.2.2.1 (am_exn h.2.2.2.2)) && lw_in (.castable (am_exn h.2.2.2.2) (am_exn h.2.2.2.2))
def am_tab (hh : List (Nat × Nat × Nat × Nat × Nat)) : List (Nat × Nat × Nat × Nat) := hh.map fun h => (h.1, h.2.1, h.2.2.1, h.2.2.2.1)
theorem am_hand_spec {E h : Nat} : ∀ {hh : List (Nat × Nat × Nat × Nat × Nat)}, am_hand E pc hh = some h → ∃ (a : List (Nat × Nat × Nat × Nat × Nat)) (x : Nat × Nat × Nat × Nat × Nat) (b : List (Nat × Nat × Nat × Nat × Nat)), hh = a ++ x :: b ∧ (∀ z ∈ a, ¬ (z.1 ≤ pc ∧ pc < z.2.1 ∧ z.2.2.2.2 = E)) ∧ x.1 ≤ pc ∧ pc < x.2.1 ∧ x.2.2.2.2 = E ∧ x.2.2.1 = h
  | [], hq => by cases hq
  | z :: t, hq => by
    unfold am_hand at hq
    split at hq
    · rename_i h1
      cases hq
      exact ⟨[], z, t, rfl, (fun _ h => by cases h), h1.1, h1.2.1, h1.2.2, rfl⟩
    · rename_i h1
      obtain ⟨a, x, b, e1, e2, e3⟩ := am_hand_spec hq
      refine ⟨z :: a, x, b, by rw [e1]; rfl, fun w hw => ?_, e3⟩
      rcases List.mem_cons.mp hw with rfl | hw
      · exact h1
      · exact e2 w hw
theorem sm_catch {E h : Nat} {ce : Cell} {q : Addr} (hown : s.vm.findClass (am_name M).cls = some m.cls) (hts : ∀ w ∈ lw_g, w.before args s = true) (henv : sm_env ct sT sS D B H00 te s) (hok : am_okHh M = true) (htab : c.exceptionTable.toList = tableOf (am_tab (am_hh M))) (hE : E < 2) (hh : am_hand E pc (am_hh M) = some h)
    (hcell : H[q]? = some ce) (hv : ce.vm = .none) (hcl : s.vm.findClass (am_exn E) = some ce.cls)
    (kk : W p l e R s m args below meth c H locs cells slots Q (F0 m h ls [.ref q])) : vx_W p l e R s m args below meth c H locs cells slots Q (F0 m pc ls rest) q := by
  obtain ⟨a, x, b, e1, e2, e3, e4, e5, e6⟩ := am_hand_spec hh
  have hall := List.all_eq_true.mp hok
  have hx0 := hall x (by rw [e1]; simp)
  simp only [Bool.and_eq_true, decide_eq_true_eq] at hx0
  obtain ⟨⟨⟨x1, x2⟩, x3⟩, x4⟩ := hx0
  rw [e5] at x3 x4
  have ht : c.exceptionTable.toList = tableOf (am_tab a) ++ (⟨x.1, x.2.1, x.2.2.1, x.2.2.2.1⟩ : ExceptionTableEntry) :: tableOf (am_tab b) := by
    rw [htab, e1]
    simp [am_tab, tableOf]
  refine vx_catch hown _ _ _ ht (fun z hz => ?_) ?_ x1 (hts _ (lw_in_mem x3)) (hts _ (lw_in_mem x4)) hcell hv hcl (by rw [← e6] at kk; exact kk)
  · simp only [am_tab, tableOf, List.map_map, List.mem_map, Function.comp] at hz
    obtain ⟨w, hw, rfl⟩ := hz
    have hn := e2 w hw
    have hw0 := hall w (by rw [e1]; simp [hw])
    simp only [Bool.and_eq_true, decide_eq_true_eq] at hw0
    obtain ⟨⟨⟨y1, y2⟩, y3⟩, y4⟩ := hw0
    by_cases hc : w.1 ≤ pc ∧ pc < w.2.1
    · refine Or.inr ⟨y1, _, hts _ (lw_in_mem y3), ?_⟩
      have hne : w.2.2.2.2 ≠ E := fun q => hn ⟨hc.1, hc.2, q⟩
      obtain ⟨-, -, -, -, -, h6, h7, -⟩ := henv
      have : (E = 0 ∧ w.2.2.2.2 = 1) ∨ (E = 1 ∧ w.2.2.2.2 = 0) := by omega
      rcases this with ⟨q1, q2⟩ | ⟨q1, q2⟩
      · rw [q1, q2]; exact h6
      · rw [q1, q2]; exact h7
    · refine Or.inl ?_
      simp only [covers, Bool.and_eq_false_iff, decide_eq_false_iff_not]
      by_cases q : w.1 ≤ pc
      · exact Or.inr fun z => hc ⟨q, z⟩
      · exact Or.inl q
  · simp only [covers, Bool.and_eq_true, decide_eq_true_eq]
    exact ⟨e3, e4⟩
theorem sm_L.un {nL : Nat} {i : Nat} {v : Value} (h : sm_L ls nL (am_stL L i v)) (hv : v.category = 1) : sm_L ls nL (am_stL L i am_un) := by
  obtain ⟨h1, h2, h3, h4⟩ := h
  refine ⟨by rw [sm_stL_len] at h1 ⊢; exact h1, h2, h3, fun j w hj hw => h4 j w ?_ hw⟩
  simp only [am_stL, List.getElem?_mapIdx, Option.map_eq_some_iff] at hj ⊢
  obtain ⟨u, hu, he⟩ := hj
  refine ⟨u, hu, ?_⟩
  by_cases h5 : j = i
  · rw [if_pos h5] at he
    exact absurd he.symm hw
  · rw [if_neg h5] at he ⊢
    by_cases h6 : (j + 1 = i ∧ u.category = 2) ∨ (j = i + 1 ∧ am_un.category = 2)
    · rw [if_pos h6] at he
      exact absurd he.symm hw
    · rw [if_neg h6] at he
      rw [if_neg (fun q => h6 (q.elim Or.inl fun z => absurd z.2 (by rw [hv]; decide)))]
      exact he
/-- arraycopy -/
theorem sm_cpy {ty : FieldType} {ik : Nat} {st' : List Value} (hx : p.tables.exec = Jvm.exec) (hb : c.code = cc) (hml : c.maxLocals = ls.size) (hown : s.vm.findClass (am_name M).cls = some m.cls) (hlink : (Cond.methodLink (am_name M).cls ik arraycopyName).before args s = true)
    (hnat : (Cond.native arraycopyName).before args s = true) (hstat : (Cond.static arraycopyName).before args s = true) (hini : (Cond.initialized "java/lang/System").before args s = true) (hty : ty = .int ∨ ty = .byte)
    (hP : sm_Rep ct D B H00 s g H) (hframes : 1 ≤ R.frames) (hlocals : 8 + (nativeFrameWords "java/lang/System" "arraycopy" 5 + 11) ≤ R.locals) (hd : decode cc pc = .ok (.invokestatic ik, 3)) (hv : am_cpy B ty st g = some (st', g'))
    (kk : ∀ (H1 : Heap) (locs1 : List Loc), sm_Rep ct D B H00 s g' H1 → (∀ z ∈ locs1, B ≤ z.base) → W p l e R s m args below meth c H1 (locs ++ locs1) cells slots Q (F0 m (pc + 3) ls st')) : W p l e R s m args below meth c H locs cells slots Q (F0 m pc ls st) := by
  unfold am_cpy at hv
  split at hv
  · rename_i n dp a sp a0 r
    split at hv
    · rename_i n0 f n1 gg hs0 hs1
      split at hv
      · rename_i h0
        cases hv
        obtain ⟨z1, z2, z3, z4, z5, z6, z7, z8⟩ := h0
        have hcl : ∀ z : Int32, 0 ≤ z.toInt → ¬ z < 0 := by
          intro z hz q
          have := Int32.lt_iff_toInt_lt.mp q
          simp at this
          omega
        obtain ⟨c0, k0, ⟨k1, k2, k3, k4, k5⟩, -⟩ := sm_arr hP (sm_ia hs0)
        obtain ⟨c1, j0, ⟨j1, j2, j3, j4, j5⟩, j6⟩ := sm_arr hP (sm_ia hs1)
        obtain ⟨cA, rfl, j7, j8⟩ := j6 z6
        have h4 : sp.toNatClampNeg + n.toNatClampNeg ≤ n0 := z4
        have h5 : dp.toNatClampNeg + n.toNatClampNeg ≤ n1 := z5
        have hfit := List.all_eq_true.mp z8
        have nn : ∀ z : Int32, 0 ≤ z.toInt → z.toInt = (z.toNatClampNeg : Int) := by
          intro z hz
          show z.toInt = ((z.toInt.toNat : Nat) : Int)
          omega
        intro T hT X
        obtain ⟨p1, kc0, p2, comp0, p3⟩ := id k1
        obtain ⟨p4, kc1, p5, comp1, p6⟩ := id j1
        have hrk : refKind ty = false := by rcases hty with rfl | rfl <;> rfl
        have hget : ∀ i, i < n.toNatClampNeg → c0.slots.getD (sp.toNatClampNeg + i) .null = .int (f (sp.toNatClampNeg + i)) := by
          intro i hi
          rw [Array.getD_eq_getD_getElem?, k5 (sp.toNatClampNeg + i) (by show _ < n0; omega)]
          rfl
        obtain ⟨vm', X', step⟩ := X.arraycopy hx hown hlink hnat hstat hini (src := a0) (dst := a) (cs := c0) (cd := vp_cell cA (n1, .inl gg)) (srcPos := sp) (destPos := dp) (n := n) (by rw [hT]; exact k0) (by rw [hT]; exact j0)
          p1 p4 k2 j2 p2 p5 p3 p6 (by simp [hrk]) (hcl _ z3) (hcl _ z2) (hcl _ z1)
          (by rw [nn sp z3, nn n z1]; have : n0 ≤ c0.slots.size := k3; omega)
          (by rw [nn dp z2, nn n z1]; have : n1 ≤ (vp_cell cA (n1, .inl gg)).slots.size := j3; omega)
          (fun vm₁ _ i hi => by
            refine ⟨?_, ?_⟩
            · rw [hget i hi]
              exact hfit i (List.mem_range.mpr hi)
            · rw [hget i hi]
              exact trivial)
          (g := F0 m pc ls (.int n :: .int dp :: .ref a :: .int sp :: .ref a0 :: st')) rfl (by rw [hml]) (rest := st') rfl (by rw [hb]; exact hd) hframes (by show 2 * 0 + _ + _ ≤ _; have := sm_cat z7; omega)
        have e1 : copied c0 (vp_cell cA (n1, .inl gg)) sp dp n = vp_cell cA (n1, .inl (va_cpy f gg sp.toNatClampNeg dp.toNatClampNeg n.toNatClampNeg)) := va_copiedX (fun z => .int z) c0 cA f gg (fun j hj => k5 j hj) h4
        rw [e1] at X' step
        have hl : a < H.size := (Array.getElem?_eq_some_iff.mp j0).1
        have hheap : ((T.setVm vm').setCell a (vp_cell cA (n1, .inl (va_cpy f gg sp.toNatClampNeg dp.toNatClampNeg n.toNatClampNeg)))).heap = H.setIfInBounds a (vp_cell cA (n1, .inl (va_cpy f gg sp.toNatClampNeg dp.toNatClampNeg n.toNatClampNeg))) := by rw [← hT]; rfl
        obtain ⟨t, a1, b1⟩ := kk _ _ (hP.set z6 (sm_at_new (show (H.setIfInBounds a _)[a]? = some _ by simp [Array.getElem?_setIfInBounds, hl]) j7 j8) (by simp) (fun q hq => by simp [Array.getElem?_setIfInBounds, Ne.symm hq])) (fun z hz => by
          obtain ⟨w, -, hw⟩ := List.mem_map.mp hz
          rw [← hw]
          exact z6) _ hheap X'
        exact ⟨t, step t a1, b1⟩
      · cases hv
    · cases hv
  · cases hv
end SMW
