section SMT
variable {p : Program} {l : Launch} {e : Env} {R : Room} {s : State} {m : MethodId} {args : Array Value} {below : List Frame} {meth : Method} {c : Code} {H : Heap} {locs : List Loc} {cells slots : Nat} {Q : State → Prop}
variable {mc ms : Nat} {free : Addr → Prop} {ls : Array Slot} {rest : List Value} {Qc : Array Value → State → Outcome → State → Prop} {XC : String → State → State → Prop}
/-- the kit's vx_throw0, with the heap behind it told exactly -/
theorem sm_throw0 {cc : ByteArray} {pc : Nat} (hexec : p.tables.exec = Jvm.exec) (hb : c.code = cc) (hl : l.stackTraces = false) {own cls : String} {names : List String} {ik ic mc ms : Nat} {A : Nat → Prop}
    (hown : s.vm.findClass own = some m.cls) (hcls : Bundle.fit cls = true) (hnames : ∀ n ∈ names, Bundle.fit n = true)
    (hk : (Cond.classLink own ik cls).before args s = true) (hini : (Cond.initialized cls).before args s = true) (hat : ∀ w ∈ vx_at0 own ic cls names, w.before args s = true)
    (hgood : ∀ w ∈ Cond.classLink own ik cls :: Cond.initialized cls :: vx_at0 own ic cls names, vx_ot w = true)
    (hU : vx_Zq Bundle.tN "UNASSIGNED_STACK" Bundle.steD A s s.heap) (hN : vx_Zq Bundle.tN "SUPPRESSED_SENTINEL" Bundle.listD A s s.heap) (hS : va_S A s.heap H locs) (hsize : ls.size = c.maxLocals)
    (d0 : decode cc pc = .ok (.new ik, 3)) (d3 : decode cc (pc + 3) = .ok (.dup, 1)) (d4 : decode cc (pc + 4) = .ok (.invokespecial ic, 3)) (d7 : decode cc (pc + 7) = .ok (.athrow, 1))
    (hout : ∀ x ∈ c.exceptionTable.toList, covers x (pc + 7) = false)
    (hRframes : names.length + 3 < R.frames) (hRlocals : (rest.map fun v => v.category).sum + (13 * (names.length + 1) + 42) ≤ R.locals) (hRcells : cells + 1 ≤ R.cells) (hRslots : slots + 6 ≤ R.slots) (hlocks : meth.locks = false)
    (hx : ∀ t : State, s.vm.Alike t.vm → t.heap.size = H.size + 1 → (∀ q : Nat, q < H.size → t.heap[q]? = H[q]?) → XC cls s t)
    (hf : ∀ z ∈ locs, free z.base) (hc : cells + 1 ≤ mc) (hs : slots + 6 ≤ ms) :
    W p l e R s m args below meth c H locs cells slots (vx_MQ below Qc XC args s mc ms free) (F0 m pc ls rest) := by
  intro T hT X
  have htr : e.platform.stackTraces = false := (show e.platform.stackTraces = l.stackTraces by rw [X.admits.platform]).trans hl
  have Y := vx_rebase X (R' := { frames := R.frames, locals := R.locals, cells := 1, slots := 6 }) (Nat.le_refl _) (Nat.le_refl _) hRcells hRslots
  obtain ⟨s', hA⟩ : ∃ z, z = (T.setVm s.vm).setFrames (.invoking m args :: below) := ⟨_, rfl⟩
  rw [← hA] at Y
  have hvm : s'.vm = s.vm := by rw [hA]; rfl
  have hhp : s'.heap = H := by rw [hA]; exact hT
  have hW0 : s.WarmedH s'.vm := by rw [hvm]; exact State.WarmedH.refl s
  have hat' : ∀ w ∈ vx_at0 own ic cls names, w.before args s' = true := fun w hw => vx_ot_at hW0 hvm.symm (hgood w (List.mem_cons_of_mem _ (List.mem_cons_of_mem _ hw))) (hat w hw)
  have hk' : (Cond.classLink own ik cls).before args s' = true := vx_ot_at hW0 hvm.symm (hgood _ List.mem_cons_self) hk
  have hini' : (Cond.initialized cls).before args s' = true := vx_ot_at hW0 hvm.symm (hgood _ (List.mem_cons_of_mem _ List.mem_cons_self)) hini
  have hU' : vx_Zq Bundle.tN "UNASSIGNED_STACK" Bundle.steD A s' s'.heap := by rw [hhp]; exact vx_Zq.moved hW0.alike (hU.kept hS.2.1)
  have hN' : vx_Zq Bundle.tN "SUPPRESSED_SENTINEL" Bundle.listD A s' s'.heap := by rw [hhp]; exact vx_Zq.moved hW0.alike (hN.kept hS.2.1)
  have h : ∀ w ∈ Bundle.ownAtoms0 own ic cls names, w.before args s' = true := vx_own hat' (vx_isRefq hU'.1) (vx_isRefq hN'.1) hU'.2.word hN'.2.word
  have hown' : s'.vm.findClass own = some m.cls := by rw [hvm]; exact hown
  have hins : (Cond.instantiable cls 6).before args s' = true := h _ (by simp [Bundle.ownAtoms0])
  obtain ⟨vm₁, cX, kX, hfX, hkX, -, -, X₁, st1⟩ := Y.newCold hexec (own := own) (C := cls) (index := ik) (n := 6) hown' hk' hins hini'
    (g := F0 m pc ls rest) rfl (by rw [hb]; exact d0) (Nat.le_refl _) (Nat.le_refl _)
  generalize hT1 : (T.setVm vm₁).pushCell { cls := cX, slots := kX.instanceTypes.map defaultValue, vm := .none } = T1 at X₁ st1
  have hcat : (Value.ref T.heap.size).category = 1 := rfl
  have hcellA : T1.heap[T.heap.size]? = some (freshCell cX kX) := by rw [← hT1]; exact State.heap_pushCell_size _ _
  have d3' : decode c.code (pc + 3) = .ok (.dup, 1) := by rw [hb]; exact d3
  obtain ⟨U, hsteps, hrun, hend, hW, hsame, ce, hce, hO⟩ := X₁.ctorThrow0 hexec htr (own := own) (cls := cls) (names := names) (ic := ic) hown' hcls hnames h (fun x hx => nomatch hx) hfX hkX hcellA (by rw [hhp, hT]; exact Nat.le_refl _)
    (g := { method := m, pc := pc + 4, locals := ls, stack := .ref T.heap.size :: .ref T.heap.size :: rest, locked := none }) rfl hsize rfl rfl (rest := rest) rfl
    (by rw [hb]; exact d4) (by rw [hb]; exact d7) hout hRframes (by simp only [List.map_cons, List.sum_cons, hcat]; omega) hlocks
  obtain ⟨f1, f2⟩ := vx_frame hsame
  rw [hhp] at f1 f2
  have fsz : U.heap.size = H.size + 1 := by
    have u1 : U.heap.size ≤ s'.heap.size + (0 + 1) := hsame.2.2.1
    have u2 := (Array.getElem?_eq_some_iff.mp hce).1
    rw [hhp] at u1
    rw [hT] at u2
    omega
  have hWs : s.WarmedH U.vm := State.WarmedH.trans hW0 hW
  have hcl : s.vm.findClass cls = some ce.cls := by
    have h9 := hO.cls
    rw [hvm] at h9
    exact h9
  have hall : s.sameButNew ({ U with vm := s.vm } : State) locs mc ms := by
    subst hA
    obtain ⟨e1, e2⟩ := hsame
    rw [State.setFrames_setFrames] at e1
    have h2 : (T.setVm s.vm).sameButNew ({ U with vm := s.vm } : State) [] (0 + 1) (0 + 6) := ⟨e1, e2⟩
    have h3 := X.same.trans h2
    rw [List.append_nil] at h3
    exact h3.mono hc hs
  refine ⟨U, ?_, .threw T.heap.size, hrun, hend, Or.inr ⟨T.heap.size, rfl, cls, ce, locs, hx U hWs.alike fsz (fun q hq => f2 q hq (fun z hz => nomatch hz)), hce, hO.vm, hcl, hWs, hall, hf⟩⟩
  refine st1 _ ?_
  show Steps p.tables e below (T1.setTop { method := m, pc := pc + 3, locals := ls, stack := .ref T.heap.size :: rest, locked := none }) _
  jvm_step X₁.here [X₁.here.top, hexec, d3', Value.category]
  exact hsteps
end SMT
theorem sm_Rep.bump {ct : List am_C} {D : va_G} {B : Nat} {H00 : Heap} {s : State} {g : am_S} {H H1 : Heap} (h : sm_Rep ct D B H00 s g H) (hz : H1.size = H.size + 1) (ho : ∀ q : Nat, q < H.size → H1[q]? = H[q]?) : sm_Rep ct D B H00 s (am_bump g) H1 := by
  obtain ⟨h1, h2, h3, h4, h5⟩ := h
  refine ⟨by rw [hz, h1]; rfl, Nat.le_succ_of_le h2, h3, fun q x hq => ?_, fun q hq => ?_⟩
  · have h7 := h4 q x hq
    exact h7.kept (ho q h7.lt)
  · rw [ho q (by omega)]
    exact h5 q hq
theorem sm_nw_warm {w : Cond} {s U : State} (hW : s.WarmedH U.vm) (hn : lw_nw w = true) (h : w.before #[] s = true) : w.before #[] U = true := by
  unfold lw_nw at hn
  split at hn
  · exact va_Nw.warmF hW h
  · exact va_Nw.warmM hW h
  · exact va_Nw.warmC hW h
  · exact va_Nw.warmD hW h
  · exact va_AO.moved hW.alike h
  · cases hn
theorem sm_nw_use {w : Cond} {s : State} {args : Array Value} (hn : lw_nw w = true) (h : w.before #[] s = true) : w.before args s = true := by
  unfold lw_nw at hn
  split at hn
  · exact va_Nw.use rfl h
  · exact va_Nw.use rfl h
  · exact va_Nw.use rfl h
  · exact va_Nw.use rfl h
  · exact va_AO.use h
  · cases hn
/-- what is known at a method's start, of the tables and of what was there before the law -/
def sm_env (ct : List am_C) (sT : List (String × String × String)) (sS : List (String × Nat × String)) (D : va_G) (B : Nat) (H00 : Heap) (te : Nat → Value) (s : State) : Prop :=
  (∀ (ci : Nat) (r : am_C), ct[ci]? = some r → sm_K s D ci r) ∧ (∀ (k : Nat) (q : String × String × String), sT[k]? = some q → va_Z q.1 q.2.1 q.2.2 (te k) (fun a => B ≤ a) s H00) ∧
  (∀ (k : Nat) (q : String × Nat × String), sS[k]? = some q → ∃ a, te (100 + k) = .ref a ∧ vk_R q.1 q.2.1 q.2.2 a s) ∧
  vx_Zq Bundle.tN "UNASSIGNED_STACK" Bundle.steD (fun a => B ≤ a) s H00 ∧ vx_Zq Bundle.tN "SUPPRESSED_SENTINEL" Bundle.listD (fun a => B ≤ a) s H00 ∧ va_Nc (am_exn 0) (am_exn 1) s ∧ va_Nc (am_exn 1) (am_exn 0) s ∧ ∀ w ∈ lw_tbx, lw_nw w = true → w.before #[] s = true
theorem sm_env.warm {ct : List am_C} {sT : List (String × String × String)} {sS : List (String × Nat × String)} {D : va_G} {B : Nat} {H00 : Heap} {te : Nat → Value} {s U : State} (hW : s.WarmedH U.vm) (h : sm_env ct sT sS D B H00 te s) : sm_env ct sT sS D B H00 te U := by
  obtain ⟨h1, h2, h3, h4, h5, h6, h7, h8⟩ := h
  refine ⟨fun ci r hr => (h1 ci r hr).moved hW.alike, fun k q hq => va_Z.moved hW.alike (h2 k q hq), fun k q hq => ?_, vx_Zq.moved hW.alike h4, vx_Zq.moved hW.alike h5, va_Nc.moved hW.alike h6, va_Nc.moved hW.alike h7, fun w hw hn => sm_nw_warm hW hn (h8 w hw hn)⟩
  obtain ⟨a, h9, h10⟩ := h3 k q hq
  exact ⟨a, h9, vk_R.warm hW h10⟩
section SMC
variable (ct : List am_C) (mt : List am_M) (sT : List (String × String × String)) (sS : List (String × Nat × String)) (D : va_G) (B : Nat) (H00 : Heap) (te : Nat → Value)
def sm_In (g : am_S) (U : State) : Prop := sm_env ct sT sS D B H00 te U ∧ sm_Rep ct D B H00 U g U.heap ∧ g.2.2.2 = te
def sm_cw (N : am_M) : Cond := match am_hh N with
  | [] => .code (am_name N) (am_bytes N) (am_maxL N) (am_retT N)
  | hh => .codeWith (am_name N) (am_bytes N) (am_maxL N) (am_retT N) (hh.map fun h => (h.1, h.2.1, h.2.2.1, h.2.2.2.1))
def sm_ws (N : am_M) : List Cond := sm_cw N :: lw_k
def sm_rm (N : am_M) (g g' : am_S) : Room := { frames := am_lev N, cells := g'.2.1 - g.2.1, slots := g'.2.2.1 - g.2.2.1, locals := 100 * am_lev N }
def sm_Qc (o : am_O) (g' : am_S) : Array Value → State → Outcome → State → Prop := fun _ _ oc t => ∃ v, o = .inl v ∧ oc = .returned v ∧ sm_Rep ct D B H00 t g' t.heap
def sm_XC (o : am_O) (g' : am_S) : String → State → State → Prop := fun E _ t => ∃ k, o = .inr k ∧ E = am_exn k ∧ k < 2 ∧ sm_Rep ct D B H00 t g' t.heap
def sm_Con (l : Launch) (N : am_M) (as : List Value) (g : am_S) (o : am_O) (g' : am_S) : Prop :=
  vx_Met l (am_name N) (sm_ws N) (sm_rm N g g') (fun v U => v = as.toArray ∧ sm_In ct sT sS D B H00 te g U) (sm_Qc ct D B H00 o g') (sm_XC ct D B H00 o g') (g'.2.1 - g.2.1) (g'.2.2.1 - g.2.2.1) (fun a => B ≤ a)
theorem sm_In.blind (as : List Value) (g : am_S) : FrameBlind (fun v U => v = as.toArray ∧ sm_In ct sT sS D B H00 te g U) := by
  intro a U gf mk h
  obtain ⟨h1, h2, h3, h4⟩ := h
  exact ⟨h1, h2.warm (U := U.calling gf mk a) (State.WarmedH.refl U), h3.moved (U := U.calling gf mk a) (Vm.Alike.refl U.vm), h4⟩
/-- a method's own words: its code's, its kind's -/
def am_okM (N : am_M) : Bool := match am_hint N with
  | n :: i :: j :: k :: _ => am_hasK i (sm_cw N) && am_hasK j (.initialized (am_name N).cls) && am_hasK k (if am_kind N = 0 then .static (am_name N) else .instanceMethod (am_name N)) && decide ((am_name N).cls ≠ "java/lang/invoke/MethodHandle" ∧ (am_name N).cls ≠ "java/lang/invoke/VarHandle") &&
    decide ((parseMethodDescriptor (am_name N).desc).map (fun d => d.parameters.length) = some (n - if am_kind N = 0 then 0 else 1)) && (decide (am_kind N = 0) || decide (1 ≤ n)) && plainName (am_name N).cls && decide (am_maxL N ≤ 60) && decide (2 ≤ am_lev N) && (decide (am_kind N = 2) == decide ((am_name N).name = "<init>")) && (decide (am_hh N = []) || decide (am_kind N = 0)) && (decide (am_kind N ≠ 2) || decide (am_retT N = none))
  | _ => false
end SMC
