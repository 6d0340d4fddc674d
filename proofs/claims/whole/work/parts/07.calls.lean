/-! ===== BEGIN a constructor that throws (launches without stack traces) ===== -/
section VXIA
variable {p : Program} {l : Launch} {e : Env} {R : Room} {s : State} {m : MethodId} {args : Array Value} {below : List Frame} {meth : Method} {c : Code} {T : State} {locs : List Loc} {cells slots : Nat}
theorem vx_callI (X : Stand p l e R s m args below meth c T locs cells slots) (hexec : p.tables.exec = Jvm.exec) {own : String} {index : Nat} {y : MethodName} {bytes : ByteArray} {maxL : Nat}
    (hown : s.vm.findClass own = some m.cls) (hy1 : y.name = "<init>") (hlink : (Cond.methodLink own index y).before args s = true) (hinst : (Cond.instanceMethod y).before args s = true)
    (hcode : (Cond.code y bytes maxL none).before args s = true) (hy : y.cls ≠ "java/lang/invoke/MethodHandle" ∧ y.cls ≠ "java/lang/invoke/VarHandle")
    {W9 : Nat} {Pre : Pt → Array Value → Prop} {Post : Pt → Array Value → Option Value → Pt → Prop} {PostX : Pt → Array Value → Addr → Pt → Prop} (hK : vx_Back l R p e below s args y 3 W9 Pre Post PostX)
    {g : JFrame} (hg : g.method = m) (hsize : g.locals.size = c.maxLocals) {a : Addr} {argsL rest : List Value} (hlen : ∀ sig, parseMethodDescriptor y.desc = some sig → argsL.length = sig.parameters.length)
    (hstack : g.stack = argsL.reverse ++ .ref a :: rest) (hW : 2 * g.monitorRoom + (rest.map fun v => v.category).sum ≤ W9) (hdg : decode c.code g.pc = .ok (.invokespecial index, 3))
    (hpre : ∀ vm₁, s.WarmedH vm₁ → Pre ⟨T.setVm vm₁, locs, cells, slots⟩ (Value.ref a :: argsL).toArray) :
    (∃ (v : Option Value) (vm₁ : Vm) (B : Pt), s.WarmedH vm₁ ∧ Stand p l e R s m args below meth c B.U B.locs B.cells B.slots ∧ Post ⟨T.setVm vm₁, locs, cells, slots⟩ (Value.ref a :: argsL).toArray v B ∧
      ∀ target, Steps p.tables e below (B.U.setTop { g with pc := g.pc + 3, stack := v.toList ++ rest }) target → Steps p.tables e below (T.setTop g) target) ∨
    (∃ (q : Addr) (vm₁ : Vm) (B : Pt), s.WarmedH vm₁ ∧ Stand p l e R s m args below meth c B.U B.locs B.cells B.slots ∧ PostX ⟨T.setVm vm₁, locs, cells, slots⟩ (Value.ref a :: argsL).toArray q B ∧
      Steps p.tables e below (T.setTop g) ((B.U.setTop { g with stack := rest }).pushFrame (.throwing q))) := by
  subst hg
  have hpl : e.platform.magicAccessors = ({} : Platform).magicAccessors := by rw [X.admits.platform]
  obtain ⟨mk, methM, cM, kP, vm₁, hnamed, hmethM, hcodeM, -, hlocalsM, -, hkP, -, hW₁, hstep₁⟩ := Steps.initColdArgs (e := e) X.here hexec X.warmed hpl hown hy1 hy hlink hinst hcode (f := g) rfl hlen hstack hdg
  have X₁ := X.noted hW₁
  rcases hK g.method meth c ⟨T.setVm vm₁, locs, cells, slots⟩ { g with stack := rest } (.invokespecial index) mk (Value.ref a :: argsL).toArray X₁ rfl hsize hdg hW (X₁.named hnamed) (hpre vm₁ X₁.warmed) with ⟨v, B, X', hpost, hsteps⟩ | ⟨q, B, X', hpost, hsteps⟩
  · exact Or.inl ⟨v, vm₁, B, X₁.warmed, X', hpost, fun target h => hstep₁ _ fun acts => by rw [doInvoke_state]; exact hsteps.trans h⟩
  · exact Or.inr ⟨q, vm₁, B, X₁.warmed, X', hpost, hstep₁ _ fun acts => by rw [doInvoke_state]; exact hsteps⟩
end VXIA
section VXIB
variable {p : Program} {l : Launch} {e : Env} {R : Room} {s : State} {m : MethodId} {args : Array Value} {below : List Frame} {meth : Method} {c : Code} {H : Heap} {locs : List Loc} {cells slots : Nat}
variable {y : MethodName} {bytes cc : ByteArray} {maxL nL mc ms n index : Nat} {ret : Option FieldType} {ws : List Cond} {rm : Room} {Pc : Array Value → State → Prop} {Qc : Array Value → State → Outcome → State → Prop} {XC : String → State → State → Prop} {free : Addr → Prop} {Ts : List Cond} {own C : String} {b : Addr} {As rest : List Value} {g : JFrame}
theorem vx_runI (S : CallFix p m c cc nL s args Ts own) (hM : vx_Met l y ws rm Pc Qc XC mc ms free) (cw : CallB R s args own index y bytes maxL none ws rm mc ms n ∧ y.name = "<init>" ∧ (Cond.instanceMethod y).before args s = true) (hp : PreS s H Pc (.ref b :: As))
    (hg : g.method = m) (hn : As.length = n) (hsize : g.locals.size = nL) (hstack : g.stack = As.reverse ++ .ref b :: rest) (hW : 2 * g.monitorRoom + (rest.map fun v => v.category).sum ≤ 8) (hdg : decode cc g.pc = .ok (.invokespecial index, 3)) (hf : cells + mc ≤ R.cells ∧ slots + ms ≤ R.slots) :
    vx_Run p l e R s m args below meth c H locs cells slots mc ms g rest (Qc (Value.ref b :: As).toArray) XC free := by
  have hK : vx_Back l R p e below s args y 3 8 (PreOf R mc ms Pc) (PostOf Qc mc ms free) (vx_Post XC mc ms free) := vx_callBack cw.1 hM hp.1
  obtain ⟨⟨-, -, -, -, -, -, hcode, -, hy, hlen, hl⟩, hy1, hin⟩ := cw
  obtain ⟨hx, hb, hml, ho, -⟩ := S
  have hPc := hp.2
  intro T hT X
  rcases vx_callI X hx (bytes := bytes) (maxL := maxL) ho hy1 hl hin hcode hy hK hg (hsize.trans hml.symm) (a := b) (argsL := As) (rest := rest) (fun sig h => hn.trans (hlen sig h)) hstack hW (by rw [hb]; exact hdg)
    (fun vm₁ hW₁ => ⟨hf.1, hf.2, hPc (T.setVm vm₁) hT hW₁⟩) with ⟨v, vm₁, ⟨U', l2, c2, s2⟩, hW₁, X', ⟨g', mk, t, L, e1, e2, hq, h1, hL, h2, h3⟩, st⟩ | ⟨q, vm₁, ⟨U', l2, c2, s2⟩, hW₁, X', ⟨g', mk, t, L, E, ce, e1, e2, hq, hce, hcv, hcl, h1, hL, h2, h3⟩, st⟩
  · dsimp only [Pt.U, Pt.locs, Pt.cells, Pt.slots] at X' e1 e2 h1 h2 h3 st
    subst h1; subst h2; subst h3
    exact Or.inl ⟨v, (T.setVm vm₁).calling g' mk (Value.ref b :: As).toArray, t, U', L, hT, X', hL, e1, e2, hq, st⟩
  · dsimp only [Pt.U, Pt.locs, Pt.cells, Pt.slots] at X' e1 e2 h1 h2 h3 st hcl
    subst h1; subst h2; subst h3
    exact Or.inr ⟨q, (T.setVm vm₁).calling g' mk (Value.ref b :: As).toArray, t, U', L, E, ce, hT, X', hL, e1, e2, hq, hce, hcv, vx_cls hW₁ hcl, st⟩
end VXIB
/-! ===== END ===== -/
/-! ===== BEGIN a private constructor of a nest mate that throws ===== -/
section VXIC
variable {p : Program} {l : Launch} {e : Env} {R : Room} {s : State} {m : MethodId} {args : Array Value} {below : List Frame} {meth : Method} {c : Code} {T : State} {locs : List Loc} {cells slots : Nat}
theorem vx_callIN (X : Stand p l e R s m args below meth c T locs cells slots) (hexec : p.tables.exec = Jvm.exec) {own : String} {index : Nat} {host : String} {y : MethodName} {bytes : ByteArray} {maxL : Nat}
    (hown : s.vm.findClass own = some m.cls) (hy1 : y.name = "<init>") (hlink : (Cond.methodLinkNest own index y host).before args s = true) (hinst : (Cond.instanceMethod y).before args s = true)
    (hcode : (Cond.code y bytes maxL none).before args s = true) (hy : y.cls ≠ "java/lang/invoke/MethodHandle" ∧ y.cls ≠ "java/lang/invoke/VarHandle")
    {W9 : Nat} {Pre : Pt → Array Value → Prop} {Post : Pt → Array Value → Option Value → Pt → Prop} {PostX : Pt → Array Value → Addr → Pt → Prop} (hK : vx_Back l R p e below s args y 3 W9 Pre Post PostX)
    {g : JFrame} (hg : g.method = m) (hsize : g.locals.size = c.maxLocals) {a : Addr} {argsL rest : List Value} (hlen : ∀ sig, parseMethodDescriptor y.desc = some sig → argsL.length = sig.parameters.length)
    (hstack : g.stack = argsL.reverse ++ .ref a :: rest) (hW : 2 * g.monitorRoom + (rest.map fun v => v.category).sum ≤ W9) (hdg : decode c.code g.pc = .ok (.invokespecial index, 3))
    (hpre : ∀ vm₁, s.WarmedH vm₁ → Pre ⟨T.setVm vm₁, locs, cells, slots⟩ (Value.ref a :: argsL).toArray) :
    (∃ (v : Option Value) (vm₁ : Vm) (B : Pt), s.WarmedH vm₁ ∧ Stand p l e R s m args below meth c B.U B.locs B.cells B.slots ∧ Post ⟨T.setVm vm₁, locs, cells, slots⟩ (Value.ref a :: argsL).toArray v B ∧
      ∀ target, Steps p.tables e below (B.U.setTop { g with pc := g.pc + 3, stack := v.toList ++ rest }) target → Steps p.tables e below (T.setTop g) target) ∨
    (∃ (q : Addr) (vm₁ : Vm) (B : Pt), s.WarmedH vm₁ ∧ Stand p l e R s m args below meth c B.U B.locs B.cells B.slots ∧ PostX ⟨T.setVm vm₁, locs, cells, slots⟩ (Value.ref a :: argsL).toArray q B ∧
      Steps p.tables e below (T.setTop g) ((B.U.setTop { g with stack := rest }).pushFrame (.throwing q))) := by
  subst hg
  have hpl : e.platform.magicAccessors = ({} : Platform).magicAccessors := by rw [X.admits.platform]
  obtain ⟨mk, methM, cM, kP, vm₁, hnamed, hmethM, hcodeM, -, hlocalsM, -, hkP, -, hW₁, hstep₁⟩ := Steps.initColdArgsNest (e := e) X.here hexec X.warmed hpl hown hy1 hy hlink hinst hcode (f := g) rfl hlen hstack hdg
  have X₁ := X.noted hW₁
  rcases hK g.method meth c ⟨T.setVm vm₁, locs, cells, slots⟩ { g with stack := rest } (.invokespecial index) mk (Value.ref a :: argsL).toArray X₁ rfl hsize hdg hW (X₁.named hnamed) (hpre vm₁ X₁.warmed) with ⟨v, B, X', hpost, hsteps⟩ | ⟨q, B, X', hpost, hsteps⟩
  · exact Or.inl ⟨v, vm₁, B, X₁.warmed, X', hpost, fun target h => hstep₁ _ fun acts => by rw [doInvoke_state]; exact hsteps.trans h⟩
  · exact Or.inr ⟨q, vm₁, B, X₁.warmed, X', hpost, hstep₁ _ fun acts => by rw [doInvoke_state]; exact hsteps⟩
end VXIC
section VXID
variable {p : Program} {l : Launch} {e : Env} {R : Room} {s : State} {m : MethodId} {args : Array Value} {below : List Frame} {meth : Method} {c : Code} {H : Heap} {locs : List Loc} {cells slots : Nat}
theorem vx_runIN {y : MethodName} {bytes cc : ByteArray} {maxL nL mc ms n index : Nat} {ws : List Cond} {rm : Room} {Pc : Array Value → State → Prop} {Qc : Array Value → State → Outcome → State → Prop} {XC : String → State → State → Prop} {free : Addr → Prop} {Ts : List Cond} {own host : String} {b : Addr} {As rest : List Value} {g : JFrame}
    (S : CallFix p m c cc nL s args Ts own) (hM : vx_Met l y ws rm Pc Qc XC mc ms free) (cw : va_CN R s args own index y host bytes maxL none ws rm mc ms n ∧ y.name = "<init>" ∧ (Cond.instanceMethod y).before args s = true) (hp : PreS s H Pc (.ref b :: As))
    (hg : g.method = m) (hn : As.length = n) (hsize : g.locals.size = nL) (hstack : g.stack = As.reverse ++ .ref b :: rest) (hW : 2 * g.monitorRoom + (rest.map fun v => v.category).sum ≤ 8) (hdg : decode cc g.pc = .ok (.invokespecial index, 3)) (hf : cells + mc ≤ R.cells ∧ slots + ms ≤ R.slots) :
    vx_Run p l e R s m args below meth c H locs cells slots mc ms g rest (Qc (Value.ref b :: As).toArray) XC free := by
  obtain ⟨⟨⟨hrc, hrs, hfr, hlo, hws, hcw⟩, hcode, hini, hy, hlen, hl⟩, hx1, hx2⟩ := cw
  have hK : vx_Back l R p e below s args y 3 8 (PreOf R mc ms Pc) (PostOf Qc mc ms free) (vx_Post XC mc ms free) := vx_back (bytes := bytes) (maxL := maxL) (ret := none) hM hp.1 hrc hrs hfr hlo hws hcw (fun a' U hW => word_at hW (Or.inl (by first | rfl | simp [Cond.onTables, Cond.keeps, Cond.steady])) hini)
  obtain ⟨hx, hb, hml, ho, -⟩ := S
  have hPc := hp.2
  intro T hT X
  rcases vx_callIN X hx (bytes := bytes) (maxL := maxL) ho hx1 hl hx2 hcode hy hK hg (hsize.trans hml.symm) (a := b) (argsL := As) (rest := rest) (fun sig h => hn.trans (hlen sig h)) hstack hW (by rw [hb]; exact hdg)
    (fun vm₁ hW₁ => ⟨hf.1, hf.2, hPc (T.setVm vm₁) hT hW₁⟩) with ⟨v, vm₁, ⟨U', l2, c2, s2⟩, hW₁, X', ⟨g', mk, t, L, e1, e2, hq, h1, hL, h2, h3⟩, st⟩ | ⟨q, vm₁, ⟨U', l2, c2, s2⟩, hW₁, X', ⟨g', mk, t, L, E, ce, e1, e2, hq, hce, hcv, hcl, h1, hL, h2, h3⟩, st⟩
  · dsimp only [Pt.U, Pt.locs, Pt.cells, Pt.slots] at X' e1 e2 h1 h2 h3 st
    subst h1; subst h2; subst h3
    exact Or.inl ⟨v, (T.setVm vm₁).calling g' mk (Value.ref b :: As).toArray, t, U', L, hT, X', hL, e1, e2, hq, st⟩
  · dsimp only [Pt.U, Pt.locs, Pt.cells, Pt.slots] at X' e1 e2 h1 h2 h3 st hcl
    subst h1; subst h2; subst h3
    exact Or.inr ⟨q, (T.setVm vm₁).calling g' mk (Value.ref b :: As).toArray, t, U', L, E, ce, hT, X', hL, e1, e2, hq, hce, hcv, vx_cls hW₁ hcl, st⟩
end VXID
/-! ===== END ===== -/
/-! ===== BEGIN a method of a class above, found by the receiver, that may throw (follows va_callVU, va_runU of this kit) ===== -/
section
variable {p : Program} {l : Launch} {e : Env} {R : Room} {s : State} {m : MethodId} {args : Array Value} {below : List Frame} {meth : Method} {c : Code} {H : Heap} {locs : List Loc} {cells slots : Nat}
theorem vx_callVU {T : State} {locs : List Loc} {cells slots : Nat} (X : Stand p l e R s m args below meth c T locs cells slots) (hexec : p.tables.exec = Jvm.exec) {own C owner : String} {index : Nat} {x y : MethodName} {bytes : ByteArray} {maxL : Nat} {ret : Option FieldType}
    (hown : s.vm.findClass own = some m.cls) (hlink : (Cond.methodLink own index x).before args s = true) (hsame : (Cond.sameMethod x.cls owner x.name x.desc).before args s = true)
    (hd0 : va_Decl s ⟨owner, x.name, x.desc⟩) (howner : owner ≠ "java/lang/invoke/MethodHandle" ∧ owner ≠ "java/lang/invoke/VarHandle")
    (hsel : (Cond.selects C x y).before args s = true) (hinst : (Cond.instanceMethod y).before args s = true) (hcode : (Cond.code y bytes maxL ret).before args s = true)
    {W : Nat} {Pre : Pt → Array Value → Prop} {Post : Pt → Array Value → Option Value → Pt → Prop} {PostX : Pt → Array Value → Addr → Pt → Prop} (hK : vx_Back l R p e below s args y 3 W Pre Post PostX)
    {b : Addr} {cellB : Cell} (hcell : T.heap[b]? = some cellB) (hobj : cellB.vm.isStatics = false) (hcls : s.vm.findClass C = some cellB.cls)
    {g : JFrame} (hg : g.method = m) (hsize : g.locals.size = c.maxLocals) {argsL rest : List Value} (hlen : ∀ sig, parseMethodDescriptor x.desc = some sig → argsL.length = sig.parameters.length)
    (hstack : g.stack = argsL.reverse ++ .ref b :: rest) (hW : 2 * g.monitorRoom + (rest.map fun v => v.category).sum ≤ W) (hdg : decode c.code g.pc = .ok (.invokevirtual index, 3))
    (hpre : ∀ vm₁, s.WarmedH vm₁ → Pre ⟨T.setVm vm₁, locs, cells, slots⟩ (Value.ref b :: argsL).toArray) :
    (∃ (v : Option Value) (vm₁ : Vm) (B : Pt), s.WarmedH vm₁ ∧ Stand p l e R s m args below meth c B.U B.locs B.cells B.slots ∧ Post ⟨T.setVm vm₁, locs, cells, slots⟩ (Value.ref b :: argsL).toArray v B ∧
      ∀ target, Steps p.tables e below (B.U.setTop { g with pc := g.pc + 3, stack := v.toList ++ rest }) target → Steps p.tables e below (T.setTop g) target) ∨
    (∃ (q : Addr) (vm₁ : Vm) (B : Pt), s.WarmedH vm₁ ∧ Stand p l e R s m args below meth c B.U B.locs B.cells B.slots ∧ PostX ⟨T.setVm vm₁, locs, cells, slots⟩ (Value.ref b :: argsL).toArray q B ∧
      Steps p.tables e below (T.setTop g) ((B.U.setTop { g with stack := rest }).pushFrame (.throwing q))) := by
  obtain ⟨r0, r, hn, hrm, hstR, hsigR⟩ := hd0
  obtain ⟨cn, ck, r1, hcn, hck, hni, hf, hn1⟩ := Cond.sameMethod_found hsame
  cases hn.symm.trans hn1
  obtain ⟨mk, methM, hnamed, hmethM, -, habM⟩ := Cond.instanceMethod_spec hinst
  obtain ⟨c2, r2, m2, q1, q2, q3, q4, kP, hkP, hkPi⟩ := Cond.selects_spec hsel
  cases hcls.symm.trans q1
  cases hf.symm.trans q2
  cases hnamed.symm.trans q3
  have hselP : selectMethod e.platform s.vm cellB.cls r0 = .method mk := by rw [Launch.admits_selectMethod X.admits]; exact q4
  obtain ⟨vm₁, X₁, hstep₁⟩ := X.invokevirtualUp hexec hown hlink hsame howner hn hrm hstR (a := b) (cell := cellB) hcell
    (fun z h => by rw [h] at hobj; cases hobj) hselP hmethM habM hkP hkPi (g := g) hg (argsL := argsL) (rest := rest) (hlen _ hsigR) hstack hdg
  rcases hK m meth c ⟨T.setVm vm₁, locs, cells, slots⟩ { g with stack := rest } (.invokevirtual index) mk (Value.ref b :: argsL).toArray X₁ hg hsize hdg hW (X₁.named hnamed) (hpre vm₁ X₁.warmed) with ⟨v, B, X', hpost, hsteps⟩ | ⟨q, B, X', hpost, hsteps⟩
  · exact Or.inl ⟨v, vm₁, B, X₁.warmed, X', hpost, fun target h => hstep₁ _ fun acts => by rw [doInvoke_state]; exact hsteps.trans h⟩
  · exact Or.inr ⟨q, vm₁, B, X₁.warmed, X', hpost, hstep₁ _ fun acts => by rw [doInvoke_state]; exact hsteps⟩
theorem vx_runU {x y : MethodName} {bytes cc : ByteArray} {maxL nL mc ms n index : Nat} {ret : Option FieldType} {ws : List Cond} {rm : Room} {Pc : Array Value → State → Prop} {Qc : Array Value → State → Outcome → State → Prop} {XC : String → State → State → Prop} {free : Addr → Prop} {Ts : List Cond} {own C owner : String} {b : Addr} {As rest : List Value} {g : JFrame}
    (S : CallFix p m c cc nL s args Ts own) (hM : vx_Met l y ws rm Pc Qc XC mc ms free) (cw : va_CU R s args own C owner index x y bytes maxL ret ws rm mc ms n) (hp : PreV s H C b Pc As)
    (hg : g.method = m) (hn : As.length = n) (hsize : g.locals.size = nL) (hstack : g.stack = As.reverse ++ .ref b :: rest) (hW : 2 * g.monitorRoom + (rest.map fun v => v.category).sum ≤ 8) (hdg : decode cc g.pc = .ok (.invokevirtual index, 3)) (hf : cells + mc ≤ R.cells ∧ slots + ms ≤ R.slots) :
    vx_Run p l e R s m args below meth c H locs cells slots mc ms g rest (Qc (Value.ref b :: As).toArray) XC free := by
  obtain ⟨hrc, hrs, hfr, hlo, hws, hcw⟩ := cw.back
  have hini := cw.init
  have hK : vx_Back l R p e below s args y 3 8 (PreOf R mc ms Pc) (PostOf Qc mc ms free) (vx_Post XC mc ms free) := vx_back (bytes := bytes) (maxL := maxL) (ret := ret) hM hp.1 hrc hrs hfr hlo hws hcw (fun a' U hW => word_at hW (Or.inl (by first | rfl | simp [Cond.onTables, Cond.keeps, Cond.steady])) hini)
  obtain ⟨hx, hb, hml, ho, -⟩ := S
  obtain ⟨-, ⟨cellB, hcB, hoB, hclB⟩, hPc⟩ := hp
  intro T hT X
  rcases vx_callVU X hx (C := C) (owner := owner) (bytes := bytes) (maxL := maxL) (ret := ret) ho cw.link cw.same cw.decl cw.notMH cw.sel cw.inst cw.code hK (by rw [hT]; exact hcB) hoB hclB hg (hsize.trans hml.symm) (argsL := As) (rest := rest) (fun sig h => hn.trans (cw.len sig h)) hstack hW (by rw [hb]; exact hdg)
    (fun vm₁ hW₁ => ⟨hf.1, hf.2, hPc (T.setVm vm₁) hT hW₁⟩) with ⟨v, vm₁, ⟨U', l2, c2, s2⟩, hW₁, X', ⟨g', mk, t, L, e1, e2, hq, h1, hL, h2, h3⟩, st⟩ | ⟨q, vm₁, ⟨U', l2, c2, s2⟩, hW₁, X', ⟨g', mk, t, L, E, ce, e1, e2, hq, hce, hcv, hcl, h1, hL, h2, h3⟩, st⟩
  · dsimp only [Pt.U, Pt.locs, Pt.cells, Pt.slots] at X' e1 e2 h1 h2 h3 st
    subst h1; subst h2; subst h3
    exact Or.inl ⟨v, (T.setVm vm₁).calling g' mk (Value.ref b :: As).toArray, t, U', L, hT, X', hL, e1, e2, hq, st⟩
  · dsimp only [Pt.U, Pt.locs, Pt.cells, Pt.slots] at X' e1 e2 h1 h2 h3 st hcl
    subst h1; subst h2; subst h3
    exact Or.inr ⟨q, (T.setVm vm₁).calling g' mk (Value.ref b :: As).toArray, t, U', L, E, ce, hT, X', hL, e1, e2, hq, hce, hcv, vx_cls hW₁ hcl, st⟩
end
/-! ===== END ===== -/
/-! ===== BEGIN super.m(..) that may throw (follows va_callSU, va_runSU) ===== -/
section
variable {p : Program} {l : Launch} {e : Env} {R : Room} {s : State} {m : MethodId} {args : Array Value} {below : List Frame} {meth : Method} {c : Code} {H : Heap} {locs : List Loc} {cells slots : Nat}
theorem vx_callSU {T : State} {locs : List Loc} {cells slots : Nat} (X : Stand p l e R s m args below meth c T locs cells slots) (hexec : p.tables.exec = Jvm.exec) {own : String} {index : Nat} {y : MethodName} {bytes : ByteArray} {maxL : Nat} {ret : Option FieldType}
    (hown : s.vm.findClass own = some m.cls) (hlink : (Cond.methodLink own index y).before args s = true) (hsame : (Cond.sameMethod y.cls y.cls y.name y.desc).before args s = true) (hsup : (Cond.superclass own y.cls).before args s = true)
    (hinst : (Cond.instanceMethod y).before args s = true) (hcode : (Cond.code y bytes maxL ret).before args s = true) (hno : y.name ≠ "<init>")
    {W : Nat} {Pre : Pt → Array Value → Prop} {Post : Pt → Array Value → Option Value → Pt → Prop} {PostX : Pt → Array Value → Addr → Pt → Prop} (hK : vx_Back l R p e below s args y 3 W Pre Post PostX)
    {b : Addr} {cellB : Cell} {kB : Class} (hcell : T.heap[b]? = some cellB) (hobj : cellB.vm.isStatics = false) (hkB : s.vm.classes[cellB.cls]? = some kB)
    {g : JFrame} (hg : g.method = m) (hsize : g.locals.size = c.maxLocals) {argsL rest : List Value} (hlen : ∀ sig, parseMethodDescriptor y.desc = some sig → argsL.length = sig.parameters.length)
    (hstack : g.stack = argsL.reverse ++ .ref b :: rest) (hW : 2 * g.monitorRoom + (rest.map fun v => v.category).sum ≤ W) (hdg : decode c.code g.pc = .ok (.invokespecial index, 3))
    (hpre : ∀ vm₁, s.WarmedH vm₁ → Pre ⟨T.setVm vm₁, locs, cells, slots⟩ (Value.ref b :: argsL).toArray) :
    (∃ (v : Option Value) (vm₁ : Vm) (B : Pt), s.WarmedH vm₁ ∧ Stand p l e R s m args below meth c B.U B.locs B.cells B.slots ∧ Post ⟨T.setVm vm₁, locs, cells, slots⟩ (Value.ref b :: argsL).toArray v B ∧
      ∀ target, Steps p.tables e below (B.U.setTop { g with pc := g.pc + 3, stack := v.toList ++ rest }) target → Steps p.tables e below (T.setTop g) target) ∨
    (∃ (q : Addr) (vm₁ : Vm) (B : Pt), s.WarmedH vm₁ ∧ Stand p l e R s m args below meth c B.U B.locs B.cells B.slots ∧ PostX ⟨T.setVm vm₁, locs, cells, slots⟩ (Value.ref b :: argsL).toArray q B ∧
      Steps p.tables e below (T.setTop g) ((B.U.setTop { g with stack := rest }).pushFrame (.throwing q))) := by
  obtain ⟨mk, methM, hnamed, hmethM, hstM, habM⟩ := Cond.instanceMethod_spec hinst
  obtain ⟨methM', cM, hmethM', -, -, -, -, -, -, hsigM⟩ := Cond.code_spec hnamed hcode
  cases hmethM.symm.trans hmethM'
  obtain ⟨ps, dk, kp, hps, hdk, hkp, hsuper, -, -, hnid⟩ := Cond.superclass_spec hown hsup
  have hn : s.methodNamed? ⟨y.cls, y.name, y.desc⟩ = some mk := hnamed
  have hpm : ps = mk.cls := Option.some.inj (hps.symm.trans (findClass_of_methodNamed hnamed))
  have hsub : s.vm.isSubclass ps mk.cls = true := by rw [hpm]; simp [Vm.isSubclass, Vm.isSubclassAux]
  obtain ⟨vm₁, X₁, hstep₁⟩ := X.invokespecialUp hexec hown hlink hsame hn hmethM hstM habM hno hdk hnid hps hsuper hsub (a := b) (cell := cellB) hcell
    (fun z h => by rw [h] at hobj; cases hobj) hkB (g := g) hg (argsL := argsL) (rest := rest) (hlen _ hsigM) hstack hdg
  rcases hK m meth c ⟨T.setVm vm₁, locs, cells, slots⟩ { g with stack := rest } (.invokespecial index) mk (Value.ref b :: argsL).toArray X₁ hg hsize hdg hW (X₁.named hnamed) (hpre vm₁ X₁.warmed) with ⟨v, B, X', hpost, hsteps⟩ | ⟨q, B, X', hpost, hsteps⟩
  · exact Or.inl ⟨v, vm₁, B, X₁.warmed, X', hpost, fun target h => hstep₁ _ (by rw [doInvoke_state]; exact hsteps.trans h)⟩
  · exact Or.inr ⟨q, vm₁, B, X₁.warmed, X', hpost, hstep₁ _ (by rw [doInvoke_state]; exact hsteps)⟩
theorem vx_runSU {y : MethodName} {bytes cc : ByteArray} {maxL nL mc ms n index : Nat} {ret : Option FieldType} {ws : List Cond} {rm : Room} {Pc : Array Value → State → Prop} {Qc : Array Value → State → Outcome → State → Prop} {XC : String → State → State → Prop} {free : Addr → Prop} {Ts : List Cond} {own C : String} {cC : ClassId} {b : Addr} {As rest : List Value} {g : JFrame} {fl : Bool}
    (hat : sm_CA s C cC fl) (S : CallFix p m c cc nL s args Ts own) (hM : vx_Met l y ws rm Pc Qc XC mc ms free) (cw : va_CS R s args own index y bytes maxL ret ws rm mc ms n) (hp : PreV s H C b Pc As)
    (hg : g.method = m) (hn : As.length = n) (hsize : g.locals.size = nL) (hstack : g.stack = As.reverse ++ .ref b :: rest) (hW : 2 * g.monitorRoom + (rest.map fun v => v.category).sum ≤ 8) (hdg : decode cc g.pc = .ok (.invokespecial index, 3)) (hf : cells + mc ≤ R.cells ∧ slots + ms ≤ R.slots) :
    vx_Run p l e R s m args below meth c H locs cells slots mc ms g rest (Qc (Value.ref b :: As).toArray) XC free := by
  obtain ⟨⟨hrc, hrs, hfr, hlo, hws, hcw⟩, hl1, hl2, hl3, hl4, hini, hcode, hno, hlen⟩ := cw
  have hK : vx_Back l R p e below s args y 3 8 (PreOf R mc ms Pc) (PostOf Qc mc ms free) (vx_Post XC mc ms free) := vx_back (bytes := bytes) (maxL := maxL) (ret := ret) hM hp.1 hrc hrs hfr hlo hws hcw (fun a' U hW => word_at hW (Or.inl (by first | rfl | simp [Cond.onTables, Cond.keeps, Cond.steady])) hini)
  obtain ⟨hx, hb, hml, ho, -⟩ := S
  obtain ⟨-, ⟨cellB, hcB, hoB, hclB⟩, hPc⟩ := hp
  obtain ⟨hfc, kB, hkB, -⟩ := hat
  cases hfc.symm.trans hclB
  intro T hT X
  rcases vx_callSU X hx (bytes := bytes) (maxL := maxL) (ret := ret) ho hl1 hl2 hl3 hl4 hcode hno hK (by rw [hT]; exact hcB) hoB hkB hg (hsize.trans hml.symm) (argsL := As) (rest := rest) (fun sig h => hn.trans (hlen sig h)) hstack hW (by rw [hb]; exact hdg)
    (fun vm₁ hW₁ => ⟨hf.1, hf.2, hPc (T.setVm vm₁) hT hW₁⟩) with ⟨v, vm₁, ⟨U', l2, c2, s2⟩, hW₁, X', ⟨g', mk, t, L, e1, e2, hq, h1, hL, h2, h3⟩, st⟩ | ⟨q, vm₁, ⟨U', l2, c2, s2⟩, hW₁, X', ⟨g', mk, t, L, E, ce, e1, e2, hq, hce, hcv, hcl, h1, hL, h2, h3⟩, st⟩
  · dsimp only [Pt.U, Pt.locs, Pt.cells, Pt.slots] at X' e1 e2 h1 h2 h3 st
    subst h1; subst h2; subst h3
    exact Or.inl ⟨v, (T.setVm vm₁).calling g' mk (Value.ref b :: As).toArray, t, U', L, hT, X', hL, e1, e2, hq, st⟩
  · dsimp only [Pt.U, Pt.locs, Pt.cells, Pt.slots] at X' e1 e2 h1 h2 h3 st hcl
    subst h1; subst h2; subst h3
    exact Or.inr ⟨q, (T.setVm vm₁).calling g' mk (Value.ref b :: As).toArray, t, U', L, E, ce, hT, X', hL, e1, e2, hq, hce, hcv, vx_cls hW₁ hcl, st⟩
end
/-! ===== END ===== -/
/-! ===== calls of the abstract machine, followed by the real one ===== -/
theorem sm_good {w : Cond} (h : w ∈ lw_k) : w ∈ lw_g ∧ ((w.onTables && w.keeps) = true ∨ ∃ ty, w = .arrayClass ty) := ⟨lw_k_g h, good_of_word (List.mem_filter.mp h).2⟩
def sm_kw (N : am_M) : Cond := if am_kind N = 0 then .static (am_name N) else .instanceMethod (am_name N)
theorem sm_okM {N : am_M} (h : am_okM N = true) : (sm_cw N ∈ lw_k ∧ Cond.initialized (am_name N).cls ∈ lw_k ∧ sm_kw N ∈ lw_k) ∧ ((am_name N).cls ≠ "java/lang/invoke/MethodHandle" ∧ (am_name N).cls ≠ "java/lang/invoke/VarHandle") ∧
    (parseMethodDescriptor (am_name N).desc).map (fun d => d.parameters.length) = some (am_nargs N - if am_kind N = 0 then 0 else 1) ∧ (am_kind N = 0 ∨ 1 ≤ am_nargs N) ∧ plainName (am_name N).cls = true ∧ am_maxL N ≤ 60 ∧ 2 ≤ am_lev N ∧ (am_kind N = 2 ↔ (am_name N).name = "<init>") ∧ (am_hh N = [] ∨ am_kind N = 0) ∧ (am_kind N ≠ 2 ∨ am_retT N = none) := by
  unfold am_okM at h
  split at h
  · rename_i n i j k r hh
    simp only [Bool.and_eq_true, Bool.or_eq_true, decide_eq_true_eq, beq_iff_eq, decide_eq_decide] at h
    obtain ⟨⟨⟨⟨⟨⟨⟨⟨⟨⟨⟨h1, h2⟩, h3⟩, h4⟩, h5⟩, h6⟩, h7⟩, h8⟩, h9⟩, h10⟩, h11⟩, h12⟩ := h
    have hn : am_nargs N = n := by unfold am_nargs; rw [hh]; rfl
    rw [hn]
    exact ⟨⟨am_hasK_mem h1, am_hasK_mem h2, am_hasK_mem h3⟩, h4, h5, h6, h7, h8, h9, h10, h11, h12⟩
  · cases h
theorem sm_cw_nil {N : am_M} (h : am_hh N = []) : sm_cw N = .code (am_name N) (am_bytes N) (am_maxL N) (am_retT N) := by
  unfold sm_cw; rw [h]
theorem sm_cw_cons {N : am_M} (h : am_hh N ≠ []) : sm_cw N = .codeWith (am_name N) (am_bytes N) (am_maxL N) (am_retT N) ((am_hh N).map fun h => (h.1, h.2.1, h.2.2.1, h.2.2.2.1)) := by
  unfold sm_cw
  split
  · rename_i q; exact absurd q h
  · rfl
theorem sm_ws_good {N : am_M} (h : sm_cw N ∈ lw_k) : GoodIn lw_g (sm_ws N) := fun w hw => (List.mem_cons.mp hw).elim (fun q => by rw [q]; exact sm_good h) sm_good
theorem sm_cat {rest : List Value} (h : am_w rest ≤ 8) : (rest.map fun v => v.category).sum ≤ 8 := h
section OkCall
variable (ct : List am_C) (mt : List am_M)
/-- a call's row: what the tables must say of it -/
def am_okInv (M : am_M) (x : Instr) (k r2 r3 : Nat) : Bool := match mt[k]? with
  | none => true
  | some N => am_okM N && (match x with
    | .invokestatic ik => decide (am_kind N = 0) && am_hasK r3 (.methodLink (am_name M).cls ik (am_name N))
    | .invokespecial ik => if r2 % 10 = 3 then decide (am_kind N = 2) && (am_hasK r3 (.methodLink (am_name M).cls ik (am_name N)) || am_has r3 (.methodLinkNest (am_name M).cls ik (am_name N) "WatchedKeys"))
      else decide (am_kind N = 1) && am_hasK (r3 % 4096) (.methodLink (am_name M).cls ik (am_name N)) && am_hasK (r3 / 4096 % 4096) (.sameMethod (am_name N).cls (am_name N).cls (am_name N).name (am_name N).desc) && am_hasK (r3 / 16777216) (.superclass (am_name M).cls (am_name N).cls)
    | .invokevirtual ik => (match ct[r2 / 10]? with
      | some C => decide (am_kind N = 1) && (if r2 % 10 = 1 then decide ((am_name N).cls = C.1) && am_hasK (r3 % 4096) (.methodLink (am_name M).cls ik (am_name N)) && am_hasK (r3 / 4096) (.selects C.1 (am_name N) (am_name N))
        else if r2 % 10 = 5 then am_hasK (r3 % 4096) (.methodLink (am_name M).cls ik (am_name N)) && am_hasK (r3 / 4096 % 4096) (.sameMethod (am_name N).cls (am_name N).cls (am_name N).name (am_name N).desc) && am_hasK (r3 / 16777216) (.privateMethod (am_name N))
        else (match lw_at (r3 % 4096) with
          | some (.methodLink o i X) => decide (o = (am_name M).cls ∧ i = ik ∧ am_name N = ⟨(am_name N).cls, X.name, X.desc⟩) && am_hasK (r3 % 4096) (.methodLink o i X) && am_hasK (r3 / 4096 % 4096) (.sameMethod X.cls (am_name N).cls X.name X.desc) && am_hasK (r3 / 16777216) (.selects C.1 X (am_name N))
          | _ => false))
      | none => false)
    | _ => false)
end OkCall
/-- a private method is its own selection, whatever the receiver's class -/
theorem sm_selUp {s : State} {args : Array Value} {C : String} {cC : ClassId} {y : MethodName} (hfc : s.vm.findClass C = some cC) (hsame : (Cond.sameMethod y.cls y.cls y.name y.desc).before args s = true) (hpriv : (Cond.privateMethod y).before args s = true) (hinst : (Cond.instanceMethod y).before args s = true) : (Cond.selects C y y).before args s = true := by
  obtain ⟨c, ck, r, hc, hck, hni, hf, hn⟩ := Cond.sameMethod_found hsame
  obtain ⟨mk, methM, hnamed, hmethM, -, -⟩ := Cond.instanceMethod_spec hinst
  have hrm : r = mk := Option.some.inj (hn.symm.trans hnamed)
  subst hrm
  have hcls : r.cls = c := Option.some.inj ((findClass_of_methodNamed hnamed).symm.trans hc)
  have hsel : selectMethod {} s.vm cC r = .method r := selectMethod_private hmethM (Cond.privateMethod_at hpriv r methM hnamed hmethM)
  simp only [Cond.before, Cond.holds, Cond.value, hfc, hf, hnamed, hsel, hcls, hck]
  simp; exact hni
section SMR
variable {p : Program} {l : Launch} {e : Env} {R : Room} {s : State} {m : MethodId} {args : Array Value} {below : List Frame} {meth : Method} {c : Code} {H : Heap} {locs : List Loc} {cells slots : Nat} {Q : State → Prop}
variable {cc : ByteArray} {pc nL r2 r3 k : Nat} {ls : Array Slot} {L As rest : List Value} {te : Nat → Value} {ct : List am_C} {mt : List am_M} {sT : List (String × String × String)} {sS : List (String × Nat × String)} {M N : am_M} {B : Nat} {D : va_G} {H00 : Heap} {g g' : am_S} {o : am_O} {b : Nat}
abbrev sm_Rn (ct : List am_C) (D : va_G) (B : Nat) (H00 : Heap) (p : Program) (l : Launch) (e : Env) (R : Room) (s : State) (m : MethodId) (args : Array Value) (below : List Frame) (meth : Method) (c : Code) (H : Heap) (locs : List Loc) (cells slots pc : Nat) (ls : Array Slot) (st as rest : List Value) (g : am_S) (o : am_O) (g' : am_S) : Prop :=
  vx_Run p l e R s m args below meth c H locs cells slots (g'.2.1 - g.2.1) (g'.2.2.1 - g.2.2.1) (F0 m pc ls st) rest (sm_Qc ct D B H00 o g' as.toArray) (sm_XC ct D B H00 o g') (fun a => B ≤ a)
/-- what a caller's state says to a callee -/
theorem sm_pre (henv : sm_env ct sT sS D B H00 te s) (hP : sm_Rep ct D B H00 s g H) (hte : g.2.2.2 = te) (as : List Value) : ∀ U : State, U.heap = H → s.WarmedH U.vm → as.toArray = as.toArray ∧ sm_In ct sT sS D B H00 te g U :=
  fun U hU hW => ⟨rfl, henv.warm hW, by rw [hU]; exact hP.moved hW.alike, hte⟩
theorem sm_roomOf (hNM : am_lev N < am_lev M) (hmax : am_maxL N ≤ 60) (hR : am_lev M ≤ R.frames ∧ 100 * am_lev M ≤ R.locals) : (sm_rm N g g').frames + 1 ≤ R.frames ∧ 8 + (am_maxL N + 11) + (sm_rm N g g').locals ≤ R.locals := by
  obtain ⟨h1, h2⟩ := hR
  show am_lev N + 1 ≤ _ ∧ 8 + (am_maxL N + 11) + 100 * am_lev N ≤ _
  omega
theorem sm_runStatic (hx : p.tables.exec = Jvm.exec) (hb : c.code = cc) (hml : c.maxLocals = nL) (hown : s.vm.findClass (am_name M).cls = some m.cls) (hts : ∀ w ∈ lw_g, w.before args s = true)
    (henv : sm_env ct sT sS D B H00 te s) (hP : sm_Rep ct D B H00 s g H) (hte : g.2.2.2 = te) (hR : am_lev M ≤ R.frames ∧ 100 * am_lev M ≤ R.locals) (hf : cells + (g'.2.1 - g.2.1) ≤ R.cells ∧ slots + (g'.2.2.1 - g.2.2.1) ≤ R.slots)
    {ik : Nat} (hk : mt[k]? = some N) (hw : am_okInv ct mt M (.invokestatic ik) k r2 r3 = true) (hd : decode cc pc = .ok (.invokestatic ik, 3)) (hNM : am_lev N < am_lev M) (hsz : ls.size = nL) (hn : As.length = am_nargs N) (hrest : am_w rest ≤ 8)
    (hC : sm_Con ct sT sS D B H00 te l N As g o g') : sm_Rn ct D B H00 p l e R s m args below meth c H locs cells slots pc ls (As.reverse ++ rest) As rest g o g' := by
  unfold am_okInv at hw
  rw [hk] at hw
  simp only [Bool.and_eq_true, decide_eq_true_eq] at hw
  obtain ⟨hM, hk0, hl⟩ := hw
  obtain ⟨⟨w1, w2, w3⟩, hmh, hpd, -, hpn, hmax, hlev, -, hhk, -⟩ := sm_okM hM
  have hw3 : Cond.static (am_name N) ∈ lw_k := by
    unfold sm_kw at w3
    rw [if_pos hk0] at w3
    exact w3
  rw [hk0] at hpd
  have hT : GoodIn lw_g (va_wsS (am_name M).cls ik (am_name N) (sm_ws N)) := by
    intro w hw
    unfold va_wsS at hw
    rcases List.mem_append.mp hw with h | h
    · simp only [List.mem_cons, List.not_mem_nil, or_false] at h
      rcases h with rfl | rfl | rfl
      · exact sm_good (am_hasK_mem hl)
      · exact sm_good hw3
      · exact sm_good w2
    · exact sm_ws_good w1 w h
  have hRR := sm_roomOf (N := N) (g := g) (g' := g') hNM hmax hR
  by_cases hh : am_hh N = []
  · exact vx_runS (Ts := lw_g) ⟨hx, hb, hml, hown, hts⟩ hC (va_cwS (am_nargs N) hts hT (ws' := lw_k) (by unfold sm_ws; rw [sm_cw_nil hh]) rfl rfl ⟨hmh.1, hmh.2, by simpa using hpd⟩ hRR) ⟨sm_In.blind ct sT sS D B H00 te As g, sm_pre henv hP hte As⟩ rfl hn hsz rfl (by show 2 * 0 + _ ≤ 8; have := sm_cat hrest; omega) hd hf
  · exact vx_runSX (Ts := lw_g) ⟨hx, hb, hml, hown, hts⟩ hC (vx_cwSW (am_nargs N) hts hT (ws' := lw_k) (by unfold sm_ws; rw [sm_cw_cons hh]) rfl rfl ⟨hmh.1, hmh.2, by simpa using hpd⟩ hRR) ⟨sm_In.blind ct sT sS D B H00 te As g, sm_pre henv hP hte As⟩ rfl hn hsz rfl (by show 2 * 0 + _ ≤ 8; have := sm_cat hrest; omega) hd hf
/-- the receiver -/
theorem sm_recv {cx : Nat} (hK : ∀ (ci : Nat) (r : am_C), ct[ci]? = some r → sm_K s D ci r) (hP : sm_Rep ct D B H00 s g H) (hr : am_cls g b = some cx) : ∃ C : am_C, ct[cx]? = some C ∧ sm_CA s C.1 (D.1 cx) C.2.2.2.2 ∧ ∃ cellB : Cell, H[b]? = some cellB ∧ cellB.vm.isStatics = false ∧ s.vm.findClass C.1 = some cellB.cls := by
  obtain ⟨fs, hfs⟩ := sm_cls hr
  obtain ⟨r, cell, g1, g2, g3, g4, g5, -⟩ := hP.2.2.2.1 b _ hfs
  have h := (hK _ _ g1).2
  exact ⟨r, g1, h, cell, g2, g5, by rw [g3]; exact h.1⟩
theorem sm_runVirtual (hx : p.tables.exec = Jvm.exec) (hb : c.code = cc) (hml : c.maxLocals = nL) (hown : s.vm.findClass (am_name M).cls = some m.cls) (hts : ∀ w ∈ lw_g, w.before args s = true)
    (henv : sm_env ct sT sS D B H00 te s) (hP : sm_Rep ct D B H00 s g H) (hte : g.2.2.2 = te) (hR : am_lev M ≤ R.frames ∧ 100 * am_lev M ≤ R.locals) (hf : cells + (g'.2.1 - g.2.1) ≤ R.cells ∧ slots + (g'.2.2.1 - g.2.2.1) ≤ R.slots)
    {ik : Nat} (hk : mt[k]? = some N) (hw : am_okInv ct mt M (.invokevirtual ik) k r2 r3 = true) (hd : decode cc pc = .ok (.invokevirtual ik, 3)) (hNM : am_lev N < am_lev M) (hsz : ls.size = nL) (hn : As.length + 1 = am_nargs N) (hrest : am_w rest ≤ 8) (hr : am_cls g b = some (r2 / 10))
    (hC : sm_Con ct sT sS D B H00 te l N (.ref b :: As) g o g') : sm_Rn ct D B H00 p l e R s m args below meth c H locs cells slots pc ls (As.reverse ++ .ref b :: rest) (.ref b :: As) rest g o g' := by
  obtain ⟨C, hC1, hC2, hcell⟩ := sm_recv henv.1 hP hr
  unfold am_okInv at hw
  rw [hk] at hw
  simp only [hC1, Bool.and_eq_true, decide_eq_true_eq] at hw
  obtain ⟨hM, hk0, hl⟩ := hw
  obtain ⟨⟨w1, w2, w3⟩, hmh, hpd, -, hpn, hmax, hlev, -, hhk, -⟩ := sm_okM hM
  have hw3 : Cond.instanceMethod (am_name N) ∈ lw_k := by
    unfold sm_kw at w3
    rw [if_neg (by omega)] at w3
    exact w3
  have hh : am_hh N = [] := hhk.resolve_right (by omega)
  rw [hk0] at hpd
  have hRR := sm_roomOf (N := N) (g := g) (g' := g') hNM hmax hR
  have hpd' : (parseMethodDescriptor (am_name N).desc).map (fun d => d.parameters.length) = some As.length := by
    rw [hpd, if_neg (by decide), ← hn]; rfl
  by_cases h2 : r2 % 10 = 1
  · rw [if_pos h2] at hl
    simp only [Bool.and_eq_true, decide_eq_true_eq] at hl
    obtain ⟨⟨q1, q2⟩, q3⟩ := hl
    have hT : GoodIn lw_g (wsV (am_name M).cls ik C.1 (am_name N) (sm_ws N)) := by
      intro w hw
      unfold wsV at hw
      rcases List.mem_append.mp hw with h | h
      · simp only [List.mem_cons, List.not_mem_nil, or_false] at h
        rcases h with rfl | rfl | rfl | rfl
        · exact sm_good (am_hasK_mem q2)
        · first | exact sm_good hw3 | exact sm_good (am_hasK_mem q3) | exact sm_good w2 | (rw [← q1]; exact sm_good w2)
        · first | exact sm_good hw3 | exact sm_good (am_hasK_mem q3) | exact sm_good w2 | (rw [← q1]; exact sm_good w2)
        · first | exact sm_good hw3 | exact sm_good (am_hasK_mem q3) | exact sm_good w2 | (rw [← q1]; exact sm_good w2)
      · exact sm_ws_good w1 w h
    exact vx_runV (Ts := lw_g) ⟨hx, hb, hml, hown, hts⟩ hC (cwV As.length hts hT (ws' := lw_k) (by unfold sm_ws; rw [sm_cw_nil hh]) rfl rfl ⟨q1, hmh.1, hmh.2, hpd'⟩ hRR) ⟨sm_In.blind ct sT sS D B H00 te _ g, hcell, sm_pre henv hP hte _⟩ rfl rfl hsz rfl (by show 2 * 0 + _ ≤ 8; have := sm_cat hrest; omega) hd hf
  · rw [if_neg h2] at hl
    by_cases h5 : r2 % 10 = 5
    · rw [if_pos h5] at hl
      simp only [Bool.and_eq_true] at hl
      obtain ⟨⟨q1, q2⟩, q3⟩ := hl
      have hc0 : Cond.code (am_name N) (am_bytes N) (am_maxL N) (am_retT N) ∈ sm_ws N := by
        unfold sm_ws; rw [sm_cw_nil hh]; exact List.mem_cons_self
      have hc1 := hts _ (sm_ws_good (N := N) w1 _ hc0).1
      have hlen : ∀ sig, parseMethodDescriptor (am_name N).desc = some sig → As.length = sig.parameters.length := by
        intro sig h
        rw [h] at hpd'
        exact (Option.some.inj hpd').symm
      have hsm := hts _ (lw_k_g (am_hasK_mem q2))
      exact vx_runU (x := am_name N) (owner := (am_name N).cls) (C := C.1) (n := As.length) (Ts := lw_g) ⟨hx, hb, hml, hown, hts⟩ hC ⟨⟨rfl, rfl, hRR.1, hRR.2, pay_in (s := s) hts (sm_ws_good (N := N) w1), hc0⟩, hc1, hts _ (lw_k_g w2), hmh, hlen, hts _ (lw_k_g (am_hasK_mem q1)), hsm, va_Decl.of (hts _ (lw_k_g hw3)) hc1, sm_selUp hC2.1 hsm (hts _ (lw_k_g (am_hasK_mem q3))) (hts _ (lw_k_g hw3)), hts _ (lw_k_g hw3)⟩ ⟨sm_In.blind ct sT sS D B H00 te _ g, hcell, sm_pre henv hP hte _⟩ rfl rfl hsz rfl (by show 2 * 0 + _ ≤ 8; have := sm_cat hrest; omega) hd hf
    rw [if_neg h5] at hl
    split at hl
    · rename_i oo i X hX
      simp only [Bool.and_eq_true, decide_eq_true_eq] at hl
      obtain ⟨⟨⟨⟨q1, q2, q3⟩, q4⟩, q5⟩, q6⟩ := hl
      subst q1; subst q2
      have hT : GoodIn lw_g (va_wsU (am_name M).cls i C.1 (am_name N).cls X (am_name N) (sm_ws N)) := by
        intro w hw
        unfold va_wsU at hw
        rcases List.mem_append.mp hw with h | h
        · simp only [List.mem_cons, List.not_mem_nil, or_false] at h
          rcases h with rfl | rfl | rfl | rfl | rfl
          · exact sm_good (am_hasK_mem q4)
          · exact sm_good (am_hasK_mem q5)
          · exact sm_good (am_hasK_mem q6)
          · exact sm_good hw3
          · exact sm_good w2
        · exact sm_ws_good w1 w h
      have hde : (am_name N).desc = X.desc := (congrArg (fun z : MethodName => z.desc) q3).trans rfl
      exact vx_runU (Ts := lw_g) ⟨hx, hb, hml, hown, hts⟩ hC (va_cwU As.length hts hT (ws' := lw_k) (by unfold sm_ws; rw [sm_cw_nil hh]) rfl rfl q3 ⟨hmh.1, hmh.2, by rw [← hde]; exact hpd'⟩ hRR) ⟨sm_In.blind ct sT sS D B H00 te _ g, hcell, sm_pre henv hP hte _⟩ rfl rfl hsz rfl (by show 2 * 0 + _ ≤ 8; have := sm_cat hrest; omega) hd hf
    · cases hl
theorem sm_runSpecial (hx : p.tables.exec = Jvm.exec) (hb : c.code = cc) (hml : c.maxLocals = nL) (hown : s.vm.findClass (am_name M).cls = some m.cls) (hts : ∀ w ∈ lw_g, w.before args s = true)
    (henv : sm_env ct sT sS D B H00 te s) (hP : sm_Rep ct D B H00 s g H) (hte : g.2.2.2 = te) (hR : am_lev M ≤ R.frames ∧ 100 * am_lev M ≤ R.locals) (hf : cells + (g'.2.1 - g.2.1) ≤ R.cells ∧ slots + (g'.2.2.1 - g.2.2.1) ≤ R.slots)
    {ik : Nat} (hk : mt[k]? = some N) (hw : am_okInv ct mt M (.invokespecial ik) k r2 r3 = true) (hd : decode cc pc = .ok (.invokespecial ik, 3)) (hNM : am_lev N < am_lev M) (hsz : ls.size = nL) (hn : As.length + 1 = am_nargs N) (hrest : am_w rest ≤ 8) (hr : am_cls g b = some (r2 / 10))
    (hC : sm_Con ct sT sS D B H00 te l N (.ref b :: As) g o g') : sm_Rn ct D B H00 p l e R s m args below meth c H locs cells slots pc ls (As.reverse ++ .ref b :: rest) (.ref b :: As) rest g o g' := by
  obtain ⟨C, hC1, hC2, hcell⟩ := sm_recv henv.1 hP hr
  unfold am_okInv at hw
  rw [hk] at hw
  simp only [Bool.and_eq_true] at hw
  obtain ⟨hM, hl⟩ := hw
  obtain ⟨⟨w1, w2, w3⟩, hmh, hpd, -, hpn, hmax, hlev, hini, hhk, hrt⟩ := sm_okM hM
  have hRR := sm_roomOf (N := N) (g := g) (g' := g') hNM hmax hR
  by_cases h2 : r2 % 10 = 3
  · rw [if_pos h2] at hl
    simp only [Bool.and_eq_true, Bool.or_eq_true, decide_eq_true_eq] at hl
    obtain ⟨hk0, hl⟩ := hl
    have hw3 : Cond.instanceMethod (am_name N) ∈ lw_k := by
      unfold sm_kw at w3
      rw [if_neg (by omega)] at w3
      exact w3
    have hh : am_hh N = [] := hhk.resolve_right (by omega)
    rw [hk0] at hpd
    have hpd' : (parseMethodDescriptor (am_name N).desc).map (fun d => d.parameters.length) = some As.length := by
      rw [hpd, if_neg (by decide), ← hn]; rfl
    have hlen : ∀ sig, parseMethodDescriptor (am_name N).desc = some sig → As.length = sig.parameters.length := by
      intro sig h
      rw [h] at hpd'
      exact (Option.some.inj hpd').symm
    have hpay := pay_in (s := s) hts (sm_ws_good (N := N) w1)
    have hc0 : Cond.code (am_name N) (am_bytes N) (am_maxL N) (am_retT N) ∈ sm_ws N := by
      unfold sm_ws; rw [sm_cw_nil hh]; exact List.mem_cons_self
    have hc1 := hts _ (sm_ws_good (N := N) w1 _ hc0).1
    have hret : am_retT N = none := hrt.resolve_left (fun q => q hk0)
    rw [hret] at hc0 hc1
    rcases hl with hl | hl
    · exact vx_runI (Ts := lw_g) ⟨hx, hb, hml, hown, hts⟩ hC ⟨⟨rfl, rfl, hRR.1, hRR.2, hpay, hc0, hc1, hts _ (lw_k_g w2), hmh, hlen, hts _ (lw_k_g (am_hasK_mem hl))⟩, hini.mp hk0, hts _ (lw_k_g hw3)⟩ ⟨sm_In.blind ct sT sS D B H00 te _ g, sm_pre henv hP hte _⟩ rfl rfl hsz rfl (by show 2 * 0 + _ ≤ 8; have := sm_cat hrest; omega) hd hf
    · exact vx_runIN (Ts := lw_g) ⟨hx, hb, hml, hown, hts⟩ hC ⟨⟨⟨rfl, rfl, hRR.1, hRR.2, hpay, hc0⟩, hc1, hts _ (lw_k_g w2), hmh, hlen, hts _ (am_has_mem hl)⟩, hini.mp hk0, hts _ (lw_k_g hw3)⟩ ⟨sm_In.blind ct sT sS D B H00 te _ g, sm_pre henv hP hte _⟩ rfl rfl hsz rfl (by show 2 * 0 + _ ≤ 8; have := sm_cat hrest; omega) hd hf
  · rw [if_neg h2] at hl
    simp only [Bool.and_eq_true, decide_eq_true_eq] at hl
    obtain ⟨⟨⟨hk0, q1⟩, q2⟩, q3⟩ := hl
    have hw3 : Cond.instanceMethod (am_name N) ∈ lw_k := by
      unfold sm_kw at w3
      rw [if_neg (by omega)] at w3
      exact w3
    have hh : am_hh N = [] := hhk.resolve_right (by omega)
    rw [hk0] at hpd
    have hpd' : (parseMethodDescriptor (am_name N).desc).map (fun d => d.parameters.length) = some As.length := by
      rw [hpd, if_neg (by decide), ← hn]; rfl
    have hT : GoodIn lw_g (va_wsSU (am_name M).cls ik (am_name N) (sm_ws N)) := by
      intro w hw
      unfold va_wsSU at hw
      rcases List.mem_append.mp hw with h | h
      · simp only [List.mem_cons, List.not_mem_nil, or_false] at h
        rcases h with rfl | rfl | rfl | rfl | rfl
        · exact sm_good (am_hasK_mem q1)
        · exact sm_good (am_hasK_mem q2)
        · exact sm_good (am_hasK_mem q3)
        · exact sm_good hw3
        · exact sm_good w2
      · exact sm_ws_good w1 w h
    have hno : (am_name N).name ≠ "<init>" := fun q => by have := hini.mpr q; omega
    exact vx_runSU hC2 (Ts := lw_g) ⟨hx, hb, hml, hown, hts⟩ hC (va_cwSU As.length hts hT (ws' := lw_k) (by unfold sm_ws; rw [sm_cw_nil hh]) rfl rfl ⟨hno, hpd'⟩ hRR) ⟨sm_In.blind ct sT sS D B H00 te _ g, hcell, sm_pre henv hP hte _⟩ rfl rfl hsz rfl (by show 2 * 0 + _ ≤ 8; have := sm_cat hrest; omega) hd hf
end SMR
