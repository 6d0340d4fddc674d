/-! THE REAL MACHINE FOLLOWS THE ABSTRACT ONE -/
/-- the locals of the frame hold what is known of them -/
def sm_L (ls : Array Slot) (nL : Nat) (L : List Value) : Prop := L.length = nL ∧ ls.size = nL ∧ lv_wf ls ∧ ∀ (i : Nat) (v : Value), L[i]? = some v → v ≠ am_un → ls[i]? = some (.val v)
def sm_asc (L : List Value) : List (Nat × Value) := (L.zipIdx.map fun q => (q.2, q.1)).filter fun q => decide (q.2 ≠ am_un)
theorem sm_asc_mem {L : List Value} {i : Nat} {v : Value} : (i, v) ∈ sm_asc L ↔ L[i]? = some v ∧ v ≠ am_un := by
  simp only [sm_asc, List.mem_filter, List.mem_map, decide_eq_true_eq]
  constructor
  · rintro ⟨⟨q, hq, he⟩, h2⟩
    obtain ⟨w, j⟩ := q
    cases he
    have := List.mem_zipIdx_iff_getElem?.mp hq
    exact ⟨this, h2⟩
  · rintro ⟨h1, h2⟩
    exact ⟨⟨(v, i), List.mem_zipIdx_iff_getElem?.mpr h1, rfl⟩, h2⟩
theorem sm_L.has {ls : Array Slot} {nL : Nat} {L : List Value} (h : sm_L ls nL L) : lv_has ls nL (sm_asc L) := by
  refine ⟨h.2.1, h.2.2.1, fun q hq => ?_⟩
  obtain ⟨i, v⟩ := q
  obtain ⟨h1, h2⟩ := sm_asc_mem.mp hq
  exact h.2.2.2 i v h1 h2
theorem sm_stL_len (L : List Value) (i : Nat) (v : Value) : (am_stL L i v).length = L.length := by simp [am_stL]
theorem sm_L.st1 {ls' : Array Slot} {nL : Nat} {L : List Value} {i : Nat} {v : Value} (hlen : L.length = nL) (hv : v.category = 1) (h : lv_has ls' nL ((i, v) :: (sm_asc L).filter (fun q => !(q.1 == i) && !(q.1 + 1 == i && q.2.category == 2)))) : sm_L ls' nL (am_stL L i v) := by
  refine ⟨by rw [sm_stL_len]; exact hlen, h.1, h.2.1, fun j w hj hw => ?_⟩
  simp only [am_stL, List.getElem?_mapIdx, Option.map_eq_some_iff] at hj
  obtain ⟨u, hu, he⟩ := hj
  by_cases h1 : j = i
  · rw [if_pos h1] at he
    subst he; subst h1
    exact h.2.2 (j, v) List.mem_cons_self
  · rw [if_neg h1] at he
    by_cases h2 : (j + 1 = i ∧ u.category = 2) ∨ (j = i + 1 ∧ v.category = 2)
    · rw [if_pos h2] at he
      exact absurd he.symm hw
    · rw [if_neg h2] at he
      subst he
      refine h.2.2 (j, u) (List.mem_cons_of_mem _ (List.mem_filter.mpr ⟨sm_asc_mem.mpr ⟨hu, hw⟩, ?_⟩))
      have h3 : ¬ (j + 1 = i ∧ u.category = 2) := fun q => h2 (Or.inl q)
      have h5 : ¬ j + 1 = i ∨ ¬ u.category = 2 := by
        by_cases q : j + 1 = i
        · exact Or.inr fun q2 => h3 ⟨q, q2⟩
        · exact Or.inl q
      simp [h1]
      exact h5
theorem sm_L.st2 {ls' : Array Slot} {nL : Nat} {L : List Value} {i : Nat} {v : Value} (hlen : L.length = nL) (hv : v.category = 2) (h : lv_has ls' nL ((i, v) :: (sm_asc L).filter (fun q => !(q.1 == i) && (!(q.1 == i + 1) && !(q.1 + 1 == i && q.2.category == 2))))) : sm_L ls' nL (am_stL L i v) := by
  refine ⟨by rw [sm_stL_len]; exact hlen, h.1, h.2.1, fun j w hj hw => ?_⟩
  simp only [am_stL, List.getElem?_mapIdx, Option.map_eq_some_iff] at hj
  obtain ⟨u, hu, he⟩ := hj
  by_cases h1 : j = i
  · rw [if_pos h1] at he
    subst he; subst h1
    exact h.2.2 (j, v) List.mem_cons_self
  · rw [if_neg h1] at he
    by_cases h2 : (j + 1 = i ∧ u.category = 2) ∨ (j = i + 1 ∧ v.category = 2)
    · rw [if_pos h2] at he
      exact absurd he.symm hw
    · rw [if_neg h2] at he
      subst he
      refine h.2.2 (j, u) (List.mem_cons_of_mem _ (List.mem_filter.mpr ⟨sm_asc_mem.mpr ⟨hu, hw⟩, ?_⟩))
      have h3 : ¬ (j + 1 = i ∧ u.category = 2) := fun q => h2 (Or.inl q)
      have h4 : ¬ j = i + 1 := fun q => h2 (Or.inr ⟨q, hv⟩)
      have h5 : ¬ j + 1 = i ∨ ¬ u.category = 2 := by
        by_cases q : j + 1 = i
        · exact Or.inr fun q2 => h3 ⟨q, q2⟩
        · exact Or.inl q
      simp [h1, h4]
      exact h5
theorem sm_L.kill {ls : Array Slot} {nL : Nat} {L : List Value} (h : sm_L ls nL L) (km : List Nat) : sm_L ls nL (am_kill km L) := by
  unfold am_kill
  split
  · exact h
  · obtain ⟨h1, h2, h3, h4⟩ := h
    refine ⟨by rw [List.length_mapIdx]; exact h1, h2, h3, fun i v hv hn => ?_⟩
    simp only [List.getElem?_mapIdx, Option.map_eq_some_iff] at hv
    obtain ⟨u, hu, he⟩ := hv
    split at he
    · exact absurd he.symm hn
    · subst he
      exact h4 i u hu hn
theorem sm_L.at {ls : Array Slot} {nL : Nat} {L : List Value} (h : sm_L ls nL L) {i : Nat} {v : Value} (hi : L[i]? = some v) (hv : v ≠ am_un) : ls[i]? = some (.val v) := h.2.2.2 i v hi hv
/-- what an array holds at a place -/
def sm_el (x : vp_A) (j : Nat) : Value := match x.2 with
  | .inl f => .int (f j)
  | .inr (.inl f) => .long (f j)
  | .inr (.inr (.inl f)) => .float (f j)
  | .inr (.inr (.inr (.inl f))) => .double (f j)
  | .inr (.inr (.inr (.inr f))) => va_rf (f j)
theorem sm_cell (cA : ClassId) (x : vp_A) : vp_cell cA x = arrV cA x.1 (sm_el x) := by
  obtain ⟨n, f | f | f | f | f⟩ := x <;> rfl
/-- an array as it is read -/
def sm_rd (s : State) (cell : Cell) (ty : FieldType) (x : vp_A) : Prop := s.isArrayOf cell ty ∧ cell.vm ≠ .unknown ∧ x.1 ≤ cell.slots.size ∧ cell.slots.size.toInt32 = Int32.ofNat x.1 ∧ ∀ j : Nat, j < x.1 → cell.slots[j]? = some (sm_el x j)
theorem sm_rd_of {s : State} {cA : ClassId} {ty : FieldType} {x : vp_A} (h : ArrOfT s cA ty) : sm_rd s (vp_cell cA x) ty x := by
  rw [sm_cell]
  refine ⟨h x.1 (sm_el x), (fun q => nomatch q), by rw [arrV_size]; exact Nat.le_refl _, by rw [arrV_size] <;> rfl, fun j hj => arrV_read _ _ hj⟩
/-- a cell of the real heap is what the abstract one says -/
def sm_at (ct : List am_C) (D : va_G) (B : Nat) (s : State) (a : Nat) (e : am_E) (H : Heap) : Prop := match e with
  | .inl x => ∃ cell : Cell, H[a]? = some cell ∧ sm_rd s cell x.1 x.2 ∧ (B ≤ a → ∃ cA : ClassId, cell = vp_cell cA x.2 ∧ ArrOfT s cA x.1 ∧ va_RA s cA x.1)
  | .inr o => ∃ (r : am_C) (cell : Cell), ct[o.1]? = some r ∧ H[a]? = some cell ∧ cell.cls = D.1 o.1 ∧ cell.vm ≠ .unknown ∧ cell.vm.isStatics = false ∧ (r.2.2.2.2 = true → cell.vm = .none) ∧ (∀ k, k < r.2.2.1 → cell.slots[D.2 o.1 k]? = some (vp_V o.2 k)) ∧ o.2.length = r.2.2.1
def sm_Rep (ct : List am_C) (D : va_G) (B : Nat) (H00 : Heap) (s : State) (g : am_S) (H : Heap) : Prop :=
  H.size = g.2.1 ∧ B ≤ g.2.1 ∧ H00.size = B ∧ (∀ (a : Nat) (e : am_E), g.1 a = some e → sm_at ct D B s a e H) ∧ ∀ a : Nat, a < B → H[a]? = H00[a]?
/-- a class is there -/
def sm_CA (U : State) (C : String) (cC : ClassId) (fl : Bool) : Prop := U.vm.findClass C = some cC ∧ ∃ kC : Class, U.vm.classes[cC]? = some kC ∧ (fl = true → kC.kind = .ordinary)
theorem sm_CA.moved {u E : State} {C : String} {cC : ClassId} {fl : Bool} (hvm : u.vm.Alike E.vm) (h : sm_CA u C cC fl) : sm_CA E C cC fl := by
  obtain ⟨h3, kC, hk, hkind⟩ := h
  obtain ⟨k', hk', he⟩ := hvm.2.2 _ _ hk
  exact ⟨by first | (rw [← hvm.findClass]; exact h3) | (rw [hvm.findClass]; exact h3), k', hk', fun q => by rw [he]; exact hkind q⟩
theorem sm_asgA {vm : Vm} {n : Nat} {cC : ClassId} : vm.assignableAux (n + 1) cC cC = true := by
  rw [Vm.assignableAux, beq_self_eq_true, Bool.true_or]
theorem sm_asg {s : State} {cC : ClassId} : s.vm.assignable cC cC = true := sm_asgA (n := 255)
/-- what the tables say of a class -/
def sm_K (s : State) (D : va_G) (ci : Nat) (r : am_C) : Prop := (∀ k, k < r.2.2.1 → ∃ (cf : ClassId) (kf : Class) (fi : Nat) (f : Field), s.fieldFound? (r.2.1 k).1 (r.2.1 k).2.1 (r.2.1 k).2.2.1 = some (cf, kf, fi, f) ∧ f.isStatic = false ∧ f.slot = D.2 ci k) ∧ sm_CA s r.1 (D.1 ci) r.2.2.2.2
theorem sm_at.cell {ct : List am_C} {D : va_G} {B : Nat} {s : State} {a : Nat} {e : am_E} {H : Heap} (h : sm_at ct D B s a e H) : ∃ cell, H[a]? = some cell := by
  cases e with
  | inl x =>
    obtain ⟨cell, h1, -⟩ := h
    exact ⟨cell, h1⟩
  | inr o =>
    obtain ⟨r, cell, -, h1, -⟩ := h
    exact ⟨cell, h1⟩
theorem sm_at.lt {ct : List am_C} {D : va_G} {B : Nat} {s : State} {a : Nat} {e : am_E} {H : Heap} (h : sm_at ct D B s a e H) : a < H.size := by
  obtain ⟨cell, h1⟩ := h.cell
  exact (Array.getElem?_eq_some_iff.mp h1).1
theorem sm_at.kept {ct : List am_C} {D : va_G} {B : Nat} {s : State} {a : Nat} {e : am_E} {H H1 : Heap} (h : sm_at ct D B s a e H) (h1 : H1[a]? = H[a]?) : sm_at ct D B s a e H1 := by
  cases e with
  | inl x =>
    obtain ⟨cell, q, r⟩ := h
    exact ⟨cell, h1.trans q, r⟩
  | inr o =>
    obtain ⟨r, cell, q, w, z⟩ := h
    exact ⟨r, cell, q, h1.trans w, z⟩
theorem sm_isArr_moved {u U : State} (hvm : u.vm.Alike U.vm) {cell : Cell} {ty : FieldType} (h : u.isArrayOf cell ty) : U.isArrayOf cell ty := by
  obtain ⟨h1, k, h2, comp, h3⟩ := h
  obtain ⟨k', hk', he⟩ := hvm.2.2 _ _ h2
  exact ⟨h1, k', hk', comp, by rw [he]; exact h3⟩
theorem sm_at.moved {ct : List am_C} {D : va_G} {B : Nat} {u U : State} {a : Nat} {e : am_E} {H : Heap} (hvm : u.vm.Alike U.vm) (h : sm_at ct D B u a e H) : sm_at ct D B U a e H := by
  cases e with
  | inl x =>
    obtain ⟨cell, q, ⟨r1, r2⟩, w⟩ := h
    refine ⟨cell, q, ⟨sm_isArr_moved hvm r1, r2⟩, fun hB => ?_⟩
    obtain ⟨cA, w1, w2, w3⟩ := w hB
    exact ⟨cA, w1, arrOfT_moved hvm w2, w3.moved hvm⟩
  | inr o => exact h
theorem sm_K.moved {u U : State} {D : va_G} {ci : Nat} {r : am_C} (hvm : u.vm.Alike U.vm) (h : sm_K u D ci r) : sm_K U D ci r := by
  refine ⟨fun k hk => ?_, h.2.moved hvm⟩
  obtain ⟨cf, kf, fi, f, h1, h2, h3⟩ := h.1 k hk
  obtain ⟨kf', hi', -⟩ := State.fieldFound?_setVm (s := u) hvm h1
  exact ⟨cf, kf', fi, f, by simpa only [State.fieldFound?, State.vm_setVm] using hi', h2, h3⟩
theorem sm_Rep.moved {ct : List am_C} {D : va_G} {B : Nat} {H00 : Heap} {u U : State} {g : am_S} {H : Heap} (hvm : u.vm.Alike U.vm) (h : sm_Rep ct D B H00 u g H) : sm_Rep ct D B H00 U g H :=
  ⟨h.1, h.2.1, h.2.2.1, fun a e q => (h.2.2.2.1 a e q).moved hvm, h.2.2.2.2⟩
/-- one cell written -/
theorem sm_Rep.set {ct : List am_C} {D : va_G} {B : Nat} {H00 : Heap} {s : State} {g : am_S} {H H1 : Heap} {a : Nat} {e : am_E} (h : sm_Rep ct D B H00 s g H) (hB : B ≤ a) (he : sm_at ct D B s a e H1) (hz : H1.size = H.size) (ho : ∀ q : Nat, q ≠ a → H1[q]? = H[q]?) : sm_Rep ct D B H00 s (am_set g a e) H1 := by
  refine ⟨hz.trans h.1, h.2.1, h.2.2.1, fun q x hq => ?_, fun q hq => ?_⟩
  · by_cases h1 : q = a
    · subst h1
      simp only [am_set, if_true] at hq
      cases hq
      exact he
    · simp only [am_set, if_neg h1] at hq
      exact (h.2.2.2.1 q x hq).kept (ho q h1)
  · rw [ho q (by omega)]
    exact h.2.2.2.2 q hq
/-- a new cell -/
theorem sm_Rep.new {ct : List am_C} {D : va_G} {B : Nat} {H00 : Heap} {s : State} {g : am_S} {H H1 : Heap} {e : am_E} {n : Nat} (h : sm_Rep ct D B H00 s g H) (he : sm_at ct D B s H.size e H1) (hz : H1.size = H.size + 1) (ho : ∀ q : Nat, q < H.size → H1[q]? = H[q]?) : sm_Rep ct D B H00 s (am_new g e n) H1 := by
  obtain ⟨h1, h2, h3, h4, h5⟩ := h
  refine ⟨by rw [hz, h1]; rfl, Nat.le_succ_of_le h2, h3, fun q x hq => ?_, fun q hq => ?_⟩
  · by_cases h6 : q = g.2.1
    · simp only [am_new, if_pos h6] at hq
      cases hq
      rw [h6, ← h1]
      exact he
    · simp only [am_new, if_neg h6] at hq
      have h7 := h4 q x hq
      exact h7.kept (ho q h7.lt)
  · rw [ho q (by omega)]
    exact h5 q hq
/-! ===== rows of code: what the tables must say of each ===== -/
/-- private methods of a class above, as their own selection for a StringBuilder -/
def lw_x : List Cond := [.selects RJ4 yJ5_ensureCapacityInternal_d00df yJ5_ensureCapacityInternal_d00df, .selects RJ4 yJ5_newCapacity_0f7a4 yJ5_newCapacity_0f7a4, .selects RJ4 yJ5_putStringAt_47b60 yJ5_putStringAt_47b60, .selects RJ4 yJ5_inflateIfNeededFor_a7421 yJ5_inflateIfNeededFor_a7421]
/-- the tables in pieces: a word's place is 256 times its piece's number and its place there -/
def lw_ch : List (List Cond) := [k2_sels lw_privs_1 ++ lw_x, k2_sels lw_privs_2, k2_sels lw_privs_3, k2_sels lw_privs_4, k2_sels lw_privs_5, k2_sels lw_privs_6, tables_1_1, tables_1_2, tables_1_3, tables_1_4, tables_1_5, tables_1_6, tables_1_7, tables_1_8, tables_1_9, tables_1_10]
def lw_tbx : List Cond := lw_ch.flatten
theorem lw_tbx_or {w : Cond} (h : w ∈ lw_tbx) : w ∈ lw_x ∨ w ∈ lw_tbl := by
  unfold lw_tbx lw_ch at h
  simp only [List.flatten_cons, List.flatten_nil, List.append_nil, List.append_assoc, List.mem_append] at h
  unfold lw_tbl lw_privs tables_1 k2_sels
  simp only [List.map_append, List.mem_append]
  unfold k2_sels at h
  grind
theorem lw_tbl_tbx {w : Cond} (h : w ∈ lw_tbl) : w ∈ lw_tbx := by
  unfold lw_tbl lw_privs tables_1 k2_sels at h
  simp only [List.map_append, List.mem_append] at h
  unfold lw_tbx lw_ch k2_sels
  simp only [List.flatten_cons, List.flatten_nil, List.append_nil, List.append_assoc, List.mem_append]
  grind
def lw_k : List Cond := lw_tbx.filter goodWord
/-- words that are carried along by laws of their own -/
def lw_nw : Cond → Bool
  | .fieldLinkNest _ _ _ _ _ _ => true
  | .methodLinkNest _ _ _ _ => true
  | .castable _ _ => true
  | .declares _ => true
  | .arrayOver (.object _) => true
  | _ => false
def lw_g : List Cond := lw_tbx.filter fun w => goodWord w || lw_nw w
def lw_at (i : Nat) : Option Cond := (lw_ch[i / 256]?).bind fun l => l[i % 256]?
theorem lw_at_mem {i : Nat} {w : Cond} (h : lw_at i = some w) : w ∈ lw_tbx := by
  obtain ⟨l, h1, h2⟩ := Option.bind_eq_some_iff.mp h
  exact List.mem_flatten.mpr ⟨l, List.mem_of_getElem? h1, List.mem_of_getElem? h2⟩
def lw_in (w : Cond) : Bool := lw_ch.any (fun l => l.contains w) && (goodWord w || lw_nw w)
theorem lw_in_mem {w : Cond} (h : lw_in w = true) : w ∈ lw_g := by
  simp only [lw_in, Bool.and_eq_true] at h
  obtain ⟨l, h1, h2⟩ := List.any_eq_true.mp h.1
  exact List.mem_filter.mpr ⟨List.mem_flatten.mpr ⟨l, h1, List.contains_iff_mem.mp h2⟩, h.2⟩
def am_has (i : Nat) (w : Cond) : Bool := decide (lw_at i = some w) && (goodWord w || lw_nw w)
def am_hasK (i : Nat) (w : Cond) : Bool := decide (lw_at i = some w) && goodWord w
theorem am_hasK_mem {i : Nat} {w : Cond} (h : am_hasK i w = true) : w ∈ lw_k := by
  simp only [am_hasK, Bool.and_eq_true, decide_eq_true_eq] at h
  exact List.mem_filter.mpr ⟨lw_at_mem h.1, h.2⟩
theorem lw_k_g {w : Cond} (h : w ∈ lw_k) : w ∈ lw_g := by
  obtain ⟨h1, h2⟩ := List.mem_filter.mp h
  exact List.mem_filter.mpr ⟨h1, by rw [h2]; rfl⟩
theorem am_has_mem {i : Nat} {w : Cond} (h : am_has i w = true) : w ∈ lw_g := by
  simp only [am_has, Bool.and_eq_true, decide_eq_true_eq] at h
  exact List.mem_filter.mpr ⟨lw_at_mem h.1, h.2⟩
def am_ilen : Instr → Option Nat
  | .iload _ | .lload _ | .dload _ | .aload _ | .istore _ | .lstore _ | .dstore _ | .astore _ | .bipush _ | .ldc _ | .newarray _ => some 2
  | .sipush _ | .ldc_w _ | .ldc2_w _ | .getstatic _ | .getfield _ | .putfield _ | .goto _ | .ifCond _ _ | .if_icmp _ _ | .if_acmp _ _ | .ifnull _ | .ifnonnull _ | .iinc _ _ | .new _ | .anewarray _ | .invokevirtual _ | .invokespecial _ | .invokestatic _ => some 3
  | .tableswitch _ _ _ _ | .lookupswitch _ _ => none
  | _ => some 1
section OkRow
variable (ct : List am_C) (sT : List (String × String × String)) (sS : List (String × Nat × String))
def am_okFld (own : String) (k ci i j : Nat) : Bool := match ct[ci]? with
  | some c => decide (i < c.2.2.1) && (am_has j (.fieldLink own k (c.2.1 i).1 (c.2.1 i).2.1 (c.2.1 i).2.2.1) || am_has j (.fieldLinkNest own k (c.2.1 i).1 (c.2.1 i).2.1 (c.2.1 i).2.2.1 "WatchedKeys"))
  | none => false
/-- jumps are where the row says, words are among the tables' -/
def am_okW (M : am_M) (pc : Nat) (x : Instr) (r1 r2 r3 : Nat) : Bool := match x with
  | .goto o => decide ((pc : Int) + o = (r1 : Int))
  | .ifCond _ o => decide ((pc : Int) + o = (r1 : Int))
  | .if_icmp _ o => decide ((pc : Int) + o = (r1 : Int))
  | .if_acmp _ o => decide ((pc : Int) + o = (r1 : Int))
  | .ifnull o => decide ((pc : Int) + o = (r1 : Int))
  | .ifnonnull o => decide ((pc : Int) + o = (r1 : Int))
  | .tableswitch d _ _ offs => decide (0 ≤ (pc : Int) + d) && offs.toList.all fun o => decide (0 ≤ (pc : Int) + o)
  | .lookupswitch d ps => decide (0 ≤ (pc : Int) + d) && (ps.toList.all fun o => decide (0 ≤ (pc : Int) + o.2)) && (ps.toList.zip (ps.toList.drop 1)).all (fun (a, next) => a.1 < next.1)
  | .iconst n => decide (Int32.ofInt n = am_lit r1 r2)
  | .bipush n => decide ((Int8.ofInt n).toInt32 = am_lit r1 r2)
  | .sipush n => decide ((Int16.ofInt n).toInt32 = am_lit r1 r2)
  | .iinc _ n => decide (Int32.ofInt n = am_lit r1 r2)
  | .ldc k => if ¬ r2 = 1 then am_has r3 (.constant (am_name M).cls k (am_lit r1 r2)) else decide (100 ≤ r1) && (match sS[r1 - 100]? with | some q => decide (q.1 = (am_name M).cls) && decide (q.2.1 = k) | none => false)
  | .ldc_w k => if ¬ r2 = 1 then am_has r3 (.constant (am_name M).cls k (am_lit r1 r2)) else decide (100 ≤ r1) && (match sS[r1 - 100]? with | some q => decide (q.1 = (am_name M).cls) && decide (q.2.1 = k) | none => false)
  | .ldc2_w k => am_has r3 (.constantLong (am_name M).cls k (Int64.ofNat r1))
  | .getstatic k => (match sT[r1]? with | some q => am_has r3 (.fieldLink (am_name M).cls k q.1 q.2.1 q.2.2) | none => false)
  | .getfield k => am_okFld ct (am_name M).cls k r1 r2 r3
  | .putfield k => am_okFld ct (am_name M).cls k r1 r2 r3 && (match ct[r1]? with | some c => !(c.2.1 r2).2.2.2 || (decide ((c.2.1 r2).1 = (am_name M).cls) && am_has r3 (.fieldLink (am_name M).cls k (c.2.1 r2).1 (c.2.1 r2).2.1 (c.2.1 r2).2.2.1)) | none => false)
  | _ => true
end OkRow
theorem sm_lkoff : ∀ (ps : List (Int × Int)) (d v : Int), Op.lookupswitch.offset ps d v = d ∨ ∃ z ∈ ps, Op.lookupswitch.offset ps d v = z.2
  | [], d, v => Or.inl rfl
  | (a, o) :: r, d, v => by
    rw [Op.lookupswitch.offset_cons]
    by_cases h : a = v
    · rw [if_pos h]
      exact Or.inr ⟨(a, o), List.mem_cons_self, rfl⟩
    · rw [if_neg h]
      rcases sm_lkoff r d v with q | ⟨z, hz, q⟩
      · exact Or.inl q
      · exact Or.inr ⟨z, List.mem_cons_of_mem _ hz, q⟩
section SM
variable {p : Program} {l : Launch} {e : Env} {R : Room} {s : State} {m : MethodId} {args : Array Value} {below : List Frame} {meth : Method} {c : Code} {H : Heap} {locs : List Loc} {cells slots : Nat} {Q : State → Prop}
variable {cc : ByteArray} {pc nL len r1 r2 r3 : Nat} {ls : Array Slot} {L st st' : List Value} {te : Nat → Value} {ct : List am_C} {sT : List (String × String × String)} {sS : List (String × Nat × String)} {M : am_M} {x : Instr} {B : Nat}
theorem am_ldcSW (hexec : p.tables.exec = Jvm.exec) (hb : c.code = cc) {own tx : String} {index q : Nat} (hown : s.vm.findClass own = some m.cls) (hZ : vk_R own index tx q s) (hdg : decode cc pc = .ok (.ldc_w index, 3)) {rest : List Value}
    (k : W p l e R s m args below meth c H locs cells slots Q (F0 m (pc + 3) ls (.ref q :: rest))) : W p l e R s m args below meth c H locs cells slots Q (F0 m pc ls rest) := by
  intro T hT X
  obtain ⟨t, a1, b1⟩ := k T hT X
  exact ⟨t, X.ldcStringW hexec hown (text := tx) (a := q) hZ.1 hZ.2 (g := F0 m pc ls rest) rfl (by rw [hb]; exact hdg) t a1, b1⟩
theorem sm_ldI {i : Nat} (h : am_ldI L i st = some st') (hL : sm_L ls nL L) : ∃ v, st' = .int v :: st ∧ ls[i]? = some (.val (.int v)) := by
  unfold am_ldI at h
  split at h
  · rename_i v hv
    cases h
    exact ⟨v, rfl, hL.at hv (fun q => nomatch q)⟩
  · cases h
theorem sm_ldJ {i : Nat} (h : am_ldJ L i st = some st') (hL : sm_L ls nL L) : ∃ v, st' = .long v :: st ∧ ls[i]? = some (.val (.long v)) := by
  unfold am_ldJ at h
  split at h
  · rename_i v hv
    cases h
    exact ⟨v, rfl, hL.at hv (fun q => nomatch q)⟩
  · cases h
theorem sm_ldD {i : Nat} (h : am_ldD L i st = some st') (hL : sm_L ls nL L) : ∃ v, st' = .double v :: st ∧ ls[i]? = some (.val (.double v)) := by
  unfold am_ldD at h
  split at h
  · rename_i v hv
    cases h
    exact ⟨v, rfl, hL.at hv (fun q => nomatch q)⟩
  · cases h
theorem sm_isR {v : Value} (h : am_isR v = true) : v = .null ∨ ∃ a, v = .ref a := by
  unfold am_isR at h
  split at h
  · exact Or.inr ⟨_, rfl⟩
  · exact Or.inl rfl
  · cases h
theorem sm_ldA {i : Nat} (h : am_ldA L i st = some st') (hL : sm_L ls nL L) : ∃ v, st' = v :: st ∧ ls[i]? = some (.val v) ∧ (v = .null ∨ ∃ a, v = .ref a) := by
  unfold am_ldA at h
  split at h
  · rename_i v hv
    split at h
    · rename_i hr
      cases h
      have hr2 := sm_isR hr
      exact ⟨v, rfl, hL.at hv (by rcases hr2 with rfl | ⟨a, rfl⟩ <;> exact fun q => nomatch q), hr2⟩
    · cases h
  · cases h
set_option maxHeartbeats 4000000 in
theorem sm_pure (hx : p.tables.exec = Jvm.exec) (hb : c.code = cc) (hown : s.vm.findClass (am_name M).cls = some m.cls) (hts : ∀ w ∈ lw_g, w.before args s = true)
    (hZ : ∀ (k : Nat) (q : String × String × String), sT[k]? = some q → va_Z q.1 q.2.1 q.2.2 (te k) (fun a => B ≤ a) s H) (hS : ∀ (k : Nat) (q : String × Nat × String), sS[k]? = some q → ∃ a, te (100 + k) = .ref a ∧ vk_R q.1 q.2.1 q.2.2 a s)
    (hw : am_okW ct sT sS M pc x r1 r2 r3 = true) (hd : decode cc pc = .ok (x, len)) (hl : am_ilen x = some len) (hL : sm_L ls nL L) (h : am_pure x r1 r2 L st te = some st')
    (k : W p l e R s m args below meth c H locs cells slots Q (F0 m (pc + len) ls st')) : W p l e R s m args below meth c H locs cells slots Q (F0 m pc ls st) := by
  cases x
  case aconst_null =>
    obtain rfl := Option.some.inj hl
    cases h
    exact lv_null hx hb hd k
  case iconst n =>
    obtain rfl := Option.some.inj hl
    cases h
    exact lv_iconst hx hb hd (of_decide_eq_true hw) k
  case bipush n =>
    obtain rfl := Option.some.inj hl
    cases h
    exact lv_bipush hx hb hd (of_decide_eq_true hw) k
  case sipush n =>
    obtain rfl := Option.some.inj hl
    cases h
    exact lv_sipush hx hb hd (of_decide_eq_true hw) k
  case lconst n =>
    obtain rfl := Option.some.inj hl
    cases h
    exact lv_lconst hx hb hd rfl k
  case fconst n =>
    obtain rfl := Option.some.inj hl
    simp only [am_pure] at h
    split at h
    · rename_i h0
      subst h0
      cases h
      exact lv_fconst0 hx hb hd k
    · cases h
  case dconst n =>
    obtain rfl := Option.some.inj hl
    simp only [am_pure] at h
    split at h
    · rename_i h0
      subst h0
      cases h
      exact lv_dconst0 hx hb hd k
    · cases h
  case ldc i =>
    obtain rfl := Option.some.inj hl
    simp only [am_pure] at h
    simp only [am_okW] at hw
    split at h
    · rename_i h0
      rw [if_neg (fun q => q h0)] at hw
      split at h
      rotate_left
      · cases h
      cases h
      simp only [Bool.and_eq_true, decide_eq_true_eq] at hw
      obtain ⟨hw0, hw1⟩ := hw
      split at hw1
      · rename_i q hq
        simp only [Bool.and_eq_true, decide_eq_true_eq] at hw1
        obtain ⟨a, ha, hR⟩ := hS _ q hq
        rw [show 100 + (r1 - 100) = r1 by omega] at ha
        rw [hw1.1, hw1.2] at hR
        rw [ha] at k
        exact va_ldcS hx hb hown hR hd k
      · cases hw1
    · rename_i h0
      rw [if_pos h0] at hw
      cases h
      exact lv_ldc hx hb hown (hts _ (am_has_mem hw)) hd k
  case ldc_w i =>
    obtain rfl := Option.some.inj hl
    simp only [am_pure] at h
    simp only [am_okW] at hw
    split at h
    · rename_i h0
      rw [if_neg (fun q => q h0)] at hw
      split at h
      rotate_left
      · cases h
      cases h
      simp only [Bool.and_eq_true, decide_eq_true_eq] at hw
      obtain ⟨hw0, hw1⟩ := hw
      split at hw1
      · rename_i q hq
        simp only [Bool.and_eq_true, decide_eq_true_eq] at hw1
        obtain ⟨a, ha, hR⟩ := hS _ q hq
        rw [show 100 + (r1 - 100) = r1 by omega] at ha
        rw [hw1.1, hw1.2] at hR
        rw [ha] at k
        exact am_ldcSW hx hb hown hR hd k
      · cases hw1
    · rename_i h0
      rw [if_pos h0] at hw
      cases h
      exact lv_ldcw hx hb hown (hts _ (am_has_mem hw)) hd k
  case ldc2_w i =>
    obtain rfl := Option.some.inj hl
    cases h
    exact lv_ldc2 hx hb hown (hts _ (am_has_mem hw)) hd k
  case getstatic i =>
    obtain rfl := Option.some.inj hl
    simp only [am_pure] at h
    split at h
    rotate_left
    · cases h
    cases h
    simp only [am_okW] at hw
    split at hw
    · rename_i q hq
      obtain ⟨cf, kf, fi, f, a, cell, e1, e2, e3, e4, e5, e6, e7, e8⟩ := hZ _ q hq
      exact W.gets hx hb hown (hts _ (am_has_mem hw)) e1 e2 e3 e4 e5 (fun z => by rw [z] at e6; cases e6) e7 rfl hd k
    · cases hw
  case iload i =>
    obtain rfl := Option.some.inj hl
    obtain ⟨v, rfl, hv⟩ := sm_ldI h hL
    exact lv_iload hx hb hd hv k
  case iload_n i =>
    obtain rfl := Option.some.inj hl
    obtain ⟨v, rfl, hv⟩ := sm_ldI h hL
    exact lv_iload_n hx hb hd rfl hv k
  case lload i =>
    obtain rfl := Option.some.inj hl
    obtain ⟨v, rfl, hv⟩ := sm_ldJ h hL
    exact lv_lload hx hb hd hv k
  case lload_n i =>
    obtain rfl := Option.some.inj hl
    obtain ⟨v, rfl, hv⟩ := sm_ldJ h hL
    exact lv_lload_n hx hb hd rfl hv k
  case dload i =>
    obtain rfl := Option.some.inj hl
    obtain ⟨v, rfl, hv⟩ := sm_ldD h hL
    exact lv_dload hx hb hd hv k
  case aload i =>
    obtain rfl := Option.some.inj hl
    obtain ⟨v, rfl, hv, rfl | ⟨a, rfl⟩⟩ := sm_ldA h hL
    · exact lv_aloadN hx hb hd hv k
    · exact lv_aload hx hb hd hv k
  case aload_n i =>
    obtain rfl := Option.some.inj hl
    obtain ⟨v, rfl, hv, rfl | ⟨a, rfl⟩⟩ := sm_ldA h hL
    · exact lv_aload_nN hx hb hd rfl hv k
    · exact lv_aload_n hx hb hd rfl hv k
  case pop =>
    obtain rfl := Option.some.inj hl
    simp only [am_pure] at h
    split at h
    · split at h
      · rename_i h0
        cases h
        exact lv_pop hx hb hd h0 k
      · cases h
    · cases h
  case dup =>
    obtain rfl := Option.some.inj hl
    simp only [am_pure] at h
    split at h
    · split at h
      · rename_i h0
        cases h
        exact lv_dup hx hb hd h0 k
      · cases h
    · cases h
  case dup_x1 =>
    obtain rfl := Option.some.inj hl
    simp only [am_pure] at h
    split at h
    · split at h
      · rename_i h0
        cases h
        exact lv_dup_x1 hx hb hd h0.1 h0.2 k
      · cases h
    · cases h
  case dup2 =>
    obtain rfl := Option.some.inj hl
    simp only [am_pure] at h
    split at h
    · split at h
      · rename_i h0
        cases h
        exact lv_dup2_11 hx hb hd h0.1 h0.2 k
      · cases h
    · cases h
  case iadd =>
    obtain rfl := Option.some.inj hl
    simp only [am_pure] at h
    split at h
    · cases h
      exact lv_iadd hx hb hd k
    · cases h
  case isub =>
    obtain rfl := Option.some.inj hl
    simp only [am_pure] at h
    split at h
    · cases h
      exact lv_isub hx hb hd k
    · cases h
  case imul =>
    obtain rfl := Option.some.inj hl
    simp only [am_pure] at h
    split at h
    · cases h
      exact lv_imul hx hb hd k
    · cases h
  case iand =>
    obtain rfl := Option.some.inj hl
    simp only [am_pure] at h
    split at h
    · cases h
      exact lv_iand hx hb hd k
    · cases h
  case ishl =>
    obtain rfl := Option.some.inj hl
    simp only [am_pure] at h
    split at h
    · cases h
      exact lv_ishl hx hb hd k
    · cases h
  case ishr =>
    obtain rfl := Option.some.inj hl
    simp only [am_pure] at h
    split at h
    · cases h
      exact lv_ishr hx hb hd k
    · cases h
  case ineg =>
    obtain rfl := Option.some.inj hl
    simp only [am_pure] at h
    split at h
    · cases h
      exact lv_ineg hx hb hd k
    · cases h
  case ladd =>
    obtain rfl := Option.some.inj hl
    simp only [am_pure] at h
    split at h
    · cases h
      exact lv_ladd hx hb hd k
    · cases h
  case land =>
    obtain rfl := Option.some.inj hl
    simp only [am_pure] at h
    split at h
    · cases h
      exact lv_land hx hb hd k
    · cases h
  case lor =>
    obtain rfl := Option.some.inj hl
    simp only [am_pure] at h
    split at h
    · cases h
      exact lv_lor hx hb hd k
    · cases h
  case i2f =>
    obtain rfl := Option.some.inj hl
    simp only [am_pure] at h
    split at h
    · cases h
      exact lv_i2f hx hb hd k
    · cases h
  case i2d =>
    obtain rfl := Option.some.inj hl
    simp only [am_pure] at h
    split at h
    · cases h
      exact lv_i2d hx hb hd k
    · cases h
  case idiv =>
    obtain rfl := Option.some.inj hl
    simp only [am_pure] at h
    split at h
    · split at h
      · cases h
      · rename_i h0
        cases h
        exact lv_idiv hx hb hd h0 k
    · cases h
  case irem =>
    obtain rfl := Option.some.inj hl
    simp only [am_pure] at h
    split at h
    · split at h
      · cases h
      · rename_i h0
        cases h
        exact lv_irem hx hb hd h0 k
    · cases h
  case i2c =>
    obtain rfl := Option.some.inj hl
    simp only [am_pure] at h
    split at h
    · cases h
      exact lv_i2c hx hb hd rfl k
    · cases h
  case i2b =>
    obtain rfl := Option.some.inj hl
    simp only [am_pure] at h
    split at h
    · cases h
      exact lv_i2b hx hb hd rfl k
    · cases h
  case i2l =>
    obtain rfl := Option.some.inj hl
    simp only [am_pure] at h
    split at h
    · cases h
      exact lv_i2l hx hb hd rfl k
    · cases h
  case l2i =>
    obtain rfl := Option.some.inj hl
    simp only [am_pure] at h
    split at h
    · cases h
      exact lv_l2i hx hb hd rfl k
    · cases h
  case lshl =>
    obtain rfl := Option.some.inj hl
    simp only [am_pure] at h
    split at h
    · cases h
      exact lv_lshl hx hb hd rfl k
    · cases h
  case lshr =>
    obtain rfl := Option.some.inj hl
    simp only [am_pure] at h
    split at h
    · cases h
      exact lv_lshr hx hb hd rfl k
    · cases h
  case lushr =>
    obtain rfl := Option.some.inj hl
    simp only [am_pure] at h
    split at h
    · cases h
      exact lv_lushr hx hb hd rfl k
    · cases h
  case lcmp =>
    obtain rfl := Option.some.inj hl
    simp only [am_pure] at h
    split at h
    · cases h
      exact W.lcmp hx hb hd k
    · cases h
  case dcmp op =>
    obtain rfl := Option.some.inj hl
    simp only [am_pure] at h
    split at h
    · cases h
      exact lv_dcmp hx hb hd k
    · cases h
  case fdiv =>
    obtain rfl := Option.some.inj hl
    simp only [am_pure] at h
    split at h
    · split at h
      · rename_i h0
        cases h
        exact lv_fdiv hx hb hd h0 k
      · cases h
    · cases h
  case ddiv =>
    obtain rfl := Option.some.inj hl
    simp only [am_pure] at h
    split at h
    · split at h
      · rename_i h0
        cases h
        exact lv_ddiv hx hb hd h0 k
      · cases h
    · cases h
  case f2d =>
    obtain rfl := Option.some.inj hl
    simp only [am_pure] at h
    split at h
    · split at h
      · rename_i h0
        cases h
        exact lv_f2d hx hb hd h0 k
      · cases h
    · cases h
  all_goals exact absurd h (fun q => nomatch q)
set_option maxHeartbeats 4000000 in
theorem sm_store {L' : List Value} (hx : p.tables.exec = Jvm.exec) (hb : c.code = cc) (hw : am_okW ct sT sS M pc x r1 r2 r3 = true) (hd : decode cc pc = .ok (x, len)) (hl : am_ilen x = some len) (hL : sm_L ls nL L) (h : am_store x r1 r2 L st = some (L', st'))
    (k : ∀ ls', sm_L ls' nL L' → W p l e R s m args below meth c H locs cells slots Q (F0 m (pc + len) ls' st')) : W p l e R s m args below meth c H locs cells slots Q (F0 m pc ls st) := by
  have hlen := hL.1
  cases x
  case istore i =>
    obtain rfl := Option.some.inj hl
    simp only [am_store] at h
    split at h
    · split at h
      · rename_i h0
        cases h
        exact lv_istore hx hb hd hL.has (hlen ▸ h0) rfl fun ls' hl' => k ls' (sm_L.st1 hlen rfl hl')
      · cases h
    · cases h
  case istore_n i =>
    obtain rfl := Option.some.inj hl
    simp only [am_store] at h
    split at h
    · split at h
      · rename_i h0
        cases h
        exact lv_istore_n hx hb hd rfl hL.has (hlen ▸ h0) rfl fun ls' hl' => k ls' (sm_L.st1 hlen rfl hl')
      · cases h
    · cases h
  case lstore i =>
    obtain rfl := Option.some.inj hl
    simp only [am_store] at h
    split at h
    · split at h
      · rename_i h0
        cases h
        exact lv_lstore hx hb hd hL.has (hlen ▸ h0) rfl fun ls' hl' => k ls' (sm_L.st2 hlen rfl hl')
      · cases h
    · cases h
  case lstore_n i =>
    obtain rfl := Option.some.inj hl
    simp only [am_store] at h
    split at h
    · split at h
      · rename_i h0
        cases h
        exact lv_lstore_n hx hb hd rfl hL.has (hlen ▸ h0) rfl fun ls' hl' => k ls' (sm_L.st2 hlen rfl hl')
      · cases h
    · cases h
  case dstore i =>
    obtain rfl := Option.some.inj hl
    simp only [am_store] at h
    split at h
    · split at h
      · rename_i h0
        cases h
        exact lv_dstore hx hb hd hL.has (hlen ▸ h0) rfl fun ls' hl' => k ls' (sm_L.st2 hlen rfl hl')
      · cases h
    · cases h
  case astore i =>
    obtain rfl := Option.some.inj hl
    simp only [am_store] at h
    split at h
    · split at h
      · rename_i h0
        cases h
        rcases sm_isR h0.1 with rfl | ⟨a, rfl⟩
        · exact lv_astoreN hx hb hd  hL.has (hlen ▸ h0.2) rfl fun ls' hl' => k ls' (sm_L.st1 hlen rfl hl')
        · exact lv_astore hx hb hd  hL.has (hlen ▸ h0.2) rfl fun ls' hl' => k ls' (sm_L.st1 hlen rfl hl')
      · cases h
    · cases h
  case astore_n i =>
    obtain rfl := Option.some.inj hl
    simp only [am_store] at h
    split at h
    · split at h
      · rename_i h0
        cases h
        rcases sm_isR h0.1 with rfl | ⟨a, rfl⟩
        · exact lv_astore_nN hx hb hd rfl hL.has (hlen ▸ h0.2) rfl fun ls' hl' => k ls' (sm_L.st1 hlen rfl hl')
        · exact lv_astore_n hx hb hd rfl hL.has (hlen ▸ h0.2) rfl fun ls' hl' => k ls' (sm_L.st1 hlen rfl hl')
      · cases h
    · cases h
  case iinc i n =>
    obtain rfl := Option.some.inj hl
    simp only [am_store] at h
    split at h
    · rename_i v hv
      cases h
      have hm : (i, Value.int v) ∈ sm_asc L := sm_asc_mem.mpr ⟨hv, fun q => nomatch q⟩
      obtain ⟨j, hj⟩ := List.getElem?_of_mem hm
      exact lv_iinc hx hb hd hL.has hj (by rw [show Int32.ofInt n = am_lit r1 r2 from of_decide_eq_true hw]) (hlen ▸ (List.getElem?_eq_some_iff.mp hv).1) rfl fun ls' hl' => k ls' (sm_L.st1 hlen rfl hl')
    · cases h
  all_goals exact absurd h (fun q => nomatch q)
set_option maxHeartbeats 4000000 in
theorem sm_jump {t : Nat} (hx : p.tables.exec = Jvm.exec) (hb : c.code = cc) (hw : am_okW ct sT sS M pc x r1 r2 r3 = true) (hd : decode cc pc = .ok (x, len)) (hl : am_ilen x = some len ∨ am_ilen x = none) (h : am_jump x pc r1 st = some (t, st'))
    (k : W p l e R s m args below meth c H locs cells slots Q (F0 m t ls st')) : W p l e R s m args below meth c H locs cells slots Q (F0 m pc ls st) := by
  cases x
  case goto o =>
    obtain rfl : 3 = len := by
      rcases hl with q | q
      · exact Option.some.inj q
      · cases q
    have ht := of_decide_eq_true hw
    cases h
    exact lv_goto hx hb hd ht k
  case ifCond cnd o =>
    obtain rfl : 3 = len := by
      rcases hl with q | q
      · exact Option.some.inj q
      · cases q
    have ht := of_decide_eq_true hw
    simp only [am_jump] at h
    split at h
    · split at h
      · cases h
        refine lv_if_eq hx hb hd ht (fun q => ?_) (fun q => ?_)
        · rw [if_pos q] at k; exact k
        · rw [if_neg q] at k; exact k
      · cases h
        refine lv_if_ne hx hb hd ht (fun q => ?_) (fun q => ?_)
        · rw [if_neg q] at k; exact k
        · rw [if_pos q] at k; exact k
      · cases h
        refine lv_if_lt hx hb hd ht (fun q => ?_) (fun q => ?_)
        · rw [if_pos q] at k; exact k
        · rw [if_neg q] at k; exact k
      · cases h
        refine lv_if_ge hx hb hd ht (fun q => ?_) (fun q => ?_)
        · rw [if_pos q] at k; exact k
        · rw [if_neg q] at k; exact k
      · cases h
        refine lv_if_gt hx hb hd ht (fun q => ?_) (fun q => ?_)
        · rw [if_pos q] at k; exact k
        · rw [if_neg q] at k; exact k
      · cases h
        refine lv_if_le hx hb hd ht (fun q => ?_) (fun q => ?_)
        · rw [if_pos q] at k; exact k
        · rw [if_neg q] at k; exact k
    · cases h
  case if_icmp cnd o =>
    obtain rfl : 3 = len := by
      rcases hl with q | q
      · exact Option.some.inj q
      · cases q
    have ht := of_decide_eq_true hw
    simp only [am_jump] at h
    split at h
    · split at h
      · cases h
        refine lv_icmp_eq hx hb hd ht (fun q => ?_) (fun q => ?_)
        · rw [if_pos q] at k; exact k
        · rw [if_neg q] at k; exact k
      · cases h
        refine lv_icmp_ne hx hb hd ht (fun q => ?_) (fun q => ?_)
        · rw [if_neg q] at k; exact k
        · rw [if_pos q] at k; exact k
      · cases h
        refine lv_icmp_lt hx hb hd ht (fun q => ?_) (fun q => ?_)
        · rw [if_pos q] at k; exact k
        · rw [if_neg q] at k; exact k
      · cases h
        refine lv_icmp_ge hx hb hd ht (fun q => ?_) (fun q => ?_)
        · rw [if_pos q] at k; exact k
        · rw [if_neg q] at k; exact k
      · cases h
        refine lv_icmp_gt hx hb hd ht (fun q => ?_) (fun q => ?_)
        · rw [if_pos q] at k; exact k
        · rw [if_neg q] at k; exact k
      · cases h
        refine lv_icmp_le hx hb hd ht (fun q => ?_) (fun q => ?_)
        · rw [if_pos q] at k; exact k
        · rw [if_neg q] at k; exact k
    · cases h
  case ifnull o =>
    obtain rfl : 3 = len := by
      rcases hl with q | q
      · exact Option.some.inj q
      · cases q
    have ht := of_decide_eq_true hw
    simp only [am_jump] at h
    split at h
    · cases h
      exact lv_ifnullN hx hb hd ht k
    · cases h
      exact lv_ifnull hx hb hd k
    · cases h
  case ifnonnull o =>
    obtain rfl : 3 = len := by
      rcases hl with q | q
      · exact Option.some.inj q
      · cases q
    have ht := of_decide_eq_true hw
    simp only [am_jump] at h
    split at h
    · cases h
      exact lv_ifnonnullN hx hb hd k
    · cases h
      exact lv_ifnonnull hx hb hd ht k
    · cases h
  case if_acmp cnd o =>
    obtain rfl : 3 = len := by
      rcases hl with q | q
      · exact Option.some.inj q
      · cases q
    have ht := of_decide_eq_true hw
    simp only [am_jump] at h
    split at h
    · rename_i y v r
      split at h
      · rename_i h0
        obtain ⟨ry, hry⟩ : ∃ ry, y = va_rf ry := by
          rcases sm_isR h0.1 with rfl | ⟨a, rfl⟩
          · exact ⟨none, rfl⟩
          · exact ⟨some a, rfl⟩
        obtain ⟨rv, hrv⟩ : ∃ rv, v = va_rf rv := by
          rcases sm_isR h0.2 with rfl | ⟨a, rfl⟩
          · exact ⟨none, rfl⟩
          · exact ⟨some a, rfl⟩
        have hinj : v = y ↔ rv = ry := by
          subst hry; subst hrv
          cases rv <;> cases ry <;> simp [va_rf]
        subst hry; subst hrv
        split at h
        · cases h
          refine lv_acmp_eq hx hb hd ht (fun q => ?_) (fun q => ?_)
          · rw [if_pos (hinj.mpr q)] at k; exact k
          · rw [if_neg (fun z => q (hinj.mp z))] at k; exact k
        · cases h
          refine lv_acmp_ne hx hb hd ht (fun q => ?_) (fun q => ?_)
          · rw [if_neg (fun z => q (hinj.mp z))] at k; exact k
          · rw [if_pos (hinj.mpr q)] at k; exact k
      · cases h
    · cases h
  case tableswitch d lo hi offs =>
    simp only [am_okW, Bool.and_eq_true, decide_eq_true_eq] at hw
    simp only [am_jump] at h
    split at h
    · split at h
      · rename_i h0
        cases h
        exact lv_tableOut hx hb hd h0 (by omega) k
      · rename_i h0
        split at h
        · rename_i o ho
          cases h
          have h2 := of_decide_eq_true (List.all_eq_true.mp hw.2 o (List.mem_of_getElem? (by rw [Array.getElem?_toList]; exact ho)))
          exact lv_tableIn hx hb hd (fun q => h0 (Or.inl q)) (fun q => h0 (Or.inr q)) ho (by omega) k
        · cases h
    · cases h
  case lookupswitch d ps =>
    simp only [am_okW, Bool.and_eq_true, decide_eq_true_eq] at hw
    simp only [am_jump] at h
    split at h
    · rename_i v r
      cases h
      have h2 : 0 ≤ (pc : Int) + Op.lookupswitch.offset ps.toList d v.toInt := by
        rcases sm_lkoff ps.toList d v.toInt with q | ⟨z, hz, q⟩
        · rw [q]; exact hw.1.1
        · rw [q]; exact of_decide_eq_true (List.all_eq_true.mp hw.1.2 z hz)
      exact lv_lookup hx hb hd hw.2 rfl (by omega) k
    · cases h
  all_goals exact absurd h (fun q => nomatch q)
end SM
