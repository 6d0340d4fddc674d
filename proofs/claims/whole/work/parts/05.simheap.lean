/-! ===== the heap's rows ===== -/
/-- a class whose objects are made and written here: what the tables say of it -/
def am_okC (c : am_C) : Bool := !c.2.2.2.2 || ((u_ws c.1 c.2.1 c.2.2.1).all (fun w => lw_in w) && (List.range c.2.2.1).all (fun k => decide (parseFieldDescriptor (c.2.1 k).2.2.1 = some (c.2.2.2.1 k)) && (List.range c.2.2.1).all fun j => decide (k = j) || decide ((c.2.1 k).2.1 ≠ (c.2.1 j).2.1)))
theorem am_okC_spec {c : am_C} (h : am_okC c = true) (hw : c.2.2.2.2 = true) : (∀ w ∈ u_ws c.1 c.2.1 c.2.2.1, w ∈ lw_g) ∧ (∀ k, k < c.2.2.1 → parseFieldDescriptor (c.2.1 k).2.2.1 = some (c.2.2.2.1 k)) ∧ ∀ a, a < c.2.2.1 → ∀ b, b < c.2.2.1 → a ≠ b → (c.2.1 a).2.1 ≠ (c.2.1 b).2.1 := by
  simp only [am_okC, hw, Bool.not_true, Bool.false_or, Bool.and_eq_true] at h
  obtain ⟨h1, h2⟩ := h
  refine ⟨fun w hw => ?_, fun k hk => ?_, fun a ha b hb hab => ?_⟩
  · have := List.all_eq_true.mp h1 w hw
    exact lw_in_mem this
  · have := List.all_eq_true.mp h2 k (List.mem_range.mpr hk)
    simp only [Bool.and_eq_true, decide_eq_true_eq] at this
    exact this.1
  · have := List.all_eq_true.mp h2 a (List.mem_range.mpr ha)
    simp only [Bool.and_eq_true, decide_eq_true_eq] at this
    have := List.all_eq_true.mp this.2 b (List.mem_range.mpr hb)
    simp only [Bool.or_eq_true, decide_eq_true_eq] at this
    exact this.resolve_left hab
theorem sm_inb {i : Int32} {n : Nat} (h : am_inb i n = true) : ¬ i < 0 ∧ i.toNatClampNeg < n ∧ i.toInt.toNat = i.toNatClampNeg := by
  simp only [am_inb, Bool.and_eq_true, decide_eq_true_eq] at h
  refine ⟨fun q => ?_, ?_, rfl⟩
  · have := Int32.lt_iff_toInt_lt.mp q
    simp at this
    omega
  · show i.toInt.toNat < n
    omega
section SMH
variable {p : Program} {l : Launch} {e : Env} {R : Room} {s : State} {m : MethodId} {args : Array Value} {below : List Frame} {meth : Method} {c : Code} {H : Heap} {locs : List Loc} {cells slots : Nat} {Q : State → Prop}
variable {cc : ByteArray} {pc nL len r1 r2 r3 : Nat} {ls : Array Slot} {L st st' rest : List Value} {te : Nat → Value} {ct : List am_C} {sT : List (String × String × String)} {sS : List (String × Nat × String)} {M : am_M} {x : Instr} {B : Nat} {D : va_G} {H00 : Heap} {g g' : am_S}
/-- the field's link, plain or by the nest -/
def sm_lk (s : State) (args : Array Value) (own : String) (k : Nat) (f : String × String × String × Bool) : Prop := (Cond.fieldLink own k f.1 f.2.1 f.2.2.1).before args s = true ∨ (Cond.fieldLinkNest own k f.1 f.2.1 f.2.2.1 "WatchedKeys").before args s = true
theorem sm_okFld {own : String} {k ci i j : Nat} (hts : ∀ w ∈ lw_g, w.before args s = true) (h : am_okFld ct own k ci i j = true) : ∃ r : am_C, ct[ci]? = some r ∧ i < r.2.2.1 ∧ sm_lk s args own k (r.2.1 i) := by
  unfold am_okFld at h
  split at h
  · rename_i r hr
    simp only [Bool.and_eq_true, Bool.or_eq_true, decide_eq_true_eq] at h
    exact ⟨r, hr, h.1, h.2.elim (fun q => Or.inl (hts _ (am_has_mem q))) (fun q => Or.inr (hts _ (am_has_mem q)))⟩
  · cases h
theorem sm_getF {a ci k : Nat} {v : Value} (hg : am_getF g a ci k = some v) : ∃ fs, g.1 a = some (.inr (ci, fs)) ∧ fs[k]? = some v := by
  unfold am_getF at hg
  split at hg
  · rename_i c fs h
    split at hg
    · rename_i h1
      subst h1
      exact ⟨fs, h, hg⟩
    · cases hg
  · cases hg
theorem sm_gf {a ci k : Nat} {v : Value} (hg : am_gf ct g a ci k = some v) : am_getF g a ci k = some v := by
  unfold am_gf at hg
  split at hg
  · rename_i u c h1 h2
    split at hg
    · cases hg
      exact h1
    · cases hg
  · cases hg
theorem sm_getfield {k a : Nat} {v : Value} (hx : p.tables.exec = Jvm.exec) (hb : c.code = cc) (hown : s.vm.findClass (am_name M).cls = some m.cls) (hts : ∀ w ∈ lw_g, w.before args s = true) (hK : ∀ (ci : Nat) (r : am_C), ct[ci]? = some r → sm_K s D ci r) (hP : sm_Rep ct D B H00 s g H)
    (hw : am_okFld ct (am_name M).cls k r1 r2 r3 = true) (hd : decode cc pc = .ok (.getfield k, 3)) (hv : am_getF g a r1 r2 = some v)
    (kk : W p l e R s m args below meth c H locs cells slots Q (F0 m (pc + 3) ls (v :: rest))) : W p l e R s m args below meth c H locs cells slots Q (F0 m pc ls (.ref a :: rest)) := by
  obtain ⟨r, hr, hi, hlk⟩ := sm_okFld hts hw
  obtain ⟨fs, ha, hv⟩ := sm_getF hv
  obtain ⟨r', cell, e1, e2, e3, e4, e5, e6, e7, e8⟩ := hP.2.2.2.1 a _ ha
  cases hr.symm.trans e1
  obtain ⟨cf, kf, fi, f, h1, h2, h3⟩ := (hK _ _ hr).1 r2 hi
  have hs : cell.slots[f.slot]? = some v := by
    rw [h3, e7 r2 hi]
    simp [vp_V, hv]
  rcases hlk with q | q
  · exact W.getf hx hb hown q h1 h2 e2 e4 hs rfl rfl hd kk
  · exact va_Wgetf hx hb hown q h1 h2 e2 e4 hs rfl rfl hd kk
theorem sm_arr {a : Nat} {t : FieldType} {y : vp_A} (hP : sm_Rep ct D B H00 s g H) (ha : g.1 a = some (.inl (t, y))) : ∃ cell : Cell, H[a]? = some cell ∧ sm_rd s cell t y ∧ (B ≤ a → ∃ cA : ClassId, cell = vp_cell cA y ∧ ArrOfT s cA t ∧ va_RA s cA t) := hP.2.2.2.1 a _ ha
theorem sm_rd_in {cell : Cell} {t : FieldType} {y : vp_A} {i : Int32} (h : sm_rd s cell t y) (hi : am_inb i y.1 = true) : ¬ (i < 0 ∨ cell.slots.size ≤ i.toNatClampNeg) ∧ cell.slots[i.toNatClampNeg]? = some (sm_el y i.toInt.toNat) := by
  obtain ⟨h1, h2, h3⟩ := sm_inb hi
  refine ⟨fun q => q.elim h1 (fun q => ?_), ?_⟩
  · have := h.2.2.1
    omega
  · rw [h3]
    exact h.2.2.2.2 _ h2
theorem sm_alen {a n : Nat} (hx : p.tables.exec = Jvm.exec) (hb : c.code = cc) (hP : sm_Rep ct D B H00 s g H) (hd : decode cc pc = .ok (.arraylength, 1)) (hv : am_len g a = some n)
    (kk : W p l e R s m args below meth c H locs cells slots Q (F0 m (pc + 1) ls (.int (Int32.ofNat n) :: rest))) : W p l e R s m args below meth c H locs cells slots Q (F0 m pc ls (.ref a :: rest)) := by
  unfold am_len at hv
  split at hv
  · rename_i t y ha
    cases hv
    obtain ⟨cell, h1, h2, -⟩ := sm_arr hP ha
    exact W.alen hx hb h1 h2.1 h2.2.2.2.1 rfl rfl hd kk
  · cases hv
theorem sm_ia {a n : Nat} {t : FieldType} {f : Nat → Int32} (hv : am_ia g t a = some (n, f)) : g.1 a = some (.inl (t, n, .inl f)) := by
  unfold am_ia at hv
  split at hv
  · rename_i t' n' f' ha
    split at hv
    · rename_i ht
      cases hv
      rw [ha, ht]
    · cases hv
  · cases hv
theorem sm_ba {a n : Nat} {t : FieldType} {f : Nat → Int32} (hv : am_ba g a = some (t, n, f)) : g.1 a = some (.inl (t, n, .inl f)) ∧ (t = .byte ∨ t = .boolean) := by
  unfold am_ba at hv
  split at hv
  · rename_i t' n' f' ha
    split at hv
    · rename_i ht
      cases hv
      exact ⟨ha, ht⟩
    · cases hv
  · cases hv
theorem sm_la {a n : Nat} {f : Nat → Int64} (hv : am_la g a = some (n, f)) : g.1 a = some (.inl (.long, n, .inr (.inl f))) := by
  unfold am_la at hv
  split at hv
  · rename_i t' n' f' ha
    split at hv
    · rename_i ht
      cases hv
      rw [ha, ht]
    · cases hv
  · cases hv
theorem sm_qa {a n : Nat} {C : String} {f : Nat → Option Nat} (hv : am_qa g a = some (C, n, f)) : g.1 a = some (.inl (.object C, n, .inr (.inr (.inr (.inr f))))) := by
  unfold am_qa at hv
  split at hv
  · rename_i C' n' f' ha
    cases hv
    exact ha
  · cases hv
theorem sm_iald {a n : Nat} {f : Nat → Int32} {i : Int32} (hx : p.tables.exec = Jvm.exec) (hb : c.code = cc) (hP : sm_Rep ct D B H00 s g H) (hd : decode cc pc = .ok (.iaload, 1)) (hv : am_ia g .int a = some (n, f)) (hi : am_inb i n = true)
    (kk : W p l e R s m args below meth c H locs cells slots Q (F0 m (pc + 1) ls (.int (f i.toInt.toNat) :: rest))) : W p l e R s m args below meth c H locs cells slots Q (F0 m pc ls (.int i :: .ref a :: rest)) := by
  obtain ⟨cell, h1, h2, -⟩ := sm_arr hP (sm_ia hv)
  obtain ⟨q1, q2⟩ := sm_rd_in h2 hi
  exact W.iald hx hb h1 h2.1 h2.2.1 q1 q2 rfl rfl hd kk
theorem sm_lald {a n : Nat} {f : Nat → Int64} {i : Int32} (hx : p.tables.exec = Jvm.exec) (hb : c.code = cc) (hP : sm_Rep ct D B H00 s g H) (hd : decode cc pc = .ok (.laload, 1)) (hv : am_la g a = some (n, f)) (hi : am_inb i n = true)
    (kk : W p l e R s m args below meth c H locs cells slots Q (F0 m (pc + 1) ls (.long (f i.toInt.toNat) :: rest))) : W p l e R s m args below meth c H locs cells slots Q (F0 m pc ls (.int i :: .ref a :: rest)) := by
  obtain ⟨cell, h1, h2, -⟩ := sm_arr hP (sm_la hv)
  obtain ⟨q1, q2⟩ := sm_rd_in h2 hi
  exact W.lald hx hb h1 h2.1 h2.2.1 q1 q2 rfl rfl hd kk
theorem sm_bald {a n : Nat} {t : FieldType} {f : Nat → Int32} {i : Int32} (hx : p.tables.exec = Jvm.exec) (hb : c.code = cc) (hP : sm_Rep ct D B H00 s g H) (hd : decode cc pc = .ok (.baload, 1)) (hv : am_ba g a = some (t, n, f)) (hi : am_inb i n = true)
    (kk : W p l e R s m args below meth c H locs cells slots Q (F0 m (pc + 1) ls (.int (f i.toInt.toNat) :: rest))) : W p l e R s m args below meth c H locs cells slots Q (F0 m pc ls (.int i :: .ref a :: rest)) := by
  obtain ⟨ha, ht⟩ := sm_ba hv
  obtain ⟨cell, h1, h2, -⟩ := sm_arr hP ha
  obtain ⟨q1, q2⟩ := sm_rd_in h2 hi
  rcases ht with rfl | rfl
  · exact W.bald hx hb h1 h2.1 h2.2.1 q1 q2 rfl rfl hd kk
  · exact W.zald hx hb h1 h2.1 h2.2.1 q1 q2 rfl rfl hd kk
theorem sm_aald {a n : Nat} {C : String} {f : Nat → Option Nat} {i : Int32} (hx : p.tables.exec = Jvm.exec) (hb : c.code = cc) (hP : sm_Rep ct D B H00 s g H) (hd : decode cc pc = .ok (.aaload, 1)) (hv : am_qa g a = some (C, n, f)) (hi : am_inb i n = true)
    (kk : W p l e R s m args below meth c H locs cells slots Q (F0 m (pc + 1) ls (va_rf (f i.toInt.toNat) :: rest))) : W p l e R s m args below meth c H locs cells slots Q (F0 m pc ls (.int i :: .ref a :: rest)) := by
  obtain ⟨cell, h1, h2, -⟩ := sm_arr hP (sm_qa hv)
  obtain ⟨q1, q2⟩ := sm_rd_in h2 hi
  exact W.aald (ty := .object C) hx hb h1 h2.1 rfl h2.2.1 q1 q2 rfl rfl hd kk
/-- an array of our own, one place written -/
theorem sm_at_arr {a n : Nat} {t : FieldType} {y y' : vp_A} {cA : ClassId} {H1 : Heap} {j : Nat} {v : Value} (h2 : ArrOfT s cA t) (h3 : va_RA s cA t) (e1 : H1[a]? = some ((vp_cell cA y).setSlot j v)) (hy : y'.1 = y.1) (hf : sm_el y' = updV (sm_el y) j v) : sm_at ct D B s a (.inl (t, y')) H1 := by
  have hc : (vp_cell cA y).setSlot j v = vp_cell cA y' := by
    rw [sm_cell, sm_cell, arrV_store, hy, hf]
  rw [hc] at e1
  exact ⟨_, e1, sm_rd_of h2, fun _ => ⟨cA, rfl, h2, h3⟩⟩
theorem sm_iast {a n : Nat} {f : Nat → Int32} {i v : Int32} (hx : p.tables.exec = Jvm.exec) (hb : c.code = cc) (hP : sm_Rep ct D B H00 s g H) (hd : decode cc pc = .ok (.iastore, 1)) (hv : am_ia g .int a = some (n, f)) (hi : am_inb i n = true) (hB : B ≤ a)
    (kk : ∀ (H1 : Heap) (j : Nat), sm_Rep ct D B H00 s (am_set g a (.inl (.int, n, .inl (upd f i.toInt.toNat v)))) H1 → W p l e R s m args below meth c H1 (locs ++ [⟨a, j⟩]) cells slots Q (F0 m (pc + 1) ls rest)) : W p l e R s m args below meth c H locs cells slots Q (F0 m pc ls (.int v :: .int i :: .ref a :: rest)) := by
  obtain ⟨cell, h1, h2, h3⟩ := sm_arr hP (sm_ia hv)
  obtain ⟨q1, q2⟩ := sm_rd_in h2 hi
  obtain ⟨cA, rfl, h4, h5⟩ := h3 hB
  refine W.iast hx hb h1 h2.1 h2.2.1 q1 rfl rfl hd fun H1 e1 z oq => kk H1 _ (hP.set hB (sm_at_arr (n := n) h4 h5 e1 rfl ?_) z oq)
  funext q
  show Value.int (upd f i.toInt.toNat v q) = updV (fun j => .int (f j)) i.toNatClampNeg (.int v) q
  rw [show i.toInt.toNat = i.toNatClampNeg from rfl]
  by_cases hq : q = i.toNatClampNeg
  · subst hq
    simp [updV, upd]
  · simp [updV, upd, hq]
theorem sm_last {a n : Nat} {f : Nat → Int64} {i : Int32} {v : Int64} (hx : p.tables.exec = Jvm.exec) (hb : c.code = cc) (hP : sm_Rep ct D B H00 s g H) (hd : decode cc pc = .ok (.lastore, 1)) (hv : am_la g a = some (n, f)) (hi : am_inb i n = true) (hB : B ≤ a)
    (kk : ∀ (H1 : Heap) (j : Nat), sm_Rep ct D B H00 s (am_set g a (.inl (.long, n, .inr (.inl (vp_updL f i.toInt.toNat v))))) H1 → W p l e R s m args below meth c H1 (locs ++ [⟨a, j⟩]) cells slots Q (F0 m (pc + 1) ls rest)) : W p l e R s m args below meth c H locs cells slots Q (F0 m pc ls (.long v :: .int i :: .ref a :: rest)) := by
  obtain ⟨cell, h1, h2, h3⟩ := sm_arr hP (sm_la hv)
  obtain ⟨q1, q2⟩ := sm_rd_in h2 hi
  obtain ⟨cA, rfl, h4, h5⟩ := h3 hB
  refine W.last hx hb h1 h2.1 h2.2.1 q1 rfl rfl hd fun H1 e1 z oq => kk H1 _ (hP.set hB (sm_at_arr (n := n) h4 h5 e1 rfl ?_) z oq)
  funext q
  show Value.long (vp_updL f i.toInt.toNat v q) = updV (fun j => .long (f j)) i.toNatClampNeg (.long v) q
  rw [show i.toInt.toNat = i.toNatClampNeg from rfl]
  by_cases hq : q = i.toNatClampNeg
  · subst hq
    simp [updV, vp_updL]
  · simp [updV, vp_updL, hq]
theorem sm_bast {a n : Nat} {t : FieldType} {f : Nat → Int32} {i v : Int32} (hx : p.tables.exec = Jvm.exec) (hb : c.code = cc) (hP : sm_Rep ct D B H00 s g H) (hd : decode cc pc = .ok (.bastore, 1)) (hv : am_ba g a = some (t, n, f)) (hi : am_inb i n = true) (hB : B ≤ a)
    (kk : ∀ (H1 : Heap) (j : Nat), sm_Rep ct D B H00 s (am_set g a (.inl (t, n, .inl (upd f i.toInt.toNat (vp_nar t v))))) H1 → W p l e R s m args below meth c H1 (locs ++ [⟨a, j⟩]) cells slots Q (F0 m (pc + 1) ls rest)) : W p l e R s m args below meth c H locs cells slots Q (F0 m pc ls (.int v :: .int i :: .ref a :: rest)) := by
  obtain ⟨ha, ht⟩ := sm_ba hv
  obtain ⟨cell, h1, h2, h3⟩ := sm_arr hP ha
  obtain ⟨q1, q2⟩ := sm_rd_in h2 hi
  obtain ⟨cA, rfl, h4, h5⟩ := h3 hB
  have key : ∀ (w : Value), w = .int (vp_nar t v) → sm_el (n, .inl (upd f i.toInt.toNat (vp_nar t v))) = updV (sm_el (n, .inl f)) i.toNatClampNeg w := by
    intro w hw
    subst hw
    funext q
    show Value.int (upd f i.toInt.toNat (vp_nar t v) q) = updV (fun j => .int (f j)) i.toNatClampNeg (.int (vp_nar t v)) q
    rw [show i.toInt.toNat = i.toNatClampNeg from rfl]
    by_cases hq : q = i.toNatClampNeg
    · subst hq
      simp [updV, upd]
    · simp [updV, upd, hq]
  rcases ht with rfl | rfl
  · exact W.bast hx hb h1 h2.1 h2.2.1 q1 rfl rfl hd fun H1 e1 z oq => kk H1 _ (hP.set hB (sm_at_arr (n := n) h4 h5 e1 rfl (key _ rfl)) z oq)
  · exact W.zast hx hb h1 h2.1 h2.2.1 q1 rfl rfl hd fun H1 e1 z oq => kk H1 _ (hP.set hB (sm_at_arr (n := n) h4 h5 e1 rfl (key _ rfl)) z oq)
theorem sm_cls {a k : Nat} (h : am_cls g a = some k) : ∃ fs, g.1 a = some (.inr (k, fs)) := by
  unfold am_cls at h
  split at h
  · rename_i k' fs ha
    cases h
    exact ⟨fs, ha⟩
  · cases h
theorem sm_aast {a n v k : Nat} {C : String} {f : Nat → Option Nat} {i : Int32} (hx : p.tables.exec = Jvm.exec) (hb : c.code = cc) (hK : ∀ (ci : Nat) (r : am_C), ct[ci]? = some r → sm_K s D ci r) (hP : sm_Rep ct D B H00 s g H) (hd : decode cc pc = .ok (.aastore, 1)) (hv : am_qa g a = some (C, n, f)) (hk : am_cls g v = some k) (hC : (ct[k]?).map (fun q => q.1) = some C) (hi : am_inb i n = true) (hB : B ≤ a)
    (kk : ∀ (H1 : Heap) (j : Nat), sm_Rep ct D B H00 s (am_set g a (.inl (.object C, n, .inr (.inr (.inr (.inr (va_up f i.toInt.toNat (some v)))))))) H1 → W p l e R s m args below meth c H1 (locs ++ [⟨a, j⟩]) cells slots Q (F0 m (pc + 1) ls rest)) : W p l e R s m args below meth c H locs cells slots Q (F0 m pc ls (.ref v :: .int i :: .ref a :: rest)) := by
  obtain ⟨cell, h1, h2, h3⟩ := sm_arr hP (sm_qa hv)
  obtain ⟨q1, q2⟩ := sm_rd_in h2 hi
  obtain ⟨cA, rfl, h4, h5⟩ := h3 hB
  obtain ⟨fs, hfs⟩ := sm_cls hk
  obtain ⟨r, cellV, g1, g2, g3, g4, g5, -⟩ := hP.2.2.2.1 v _ hfs
  rw [g1] at hC
  cases hC
  have hcls := (hK k r g1).2
  obtain ⟨kA, comp, k1, k2, k3, -⟩ := id h5
  have hcomp : comp = D.1 k := Option.some.inj (k3.symm.trans hcls.1)
  subst hcomp
  obtain ⟨kC, hkC, -⟩ := hcls.2
  refine W.aast hx hb h1 h2.1.1 h2.2.1 k1 k2 rfl hkC ⟨fun z => q1 (Or.inl z), by have := mt Or.inr q1; omega⟩ g2 (fun q z => by rw [z] at g5; cases g5) (by rw [g3]; exact hkC) (by rw [g3]; exact sm_asg) rfl rfl hd fun H1 e1 z oq => kk H1 _ (hP.set hB (sm_at_arr (n := n) h4 h5 e1 rfl ?_) z oq)
  funext q
  show va_rf (va_up f i.toInt.toNat (some v) q) = updV (fun j => va_rf (f j)) i.toNatClampNeg (.ref v) q
  rw [show i.toInt.toNat = i.toNatClampNeg from rfl]
  by_cases hq : q = i.toNatClampNeg
  · subst hq
    simp [updV, va_up, va_rf]
  · simp [updV, va_up, hq]
theorem sm_fld {ci k : Nat} {ty : FieldType} {fin : Bool} (h : am_fld ct ci k = some (ty, fin)) : ∃ r : am_C, ct[ci]? = some r ∧ k < r.2.2.1 ∧ r.2.2.2.2 = true ∧ ty = r.2.2.2.1 k ∧ fin = (r.2.1 k).2.2.2 := by
  unfold am_fld at h
  split at h
  · rename_i r hr
    split at h
    · rename_i h1
      cases h
      exact ⟨r, hr, h1.1, h1.2, rfl, rfl⟩
    · cases h
  · cases h
theorem sm_putfield {k a : Nat} {v : Value} (hx : p.tables.exec = Jvm.exec) (hb : c.code = cc) (hown : s.vm.findClass (am_name M).cls = some m.cls) (hts : ∀ w ∈ lw_g, w.before args s = true) (hC : ∀ r ∈ ct, am_okC r = true) (hK : ∀ (ci : Nat) (r : am_C), ct[ci]? = some r → sm_K s D ci r) (hP : sm_Rep ct D B H00 s g H) (hin : am_kind M = 2 → meth.name = "<init>")
    (hw : am_okW ct sT sS M pc (.putfield k) r1 r2 r3 = true) (hd : decode cc pc = .ok (.putfield k, 3)) (hv : am_put ct M B g v a r1 r2 = some g')
    (kk : ∀ (H1 : Heap) (j : Nat), B ≤ a → sm_Rep ct D B H00 s g' H1 → W p l e R s m args below meth c H1 (locs ++ [⟨a, j⟩]) cells slots Q (F0 m (pc + 3) ls rest)) : W p l e R s m args below meth c H locs cells slots Q (F0 m pc ls (v :: .ref a :: rest)) := by
  simp only [am_okW, Bool.and_eq_true] at hw
  obtain ⟨hw1, hw2⟩ := hw
  obtain ⟨r, hr, hi, hlk⟩ := sm_okFld hts hw1
  unfold am_put at hv
  split at hv
  · rename_i ty fin k' hf hk
    split at hv
    · rename_i h0
      cases hv
      obtain ⟨rfl, hB, hfit, hfin, hsome⟩ := h0
      obtain ⟨r', hr', -, hrw, rfl, rfl⟩ := sm_fld hf
      cases hr.symm.trans hr'
      obtain ⟨fs, ha⟩ := sm_cls hk
      obtain ⟨r', cell, e1, e2, e3, e4, e5, e6, e7, e8⟩ := hP.2.2.2.1 a _ ha
      cases hr.symm.trans e1
      obtain ⟨q1, q2, q3⟩ := am_okC_spec (hC r (List.mem_of_getElem? hr)) hrw
      have hvm := e6 hrw
      have hKr := hK _ _ hr
      obtain ⟨cf, kf, fi, f, f1, f2, f3⟩ := hKr.1 r2 hi
      obtain ⟨hfc, kC, hkC, hkind⟩ := hKr.2
      replace hkind := hkind hrw
      have hn : narrow (r.2.2.2.1 r2) v = v := narrow_of_fits hfit
      have hslot : f.slot < cell.slots.size := by
        rw [f3]
        exact (Array.getElem?_eq_some_iff.mp (e7 r2 hi)).1
      have hap : ∀ j, j < r.2.2.1 → j ≠ r2 → D.2 k' j ≠ D.2 k' r2 := by
        intro j hj hne
        obtain ⟨cf', kf', fi', f', g1, g2, g3⟩ := hKr.1 j hj
        rw [← f3, ← g3]
        have n1 := State.fieldFound?_type g1 (q2 j hj)
        have n2 := State.fieldFound?_type f1 (q2 r2 hi)
        exact u_apart (u_lays hts q1 hj) (u_lays hts q1 hi) g1 f1 (by rw [n1.1, n2.1]; exact q3 j hj r2 hi hne)
      have hset : am_setF g a r2 v = am_set g a (.inr (k', fs.set r2 v)) := by
        unfold am_setF
        rw [ha]
      have hat : ∀ H1 : Heap, H1[a]? = some (cell.setSlot f.slot v) → sm_at ct D B s a (.inr (k', fs.set r2 v)) H1 := by
        intro H1 z
        refine ⟨r, _, hr, z, e3, e4, e5, e6, fun j hj => ?_, by rw [List.length_set]; exact e8⟩
        show (cell.slots.setIfInBounds f.slot v)[D.2 k' j]? = some (vp_V (fs.set r2 v) j)
        by_cases hj2 : j = r2
        · subst hj2
          rw [f3, Array.getElem?_setIfInBounds_self_of_lt (by rw [← f3]; exact hslot)]
          simp [vp_V, e8, hj]
        · rw [Array.getElem?_setIfInBounds_ne (by rw [f3]; exact (hap j hj hj2).symm), e7 j hj]
          simp [vp_V, List.getElem?_set_ne (Ne.symm hj2)]
      rw [hset] at kk
      by_cases hfi : (r.2.1 r2).2.2.2 = false
      · have hlay := hts _ (q1 _ (u_in_lay hi))
        unfold u_lay at hlay
        rw [if_neg (by rw [hfi]; decide)] at hlay
        have h6 := u_store hfc hkC hkind hlay f1 (q2 r2 hi) hn hfit
        rcases hlk with q | q
        · exact W.putK hx hb (f := f) ⟨hown, q, ⟨_, _, _, f1⟩, f2⟩ (by rw [e3]; exact h6) e2 hvm hslot rfl rfl hd fun H1 z1 z2 z3 => kk H1 _ hB (hP.set hB (hat H1 z1) z2 z3)
        · exact va_WputK hx hb (f := f) hown q f1 f2 (by rw [e3]; exact h6) e2 hvm hslot rfl rfl hd fun H1 z1 z2 z3 => kk H1 _ hB (hP.set hB (hat H1 z1) z2 z3)
      · have hfi2 : (r.2.1 r2).2.2.2 = true := by
          cases hz : (r.2.1 r2).2.2.2
          · exact absurd hz hfi
          · rfl
        rw [hr] at hw2
        simp only [hfi2, Bool.not_true, Bool.false_or, Bool.and_eq_true, decide_eq_true_eq] at hw2
        have hlay := hts _ (q1 _ (u_in_lay hi))
        unfold u_lay at hlay
        rw [if_pos hfi2] at hlay
        have h6 := u_fits hfc hkC hkind (Or.inr hlay) f1 (q2 r2 hi) hn hfit
        have hcf : m.cls = cf := by
          obtain ⟨_, _, c', _, _, _, -, -, hf', -, -, -, hown2, -⟩ := Cond.laysFinal_spec hlay
          have e1 : c' = cf := by
            have := f1.symm.trans hf'
            simp at this
            exact this.1.symm
          rw [hw2.1] at hown2
          rw [← e1]
          exact Option.some.inj (hown.symm.trans hown2)
        exact W.putFinK hx hb hown (hts _ (am_has_mem hw2.2)) f1 f2 hcf (hin (hfin.resolve_left hfi)) (by rw [e3]; exact h6) e2 hvm hslot rfl rfl hd fun H1 z1 z2 z3 => kk H1 _ hB (hP.set hB (hat H1 z1) z2 z3)
    · cases hv
  · cases hv
/-- a new object -/
theorem sm_newobj {k ci : Nat} {C : am_C} (hx : p.tables.exec = Jvm.exec) (hb : c.code = cc) (hown : s.vm.findClass (am_name M).cls = some m.cls) (hts : ∀ w ∈ lw_g, w.before args s = true) (hC : ∀ r ∈ ct, am_okC r = true) (hK : ∀ (ci : Nat) (r : am_C), ct[ci]? = some r → sm_K s D ci r) (hP : sm_Rep ct D B H00 s g H)
    (hc : ct[ci]? = some C) (hrw : C.2.2.2.2 = true) (hcl : (Cond.classLink (am_name M).cls k C.1).before args s = true) (hins : (Cond.instantiable C.1 C.2.2.1).before args s = true) (hini : (Cond.initialized C.1).before args s = true) (hd : decode cc pc = .ok (.new k, 3)) (hcells : cells + 1 ≤ R.cells) (hslots : slots + C.2.2.1 ≤ R.slots)
    (kk : ∀ H1 : Heap, sm_Rep ct D B H00 s (am_new g (.inr (ci, am_dfl ct ci)) (am_dfl ct ci).length) H1 → W p l e R s m args below meth c H1 locs (cells + 1) (slots + C.2.2.1) Q (F0 m (pc + 3) ls (.ref g.2.1 :: rest))) : W p l e R s m args below meth c H locs cells slots Q (F0 m pc ls rest) := by
  obtain ⟨q1, q2, q3⟩ := am_okC_spec (hC C (List.mem_of_getElem? hc)) hrw
  have hKr := hK _ _ hc
  have hdf : am_dfl ct ci = (List.range C.2.2.1).map fun k => defaultValue (C.2.2.2.1 k) := by
    unfold am_dfl
    rw [hc]
  refine W.newcK hx hb hown hcl hins hini rfl hd hcells hslots hKr.2.1 hP.1 fun H1 kC hkC e1 z1 o1 => kk H1 (hP.new ?_ (by rw [z1, hP.1]) (by rw [hP.1]; exact o1))
  rw [hP.1]
  refine ⟨C, _, hc, e1, rfl, (fun q => nomatch q), rfl, fun _ => rfl, fun j hj => ?_, by rw [hdf]; simp⟩
  obtain ⟨cf, kf, fi, f, f1, f2, f3⟩ := hKr.1 j hj
  have h3 := (u_facts hKr.2.1 hkC (u_lays hts q1 hj) f1).2.2
  rw [(State.fieldFound?_type f1 (q2 j hj)).2] at h3
  rw [← f3, k2_blank h3, hdf]
  simp [vp_V, hj]
theorem sm_at_new {t : FieldType} {y : vp_A} {cA : ClassId} {H1 : Heap} {a : Nat} (e1 : H1[a]? = some (vp_cell cA y)) (h2 : ArrOfT s cA t) (h3 : va_RA s cA t) : sm_at ct D B s a (.inl (t, y)) H1 := ⟨_, e1, sm_rd_of h2, fun _ => ⟨cA, rfl, h2, h3⟩⟩
theorem sm_newarr {t : ArrayType} {n : Int32} {y : vp_A} (hx : p.tables.exec = Jvm.exec) (hb : c.code = cc) (hP : sm_Rep ct D B H00 s g H) (harr : (Cond.arrayClass (newarray.typeOf t)).before args s = true) (hd : decode cc pc = .ok (.newarray t, 2)) (hn : 0 ≤ n.toInt) (hn2 : n.toInt ≤ 65536)
    (hy : ∀ cA : ClassId, vp_cell cA y = arrV cA n.toInt.toNat (fun _ => defaultValue (newarray.typeOf t))) (hcells : cells + 1 ≤ R.cells) (hslots : slots + n.toInt.toNat ≤ R.slots)
    (kk : ∀ H1 : Heap, sm_Rep ct D B H00 s (am_new g (.inl (newarray.typeOf t, y)) n.toInt.toNat) H1 → W p l e R s m args below meth c H1 locs (cells + 1) (slots + n.toInt.toNat) Q (F0 m (pc + 2) ls (.ref g.2.1 :: rest))) : W p l e R s m args below meth c H locs cells slots Q (F0 m pc ls (.int n :: rest)) := by
  refine va_newaK hx hb harr rfl hd rfl (fun q => by have := Int32.lt_iff_toInt_lt.mp q; simp at this; omega) rfl ?_ hcells hslots hP.1 fun H1 cA e1 z1 o1 hAr hNm => kk H1 (hP.new ?_ (by rw [z1, hP.1]) (by rw [hP.1]; exact o1))
  · have h8 : componentBytes (newarray.typeOf t) ≤ 8 := by cases t <;> decide
    have h9 : n.toInt.toNat ≤ 65536 := by omega
    calc n.toInt.toNat * componentBytes (newarray.typeOf t) ≤ 65536 * 8 := Nat.mul_le_mul h9 h8
      _ ≤ 536870912 := by decide
  · rw [hP.1]
    exact sm_at_new (e1.trans (congrArg some (hy cA).symm)) hAr (by cases t <;> exact hNm)
theorem sm_newq {k ci : Nat} {C : am_C} {n : Int32} (hx : p.tables.exec = Jvm.exec) (hb : c.code = cc) (hown : s.vm.findClass (am_name M).cls = some m.cls) (hP : sm_Rep ct D B H00 s g H) (hcl : (Cond.classLink (am_name M).cls k C.1).before args s = true) (hover : (Cond.arrayOver (.object C.1)).before args s = true) (hd : decode cc pc = .ok (.anewarray k, 3)) (hn : 0 ≤ n.toInt) (hn2 : n.toInt ≤ 65536) (hcells : cells + 1 ≤ R.cells) (hslots : slots + n.toInt.toNat ≤ R.slots)
    (kk : ∀ H1 : Heap, sm_Rep ct D B H00 s (am_new g (.inl (.object C.1, n.toInt.toNat, .inr (.inr (.inr (.inr fun _ => none))))) n.toInt.toNat) H1 → W p l e R s m args below meth c H1 locs (cells + 1) (slots + n.toInt.toNat) Q (F0 m (pc + 3) ls (.ref g.2.1 :: rest))) : W p l e R s m args below meth c H locs cells slots Q (F0 m pc ls (.int n :: rest)) := by
  refine W.anew hx hb hown hcl hover rfl hd rfl (fun q => by have := Int32.lt_iff_toInt_lt.mp q; simp at this; omega) (by show n.toInt.toNat * 4 ≤ _; omega) hcells hslots fun cA kA comp f1 f2 f3 f4 => ?_
  rw [hP.1]
  refine kk _ (hP.new (sm_at_new (cA := cA) ?_ (fun n z => ⟨fun k h => (by cases h), kA, f2, comp, f3⟩) ⟨kA, comp, f2, f3, f4, f1⟩) (Array.size_push _) fun q hq => ?_)
  · rw [Array.getElem?_push_size, vp_cell_q, ← arrV_new]
    rfl
  · rw [Array.getElem?_push, if_neg (Nat.ne_of_lt hq)]
end SMH
