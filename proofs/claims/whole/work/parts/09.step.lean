/-! ===== the heap only grows ===== -/
def am_le (g g' : am_S) : Prop := g.2.1 ≤ g'.2.1 ∧ g.2.2.1 ≤ g'.2.2.1 ∧ g'.2.2.2 = g.2.2.2
theorem am_le.rf (g : am_S) : am_le g g := ⟨Nat.le_refl _, Nat.le_refl _, rfl⟩
theorem am_le.tr {a b c : am_S} (h1 : am_le a b) (h2 : am_le b c) : am_le a c := ⟨Nat.le_trans h1.1 h2.1, Nat.le_trans h1.2.1 h2.2.1, h2.2.2.trans h1.2.2⟩
theorem am_le.nw (g : am_S) (e : am_E) (n : Nat) : am_le g (am_new g e n) := ⟨Nat.le_succ _, Nat.le_add_right _ _, rfl⟩
theorem am_le.st (g : am_S) (a : Nat) (e : am_E) : am_le g (am_set g a e) := am_le.rf g
theorem am_le.sf (g : am_S) (a k : Nat) (v : Value) : am_le g (am_setF g a k v) := by
  unfold am_setF
  split
  · exact am_le.st _ _ _
  · exact am_le.rf _
theorem am_le.bp (g : am_S) : am_le g (am_bump g) := ⟨Nat.le_succ _, Nat.le_add_right _ _, rfl⟩
section Le
variable {ct : List am_C} {mt : List am_M} {B : Nat} {M : am_M} {x : Instr} {pc len r1 r2 : Nat} {L st st' : List Value} {s s' : am_S}
theorem am_put_le {v : Value} {a k : Nat} (h : am_put ct M B s v a r1 k = some s') : am_le s s' := by
  unfold am_put at h
  split at h
  · split at h
    · cases h
      exact am_le.sf _ _ _ _
    · cases h
  · cases h
theorem am_heap_le (h : am_heap ct M B x r1 r2 st s = some (st', s')) : am_le s s' := by
  unfold am_heap at h
  repeat' split at h
  all_goals first
    | (cases h; done)
    | (cases h; first | exact am_le.rf _ | exact am_le.st _ _ _ | exact am_le.nw _ _ _)
    | (obtain ⟨v, hv, he⟩ := Option.map_eq_some_iff.mp h; cases he; first | exact am_le.rf _ | exact am_put_le hv)
theorem am_cpy_le {ty : FieldType} (h : am_cpy B ty st s = some (st', s')) : am_le s s' := by
  unfold am_cpy at h
  repeat' split at h
  all_goals first
    | (cases h; exact am_le.st _ _ _)
    | cases h
def am_tS : am_T → am_S
  | .inl (_, _, _, s) => s
  | .inr (_, s) => s
theorem am_thr_le {E : Nat} {t : am_T} (h : am_thr M pc E L s = some t) : am_tS t = s := by
  unfold am_thr at h
  repeat' split at h
  all_goals first
    | (cases h; rfl)
    | cases h
theorem am_ret_le {t : am_T} (h : am_ret M x st s = some t) : am_tS t = s := by
  unfold am_ret at h
  repeat' split at h
  all_goals first
    | (cases h; rfl)
    | cases h
variable {call : Nat → List Value → am_S → Option (am_O × am_S)}
theorem am_inv_le (hc : ∀ (k : Nat) (as : List Value) (g : am_S) (o : am_O) (g' : am_S), call k as g = some (o, g') → am_le g g') {k : Nat} {t : am_T} (h : am_inv mt call M pc k r2 L st s = some t) : am_le s (am_tS t) := by
  unfold am_inv at h
  split at h
  · split at h
    · split at h
      · rename_i q
        cases h
        exact hc _ _ _ _ _ q
      · rename_i q
        rw [am_thr_le h]
        exact hc _ _ _ _ _ q
      · cases h
    · cases h
  · cases h
theorem am_step_le (hc : ∀ (k : Nat) (as : List Value) (g : am_S) (o : am_O) (g' : am_S), call k as g = some (o, g') → am_le g g') {t : am_T} (h : am_step ct mt B call M pc L st s = some t) : am_le s (am_tS t) := by
  unfold am_step at h
  split at h
  · unfold am_ins at h
    split at h
    · cases h; exact am_le.rf _
    · split at h
      · cases h; exact am_le.rf _
      · split at h
        · cases h; exact am_le.rf _
        · split at h
          · rename_i q; cases h; exact am_heap_le q
          · split at h
            · rename_i q
              cases h
              rw [am_ret_le q]
              exact am_le.rf _
            · split at h
              · exact am_inv_le hc h
              · split at h
                · obtain ⟨q, hq, he⟩ := Option.map_eq_some_iff.mp h
                  cases he
                  exact am_cpy_le (st' := q.1) (s' := q.2) hq
                · split at h
                  · obtain ⟨q, hq, he⟩ := Option.map_eq_some_iff.mp h
                    cases he
                    exact am_cpy_le (st' := q.1) (s' := q.2) hq
                  · split at h
                    · obtain ⟨q, hq, he⟩ := Option.map_eq_some_iff.mp h
                      cases he
                      exact am_le.rf _
                    · exact am_inv_le hc h
              · split at h
                · split at h
                  · split at h
                    · cases h; exact am_le.rf _
                    · cases h
                  · cases h
                · exact am_inv_le hc h
              · split at h
                · cases h; exact am_le.bp _
                · cases h
              · cases h
  · cases h
theorem am_loop_le (hc : ∀ (k : Nat) (as : List Value) (g : am_S) (o : am_O) (g' : am_S), call k as g = some (o, g') → am_le g g') : ∀ (n pc : Nat) (L st : List Value) (s s' : am_S) (o : am_O), am_loop ct mt B call M n pc L st s = some (o, s') → am_le s s'
  | 0, _, _, _, _, _, _, h => by cases h
  | n + 1, pc, L, st, s, s', o, h => by
    unfold am_loop at h
    split at h
    · rename_i q
      exact (am_step_le hc q).tr (am_loop_le hc n _ _ _ _ _ _ h)
    · rename_i q
      cases h
      exact am_step_le hc q
    · cases h
theorem am_run_le (n : Nat) : ∀ (d k : Nat) (as : List Value) (s s' : am_S) (o : am_O), am_run ct mt B n d k as s = some (o, s') → am_le s s'
  | 0, _, _, _, _, _, h => by cases h
  | d + 1, k, as, s, s', o, h => by
    unfold am_run at h
    split at h
    · split at h
      · exact am_loop_le (fun k' as' g o' g' q => am_run_le n d k' as' g g' o' q) n _ _ _ _ _ _ h
      · cases h
    · cases h
end Le
/-! ===== what the tables must say of a whole method ===== -/
section OkAll
variable (ct : List am_C) (mt : List am_M) (sT : List (String × String × String)) (sS : List (String × Nat × String))
def am_isSw : Instr → Bool
  | .tableswitch _ _ _ _ => true
  | .lookupswitch _ _ => true
  | _ => false
def am_exSup : List String := ["java/lang/RuntimeException", "java/lang/Exception"]
def am_okThrow (M : am_M) (pc ik r1 r3 : Nat) : Bool :=
  (decide (r1 < 2) && am_has (r3 % 4096) (.classLink (am_name M).cls ik (am_exn r1)) && lw_in (.initialized (am_exn r1)) && (vx_at0 (am_name M).cls (r3 / 4096) (am_exn r1) am_exSup).all (fun w => lw_in w && vx_ot w)) &&
  (decide (decode (am_bytes M) (pc + 3) = .ok (.dup, 1)) && decide (decode (am_bytes M) (pc + 4) = .ok (.invokespecial (r3 / 4096), 3)) && decide (decode (am_bytes M) (pc + 7) = .ok (.athrow, 1)) && decide (6 ≤ am_lev M))
def am_okX (M : am_M) (pc : Nat) (x : Instr) (r1 r2 r3 : Nat) : Bool := match x with
  | .invokevirtual _ => am_okInv ct mt M x r1 r2 r3
  | .invokestatic ik => if r2 = 9 ∨ r2 = 19 then am_has r3 (.methodLink (am_name M).cls ik arraycopyName) && lw_in (.native arraycopyName) && lw_in (.static arraycopyName) && lw_in (.initialized "java/lang/System")
    else if r2 = 29 then am_has r3 (.methodLink (am_name M).cls ik Lib.Math.max.name) && lw_in (.static Lib.Math.max.name) && lw_in (.initialized "java/lang/Math") && lw_in (.code Lib.Math.max.name Lib.Math.max.code 2 (some .int))
    else if r2 = 39 then am_has r3 (.methodLink (am_name M).cls ik Lib.Math.min.name) && lw_in (.static Lib.Math.min.name) && lw_in (.initialized "java/lang/Math") && lw_in (.code Lib.Math.min.name Lib.Math.min.code 2 (some .int))
    else if r2 = 49 then am_has r3 (.methodLink (am_name M).cls ik Lib.Math.abs.name) && lw_in (.static Lib.Math.abs.name) && lw_in (.initialized "java/lang/Math") && lw_in (.code Lib.Math.abs.name Lib.Math.abs.code 1 (some .int))
    else am_okInv ct mt M x r1 r2 r3
  | .invokespecial ik => if r2 = 8 then am_has r3 (.methodLink (am_name M).cls ik Lib.objectInit) && lw_in (.instanceMethod Lib.objectInit) && lw_in (.code Lib.objectInit ⟨#[0xb1]⟩ 1 none) else am_okInv ct mt M x r1 r2 r3
  | .new ik => if r2 = 0 then (match ct[r1]? with
      | some C => C.2.2.2.2 && am_has r3 (.classLink (am_name M).cls ik C.1) && lw_in (.instantiable C.1 C.2.2.1) && lw_in (.initialized C.1)
      | none => false) else am_okThrow M pc ik r1 r3
  | .newarray t => am_has r3 (.arrayClass (newarray.typeOf t))
  | .anewarray k => (match ct[r1]? with
      | some C => am_has (r3 % 4096) (.classLink (am_name M).cls k C.1) && am_has (r3 / 4096) (.arrayOver (.object C.1))
      | none => false)
  | _ => true
def am_okRow (M : am_M) (w : am_X) : Bool := decide (decode (am_bytes M) w.1 = .ok (w.2.1, w.2.2.1)) && (decide (am_ilen w.2.1 = some w.2.2.1) || am_isSw w.2.1) && am_okW ct sT sS M w.1 w.2.1 w.2.2.2.1 w.2.2.2.2.1 w.2.2.2.2.2.1 && am_okX ct mt M w.1 w.2.1 w.2.2.2.1 w.2.2.2.2.1 w.2.2.2.2.2.1
def am_okMeth (M : am_M) : Bool := decide (2 ≤ am_lev M) && am_okHh M && (am_code M).all (am_okRow ct mt sT sS M)
end OkAll
theorem am_lookup {pc : Nat} {y : Instr × Nat × Nat × Nat × Nat × List Nat} : ∀ {l : List am_X}, l.lookup pc = some y → (pc, y) ∈ l
  | [], h => by cases h
  | (q, z) :: t, h => by
    unfold List.lookup at h
    split at h
    · rename_i e
      cases h
      have := beq_iff_eq.mp e
      subst this
      exact List.mem_cons_self
    · exact List.mem_cons_of_mem _ (am_lookup h)
