/-! ===== the start: the classes ===== -/
section St
variable {s : State} {args : Array Value}
def st_F (s : State) (T : u_T) (k i : Nat) : Prop := ∃ (cf : ClassId) (kf : Class) (fi : Nat) (f : Field), s.fieldFound? (T k).1 (T k).2.1 (T k).2.2.1 = some (cf, kf, fi, f) ∧ f.isStatic = false ∧ f.slot = i
theorem fd_of {C O f d : String} (h : (Cond.lays C O f d).before args s = true ∨ (Cond.laysFinal C O f d).before args s = true) : ∃ (i : Nat) (cf : ClassId) (kf : Class) (fi : Nat) (fd : Field), s.fieldFound? O f d = some (cf, kf, fi, fd) ∧ fd.isStatic = false ∧ fd.slot = i := by
  rcases h with h | h
  · obtain ⟨c, k, c', k', i, f, h1, h2, h3, h4, -⟩ := Cond.lays_spec h
    exact ⟨f.slot, c', k', i, f, h3, h4, rfl⟩
  · obtain ⟨c, k, c', k', i, f, h1, h2, h3, h4, -⟩ := Cond.laysFinal_spec h
    exact ⟨f.slot, c', k', i, f, h3, h4, rfl⟩
theorem fds_of {C : String} {T : u_T} {N : Nat} (hw : ∀ w : Cond, w ∈ u_ws C T N → w.before args s = true) : ∃ iS : Nat → Nat, ∀ k, k < N → st_F s T k (iS k) := by
  have h : ∀ k, ∃ i, k < N → st_F s T k i := fun k => by
    by_cases hk : k < N
    · obtain ⟨i, h⟩ := fd_of (u_lays (ws := u_ws C T N) hw (fun _ h => h) hk)
      exact ⟨i, fun _ => h⟩
    · exact ⟨0, fun q => absurd q hk⟩
  exact ⟨fun k => Classical.choose (h k), fun k hk => Classical.choose_spec (h k) hk⟩
theorem st_words : ∀ r ∈ tb_ct.take 14, ((u_ws r.1 r.2.1 r.2.2.1).all fun w => lw_in w) = true := by decide +kernel
theorem st_inst : ∀ r ∈ tb_ct.take 14, lw_in (Cond.instantiable r.1 r.2.2.1) = true := by decide +kernel
theorem st_row (hg : ∀ w ∈ lw_g, w.before args s = true) (hV : ∃ (cC : ClassId) (iS : Nat → Nat), (∀ k, k < 6 → st_F s tb_TV k (iS k)) ∧ sm_CA s RX10 cC false) : ∀ r : am_C, r ∈ tb_ct → ∃ (cC : ClassId) (iS : Nat → Nat), (∀ k, k < r.2.2.1 → st_F s r.2.1 k (iS k)) ∧ sm_CA s r.1 cC r.2.2.2.2 := by
  intro r hr
  have hr2 : r ∈ tb_ct.take 14 ++ [(RX10, tb_TV, 6, tb_tyV, false)] := hr
  rcases List.mem_append.mp hr2 with h | h
  · obtain ⟨iS, hF⟩ := fds_of (C := r.1) (T := r.2.1) (N := r.2.2.1) (fun w hw => hg w (lw_in_mem (List.all_eq_true.mp (st_words r h) w hw)))
    obtain ⟨c, k, h1, h2, h3, -⟩ := Cond.instantiable_spec (hg _ (lw_in_mem (st_inst r h)))
    exact ⟨c, iS, hF, h1, k, h2, fun _ => h3⟩
  · have e : r = (RX10, tb_TV, 6, tb_tyV, false) := List.mem_singleton.mp h
    rw [e]
    exact hV
theorem st_D (hg : ∀ w ∈ lw_g, w.before args s = true) (hV : ∃ (cC : ClassId) (iS : Nat → Nat), (∀ k, k < 6 → st_F s tb_TV k (iS k)) ∧ sm_CA s RX10 cC false) : ∃ D : va_G, ∀ (ci : Nat) (r : am_C), tb_ct[ci]? = some r → sm_K s D ci r := by
  have h : ∀ ci : Nat, ∃ p : ClassId × (Nat → Nat), ∀ r : am_C, tb_ct[ci]? = some r → (∀ k, k < r.2.2.1 → st_F s r.2.1 k (p.2 k)) ∧ sm_CA s r.1 p.1 r.2.2.2.2 := fun ci => by
    rcases hc : tb_ct[ci]? with _ | r
    · exact ⟨(0, fun _ => 0), fun r e => absurd e (fun e => by cases e)⟩
    · obtain ⟨cC, iS, h1, h2⟩ := st_row hg hV r (List.mem_of_getElem? hc)
      refine ⟨(cC, iS), fun r' e => ?_⟩
      have e2 : r = r' := Option.some.inj e
      subst e2
      exact ⟨h1, h2⟩
  exact ⟨(fun ci => (Classical.choose (h ci)).1, fun ci => (Classical.choose (h ci)).2), fun ci r hr => Classical.choose_spec (h ci) r hr⟩
end St
