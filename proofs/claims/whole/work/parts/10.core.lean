/-! ===== THE CORE: the real machine follows the abstract one through a method ===== -/
section Core
variable {p : Program} {l : Launch} {e : Env} {R : Room} {s : State} {m : MethodId} {args : Array Value} {below : List Frame} {meth : Method} {c : Code} {H : Heap} {locs : List Loc} {Q : State → Prop}
variable {pc : Nat} {ls : Array Slot} {L st : List Value} {te : Nat → Value} {ct : List am_C} {mt : List am_M} {sT : List (String × String × String)} {sS : List (String × Nat × String)} {M N : am_M} {B : Nat} {D : va_G} {H00 : Heap} {g g' g0 gz : am_S} {o oz : am_O}
/-- what a method's body stands on -/
def sm_Bod (ct : List am_C) (sT : List (String × String × String)) (sS : List (String × Nat × String)) (D : va_G) (B : Nat) (H00 : Heap) (te : Nat → Value) (p : Program) (l : Launch) (s : State) (m : MethodId) (args : Array Value) (meth : Method) (c : Code) (M : am_M) : Prop :=
  (p.tables.exec = Jvm.exec ∧ c.code = am_bytes M ∧ c.maxLocals = am_maxL M ∧ s.vm.findClass (am_name M).cls = some m.cls ∧ ∀ w ∈ lw_g, w.before args s = true) ∧ sm_env ct sT sS D B H00 te s ∧ meth.sig.returnType = am_retT M ∧ meth.locks = false ∧ (am_kind M = 2 → meth.name = "<init>") ∧ c.exceptionTable.toList = tableOf (am_tab (am_hh M)) ∧ l.stackTraces = false
/-- the frame's place in a run from g0 to gz -/
abbrev sm_W (ct : List am_C) (D : va_G) (B : Nat) (H00 : Heap) (p : Program) (l : Launch) (e : Env) (R : Room) (s : State) (m : MethodId) (args : Array Value) (below : List Frame) (meth : Method) (c : Code) (g0 gz : am_S) (oz : am_O) (H : Heap) (locs : List Loc) (g : am_S) (pc : Nat) (ls : Array Slot) (st : List Value) : Prop :=
  W p l e R s m args below meth c H locs (g.2.1 - g0.2.1) (g.2.2.1 - g0.2.2.1) (vx_MQ below (sm_Qc ct D B H00 oz gz) (sm_XC ct D B H00 oz gz) args s (gz.2.1 - g0.2.1) (gz.2.2.1 - g0.2.2.1) (fun a => B ≤ a)) (F0 m pc ls st)
/-- an exception that came out of a call -/
theorem sm_thrown {rest : List Value} {E : Nat} {q9 : Addr} {ce : Cell} {t : am_T} (hB : sm_Bod ct sT sS D B H00 te p l s m args meth c M) (hok : am_okMeth ct mt sT sS M = true) (h : am_thr M pc E L g = some t) (hL : sm_L ls (am_maxL M) L) (hP : sm_Rep ct D B H00 s g H) (hE : E < 2) (hl : ∀ z ∈ locs, B ≤ z.base)
    (hc : H[q9]? = some ce) (hv : ce.vm = .none) (hcl : s.vm.findClass (am_exn E) = some ce.cls) (h0 : am_le g0 g) (hz : am_le g gz)
    (kk : ∀ (pc' : Nat) (L' st' : List Value) (ls' : Array Slot), t = .inl (pc', L', st', g) → sm_L ls' (am_maxL M) L' → sm_W ct D B H00 p l e R s m args below meth c g0 gz oz H locs g pc' ls' st') (ht : t = .inr (.inr E, g) → oz = .inr E ∧ gz = g) :
    vx_W p l e R s m args below meth c H locs (g.2.1 - g0.2.1) (g.2.2.1 - g0.2.2.1) (vx_MQ below (sm_Qc ct D B H00 oz gz) (sm_XC ct D B H00 oz gz) args s (gz.2.1 - g0.2.1) (gz.2.2.1 - g0.2.2.1) (fun a => B ≤ a)) (F0 m pc ls rest) q9 := by
  obtain ⟨⟨hx, hb, hml, hown, hts⟩, henv, hrt, hlk, hin, htab, hst⟩ := hB
  unfold am_thr at h
  split at h
  · rename_i hh
    cases h
    obtain ⟨rfl, rfl⟩ := ht rfl
    have hnil : c.exceptionTable.toList = [] := by rw [htab, hh]; rfl
    refine vx_out (ce := ce) (E := am_exn E) (by rw [hnil]; intro x hx; cases hx) hlk hc hv hcl (fun t h1 h2 => ⟨E, rfl, rfl, hE, by rw [h1]; exact hP.moved h2⟩) hl (Nat.le_refl _) (Nat.le_refl _)
  · rename_i hh
    split at h
    · rename_i hp hhand
      simp only [am_okMeth, Bool.and_eq_true] at hok
      obtain ⟨⟨-, hokh⟩, hrows⟩ := hok
      have hrow : ∀ {i : Instr} {y : Nat × Nat × Nat × Nat × List Nat}, (am_code M).lookup hp = some (i, y) → decode (am_bytes M) hp = .ok (i, y.1) ∧ (am_ilen i = some y.1 ∨ am_isSw i = true) := by
        intro i y hy
        have h1 := List.all_eq_true.mp hrows _ (am_lookup hy)
        simp only [am_okRow, Bool.and_eq_true, Bool.or_eq_true, decide_eq_true_eq] at h1
        exact ⟨h1.1.1.1, h1.1.1.2⟩
      split at h
      · rename_i i y hy
        split at h
        · rename_i hi
          cases h
          obtain ⟨d1, d2⟩ := hrow hy
          have d3 : y.1 = 1 := by
            rcases d2 with d2 | d2
            · exact (Option.some.inj d2).symm
            · cases d2
          rw [d3] at d1
          refine sm_catch hown hts henv hokh htab hE hhand hc hv hcl ?_
          exact lv_astore_n hx hb d1 rfl hL.has (hL.1 ▸ hi) rfl fun ls' hl' => kk _ _ _ ls' rfl (sm_L.un (v := .ref q9) (sm_L.st1 hL.1 rfl hl') rfl)
        · cases h
      · rename_i i y hy
        split at h
        · rename_i hi
          cases h
          obtain ⟨d1, d2⟩ := hrow hy
          have d3 : y.1 = 2 := by
            rcases d2 with d2 | d2
            · exact (Option.some.inj d2).symm
            · cases d2
          rw [d3] at d1
          refine sm_catch hown hts henv hokh htab hE hhand hc hv hcl ?_
          exact lv_astore hx hb d1 hL.has (hL.1 ▸ hi) rfl fun ls' hl' => kk _ _ _ ls' rfl (sm_L.un (v := .ref q9) (sm_L.st1 hL.1 rfl hl') rfl)
        · cases h
      · cases h
    · cases h
/-- the ends -/
theorem sm_ends {x : Instr} {len : Nat} {t : am_T} (hB : sm_Bod ct sT sS D B H00 te p l s m args meth c M) (hd : decode (am_bytes M) pc = .ok (x, len)) (hlen : am_ilen x = some len ∨ am_isSw x = true) (h : am_ret M x st g = some t) (hP : sm_Rep ct D B H00 s g H) (hl : ∀ z ∈ locs, B ≤ z.base)
    (ht : ∀ v, t = .inr (.inl v, g) → oz = .inl v ∧ gz = g) : sm_W ct D B H00 p l e R s m args below meth c g0 gz oz H locs g pc ls st := by
  obtain ⟨⟨hx, hb, hml, hown, hts⟩, henv, hrt, hlk, hin, htab, hst⟩ := hB
  have hq : ∀ v, oz = .inl v → gz = g → ∀ t : State, t.heap = H → s.WarmedH t.vm → sm_Qc ct D B H00 oz gz args s (.returned v) t := by
    intro v h1 h2 t h3 h4
    refine ⟨v, h1, rfl, ?_⟩
    rw [h3, h2]
    exact hP.moved h4.alike
  have hlen1 : ∀ {y : Instr}, x = y → am_ilen y = some 1 → am_isSw y = false → decode (am_bytes M) pc = .ok (y, 1) := by
    intro y h1 h2 h3
    subst h1
    rcases hlen with q | q
    · cases h2.symm.trans q; exact hd
    · rw [h3] at q; cases q
  unfold am_ret at h
  split at h
  · have d := hlen1 rfl rfl rfl
    repeat' split at h
    all_goals first
      | (cases h; done)
      | skip
    rename_i h1
    cases h
    obtain ⟨e1, rfl⟩ := ht _ rfl
    exact vx_ret (W.vret hx hb (hrt.trans h1) (hq _ e1 rfl) hl d hlk)
  · have d := hlen1 rfl rfl rfl
    repeat' split at h
    all_goals first
      | (cases h; done)
      | skip
    rename_i ty h1 h2
    cases h
    obtain ⟨e1, rfl⟩ := ht _ rfl
    exact vx_ret (W.zret hx hb (hrt.trans h1) (narrow_of_fits h2) (hq _ e1 rfl) hl d hlk)
  · have d := hlen1 rfl rfl rfl
    repeat' split at h
    all_goals first
      | (cases h; done)
      | skip
    rename_i h1
    cases h
    obtain ⟨e1, rfl⟩ := ht _ rfl
    exact vx_ret (W.lret hx hb (hrt.trans h1) (hq _ e1 rfl) hl d hlk)
  · have d := hlen1 rfl rfl rfl
    repeat' split at h
    all_goals first
      | (cases h; done)
      | skip
    rename_i h1
    cases h
    obtain ⟨e1, rfl⟩ := ht _ rfl
    exact vx_ret (W.fret hx hb (hrt.trans h1) (hq _ e1 rfl) hl d hlk)
  · have d := hlen1 rfl rfl rfl
    repeat' split at h
    all_goals first
      | (cases h; done)
      | skip
    rename_i h1
    cases h
    obtain ⟨e1, rfl⟩ := ht _ rfl
    exact vx_ret (W.dret hx hb (hrt.trans h1) (hq _ e1 rfl) hl d hlk)
  · have d := hlen1 rfl rfl rfl
    repeat' split at h
    all_goals first
      | (cases h; done)
      | skip
    rename_i v ty h1 h2
    cases h
    obtain ⟨e1, rfl⟩ := ht _ rfl
    have hv := sm_isR h2.1
    have hty : (∃ n, ty = .object n) ∨ ∃ t, ty = .array t := by
      rcases hv with rfl | ⟨a, rfl⟩ <;> cases ty <;> first | exact Or.inl ⟨_, rfl⟩ | exact Or.inr ⟨_, rfl⟩ | (have := h2.2; simp [fits] at this)
    exact vx_ret (W.aret hx hb (hrt.trans h1) hty hv (hq _ e1 rfl) hl d hlk)
  · cases h
end Core
