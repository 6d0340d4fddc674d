/-! ===== a method's run, whole ===== -/
def am_exL (vs : List Value) : List Value := vs.flatMap fun v => if v.category = 2 then [v, am_un] else [v]
theorem am_exL_at : ∀ (vs : List Value), (am_exL vs).length = (lg_sl vs).length ∧ ∀ (i : Nat) (v : Value), (am_exL vs)[i]? = some v → v ≠ am_un → (lg_sl vs)[i]? = some (.val v)
  | [] => ⟨rfl, fun i v h => by simp [am_exL] at h⟩
  | a :: r => by
    obtain ⟨h1, h2⟩ := am_exL_at r
    by_cases hc : a.category = 2
    · have e1 : am_exL (a :: r) = a :: am_un :: am_exL r := by simp [am_exL, hc]
      have e2 : lg_sl (a :: r) = .val a :: .second :: lg_sl r := by simp [lg_sl, hc]
      rw [e1, e2]
      refine ⟨by simp [h1], fun i v h hv => ?_⟩
      rcases i with _ | _ | i
      · simp at h ⊢
        exact h
      · simp at h
        exact absurd h.symm hv
      · simp only [List.getElem?_cons_succ] at h ⊢
        exact h2 i v h hv
    · have e1 : am_exL (a :: r) = a :: am_exL r := by simp [am_exL, hc]
      have e2 : lg_sl (a :: r) = .val a :: lg_sl r := by simp [lg_sl, hc]
      rw [e1, e2]
      refine ⟨by simp [h1], fun i v h hv => ?_⟩
      rcases i with _ | i
      · simp at h ⊢
        exact h
      · simp only [List.getElem?_cons_succ] at h ⊢
        exact h2 i v h hv
theorem sm_entry {vs : List Value} {n : Nat} (h : (am_entry vs n).length = n) : sm_L ((lg_sl vs ++ List.replicate (n - (lg_sl vs).length) Slot.unset).toArray) n (am_entry vs n) := by
  obtain ⟨h1, h2⟩ := am_exL_at vs
  have e : am_entry vs n = am_exL vs ++ List.replicate (n - (am_exL vs).length) am_un := rfl
  have hle : (lg_sl vs).length ≤ n := by
    rw [e] at h
    simp at h
    omega
  obtain ⟨a1, a2, -⟩ := lv_entry vs hle
  refine ⟨h, a1, a2, fun i v hv hn => ?_⟩
  rw [e] at hv
  by_cases hi : i < (am_exL vs).length
  · rw [List.getElem?_append_left hi] at hv
    have := h2 i v hv hn
    rw [List.getElem?_toArray, List.getElem?_append_left (by omega)]
    exact this
  · rw [List.getElem?_append_right (by omega)] at hv
    simp only [List.getElem?_replicate] at hv
    split at hv
    · exact absurd (Option.some.inj hv).symm hn
    · cases hv
section Run
variable {l : Launch} {te : Nat → Value} {ct : List am_C} {mt : List am_M} {sT : List (String × String × String)} {sS : List (String × Nat × String)} {B : Nat} {D : va_G} {H00 : Heap}
theorem sm_run (hst : l.stackTraces = false) (hC : ∀ r ∈ ct, am_okC r = true) (hok : ∀ N ∈ mt, am_okMeth ct mt sT sS N = true) (n : Nat) : ∀ (d k : Nat) (as : List Value) (g : am_S) (o : am_O) (g' : am_S) (N : am_M), am_run ct mt B n d k as g = some (o, g') → g.2.2.2 = te → mt[k]? = some N → am_okM N = true → sm_Con ct sT sS D B H00 te l N as g o g'
  | 0, _, _, _, _, _, _, h, _, _, _ => by cases h
  | d + 1, k, as, g, o, g', N, h, hte, hN, hoM => by
    have hcal : sm_Cal ct mt sT sS D B H00 te l (fun k' a' s' => am_run ct mt B n d k' a' s') := fun k' as' g1 o1 g1' q => ⟨am_run_le n d k' as' g1 g1' o1 q, fun ht N' hN' hM' => sm_run hst hC hok n d k' as' g1 o1 g1' N' q ht hN' hM'⟩
    unfold am_run at h
    rw [hN] at h
    dsimp only at h
    split at h
    · rename_i hc
      obtain ⟨hc1, hc2, hc3⟩ := hc
      have hoN := hok N (List.mem_of_getElem? hN)
      obtain ⟨⟨w1, w2, w3⟩, hmh, hpd, hna, hpn, hmax, hlev, hini, hhk, hrt⟩ := sm_okM hoM
      have body : ∀ (p : Program) (e : Env) (s : State) (m : MethodId) (args : Array Value) (below : List Frame) (meth : Method) (c : Code) (s₁ : State), BodyLoose p l (am_name N) (headSpec (sm_ws N) (sm_rm N g g')) (am_bytes N) (am_maxL N) (am_retT N) e s m args below meth c s₁ → c.maxLocals = am_maxL N → c.exceptionTable.toList = tableOf (am_tab (am_hh N)) → (args = as.toArray ∧ sm_In ct sT sS D B H00 te g s) →
          W p l e (headSpec (sm_ws N) (sm_rm N g g')).room s m args below meth c s.heap [] 0 0 (vx_MQ below (sm_Qc ct D B H00 o g') (sm_XC ct D B H00 o g') args s (g'.2.1 - g.2.1) (g'.2.2.1 - g.2.2.1) (fun a => B ≤ a)) (entryFrame m args (am_maxL N)) := by
        intro p e s m args below meth c s₁ Bd hml htab hP
        obtain ⟨rfl, henv, hRep, -⟩ := hP
        have hall := atoms_spec (ws := sm_ws N) Bd.pre
        have hts : ∀ w ∈ lw_g, w.before as.toArray s = true := by
          intro w hw
          obtain ⟨hw1, hw2⟩ := List.mem_filter.mp hw
          simp only [Bool.or_eq_true] at hw2
          rcases hw2 with q | q
          · exact hall w (List.mem_cons_of_mem _ (List.mem_filter.mpr ⟨hw1, q⟩))
          · exact sm_nw_use q (henv.2.2.2.2.2.2.2 w hw1 q)
        have hBod : sm_Bod ct sT sS D B H00 te p l s m as.toArray meth c N := ⟨⟨Bd.exec, Bd.bytes, hml, findClass_of_methodNamed Bd.named, hts⟩, henv, Bd.returns, Bd.notSynchronized, fun q => (name_of_methodNamed Bd.named Bd.method).1.trans (hini.mp q), htab, hst⟩
        rw [lg_entry_eq]
        have := sm_core (e := e) (below := below) (R := (headSpec (sm_ws N) (sm_rm N g g')).room) (gz := g') (oz := o) (g0 := g) hBod hC hoN hcal hRep ⟨Nat.le_refl _, Nat.le_refl _⟩ (Nat.le_refl _) (Nat.le_refl _) n 0 _ _ _ g s.heap [] h (sm_entry hc2) hRep hte (am_le.rf _) (fun z hz => by cases hz)
        exact W.cs (by omega) (by omega) this
      unfold sm_Con
      by_cases hh : am_hh N = []
      · refine vx_ofW hpn (ws' := lw_k) (by unfold sm_ws; rw [sm_cw_nil hh]) fun p e s m args below meth c s₁ Bd hml hno hP => body p e s m args below meth c s₁ Bd hml ?_ hP
        rw [hh]
        rcases hq : c.exceptionTable.toList with _ | ⟨a, b⟩
        · rfl
        · exact (hno a (by rw [hq]; exact List.mem_cons_self)).elim
      · refine vx_ofWH (hh := am_tab (am_hh N)) hpn (ws' := lw_k) (by unfold sm_ws; rw [sm_cw_cons hh]; rfl) fun p e s m args below meth c s₁ Bd hml hP => body p e s m args below meth c s₁ Bd hml ?_ hP
        have hall := atoms_spec (ws := sm_ws N) Bd.pre
        have := hall _ List.mem_cons_self
        rw [sm_cw_cons hh] at this
        exact vx_table (x := am_name N) Bd this
    · cases h
end Run
