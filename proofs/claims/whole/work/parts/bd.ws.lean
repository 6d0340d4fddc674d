/-! ===== the claim: its words ===== -/
def R_law : String := "WatchedKeysLaw"
def lw_P (b : Addr) (xs : List Int32) (args : Array Value) (s : State) : Prop := args = #[.ref b] ∧ s.IntsAt b xs ∧ xs.length ≤ 2560 ∧ (Jvm.Cond.and given_1 narrow_1).before args s = true
theorem lw_closed {s t : State} {o : Outcome} {d0 : Drawn} {L : List Loc} {k n : Nat} (hd0 : s.drawn.sameBut d0 lw_cs) (hv : ∃ v, o = .returned v) (hW : (s.setDrawn d0).WarmedH t.vm) (hs : (s.setDrawn d0).sameButNew ({ t with vm := s.vm } : State) L k n) : State.butDraws s t lw_cs (fun t1 => Framed s o t1 L k n) := by
  have h2 : t.drawn = d0 := congrArg State.drawn hs.1
  refine ⟨⟨hv, hW, State.sameButNew.setDrawn hs s.drawn⟩, ?_, by decide⟩
  rw [h2]
  exact hd0
def lw_Q (_ : Array Value) (s : State) (o : Outcome) (t : State) : Prop := o = .returned (some (.int 1)) ∧ State.butDraws s t lw_cs (fun t1 => Framed s o t1 [] 601024 7293034)
def lw_Z (below : List Frame) (a : Array Value) (s : State) : State → Prop := fun t => ∃ o, t.status = .running ∧ Ended t below o ∧ lw_Q a s o t
def lw_At (p : Program) (s : State) (m : MethodId) (meth : Method) (c : Code) (b L : Nat) (xs : Nat → Int32) : Prop :=
  p.tables.exec = Jvm.exec ∧ c.code = code ∧ meth.sig.returnType = ret ∧ c.maxLocals = 9 ∧ s.vm.findClass R_law = some m.cls ∧ (∀ w ∈ lw_tbl, w.before #[Value.ref b] s = true) ∧ va_X b L xs s s.heap ∧ b < s.heap.size ∧ meth.locks = false ∧ (Jvm.Cond.and given_1 narrow_1).before #[Value.ref b] s = true
section Ws
variable {p : Program} {e : Env} {s : State} {m : MethodId} {below : List Frame} {meth : Method} {c : Code} {b L : Nat} {xs : Nat → Int32} {D : va_G} {te : Nat → Value} {g0 : am_S} {V Q : Nat → Nat}
/-- the claim's walk, once the start is set out as a state of the machine of rows -/
theorem ws_of (l : Launch) (hst : l.stackTraces = false) (hL : L ≤ 2560) (C0 : lw_At p s m meth c b L xs) (hok : ∀ N ∈ tb_mt, am_okMeth tb_ct tb_mt tb_sT tb_sS N = true) (hC : ∀ r ∈ tb_ct, am_okC r = true) (hgw : ∀ w ∈ lw_g, w.before #[Value.ref b] s = true) (htab : c.exceptionTable.toList = tableOf (am_tab (am_hh mm_L_law))) (henv : sm_env tb_ct tb_sT tb_sS D s.heap.size s.heap te s) (hrep : sm_Rep tb_ct D s.heap.size s.heap s g0 s.heap) (hte : g0.2.2.2 = te) (re : RE s.heap.size b L xs V Q g0) : W p l e room_1 s m #[Value.ref b] below meth c s.heap [] 0 0 (lw_Z below #[Value.ref b] s) (entryFrame m ([Value.ref b] : List Value).toArray 9) := by
  obtain ⟨hx, hb, hr, hml, hown, hts, hX, hbl, hlocks, hgv⟩ := C0
  have hz := hrep.1
  obtain ⟨s', K, hK, e1, h1, h2, re'⟩ := law_one re (Nat.le_refl _) hz.symm (by omega)
  obtain ⟨n, d, hrun⟩ := cl_iff.mp e1
  cases d with
  | zero => cases hrun
  | succ d =>
    have hcal : sm_Cal tb_ct tb_mt tb_sT tb_sS D s.heap.size s.heap te l (fun k' a' s' => am_run tb_ct tb_mt s.heap.size n d k' a' s') := fun k' as' g1 o1 g1' q => ⟨am_run_le n d k' as' g1 g1' o1 q, fun ht N' hN' hM' => sm_run hst hC hok n d k' as' g1 o1 g1' N' q ht hN' hM'⟩
    have hN : tb_mt[K_L_law]? = some mm_L_law := rfl
    unfold am_run at hrun
    rw [hN] at hrun
    dsimp only at hrun
    split at hrun
    · rename_i hc
      obtain ⟨hc1, hc2, hc3⟩ := hc
      have hBod : sm_Bod tb_ct tb_sT tb_sS D s.heap.size s.heap te p l s m #[Value.ref b] meth c mm_L_law := ⟨⟨hx, hb, hml, hown, hgw⟩, henv, hr, hlocks, fun q => absurd q (by decide), htab, hst⟩
      have kk := sm_core (e := e) (below := below) (R := room_1) (gz := s') (g0 := g0) hBod hC (hok _ (List.mem_of_getElem? hN)) hcal hrep ⟨by decide, by decide⟩ (show s'.2.1 - g0.2.1 ≤ 601024 by omega) (show s'.2.2.1 - g0.2.2.1 ≤ 7293034 by omega) n 0 _ _ _ g0 s.heap [] hrun (sm_entry hc2) hrep hte (am_le.rf _) (fun z hz => by cases hz)
      have kk := W.cs (cells := 0) (slots := 0) (by omega) (by omega) kk
      rw [lg_entry_eq]
      intro T hT X
      obtain ⟨t, a1, o, a2, a3, a4⟩ := kk T hT X
      refine ⟨t, a1, o, a2, a3, ?_⟩
      rcases a4 with ⟨⟨v, q1, q2, -⟩, Lz, q3, q4⟩ | ⟨q, -, E, ce, Lx, ⟨k, hk, -⟩, -⟩
      · cases q1
        refine ⟨q2, lw_closed (d0 := s.drawn) (Drawn.sameBut.refl s.drawn lw_cs) ⟨_, q2⟩ q3.2.1 ?_⟩
        have q5 := State.sameButNew.drop_fresh (L := []) (J := Lz) q3.2.2 q4
        exact q5.mono (by omega) (by omega)
      · cases hk
    · cases hrun
end Ws
