section Core2
variable {p : Program} {l : Launch} {e : Env} {R : Room} {s : State} {m : MethodId} {args : Array Value} {below : List Frame} {meth : Method} {c : Code} {H : Heap} {locs : List Loc} {Q : State → Prop}
variable {pc len r1 r2 r3 : Nat} {x : Instr} {ls : Array Slot} {L st st' : List Value} {te : Nat → Value} {ct : List am_C} {mt : List am_M} {sT : List (String × String × String)} {sS : List (String × Nat × String)} {M N : am_M} {B : Nat} {D : va_G} {H00 : Heap} {g g' g0 gz : am_S} {o oz : am_O}
theorem sm_locs {a j : Nat} (hl : ∀ z ∈ locs, B ≤ z.base) (h : B ≤ a) : ∀ z ∈ locs ++ [(⟨a, j⟩ : Loc)], B ≤ z.base := by
  intro z hz
  rcases List.mem_append.mp hz with q | q
  · exact hl z q
  · rw [List.mem_singleton.mp q]; exact h
set_option maxHeartbeats 4000000 in
theorem sm_heapW (hB : sm_Bod ct sT sS D B H00 te p l s m args meth c M) (hC : ∀ r ∈ ct, am_okC r = true) (hd : decode (am_bytes M) pc = .ok (x, len)) (hlen : am_ilen x = some len ∨ am_isSw x = true) (hw : am_okW ct sT sS M pc x r1 r2 r3 = true) (hxx : am_okX ct mt M pc x r1 r2 r3 = true)
    (h : am_heap ct M B x r1 r2 st g = some (st', g')) (hP : sm_Rep ct D B H00 s g H) (hl : ∀ z ∈ locs, B ≤ z.base) (h0 : am_le g0 g) (hz : am_le g' gz) (hRc : gz.2.1 - g0.2.1 ≤ R.cells) (hRs : gz.2.2.1 - g0.2.2.1 ≤ R.slots)
    (kk : ∀ (H1 : Heap) (locs1 : List Loc), sm_Rep ct D B H00 s g' H1 → (∀ z ∈ locs1, B ≤ z.base) → sm_W ct D B H00 p l e R s m args below meth c g0 gz oz H1 locs1 g' (pc + len) ls st') : sm_W ct D B H00 p l e R s m args below meth c g0 gz oz H locs g pc ls st := by
  obtain ⟨⟨hx, hb, hml, hown, hts⟩, henv, hrt, hlk, hin, htab, hst⟩ := hB
  have hK := henv.1
  have hle : ∀ {n : Nat}, am_ilen x = some n → am_isSw x = false → n = len := by
    intro n h2 h3
    rcases hlen with q | q
    · exact Option.some.inj (h2.symm.trans q)
    · rw [h3] at q; cases q
  unfold am_heap at h
  split at h
  · obtain rfl := hle rfl rfl
    split at h
    · obtain ⟨v, hv, he⟩ := Option.map_eq_some_iff.mp h
      cases he
      exact sm_getfield hx hb hown hts hK hP hw hd (sm_gf hv) (kk _ _ hP hl)
    · cases h
  · obtain rfl := hle rfl rfl
    split at h
    · obtain ⟨v, hv, he⟩ := Option.map_eq_some_iff.mp h
      cases he
      have hle2 := am_put_le hv
      refine sm_putfield hx hb hown hts hC hK hP hin hw hd hv fun H1 j hBa hP1 => ?_
      refine W.cs ?_ ?_ (kk H1 _ hP1 (sm_locs hl hBa))
      · unfold am_put at hv
        repeat' split at hv
        all_goals first
          | (cases hv; done)
          | skip
        cases hv
        unfold am_setF
        split <;> rfl
      · unfold am_put at hv
        repeat' split at hv
        all_goals first
          | (cases hv; done)
          | skip
        cases hv
        unfold am_setF
        split <;> rfl
    · cases h
  · obtain rfl := hle rfl rfl
    split at h
    · obtain ⟨v, hv, he⟩ := Option.map_eq_some_iff.mp h
      cases he
      exact sm_alen hx hb hP hd hv (kk _ _ hP hl)
    · cases h
  · obtain rfl := hle rfl rfl
    repeat' split at h
    all_goals first
      | (cases h; done)
      | skip
    rename_i hv hi
    cases h
    exact sm_iald hx hb hP hd hv hi (kk _ _ hP hl)
  · obtain rfl := hle rfl rfl
    repeat' split at h
    all_goals first
      | (cases h; done)
      | skip
    rename_i hv hi
    cases h
    exact sm_iast hx hb hP hd hv hi.1 hi.2 fun H1 j hP1 => kk H1 _ hP1 (sm_locs hl hi.2)
  · obtain rfl := hle rfl rfl
    repeat' split at h
    all_goals first
      | (cases h; done)
      | skip
    rename_i hv hi
    cases h
    exact sm_bald hx hb hP hd hv hi (kk _ _ hP hl)
  · obtain rfl := hle rfl rfl
    repeat' split at h
    all_goals first
      | (cases h; done)
      | skip
    rename_i hv hi
    cases h
    exact sm_bast hx hb hP hd hv hi.1 hi.2 fun H1 j hP1 => kk H1 _ hP1 (sm_locs hl hi.2)
  · obtain rfl := hle rfl rfl
    repeat' split at h
    all_goals first
      | (cases h; done)
      | skip
    rename_i hv hi
    cases h
    exact sm_lald hx hb hP hd hv hi (kk _ _ hP hl)
  · obtain rfl := hle rfl rfl
    repeat' split at h
    all_goals first
      | (cases h; done)
      | skip
    rename_i hv hi
    cases h
    exact sm_last hx hb hP hd hv hi.1 hi.2 fun H1 j hP1 => kk H1 _ hP1 (sm_locs hl hi.2)
  · obtain rfl := hle rfl rfl
    repeat' split at h
    all_goals first
      | (cases h; done)
      | skip
    rename_i hv hi
    cases h
    exact sm_aald hx hb hP hd hv hi (kk _ _ hP hl)
  · obtain rfl := hle rfl rfl
    repeat' split at h
    all_goals first
      | (cases h; done)
      | skip
    rename_i hv hk hi
    cases h
    exact sm_aast hx hb hK hP hd hv hk hi.2.2 hi.1 hi.2.1 fun H1 j hP1 => kk H1 _ hP1 (sm_locs hl hi.2.1)
  · rename_i ik
    obtain rfl := hle rfl rfl
    split at h
    · rename_i h2
      cases h
      simp only [am_okX, if_pos h2] at hxx
      split at hxx
      · rename_i C hc
        simp only [Bool.and_eq_true] at hxx
        obtain ⟨⟨⟨q1, q2⟩, q3⟩, q4⟩ := hxx
        have hdl : (am_dfl ct r1).length = C.2.2.1 := by
          unfold am_dfl
          rw [hc]
          simp
        have z1 := hz.1
        have z2 := hz.2.1
        have z3 := h0.1
        have z4 := h0.2.1
        simp only [am_new] at z1 z2
        rw [hdl] at z2
        refine sm_newobj hx hb hown hts hC hK hP hc q1 (hts _ (am_has_mem q2)) (hts _ (lw_in_mem q3)) (hts _ (lw_in_mem q4)) hd (by omega) (by omega) fun H1 hP1 => ?_
        refine W.cs ?_ ?_ (kk H1 _ hP1 hl)
        · simp only [am_new]; omega
        · simp only [am_new]; rw [hdl]; omega
      · cases hxx
    · cases h
  · rename_i t
    obtain rfl := hle rfl rfl
    simp only [am_okX] at hxx
    split at h
    · rename_i n rr
      have key : ∀ (y : vp_A), (∀ cA : ClassId, vp_cell cA y = arrV cA n.toInt.toNat (fun _ => defaultValue (newarray.typeOf t))) → 0 ≤ n.toInt → n.toInt ≤ 65536 → am_le (am_new g (.inl (newarray.typeOf t, y)) n.toInt.toNat) gz →
          (∀ (H1 : Heap) (locs1 : List Loc), sm_Rep ct D B H00 s (am_new g (.inl (newarray.typeOf t, y)) n.toInt.toNat) H1 → (∀ z ∈ locs1, B ≤ z.base) → sm_W ct D B H00 p l e R s m args below meth c g0 gz oz H1 locs1 (am_new g (.inl (newarray.typeOf t, y)) n.toInt.toNat) (pc + 2) ls (.ref g.2.1 :: rr)) →
          sm_W ct D B H00 p l e R s m args below meth c g0 gz oz H locs g pc ls (.int n :: rr) := by
        intro y hy hn hn2 hz kk
        have z1 := hz.1
        have z2 := hz.2.1
        have z3 := h0.1
        have z4 := h0.2.1
        simp only [am_new] at z1 z2
        refine sm_newarr hx hb hP (hts _ (am_has_mem hxx)) hd hn hn2 hy (by omega) (by omega) fun H1 hP1 => ?_
        refine W.cs ?_ ?_ (kk H1 _ hP1 hl)
        · simp only [am_new]; omega
        · simp only [am_new]; omega
      split at h
      · rename_i h2
        cases h
        refine key _ (fun cA => ?_) h2.1 h2.2.1 hz kk
        rw [sm_cell]
        rcases h2.2.2 with q | q | q <;> rw [q] <;> rfl
      · split at h
        · rename_i h2
          rw [← h2.2.2] at h
          cases h
          refine key _ (fun cA => ?_) h2.1 h2.2.1 hz kk
          rw [sm_cell, h2.2.2]
          rfl
        · cases h
    · cases h
  · rename_i ik
    obtain rfl := hle rfl rfl
    simp only [am_okX] at hxx
    split at h
    · rename_i n rr
      split at h
      · rename_i C hc
        split at h
        · rename_i h2
          cases h
          rw [hc] at hxx
          simp only [Bool.and_eq_true] at hxx
          have z1 := hz.1
          have z2 := hz.2.1
          have z3 := h0.1
          have z4 := h0.2.1
          simp only [am_new] at z1 z2
          refine sm_newq (ci := r1) hx hb hown hP (hts _ (am_has_mem hxx.1)) (hts _ (am_has_mem hxx.2)) hd h2.1 h2.2 (by omega) (by omega) fun H1 hP1 => ?_
          refine W.cs ?_ ?_ (kk H1 _ hP1 hl)
          · simp only [am_new]; omega
          · simp only [am_new]; omega
        · cases h
      · cases h
    · cases h
  · cases h
end Core2
