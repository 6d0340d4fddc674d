section Core3
variable {p : Program} {l : Launch} {e : Env} {R : Room} {s : State} {m : MethodId} {args : Array Value} {below : List Frame} {meth : Method} {c : Code} {H : Heap} {locs : List Loc} {Q : State → Prop}
variable {pc len r1 r2 r3 : Nat} {x : Instr} {ls : Array Slot} {L st st' : List Value} {te : Nat → Value} {ct : List am_C} {mt : List am_M} {sT : List (String × String × String)} {sS : List (String × Nat × String)} {M N : am_M} {B : Nat} {D : va_G} {H00 : Heap} {g g' g0 gz : am_S} {o oz : am_O} {call : Nat → List Value → am_S → Option (am_O × am_S)}
/-- what is known of the calls -/
def sm_Cal (ct : List am_C) (mt : List am_M) (sT : List (String × String × String)) (sS : List (String × Nat × String)) (D : va_G) (B : Nat) (H00 : Heap) (te : Nat → Value) (l : Launch) (call : Nat → List Value → am_S → Option (am_O × am_S)) : Prop :=
  ∀ (k : Nat) (as : List Value) (g : am_S) (o : am_O) (g' : am_S), call k as g = some (o, g') → am_le g g' ∧ (g.2.2.2 = te → ∀ N, mt[k]? = some N → am_okM N = true → sm_Con ct sT sS D B H00 te l N as g o g')
theorem sm_invW {k : Nat} {t : am_T} (hB : sm_Bod ct sT sS D B H00 te p l s m args meth c M) (hok : am_okMeth ct mt sT sS M = true) (hcal : sm_Cal ct mt sT sS D B H00 te l call) (hR : am_lev M ≤ R.frames ∧ 100 * am_lev M ≤ R.locals) (hRc : gz.2.1 - g0.2.1 ≤ R.cells) (hRs : gz.2.2.1 - g0.2.2.1 ≤ R.slots)
    (hd : decode (am_bytes M) pc = .ok (x, 3)) (hw : am_okInv ct mt M x k r2 r3 = true) (h : am_inv mt call M pc k r2 L st g = some t) (hL : sm_L ls (am_maxL M) L) (hP : sm_Rep ct D B H00 s g H) (hte : g.2.2.2 = te) (hl : ∀ z ∈ locs, B ≤ z.base) (h0 : am_le g0 g) (hz : am_le (am_tS t) gz)
    (kk : ∀ (pc' : Nat) (L' st' : List Value) (g' : am_S) (ls' : Array Slot) (H1 : Heap) (locs1 : List Loc), t = .inl (pc', L', st', g') → sm_L ls' (am_maxL M) L' → sm_Rep ct D B H00 s g' H1 → am_le g g' → (∀ z ∈ locs1, B ≤ z.base) → sm_W ct D B H00 p l e R s m args below meth c g0 gz oz H1 locs1 g' pc' ls' st') (ht : ∀ o' g', t = .inr (o', g') → oz = o' ∧ gz = g') :
    sm_W ct D B H00 p l e R s m args below meth c g0 gz oz H locs g pc ls st := by
  obtain ⟨⟨hx, hb, hml, hown, hts⟩, henv, hrt, hlk, hin, htab, hst⟩ := id hB
  unfold am_inv at h
  split at h
  · rename_i N hN
    split at h
    · rename_i hc
      obtain ⟨hc1, hc2, hc3, hc4⟩ := hc
      -- the run of the call
      have hrun : ∀ (o' : am_O) (g' : am_S), call k (st.take (am_nargs N)).reverse g = some (o', g') → am_le g' gz → sm_Rn ct D B H00 p l e R s m args below meth c H locs (g.2.1 - g0.2.1) (g.2.2.1 - g0.2.2.1) pc ls st (st.take (am_nargs N)).reverse (st.drop (am_nargs N)) g o' g' := by
        intro o' g' hcl hz'
        obtain ⟨hle, hcon⟩ := hcal _ _ _ _ _ hcl
        have hM0 : am_okM N = true := by
          have hw1 := hw
          unfold am_okInv at hw1
          rw [hN] at hw1
          simp only [Bool.and_eq_true] at hw1
          exact hw1.1
        have hcon := hcon hte N hN hM0
        have hf : (g.2.1 - g0.2.1) + (g'.2.1 - g.2.1) ≤ R.cells ∧ (g.2.2.1 - g0.2.2.1) + (g'.2.2.1 - g.2.2.1) ≤ R.slots := by
          have a1 := h0.1; have a2 := h0.2.1; have a3 := hle.1; have a4 := hle.2.1; have a5 := hz'.1; have a6 := hz'.2.1
          omega
        have hsz : ls.size = am_maxL M := hL.2.1
        have hst2 : st = st.take (am_nargs N) ++ st.drop (am_nargs N) := (List.take_append_drop _ _).symm
        have hlen : (st.take (am_nargs N)).length = am_nargs N := List.length_take_of_le hc1
        have hw0 := hw
        unfold am_okInv at hw0
        rw [hN] at hw0
        split at hw0
        · rename_i q; cases q
        · rename_i N' hN'
          cases hN'
          simp only [Bool.and_eq_true] at hw0
          obtain ⟨hM, hw0⟩ := hw0
          split at hw0
          · have := sm_runStatic (e := e) (below := below) (meth := meth) (locs := locs) (As := (st.take (am_nargs N)).reverse) (rest := st.drop (am_nargs N)) hx hb hml hown hts henv hP hte hR hf hN hw hd hc3 hsz (by rw [List.length_reverse]; exact hlen) hc2 hcon
            rw [List.reverse_reverse, ← hst2] at this
            exact this
          · have hk0 : am_kind N ≠ 0 := by
              split at hw0 <;> simp only [Bool.and_eq_true, decide_eq_true_eq] at hw0
              · omega
              · omega
            have hrv := hc4.resolve_left hk0
            obtain ⟨b, ys, hys, hcls⟩ : ∃ (b : Nat) (ys : List Value), st.take (am_nargs N) = ys ++ [.ref b] ∧ am_cls g b = some (r2 / 10) := by
              unfold am_recv at hrv
              split at hrv
              · rename_i b hb2
                obtain ⟨ys, hys⟩ := List.getLast?_eq_some_iff.mp hb2
                exact ⟨b, ys, hys, of_decide_eq_true hrv⟩
              · cases hrv
            have e1 : (st.take (am_nargs N)).reverse = .ref b :: ys.reverse := by rw [hys]; simp
            rw [e1] at hcon ⊢
            have := sm_runSpecial (e := e) (below := below) (meth := meth) (locs := locs) (As := ys.reverse) (rest := st.drop (am_nargs N)) (b := b) hx hb hml hown hts henv hP hte hR hf hN hw hd hc3 hsz (by rw [← hlen, hys]; simp) hc2 hcls hcon
            have e2 : ys.reverse.reverse ++ Value.ref b :: st.drop (am_nargs N) = st := by
              rw [List.reverse_reverse]
              conv => rhs; rw [hst2, hys]
              simp
            rw [e2] at this
            exact this
          · have hk0 : am_kind N ≠ 0 := by
              split at hw0
              · simp only [Bool.and_eq_true, decide_eq_true_eq] at hw0
                omega
              · cases hw0
            have hrv := hc4.resolve_left hk0
            obtain ⟨b, ys, hys, hcls⟩ : ∃ (b : Nat) (ys : List Value), st.take (am_nargs N) = ys ++ [.ref b] ∧ am_cls g b = some (r2 / 10) := by
              unfold am_recv at hrv
              split at hrv
              · rename_i b hb2
                obtain ⟨ys, hys⟩ := List.getLast?_eq_some_iff.mp hb2
                exact ⟨b, ys, hys, of_decide_eq_true hrv⟩
              · cases hrv
            have e1 : (st.take (am_nargs N)).reverse = .ref b :: ys.reverse := by rw [hys]; simp
            rw [e1] at hcon ⊢
            have := sm_runVirtual (e := e) (below := below) (meth := meth) (locs := locs) (As := ys.reverse) (rest := st.drop (am_nargs N)) (b := b) hx hb hml hown hts henv hP hte hR hf hN hw hd hc3 hsz (by rw [← hlen, hys]; simp) hc2 hcls hcon
            have e2 : ys.reverse.reverse ++ Value.ref b :: st.drop (am_nargs N) = st := by
              rw [List.reverse_reverse]
              conv => rhs; rw [hst2, hys]
              simp
            rw [e2] at this
            exact this
          · cases hw0
      split at h
      · rename_i v g' hcl
        cases h
        have hle := (hcal _ _ _ _ _ hcl).1
        refine sm_call (hrun _ _ hcl hz) (fun k ce q9 H1 locs1 ho => by cases ho) fun v' H1 locs1 ho hP1 hl1 => ?_
        cases ho
        have a1 := h0.1; have a2 := h0.2.1; have a3 := hle.1; have a4 := hle.2.1
        refine W.cs (by omega) (by omega) (kk _ _ _ _ ls H1 (locs ++ locs1) rfl hL hP1 hle fun z hz => (List.mem_append.mp hz).elim (hl z) (hl1 z))
      · rename_i E g' hcl
        have hle := (hcal _ _ _ _ _ hcl).1
        have hts2 : am_tS t = g' := am_thr_le h
        rw [hts2] at hz
        refine sm_call (hrun _ _ hcl hz) (fun k ce q9 H1 locs1 ho hk2 hP1 hl1 hce hv hcls => ?_) fun v' H1 locs1 ho => by cases ho
        cases ho
        have a1 := h0.1; have a2 := h0.2.1; have a3 := hle.1; have a4 := hle.2.1
        have hl2 : ∀ z ∈ locs ++ locs1, B ≤ z.base := fun z hz => (List.mem_append.mp hz).elim (hl z) (hl1 z)
        refine vx_widen (k := g'.2.1 - g0.2.1) (n := g'.2.2.1 - g0.2.2.1) (by omega) (by omega) ?_
        exact sm_thrown hB hok h hL hP1 hk2 hl2 hce hv hcls (h0.tr hle) hz (fun pc' L' st' ls' he hL' => kk pc' L' st' g' ls' H1 (locs ++ locs1) he hL' hP1 hle hl2) (fun he => ht _ _ he)
      · cases h
    · cases h
  · cases h
end Core3
section Core4
variable {p : Program} {l : Launch} {e : Env} {R : Room} {s : State} {m : MethodId} {args : Array Value} {below : List Frame} {meth : Method} {c : Code} {H : Heap} {locs : List Loc} {Q : State → Prop}
variable {pc len r1 r2 r3 : Nat} {x : Instr} {ls : Array Slot} {L st st' : List Value} {te : Nat → Value} {ct : List am_C} {mt : List am_M} {sT : List (String × String × String)} {sS : List (String × Nat × String)} {M N : am_M} {B : Nat} {D : va_G} {H00 : Heap} {g g' g0 gz : am_S} {o oz : am_O} {call : Nat → List Value → am_S → Option (am_O × am_S)}
theorem sm_pure_sw {te : Nat → Value} (h : am_pure x r1 r2 L st te = some st') : am_isSw x = false := by
  cases x <;> first | rfl | (simp [am_pure] at h)
theorem sm_store_sw {L' : List Value} (h : am_store x r1 r2 L st = some (L', st')) : am_isSw x = false := by
  cases x <;> first | rfl | (simp [am_store] at h)
theorem sm_stepW {t : am_T} (hB : sm_Bod ct sT sS D B H00 te p l s m args meth c M) (hC : ∀ r ∈ ct, am_okC r = true) (hok : am_okMeth ct mt sT sS M = true) (hcal : sm_Cal ct mt sT sS D B H00 te l call) (hS0 : sm_Rep ct D B H00 s g0 s.heap) (hR : am_lev M ≤ R.frames ∧ 100 * am_lev M ≤ R.locals) (hRc : gz.2.1 - g0.2.1 ≤ R.cells) (hRs : gz.2.2.1 - g0.2.2.1 ≤ R.slots)
    (h : am_step ct mt B call M pc L st g = some t) (hL : sm_L ls (am_maxL M) L) (hP : sm_Rep ct D B H00 s g H) (hte : g.2.2.2 = te) (hl : ∀ z ∈ locs, B ≤ z.base) (h0 : am_le g0 g) (hz : am_le (am_tS t) gz)
    (kk : ∀ (pc' : Nat) (L' st' : List Value) (g' : am_S) (ls' : Array Slot) (H1 : Heap) (locs1 : List Loc), t = .inl (pc', L', st', g') → sm_L ls' (am_maxL M) L' → sm_Rep ct D B H00 s g' H1 → am_le g g' → (∀ z ∈ locs1, B ≤ z.base) → sm_W ct D B H00 p l e R s m args below meth c g0 gz oz H1 locs1 g' pc' ls' st') (ht : ∀ o' g', t = .inr (o', g') → oz = o' ∧ gz = g') :
    sm_W ct D B H00 p l e R s m args below meth c g0 gz oz H locs g pc ls st := by
  obtain ⟨⟨hx, hb, hml, hown, hts⟩, henv, hrt, hlk, hin, htab, hst⟩ := id hB
  unfold am_step at h
  split at h
  · rename_i x len r1 r2 r3 km hrow0
    replace hL := hL.kill km
    revert hL h
    generalize am_kill km L = L
    intro h hL
    have hok2 := hok
    simp only [am_okMeth, Bool.and_eq_true] at hok2
    have hrow := List.all_eq_true.mp hok2.2 _ (am_lookup hrow0)
    simp only [am_okRow, Bool.and_eq_true, Bool.or_eq_true, decide_eq_true_eq] at hrow
    obtain ⟨⟨⟨hd, hlen⟩, hw⟩, hxx⟩ := hrow
    have hlow : ∀ a : Nat, a < B → H[a]? = H00[a]? := hP.2.2.2.2
    have hlow0 : ∀ a : Nat, a < B → s.heap[a]? = H00[a]? := hS0.2.2.2.2
    unfold am_ins at h
    split at h
    · rename_i st' hp
      cases h
      have hl1 : am_ilen x = some len := hlen.resolve_right (by rw [sm_pure_sw hp]; decide)
      have hp' : am_pure x r1 r2 L st te = some st' := by rw [← hte]; exact hp
      refine sm_pure hx hb hown hts (fun k q hq => va_Z.kept (henv.2.1 k q hq) fun a ha hBa => ?_) henv.2.2.1 hw hd hl1 hL hp' (kk _ _ _ _ ls H locs rfl hL hP (am_le.rf _) hl)
      rw [hP.2.2.1] at ha
      exact hlow a ha
    · split at h
      · rename_i L' st' hp
        cases h
        have hl1 : am_ilen x = some len := hlen.resolve_right (by rw [sm_store_sw hp]; decide)
        exact sm_store hx hb hw hd hl1 hL hp fun ls' hL' => kk _ _ _ _ ls' H locs rfl hL' hP (am_le.rf _) hl
      · split at h
        · rename_i t' st' hp
          cases h
          refine sm_jump hx hb hw hd ?_ hp (kk _ _ _ _ ls H locs rfl hL hP (am_le.rf _) hl)
          rcases hlen with q | q
          · exact Or.inl q
          · refine Or.inr ?_
            unfold am_isSw at q
            split at q
            · rfl
            · rfl
            · cases q
        · split at h
          · rename_i st' g' hp
            cases h
            exact sm_heapW hB hC hd hlen hw hxx hp hP hl h0 hz hRc hRs fun H1 locs1 hP1 hl1 => kk _ _ _ _ ls H1 locs1 rfl hL hP1 (am_heap_le hp) hl1
          · split at h
            · rename_i t' hp
              cases h
              refine sm_ends hB hd hlen hp hP hl fun v hv => ?_
              exact ht _ _ hv
            · split at h
              · obtain rfl : 3 = len := by
                  rcases hlen with q | q
                  · exact Option.some.inj q
                  · cases q
                exact sm_invW hB hok hcal hR hRc hRs hd hxx h hL hP hte hl h0 hz kk ht
              · rename_i ik
                obtain rfl : 3 = len := by
                  rcases hlen with q | q
                  · exact Option.some.inj q
                  · cases q
                have hcopy : ∀ ty, (ty = .int ∨ ty = .byte) → (r2 = 9 ∨ r2 = 19) → (am_cpy B ty st g).map (fun q => (Sum.inl (pc + 3, L, q.1, q.2) : am_T)) = some t → sm_W ct D B H00 p l e R s m args below meth c g0 gz oz H locs g pc ls st := by
                  intro ty hty h2 h
                  obtain ⟨q, hq, he⟩ := Option.map_eq_some_iff.mp h
                  cases he
                  simp only [am_okX] at hxx
                  rw [if_pos h2] at hxx
                  simp only [Bool.and_eq_true] at hxx
                  obtain ⟨⟨⟨q1, q2⟩, q3⟩, q4⟩ := hxx
                  have hle := am_cpy_le (st' := q.1) (s' := q.2) hq
                  have hlv : 2 ≤ am_lev M := of_decide_eq_true hok2.1.1
                  have hsame : q.2.2 = g.2 := by
                    have hq2 : am_cpy B ty st g = some (q.1, q.2) := hq
                    unfold am_cpy at hq2
                    repeat' split at hq2
                    all_goals first
                      | (cases hq2; done)
                      | (have h8 := (Prod.mk.inj (Option.some.inj hq2)).2; rw [← h8]; rfl)
                  refine sm_cpy (st' := q.1) (g' := q.2) hx hb (hml.trans hL.2.1.symm) hown (hts _ (am_has_mem q1)) (hts _ (lw_in_mem q2)) (hts _ (lw_in_mem q3)) (hts _ (lw_in_mem q4)) hty hP (by omega) ?_ hd hq fun H1 locs1 hP1 hl1 => ?_
                  · have h7 : 8 + (nativeFrameWords "java/lang/System" "arraycopy" 5 + 11) ≤ 200 := by decide
                    omega
                  · refine W.cs ?_ ?_ (kk _ _ _ _ ls H1 _ rfl hL hP1 hle fun z hz => (List.mem_append.mp hz).elim (hl z) (hl1 z))
                    · rw [hsame]
                    · rw [hsame]
                split at h
                · rename_i h2
                  exact hcopy _ (Or.inl rfl) (Or.inl h2) h
                · split at h
                  · rename_i h2
                    exact hcopy _ (Or.inr rfl) (Or.inr h2) h
                  · rename_i h2 h3
                    simp only [am_okX] at hxx
                    rw [if_neg (fun q => q.elim h2 h3)] at hxx
                    split at h
                    · rename_i h4
                      obtain ⟨q, hq, he⟩ := Option.map_eq_some_iff.mp h
                      cases he
                      have hlv : 2 ≤ am_lev M := of_decide_eq_true hok2.1.1
                      have a1 := h0.1; have a2 := h0.2.1; have a3 := hz.1; have a4 := hz.2.1
                      have K := kk _ _ _ _ ls H locs rfl hL hP (am_le.rf _) hl
                      unfold am_math at hq
                      split at hq
                      · split at hq
                        · rename_i h5
                          cases hq
                          rw [if_neg (by omega), if_neg (by omega), if_pos h5.1] at hxx
                          simp only [Bool.and_eq_true] at hxx
                          obtain ⟨⟨⟨q1, q2⟩, q3⟩, q4⟩ := hxx
                          have := sm_cat h5.2
                          exact va_mabs hx hb (hml.trans hL.2.1.symm) hown (hts _ (am_has_mem q1)) (hts _ (lw_in_mem q2)) (hts _ (lw_in_mem q3)) (hts _ (lw_in_mem q4)) (by omega) (by omega) (by simp only [am_tS] at a3; omega) (by simp only [am_tS] at a4; omega) hd K
                        · split at hq
                          · split at hq
                            · rename_i h5
                              cases hq
                              rw [if_pos h5.1] at hxx
                              simp only [Bool.and_eq_true] at hxx
                              obtain ⟨⟨⟨q1, q2⟩, q3⟩, q4⟩ := hxx
                              have := sm_cat h5.2
                              exact va_mmax hx hb (hml.trans hL.2.1.symm) hown (hts _ (am_has_mem q1)) (hts _ (lw_in_mem q2)) (hts _ (lw_in_mem q3)) (hts _ (lw_in_mem q4)) (by omega) (by omega) (by simp only [am_tS] at a3; omega) (by simp only [am_tS] at a4; omega) hd K
                            · split at hq
                              · rename_i h5
                                cases hq
                                rw [if_neg (by omega), if_pos h5.1] at hxx
                                simp only [Bool.and_eq_true] at hxx
                                obtain ⟨⟨⟨q1, q2⟩, q3⟩, q4⟩ := hxx
                                have := sm_cat h5.2
                                exact va_mmin hx hb (hml.trans hL.2.1.symm) hown (hts _ (am_has_mem q1)) (hts _ (lw_in_mem q2)) (hts _ (lw_in_mem q3)) (hts _ (lw_in_mem q4)) (by omega) (by omega) (by simp only [am_tS] at a3; omega) (by simp only [am_tS] at a4; omega) hd K
                              · cases hq
                          · cases hq
                      · cases hq
                    · rename_i h4
                      rw [if_neg (fun q => h4 (Or.inl q)), if_neg (fun q => h4 (Or.inr (Or.inl q))), if_neg (fun q => h4 (Or.inr (Or.inr q)))] at hxx
                      exact sm_invW hB hok hcal hR hRc hRs hd hxx h hL hP hte hl h0 hz kk ht
              · rename_i ik
                obtain rfl : 3 = len := by
                  rcases hlen with q | q
                  · exact Option.some.inj q
                  · cases q
                split at h
                · rename_i h2
                  split at h
                  · rename_i a rr
                    split at h
                    · rename_i h3
                      cases h
                      simp only [am_okX] at hxx
                      rw [if_pos h2] at hxx
                      simp only [Bool.and_eq_true] at hxx
                      obtain ⟨⟨q1, q2⟩, q3⟩ := hxx
                      have hlv : 2 ≤ am_lev M := of_decide_eq_true hok2.1.1
                      refine W.objInit hx hb hown (hts _ (am_has_mem q1)) (hts _ (lw_in_mem q2)) (hts _ (lw_in_mem q3)) rfl (hL.2.1.trans hml.symm) rfl hd (by omega) ?_ (kk _ _ _ _ ls H locs rfl hL hP (am_le.rf _) hl)
                      show 2 * 0 + _ + 12 ≤ _
                      have := sm_cat h3
                      omega
                    · cases h
                  · cases h
                · rename_i h2
                  simp only [am_okX] at hxx
                  rw [if_neg h2] at hxx
                  exact sm_invW hB hok hcal hR hRc hRs hd hxx h hL hP hte hl h0 hz kk ht
              · rename_i ik
                split at h
                · rename_i h2
                  cases h
                  obtain ⟨h2, rfl, hhh⟩ := h2
                  obtain ⟨rfl, rfl⟩ := ht _ _ rfl
                  obtain rfl : 3 = len := by
                    rcases hlen with q | q
                    · exact Option.some.inj q
                    · cases q
                  simp only [am_okX] at hxx
                  rw [if_neg (by omega)] at hxx
                  simp only [am_okThrow, Bool.and_eq_true, decide_eq_true_eq] at hxx
                  obtain ⟨⟨⟨⟨q1, q2⟩, q3⟩, q4⟩, ⟨⟨q5, q6⟩, q7⟩, q8⟩ := hxx
                  have hq4 : ∀ w ∈ vx_at0 (am_name M).cls (r3 / 4096) (am_exn r1) am_exSup, w ∈ lw_g ∧ vx_ot w = true := fun w hw => by
                    have h9 := List.all_eq_true.mp q4 w hw
                    simp only [Bool.and_eq_true] at h9
                    exact ⟨lw_in_mem h9.1, h9.2⟩
                  have hnil : c.exceptionTable.toList = [] := by rw [htab, hhh]; rfl
                  have hfit : Bundle.fit (am_exn r1) = true := by
                    rcases r1 with _ | r1
                    · decide
                    · show Bundle.fit "java/lang/IndexOutOfBoundsException" = true
                      decide
                  have hA : ∀ q : Nat, q < s.heap.size → ¬ B ≤ q → H[q]? = s.heap[q]? := fun q _ h => by rw [hlow q (by omega), hlow0 q (by omega)]
                  have hA0 : ∀ q : Nat, q < H00.size → ¬ B ≤ q → s.heap[q]? = H00[q]? := fun q _ h => hlow0 q (by omega)
                  have a1 := h0.1; have a2 := h0.2.1
                  have hbc : (am_bump g).2.1 = g.2.1 + 1 := rfl
                  have hbs : (am_bump g).2.2.1 = g.2.2.1 + 6 := rfl
                  refine sm_throw0 (A := fun a => B ≤ a) (names := am_exSup) hx hb hst hown hfit (by decide) (hts _ (am_has_mem q2)) (hts _ (lw_in_mem q3)) (fun w hw => hts _ (hq4 w hw).1) (fun w hw => ?_) (vx_Zq.kept henv.2.2.2.1 hA0) (vx_Zq.kept henv.2.2.2.2.1 hA0) ⟨?_, hA, hl⟩ (hL.2.1.trans hml.symm) hd q5 q6 q7 (by rw [hnil]; intro x hx; cases hx) ?_ ?_ ?_ ?_ hlk (fun t h1 h2 h3 => ?_) hl ?_ ?_
                  · rcases List.mem_cons.mp hw with rfl | hw
                    · rfl
                    · rcases List.mem_cons.mp hw with rfl | hw
                      · rfl
                      · exact (hq4 w hw).2
                  · rw [hS0.1, hP.1]; exact a1
                  · show 2 + 3 < _; omega
                  · show 0 + (13 * (2 + 1) + 42) ≤ _; omega
                  · rw [hbc] at hRc; omega
                  · rw [hbs] at hRs; omega
                  · exact ⟨r1, rfl, rfl, q1, (hP.moved h1).bump h2 h3⟩
                  · rw [hbc]; omega
                  · rw [hbs]; omega
                · cases h
              · cases h
  · cases h
theorem sm_core (hB : sm_Bod ct sT sS D B H00 te p l s m args meth c M) (hC : ∀ r ∈ ct, am_okC r = true) (hok : am_okMeth ct mt sT sS M = true) (hcal : sm_Cal ct mt sT sS D B H00 te l call) (hS0 : sm_Rep ct D B H00 s g0 s.heap) (hR : am_lev M ≤ R.frames ∧ 100 * am_lev M ≤ R.locals) (hRc : gz.2.1 - g0.2.1 ≤ R.cells) (hRs : gz.2.2.1 - g0.2.2.1 ≤ R.slots) :
    ∀ (n pc : Nat) (ls : Array Slot) (L st : List Value) (g : am_S) (H : Heap) (locs : List Loc), am_loop ct mt B call M n pc L st g = some (oz, gz) → sm_L ls (am_maxL M) L → sm_Rep ct D B H00 s g H → g.2.2.2 = te → am_le g0 g → (∀ z ∈ locs, B ≤ z.base) → sm_W ct D B H00 p l e R s m args below meth c g0 gz oz H locs g pc ls st
  | 0, _, _, _, _, _, _, _, h, _, _, _, _, _ => by cases h
  | n + 1, pc, ls, L, st, g, H, locs, h, hL, hP, hte, h0, hl => by
    unfold am_loop at h
    split at h
    · rename_i pc' L' st' g' hs
      have hz := am_loop_le (fun k as g o g' q => (hcal k as g o g' q).1) n pc' L' st' g' gz oz h
      refine sm_stepW hB hC hok hcal hS0 hR hRc hRs hs hL hP hte hl h0 hz (fun pc2 L2 st2 g2 ls2 H1 locs1 he hL1 hP1 hle hl1 => ?_) (fun o' g' he => by cases he)
      cases he
      exact sm_core hB hC hok hcal hS0 hR hRc hRs n pc' ls2 L' st' g' H1 locs1 h hL1 hP1 (hle.2.2.trans hte) (h0.tr hle) hl1
    · rename_i q hs
      cases h
      exact sm_stepW hB hC hok hcal hS0 hR hRc hRs hs hL hP hte hl h0 (am_le.rf _) (fun pc2 L2 st2 g2 ls2 H1 locs1 he => by cases he) (fun o' g' he => by cases he; exact ⟨rfl, rfl⟩)
    · cases h
end Core4
