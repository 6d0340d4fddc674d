/-! THE ABSTRACT MACHINE WITHOUT BOUNDS: cl (a method's run) and rn (a run from a place in its code), as equations -/
section Mono
variable {ct : List am_C} {mt : List am_M} {B : Nat} {M : am_M} {call call' : Nat → List Value → am_S → Option (am_O × am_S)}
theorem am_inv_mono (hc : ∀ k as g r, call k as g = some r → call' k as g = some r) {pc k r2 : Nat} {L st : List Value} {s : am_S} {t : am_T} (h : am_inv mt call M pc k r2 L st s = some t) : am_inv mt call' M pc k r2 L st s = some t := by
  unfold am_inv at h ⊢
  split at h
  · split at h
    · rename_i hif
      rw [if_pos hif]
      split at h
      · rename_i q
        rw [hc _ _ _ _ q]
        exact h
      · rename_i q
        rw [hc _ _ _ _ q]
        exact h
      · cases h
    · cases h
  · cases h
theorem am_step_mono (hc : ∀ k as g r, call k as g = some r → call' k as g = some r) {pc : Nat} {L st : List Value} {s : am_S} {t : am_T} (h : am_step ct mt B call M pc L st s = some t) : am_step ct mt B call' M pc L st s = some t := by
  unfold am_step at h ⊢
  split at h
  · try dsimp only
    unfold am_ins at h ⊢
    split at h
    · exact h
    · split at h
      · exact h
      · split at h
        · exact h
        · split at h
          · exact h
          · split at h
            · exact h
            · split at h
              · exact am_inv_mono hc h
              · split at h
                · rename_i q; rw [if_pos q]; exact h
                · rename_i q
                  rw [if_neg q]
                  split at h
                  · rename_i q; rw [if_pos q]; exact h
                  · rename_i q
                    rw [if_neg q]
                    split at h
                    · rename_i q; rw [if_pos q]; exact h
                    · rename_i q; rw [if_neg q]; exact am_inv_mono hc h
              · split at h
                · rename_i q; rw [if_pos q]; exact h
                · rename_i q; rw [if_neg q]; exact am_inv_mono hc h
              · exact h
              · exact h
  · cases h
theorem am_loop_mono (hc : ∀ k as g r, call k as g = some r → call' k as g = some r) : ∀ (n n' pc : Nat) (L st : List Value) (s : am_S) (r : am_O × am_S), n ≤ n' → am_loop ct mt B call M n pc L st s = some r → am_loop ct mt B call' M n' pc L st s = some r
  | 0, _, _, _, _, _, _, _, h => by cases h
  | n + 1, 0, _, _, _, _, _, hn, _ => by omega
  | n + 1, n' + 1, pc, L, st, s, r, hn, h => by
    unfold am_loop at h ⊢
    split at h
    · rename_i q
      rw [am_step_mono hc q]
      exact am_loop_mono hc n n' _ _ _ _ _ (by omega) h
    · rename_i q
      rw [am_step_mono hc q]
      exact h
    · cases h
theorem am_run_mono : ∀ (d d' n n' k : Nat) (as : List Value) (s : am_S) (r : am_O × am_S), n ≤ n' → d ≤ d' → am_run ct mt B n d k as s = some r → am_run ct mt B n' d' k as s = some r
  | 0, _, _, _, _, _, _, _, _, _, h => by cases h
  | d + 1, 0, _, _, _, _, _, _, _, hd, _ => by omega
  | d + 1, d' + 1, n, n', k, as, s, r, hn, hd, h => by
    unfold am_run at h ⊢
    split at h
    · try dsimp only
      split at h
      · rename_i q
        rw [if_pos ⟨by omega, q.2⟩]
        exact am_loop_mono (fun k' a' s' r' h' => am_run_mono d d' n n' k' a' s' r' hn (by omega) h') n n' 0 _ _ s r hn h
      · cases h
    · cases h
end Mono
section Rn
variable (ct : List am_C) (mt : List am_M) (B : Nat)
def cl_P (k : Nat) (as : List Value) (s : am_S) (r : am_O × am_S) : Prop := ∃ n d, am_run ct mt B n d k as s = some r
noncomputable def cl_ (k : Nat) (as : List Value) (s : am_S) : Option (am_O × am_S) := @dite _ (∃ r, cl_P ct mt B k as s r) (Classical.propDecidable _) (fun h => some (Classical.choose h)) (fun _ => none)
def rn_P (M : am_M) (pc : Nat) (L st : List Value) (s : am_S) (r : am_O × am_S) : Prop := ∃ n d m, am_loop ct mt B (fun k a s => am_run ct mt B n d k a s) M m pc L st s = some r
noncomputable def rn_ (M : am_M) (pc : Nat) (L st : List Value) (s : am_S) : Option (am_O × am_S) := @dite _ (∃ r, rn_P ct mt B M pc L st s r) (Classical.propDecidable _) (fun h => some (Classical.choose h)) (fun _ => none)
variable {ct : List am_C} {mt : List am_M} {B : Nat}
theorem cl_iff {k : Nat} {as : List Value} {s : am_S} {r : am_O × am_S} : cl_ ct mt B k as s = some r ↔ ∃ n d, am_run ct mt B n d k as s = some r := by
  have det : ∀ r r', cl_P ct mt B k as s r → cl_P ct mt B k as s r' → r = r' := by
    rintro r r' ⟨n, d, h⟩ ⟨n', d', h'⟩
    have a := am_run_mono d (max d d') n (max n n') k as s r (by omega) (by omega) h
    have b := am_run_mono d' (max d d') n' (max n n') k as s r' (by omega) (by omega) h'
    exact Option.some.inj (a.symm.trans b)
  unfold cl_
  constructor
  · intro h
    split at h
    · rename_i hx
      cases h
      exact Classical.choose_spec hx
    · cases h
  · intro h
    have hx : ∃ r, cl_P ct mt B k as s r := ⟨r, h⟩
    rw [dif_pos hx]
    exact congrArg some (det _ _ (Classical.choose_spec hx) h)
theorem rn_iff {M : am_M} {pc : Nat} {L st : List Value} {s : am_S} {r : am_O × am_S} : rn_ ct mt B M pc L st s = some r ↔ ∃ n d m, am_loop ct mt B (fun k a s => am_run ct mt B n d k a s) M m pc L st s = some r := by
  have det : ∀ r r', rn_P ct mt B M pc L st s r → rn_P ct mt B M pc L st s r' → r = r' := by
    rintro r r' ⟨n, d, m, h⟩ ⟨n', d', m', h'⟩
    have a := am_loop_mono (call' := fun k a s => am_run ct mt B (max n n') (max d d') k a s) (fun k a s r q => am_run_mono d _ n _ k a s r (by omega) (by omega) q) m (max m m') pc L st s r (by omega) h
    have b := am_loop_mono (call' := fun k a s => am_run ct mt B (max n n') (max d d') k a s) (fun k a s r q => am_run_mono d' _ n' _ k a s r (by omega) (by omega) q) m' (max m m') pc L st s r' (by omega) h'
    exact Option.some.inj (a.symm.trans b)
  unfold rn_
  constructor
  · intro h
    split at h
    · rename_i hx
      cases h
      exact Classical.choose_spec hx
    · cases h
  · intro h
    have hx : ∃ r, rn_P ct mt B M pc L st s r := ⟨r, h⟩
    rw [dif_pos hx]
    exact congrArg some (det _ _ (Classical.choose_spec hx) h)
theorem run_cl {n d k : Nat} {as : List Value} {s : am_S} {r : am_O × am_S} (h : am_run ct mt B n d k as s = some r) : cl_ ct mt B k as s = some r := cl_iff.mpr ⟨n, d, h⟩
theorem inv_cl {M : am_M} {pc k r2 : Nat} {L st : List Value} {s : am_S} {t : am_T} (h : am_inv mt (cl_ ct mt B) M pc k r2 L st s = some t) : ∃ n d, am_inv mt (fun k a s => am_run ct mt B n d k a s) M pc k r2 L st s = some t := by
  unfold am_inv at h
  split at h
  · rename_i N hN
    split at h
    · rename_i hif
      split at h
      · rename_i q
        obtain ⟨n, d, hq⟩ := cl_iff.mp q
        refine ⟨n, d, ?_⟩
        unfold am_inv
        rw [hN]
        try dsimp only
        rw [if_pos hif, hq]
        exact h
      · rename_i q
        obtain ⟨n, d, hq⟩ := cl_iff.mp q
        refine ⟨n, d, ?_⟩
        unfold am_inv
        rw [hN]
        try dsimp only
        rw [if_pos hif, hq]
        exact h
      · cases h
    · cases h
  · cases h
theorem step_cl {M : am_M} {pc : Nat} {L st : List Value} {s : am_S} {t : am_T} (h : am_step ct mt B (cl_ ct mt B) M pc L st s = some t) : ∃ n d, am_step ct mt B (fun k a s => am_run ct mt B n d k a s) M pc L st s = some t := by
  unfold am_step at h ⊢
  split at h
  · try dsimp only
    unfold am_ins at h ⊢
    split at h
    · exact ⟨0, 0, h⟩
    · split at h
      · exact ⟨0, 0, h⟩
      · split at h
        · exact ⟨0, 0, h⟩
        · split at h
          · exact ⟨0, 0, h⟩
          · split at h
            · exact ⟨0, 0, h⟩
            · split at h
              · exact inv_cl h
              · split at h
                · rename_i q; exact ⟨0, 0, by rw [if_pos q]; exact h⟩
                · rename_i q
                  split at h
                  · rename_i q2; exact ⟨0, 0, by rw [if_neg q, if_pos q2]; exact h⟩
                  · rename_i q2
                    split at h
                    · rename_i q3; exact ⟨0, 0, by rw [if_neg q, if_neg q2, if_pos q3]; exact h⟩
                    · rename_i q3
                      obtain ⟨n, d, h⟩ := inv_cl h
                      exact ⟨n, d, by rw [if_neg q, if_neg q2, if_neg q3]; exact h⟩
              · split at h
                · rename_i q; exact ⟨0, 0, by rw [if_pos q]; exact h⟩
                · rename_i q
                  obtain ⟨n, d, h⟩ := inv_cl h
                  exact ⟨n, d, by rw [if_neg q]; exact h⟩
              · exact ⟨0, 0, h⟩
              · exact ⟨0, 0, h⟩
  · cases h
theorem rn_some {M : am_M} {pc : Nat} {L st : List Value} {s : am_S} {r : am_O × am_S} : rn_ ct mt B M pc L st s = some r ↔ ((∃ pc' L' st' s', am_step ct mt B (cl_ ct mt B) M pc L st s = some (.inl (pc', L', st', s')) ∧ rn_ ct mt B M pc' L' st' s' = some r) ∨ am_step ct mt B (cl_ ct mt B) M pc L st s = some (.inr r)) := by
  constructor
  · intro h
    obtain ⟨n, d, m, h⟩ := rn_iff.mp h
    rcases m with _ | m
    · cases h
    · unfold am_loop at h
      split at h
      · rename_i q
        exact Or.inl ⟨_, _, _, _, am_step_mono (fun k a s r hr => run_cl hr) q, rn_iff.mpr ⟨n, d, m, h⟩⟩
      · rename_i q
        cases h
        exact Or.inr (am_step_mono (fun k a s r hr => run_cl hr) q)
      · cases h
  · rintro (⟨pc', L', st', s', h1, h2⟩ | h1)
    · obtain ⟨n, d, h1⟩ := step_cl h1
      obtain ⟨n', d', m, h2⟩ := rn_iff.mp h2
      refine rn_iff.mpr ⟨max n n', max d d', m + 1, ?_⟩
      unfold am_loop
      rw [am_step_mono (call' := fun k a s => am_run ct mt B (max n n') (max d d') k a s) (fun k a s r q => am_run_mono d _ n _ k a s r (by omega) (by omega) q) h1]
      exact am_loop_mono (fun k a s r q => am_run_mono d' _ n' _ k a s r (by omega) (by omega) q) m m pc' L' st' s' r (Nat.le_refl _) h2
    · obtain ⟨n, d, h1⟩ := step_cl h1
      refine rn_iff.mpr ⟨n, d, 1, ?_⟩
      unfold am_loop
      rw [h1]
/-- one step -/
theorem rn_eq (M : am_M) (pc : Nat) (L st : List Value) (s : am_S) : rn_ ct mt B M pc L st s = (match am_step ct mt B (cl_ ct mt B) M pc L st s with
    | some (.inl (pc', L', st', s')) => rn_ ct mt B M pc' L' st' s'
    | some (.inr r) => some r
    | none => none) := by
  apply Option.ext
  intro r
  rw [rn_some]
  constructor
  · rintro (⟨pc', L', st', s', h1, h2⟩ | h1)
    · rw [h1]; exact h2
    · rw [h1]
  · intro h
    split at h
    · rename_i q
      exact Or.inl ⟨_, _, _, _, q, h⟩
    · rename_i q
      cases h
      exact Or.inr q
    · cases h
/-- a method's run is its code's, from the start -/
theorem cl_eq (k : Nat) (as : List Value) (s : am_S) : cl_ ct mt B k as s = (match mt[k]? with
    | some M => if (am_entry as (am_maxL M)).length = am_maxL M ∧ (as.all fun v => decide (v ≠ am_un)) = true then rn_ ct mt B M 0 (am_entry as (am_maxL M)) [] s else none
    | none => none) := by
  apply Option.ext
  intro r
  rw [cl_iff]
  constructor
  · rintro ⟨n, d, h⟩
    rcases d with _ | d
    · cases h
    · unfold am_run at h
      split at h
      · rename_i M hM
        split at h
        · rename_i q
          simp only [hM]
          rw [if_pos q.2]
          exact rn_iff.mpr ⟨n, d, n, h⟩
        · cases h
      · cases h
  · intro h
    split at h
    · rename_i M hM
      split at h
      · rename_i q
        obtain ⟨n, d, m, h⟩ := rn_iff.mp h
        refine ⟨max n m, max d (am_lev M) + 1, ?_⟩
        unfold am_run
        rw [hM]
        try dsimp only
        rw [if_pos ⟨by omega, q⟩]
        exact am_loop_mono (fun k a s r q => am_run_mono d _ n _ k a s r (by omega) (by omega) q) m _ 0 _ _ s r (by omega) h
      · cases h
    · cases h
end Rn
