/-! calls, statics, switches as equations -/
def stR (s : am_S) (k : Nat) : Option Nat := match s.2.2.2 k with
  | .ref a => some a
  | _ => none
def stI (s : am_S) (k : Nat) : Option Int32 := match s.2.2.2 k with
  | .int a => some a
  | _ => none
def stA (s : am_S) (k : Nat) : Option (Option Nat) := match s.2.2.2 k with
  | .ref a => some (some a)
  | .null => some none
  | _ => none
def cW (r : am_R) (f : Option Value → am_S → am_R) (x : Nat → am_S → am_R) : am_R := match r with
  | some (.inl v, s) => f v s
  | some (.inr E, s) => x E s
  | none => none
/-- the receiver's class -/
def eC (o : Option Nat) (c : Nat) (f : am_R) : am_R := if o = some c then f else none
def am_fitR : Option FieldType → Option Value → Prop
  | none, none => True
  | some t, some v => fits t v = true
  | _, _ => False
section Rules2
variable {ct : List am_C} {mt : List am_M} {B : Nat} {M N : am_M} {pc len r1 r2 r3 k : Nat} {km : List Nat} {x : Instr} {L L' st as rest : List Value} {s : am_S} {call : Nat → List Value → am_S → Option (am_O × am_S)}
theorem am_ret_fit {v : Option Value} {s' : am_S} (h : am_ret M x st s = some (.inr (.inl v, s'))) : am_fitR (am_retT M) v := by
  unfold am_ret at h
  split at h
  all_goals
    repeat' split at h
    all_goals first
      | (cases h; done)
      | skip
  · rename_i h1; cases h; rw [h1]; exact trivial
  · rename_i ty h1 h2; cases h; rw [h1]; exact h2
  · rename_i h1; cases h; rw [h1]; rfl
  · rename_i h1; cases h; rw [h1]; rfl
  · rename_i h1; cases h; rw [h1]; rfl
  · rename_i v ty h1 h2; cases h; rw [h1]; exact h2.2
theorem am_thr_fit {E : Nat} {v : Option Value} {s' : am_S} (h : am_thr M pc E L s = some (.inr (.inl v, s'))) : False := by
  unfold am_thr at h
  repeat' split at h
  all_goals cases h
theorem am_inv_fit {v : Option Value} {s' : am_S} (h : am_inv mt call M pc k r2 L st s = some (.inr (.inl v, s'))) : False := by
  unfold am_inv at h
  repeat' split at h
  all_goals first
    | (cases h; done)
    | exact am_thr_fit h
theorem am_step_fit {v : Option Value} {s' : am_S} (h : am_step ct mt B call M pc L st s = some (.inr (.inl v, s'))) : am_fitR (am_retT M) v := by
  unfold am_step at h
  split at h
  · unfold am_ins at h
    split at h
    · cases h
    · split at h
      · cases h
      · split at h
        · cases h
        · split at h
          · cases h
          · split at h
            · rename_i q
              cases h
              exact am_ret_fit q
            · split at h
              · exact (am_inv_fit h).elim
              · split at h
                · obtain ⟨q, hq, he⟩ := Option.map_eq_some_iff.mp h
                  cases he
                · split at h
                  · obtain ⟨q, hq, he⟩ := Option.map_eq_some_iff.mp h
                    cases he
                  · split at h
                    · obtain ⟨q, hq, he⟩ := Option.map_eq_some_iff.mp h
                      cases he
                    · exact (am_inv_fit h).elim
              · split at h
                · repeat' split at h
                  all_goals cases h
                · exact (am_inv_fit h).elim
              · split at h <;> cases h
              · cases h
  · cases h
theorem am_loop_fit : ∀ (n pc : Nat) (L st : List Value) (s : am_S) (v : Option Value) (s' : am_S), am_loop ct mt B call M n pc L st s = some (.inl v, s') → am_fitR (am_retT M) v
  | 0, _, _, _, _, _, _, h => by cases h
  | n + 1, pc, L, st, s, v, s', h => by
    unfold am_loop at h
    split at h
    · exact am_loop_fit n _ _ _ _ v s' h
    · rename_i q
      cases h
      exact am_step_fit q
    · cases h
theorem cl_fit {v : Option Value} {s' : am_S} (hN : mt[k]? = some N) (h : cl_ ct mt B k as s = some (.inl v, s')) : am_fitR (am_retT N) v := by
  obtain ⟨n, d, h⟩ := cl_iff.mp h
  rcases d with _ | d
  · cases h
  · unfold am_run at h
    rw [hN] at h
    dsimp only at h
    split at h
    · exact am_loop_fit _ _ _ _ _ _ _ h
    · cases h
/-- where an exception goes that comes out of a call -/
noncomputable def xh (ct : List am_C) (mt : List am_M) (B : Nat) (M : am_M) (pc : Nat) (L : List Value) (E : Nat) (s : am_S) : am_R := match am_thr M pc E L s with
  | some (.inl (pc', L', st', s')) => rn_ ct mt B M pc' L' st' s'
  | some (.inr r) => some r
  | none => none
theorem xh_nil (h : am_hh M = []) : xh ct mt B M pc L = xo := by
  funext E s
  unfold xh am_thr
  rw [h]
  rfl
theorem rn_inv (h : (am_code M).lookup pc = some (x, 3, k, r2, r3, km)) (hk : am_kill km L = L') (h5 : am_ins ct mt B (cl_ ct mt B) M pc x 3 k r2 L' st s = am_inv mt (cl_ ct mt B) M pc k r2 L' st s)
    (hN : mt[k]? = some N) (hst : st = as.reverse ++ rest) (hn : as.length = am_nargs N) (hl : am_w rest ≤ 8) (hlev : am_lev N < am_lev M) (hr : am_kind N = 0 ∨ am_recv s (r2 / 10) as.head? = true) :
    rn_ ct mt B M pc L st s = cW (cl_ ct mt B k as s) (fun v s' => rn_ ct mt B M (pc + 3) L' (v.toList ++ rest) s') (xh ct mt B M pc L') := by
  have e1 : st.take (am_nargs N) = as.reverse := by rw [hst, ← hn, ← List.length_reverse, List.take_left]
  have e2 : st.drop (am_nargs N) = rest := by rw [hst, ← hn, ← List.length_reverse, List.drop_left]
  have e3 : am_nargs N ≤ st.length := by rw [hst, List.length_append, List.length_reverse, hn]; omega
  rw [rn_eq]
  unfold am_step
  rw [h]
  dsimp only
  rw [hk, h5]
  unfold am_inv
  rw [hN]
  dsimp only
  rw [e1, e2, List.reverse_reverse, List.getLast?_reverse, if_pos ⟨e3, hl, hlev, hr⟩]
  cases hc : cl_ ct mt B k as s with
  | none => rfl
  | some q =>
    obtain ⟨o, s'⟩ := q
    cases o with
    | inl v => rfl
    | inr E => rfl
theorem rn_inv0 (h : (am_code M).lookup pc = some (x, 3, k, r2, r3, km)) (h5 : am_ins ct mt B (cl_ ct mt B) M pc x 3 k r2 (am_kill km L) st s = am_inv mt (cl_ ct mt B) M pc k r2 (am_kill km L) st s)
    (hN : mt[k]? = some N) (hst : st = as.reverse ++ rest) (hn : as.length = am_nargs N) (hr : ¬ (am_kind N = 0 ∨ am_recv s (r2 / 10) as.head? = true)) : rn_ ct mt B M pc L st s = none := by
  have e1 : st.take (am_nargs N) = as.reverse := by rw [hst, ← hn, ← List.length_reverse, List.take_left]
  rw [rn_eq]
  unfold am_step
  rw [h]
  dsimp only
  rw [h5]
  unfold am_inv
  rw [hN]
  dsimp only
  rw [e1, List.getLast?_reverse, if_neg (fun q => hr q.2.2.2)]
/-- a static call -/
theorem rn_sta {j : Nat} (h : (am_code M).lookup pc = some (.invokestatic j, 3, k, 0, r3, km)) (hk : am_kill km L = L') (hN : mt[k]? = some N) (hst : st = as.reverse ++ rest) (hn : as.length = am_nargs N) (hl : am_w rest ≤ 8) (hlev : am_lev N < am_lev M) (hr : am_kind N = 0) :
    rn_ ct mt B M pc L st s = cW (cl_ ct mt B k as s) (fun v s' => rn_ ct mt B M (pc + 3) L' (v.toList ++ rest) s') (xh ct mt B M pc L') :=
  rn_inv h hk (by simp only [am_ins, am_pure, am_store, am_jump, am_heap, am_ret]; rfl) hN hst hn hl hlev (Or.inl hr)
theorem rn_vir {j a : Nat} (h : (am_code M).lookup pc = some (.invokevirtual j, 3, k, r2, r3, km)) (hk : am_kill km L = L') (hN : mt[k]? = some N) (hst : st = as.reverse ++ .ref a :: rest) (hn : as.length + 1 = am_nargs N) (hl : am_w rest ≤ 8) (hlev : am_lev N < am_lev M) (hr : am_kind N ≠ 0) :
    rn_ ct mt B M pc L st s = eC (am_cls s a) (r2 / 10) (cW (cl_ ct mt B k (.ref a :: as) s) (fun v s' => rn_ ct mt B M (pc + 3) L' (v.toList ++ rest) s') (xh ct mt B M pc L')) := by
  unfold eC
  by_cases hc : am_cls s a = some (r2 / 10)
  · rw [if_pos hc]
    exact rn_inv (as := .ref a :: as) h hk (by simp only [am_ins, am_pure, am_store, am_jump, am_heap, am_ret]) hN (by rw [hst]; simp) (by simp [hn]) hl hlev (Or.inr (by simp [am_recv, hc]))
  · rw [if_neg hc]
    exact rn_inv0 (as := .ref a :: as) (rest := rest) h (by simp only [am_ins, am_pure, am_store, am_jump, am_heap, am_ret]) hN (by rw [hst]; simp) (by simp [hn]) (by simp [am_recv, hc, hr])
theorem rn_spe {j a : Nat} (h : (am_code M).lookup pc = some (.invokespecial j, 3, k, r2, r3, km)) (hk : am_kill km L = L') (h8 : r2 ≠ 8) (hN : mt[k]? = some N) (hst : st = as.reverse ++ .ref a :: rest) (hn : as.length + 1 = am_nargs N) (hl : am_w rest ≤ 8) (hlev : am_lev N < am_lev M) (hr : am_kind N ≠ 0) :
    rn_ ct mt B M pc L st s = eC (am_cls s a) (r2 / 10) (cW (cl_ ct mt B k (.ref a :: as) s) (fun v s' => rn_ ct mt B M (pc + 3) L' (v.toList ++ rest) s') (xh ct mt B M pc L')) := by
  unfold eC
  by_cases hc : am_cls s a = some (r2 / 10)
  · rw [if_pos hc]
    exact rn_inv (as := .ref a :: as) h hk (by simp only [am_ins, am_pure, am_store, am_jump, am_heap, am_ret, if_neg h8]) hN (by rw [hst]; simp) (by simp [hn]) hl hlev (Or.inr (by simp [am_recv, hc]))
  · rw [if_neg hc]
    exact rn_inv0 (as := .ref a :: as) (rest := rest) h (by simp only [am_ins, am_pure, am_store, am_jump, am_heap, am_ret, if_neg h8]) hN (by rw [hst]; simp) (by simp [hn]) (by simp [am_recv, hc, hr])
theorem cW_I {f : Option Value → am_S → am_R} {X : Nat → am_S → am_R} {t : FieldType} (hN : mt[k]? = some N) (ht : am_retT N = some t) (hi : am_isI t = true) : cW (cl_ ct mt B k as s) f X = cI (cl_ ct mt B k as s) (fun z => f (some (.int z))) X := by
  cases hc : cl_ ct mt B k as s with
  | none => rfl
  | some q =>
    obtain ⟨o, s'⟩ := q
    cases o with
    | inr E => rfl
    | inl v =>
      have h1 := cl_fit hN hc
      rw [ht] at h1
      cases v with
      | none => cases h1
      | some v =>
        obtain ⟨z, rfl⟩ := am_isI_fits hi h1
        rfl
theorem cW_V {f : Option Value → am_S → am_R} {X : Nat → am_S → am_R} (hN : mt[k]? = some N) (ht : am_retT N = none) : cW (cl_ ct mt B k as s) f X = cV (cl_ ct mt B k as s) (f none) X := by
  cases hc : cl_ ct mt B k as s with
  | none => rfl
  | some q =>
    obtain ⟨o, s'⟩ := q
    cases o with
    | inr E => rfl
    | inl v =>
      have h1 := cl_fit hN hc
      rw [ht] at h1
      cases v with
      | none => rfl
      | some v => cases h1
theorem cW_A {f : Option Value → am_S → am_R} {X : Nat → am_S → am_R} {t : FieldType} (hN : mt[k]? = some N) (ht : am_retT N = some t) (hi : am_isO t = true) : cW (cl_ ct mt B k as s) f X = cA (cl_ ct mt B k as s) (f (some .null)) (fun b => f (some (.ref b))) X := by
  cases hc : cl_ ct mt B k as s with
  | none => rfl
  | some q =>
    obtain ⟨o, s'⟩ := q
    cases o with
    | inr E => rfl
    | inl v =>
      have h1 := cl_fit hN hc
      rw [ht] at h1
      cases v with
      | none => cases h1
      | some v =>
        rcases am_isO_fits hi h1 with rfl | ⟨b, rfl⟩ <;> rfl
theorem cW_J {f : Option Value → am_S → am_R} {X : Nat → am_S → am_R} (hN : mt[k]? = some N) (ht : am_retT N = some .long) : cW (cl_ ct mt B k as s) f X = cJ (cl_ ct mt B k as s) (fun z => f (some (.long z))) X := by
  cases hc : cl_ ct mt B k as s with
  | none => rfl
  | some q =>
    obtain ⟨o, s'⟩ := q
    cases o with
    | inr E => rfl
    | inl v =>
      have h1 := cl_fit hN hc
      rw [ht] at h1
      cases v with
      | none => cases h1
      | some v => cases v <;> first | rfl | (simp [am_fitR, fits] at h1; done)
theorem cW_F {f : Option Value → am_S → am_R} {X : Nat → am_S → am_R} (hN : mt[k]? = some N) (ht : am_retT N = some .float) : cW (cl_ ct mt B k as s) f X = cF (cl_ ct mt B k as s) (fun z => f (some (.float z))) X := by
  cases hc : cl_ ct mt B k as s with
  | none => rfl
  | some q =>
    obtain ⟨o, s'⟩ := q
    cases o with
    | inr E => rfl
    | inl v =>
      have h1 := cl_fit hN hc
      rw [ht] at h1
      cases v with
      | none => cases h1
      | some v => cases v <;> first | rfl | (simp [am_fitR, fits] at h1; done)
theorem cW_D {f : Option Value → am_S → am_R} {X : Nat → am_S → am_R} (hN : mt[k]? = some N) (ht : am_retT N = some .double) : cW (cl_ ct mt B k as s) f X = cD (cl_ ct mt B k as s) (fun z => f (some (.double z))) X := by
  cases hc : cl_ ct mt B k as s with
  | none => rfl
  | some q =>
    obtain ⟨o, s'⟩ := q
    cases o with
    | inr E => rfl
    | inl v =>
      have h1 := cl_fit hN hc
      rw [ht] at h1
      cases v with
      | none => cases h1
      | some v => cases v <;> first | rfl | (simp [am_fitR, fits] at h1; done)
/-- statics, constants -/
theorem rn_pu {st' : List Value} (h : (am_code M).lookup pc = some (x, len, r1, r2, r3, km)) (hk : am_kill km L = L') : rn_ ct mt B M pc L st s = (match am_pure x r1 r2 L' st s.2.2.2 with
    | some st' => rn_ ct mt B M (pc + len) L' st' s
    | none => rn_ ct mt B M pc L st s) := by
  cases hp : am_pure x r1 r2 L' st s.2.2.2 with
  | none => rfl
  | some st' =>
    rw [rn_eq]
    unfold am_step
    rw [h]
    dsimp only
    rw [hk]
    unfold am_ins
    rw [hp]
theorem rn_gsR {j : Nat} (h : (am_code M).lookup pc = some (.getstatic j, 3, r1, 1, r3, km)) (hk : am_kill km L = L') : rn_ ct mt B M pc L st s = eK (stR s r1) fun a => rn_ ct mt B M (pc + 3) L' (.ref a :: st) s := by
  rw [rn_eq]
  unfold am_step
  rw [h]
  dsimp only
  rw [hk]
  unfold stR eK
  cases hv : s.2.2.2 r1 <;> simp [am_ins, am_pure, am_store, am_jump, am_heap, am_ret, hv, am_ty]
theorem rn_gsI {j : Nat} (h : (am_code M).lookup pc = some (.getstatic j, 3, r1, 0, r3, km)) (hk : am_kill km L = L') : rn_ ct mt B M pc L st s = eI (stI s r1) fun a => rn_ ct mt B M (pc + 3) L' (.int a :: st) s := by
  rw [rn_eq]
  unfold am_step
  rw [h]
  dsimp only
  rw [hk]
  unfold stI eI
  cases hv : s.2.2.2 r1 <;> simp [am_ins, am_pure, am_store, am_jump, am_heap, am_ret, hv, am_ty]
theorem rn_gsA {j : Nat} (h : (am_code M).lookup pc = some (.getstatic j, 3, r1, 2, r3, km)) (hk : am_kill km L = L') : rn_ ct mt B M pc L st s = eA (stA s r1) (rn_ ct mt B M (pc + 3) L' (.null :: st) s) fun a => rn_ ct mt B M (pc + 3) L' (.ref a :: st) s := by
  rw [rn_eq]
  unfold am_step
  rw [h]
  dsimp only
  rw [hk]
  unfold stA eA
  cases hv : s.2.2.2 r1 <;> simp [am_ins, am_pure, am_store, am_jump, am_heap, am_ret, hv, am_ty, am_isR]
theorem rn_ldS {j : Nat} (h : (am_code M).lookup pc = some (.ldc j, 2, r1, 1, r3, km)) (hk : am_kill km L = L') : rn_ ct mt B M pc L st s = eK (stR s r1) fun a => rn_ ct mt B M (pc + 2) L' (.ref a :: st) s := by
  rw [rn_eq]
  unfold am_step
  rw [h]
  dsimp only
  rw [hk]
  unfold stR eK
  cases hv : s.2.2.2 r1 <;> simp [am_ins, am_pure, am_store, am_jump, am_heap, am_ret, hv, am_ty]
theorem rn_ldSw {j : Nat} (h : (am_code M).lookup pc = some (.ldc_w j, 3, r1, 1, r3, km)) (hk : am_kill km L = L') : rn_ ct mt B M pc L st s = eK (stR s r1) fun a => rn_ ct mt B M (pc + 3) L' (.ref a :: st) s := by
  rw [rn_eq]
  unfold am_step
  rw [h]
  dsimp only
  rw [hk]
  unfold stR eK
  cases hv : s.2.2.2 r1 <;> simp [am_ins, am_pure, am_store, am_jump, am_heap, am_ret, hv, am_ty]
/-- a switch -/
theorem rn_tsw {d lo hi : Int} {offs : Array Int} {v : Int32} (h : (am_code M).lookup pc = some (.tableswitch d lo hi offs, len, r1, r2, r3, km)) (hk : am_kill km L = L') (hs : hi + 1 = lo + offs.toList.length) {ts : List Nat} {td : Nat} (h1 : (offs.toList.map fun o => ((pc : Int) + o).toNat) = ts) (h2 : ((pc : Int) + d).toNat = td) :
    rn_ ct mt B M pc L (.int v :: st) s = sw v.toInt lo (ts.map fun t => rn_ ct mt B M t L' st s) (rn_ ct mt B M td L' st s) := by
  unfold sw
  have hlen : (ts.map fun t => rn_ ct mt B M t L' st s).length = offs.toList.length := by rw [← h1]; simp
  rw [hlen]
  by_cases hc : v.toInt < lo ∨ lo + offs.toList.length ≤ v.toInt
  · rw [if_pos hc]
    have hc2 : v.toInt < lo ∨ hi < v.toInt := by omega
    rw [rn_jmp (t := td) (st' := st) h hk rfl rfl (by simp only [am_jump]; rw [if_pos hc2, h2])]
  · rw [if_neg hc]
    have hc2 : ¬ (v.toInt < lo ∨ hi < v.toInt) := by omega
    have hi2 : (v.toInt - lo).toNat < offs.toList.length := by omega
    have hi3 : offs[(v.toInt - lo).toNat]? = some (offs.toList[(v.toInt - lo).toNat]'hi2) := by
      rw [← Array.getElem?_toList]
      exact List.getElem?_eq_getElem hi2
    rw [rn_jmp (t := ((pc : Int) + offs.toList[(v.toInt - lo).toNat]'hi2).toNat) (st' := st) h hk rfl rfl (by simp only [am_jump]; rw [if_neg hc2, hi3])]
    rw [List.getD_eq_getElem?_getD, List.getElem?_map, ← h1, List.getElem?_map, List.getElem?_eq_getElem hi2]
    rfl
theorem rn_lsw2 {d a b oa ob : Int} {v : Int32} {ta tb td : Nat} (h : (am_code M).lookup pc = some (.lookupswitch d #[(a, oa), (b, ob)], len, r1, r2, r3, km)) (hk : am_kill km L = L') (h1 : ((pc : Int) + oa).toNat = ta) (h2 : ((pc : Int) + ob).toNat = tb) (h3 : ((pc : Int) + d).toNat = td) :
    rn_ ct mt B M pc L (.int v :: st) s = if a = v.toInt then rn_ ct mt B M ta L' st s else if b = v.toInt then rn_ ct mt B M tb L' st s else rn_ ct mt B M td L' st s := by
  rw [rn_jmp (t := if a = v.toInt then ta else if b = v.toInt then tb else td) (st' := st) h hk rfl rfl (by
    simp only [am_jump, Op.lookupswitch.offset_cons]
    split
    · rw [h1]
    · split
      · rw [h2]
      · show some (((pc : Int) + d).toNat, st) = _
        rw [h3])]
  split
  · rfl
  · split <;> rfl
end Rules2
theorem eI_c {o : Option Int32} {f g : Int32 → am_R} (h : ∀ x, f x = g x) : eI o f = eI o g := by rw [show f = g from funext h]
theorem eJ_c {o : Option Int64} {f g : Int64 → am_R} (h : ∀ x, f x = g x) : eJ o f = eJ o g := by rw [show f = g from funext h]
theorem eK_c {o : Option Nat} {f g : Nat → am_R} (h : ∀ x, f x = g x) : eK o f = eK o g := by rw [show f = g from funext h]
theorem eS_c {o : Option am_S} {f g : am_S → am_R} (h : ∀ x, f x = g x) : eS o f = eS o g := by rw [show f = g from funext h]
theorem eA_c {o : Option (Option Nat)} {a b : am_R} {f g : Nat → am_R} (h0 : a = b) (h : ∀ x, f x = g x) : eA o a f = eA o b g := by rw [show f = g from funext h, h0]
theorem eC_c {o : Option Nat} {c : Nat} {a b : am_R} (h : a = b) : eC o c a = eC o c b := by rw [h]
theorem if_c {c : Prop} {inst : Decidable c} {a b a' b' : am_R} (h1 : a = a') (h2 : b = b') : (if c then a else b) = if c then a' else b' := by rw [h1, h2]
theorem cI_c {r : am_R} {f g : Int32 → am_S → am_R} {x y : Nat → am_S → am_R} (h : ∀ v s, f v s = g v s) (hx : x = y) : cI r f x = cI r g y := by rw [show f = g from funext fun v => funext (h v), hx]
theorem cJ_c {r : am_R} {f g : Int64 → am_S → am_R} {x y : Nat → am_S → am_R} (h : ∀ v s, f v s = g v s) (hx : x = y) : cJ r f x = cJ r g y := by rw [show f = g from funext fun v => funext (h v), hx]
theorem cF_c {r : am_R} {f g : UInt32 → am_S → am_R} {x y : Nat → am_S → am_R} (h : ∀ v s, f v s = g v s) (hx : x = y) : cF r f x = cF r g y := by rw [show f = g from funext fun v => funext (h v), hx]
theorem cD_c {r : am_R} {f g : UInt64 → am_S → am_R} {x y : Nat → am_S → am_R} (h : ∀ v s, f v s = g v s) (hx : x = y) : cD r f x = cD r g y := by rw [show f = g from funext fun v => funext (h v), hx]
theorem cV_c {r : am_R} {f g : am_S → am_R} {x y : Nat → am_S → am_R} (h : ∀ s, f s = g s) (hx : x = y) : cV r f x = cV r g y := by rw [show f = g from funext h, hx]
theorem cA_c {r : am_R} {f f' : am_S → am_R} {g g' : Nat → am_S → am_R} {x y : Nat → am_S → am_R} (h0 : ∀ s, f s = f' s) (h : ∀ v s, g v s = g' v s) (hx : x = y) : cA r f g x = cA r f' g' y := by rw [show f = f' from funext h0, show g = g' from funext fun v => funext (h v), hx]
theorem nwO_c {ct : List am_C} {s : am_S} {ci : Nat} {f g : Nat → am_S → am_R} (h : ∀ v s, f v s = g v s) : nwO ct s ci f = nwO ct s ci g := by rw [show f = g from funext fun v => funext (h v)]
theorem nwI_c {t : ArrayType} {s : am_S} {n : Int32} {f g : Nat → am_S → am_R} (h : ∀ v s, f v s = g v s) : nwI t s n f = nwI t s n g := by rw [show f = g from funext fun v => funext (h v)]
theorem nwA_c {C : String} {s : am_S} {n : Int32} {f g : Nat → am_S → am_R} (h : ∀ v s, f v s = g v s) : nwA C s n f = nwA C s n g := by rw [show f = g from funext fun v => funext (h v)]
theorem sw_c {v lo : Int} {es es' : List am_R} {d d' : am_R} (h : es = es') (hd : d = d') : sw v lo es d = sw v lo es' d' := by rw [h, hd]
theorem cons_c {a b : am_R} {l l' : List am_R} (h : a = b) (hl : l = l') : a :: l = b :: l' := by rw [h, hl]
