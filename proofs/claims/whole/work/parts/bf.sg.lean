/-! ===== the start: what is said of the heap there ===== -/
section Sg
variable {s : State} {args : Array Value} {D : va_G}
theorem sg_len {t : Term} {n : Int32} (h : (Cond.eq (.length t) (.int n)).before args s = true) : ∃ (a : Nat) (cell : Cell), t.eval args s none [] s = some (.ref a) ∧ s.arrayAt? a = some cell ∧ cell.slots.size < 2 ^ 31 ∧ cell.slots.size.toInt32 = n := by
  have hv : (Term.length t).eval args s none [] s = some (.int n) := Cond.eq_int h rfl
  simp only [Term.eval, Option.bind_eq_bind] at hv
  cases ht : t.eval args s none [] s with
  | none => simp [ht] at hv
  | some x =>
    cases x with
    | ref a =>
      simp only [ht, Option.bind_some] at hv
      cases ha : s.arrayAt? a with
      | none => simp [ha] at hv
      | some cell =>
        simp only [ha, Option.bind_some] at hv
        split at hv
        · rename_i hlt
          refine ⟨a, cell, rfl, ha, hlt, ?_⟩
          cases hv
          rfl
        · cases hv
    | _ => simp [ht] at hv
theorem sg_el {t b : Term} {a : Nat} {cell : Cell} {j : Int32} {v : Value} (h : (Cond.eq (.elem t (.int j)) b).before args s = true) (ht : t.eval args s none [] s = some (.ref a)) (hc : s.arrayAt? a = some cell) (hb : b.eval args s none [] s = some v) (hv : (∃ n, v = .int n) ∨ (∃ n, v = .long n) ∨ v.isRef = true) : cell.slots[j.toNatClampNeg]? = some v := by
  have he : (Term.elem t (.int j)).eval args s none [] s = some v := Cond.eq_plain h hb hv
  simp only [Term.eval, ht, hc, Option.bind_eq_bind, Option.bind_some] at he
  split at he
  · cases he
  · exact he
theorem sg_nI {n : Nat} (h : n < 2 ^ 31) : (nI n).toNatClampNeg = n := by
  unfold nI
  simp [Int32.toNatClampNeg, Int32.toInt_ofNat_of_lt h]
theorem sg_sz {n m : Nat} (h : m < 2 ^ 31) (hn : n < 2 ^ 31) (e : m.toInt32 = nI n) : m = n := by
  have h1 := sg_nI h
  have h2 := sg_nI hn
  have e2 : nI m = nI n := e
  rw [e2] at h1
  omega
/-- an array whose places are said one by one -/
theorem sg_arr {t : Term} {ty : FieldType} {n : Nat} {f : Nat → Value} {b : Nat → Term} (hn : n < 2 ^ 31) (ha : (Cond.arrayOf t ty).before args s = true) (hl : (Cond.eq (.length t) (.int (nI n))).before args s = true) (he : ∀ i, i < n → (Cond.eq (.elem t (.int (nI i))) (b i)).before args s = true) (hb : ∀ i, i < n → (b i).eval args s none [] s = some (f i)) (hf : ∀ i, i < n → (∃ n, f i = .int n) ∨ (∃ n, f i = .long n) ∨ (f i).isRef = true) :
    ∃ (a : Nat) (cell : Cell), t.eval args s none [] s = some (.ref a) ∧ s.heap[a]? = some cell ∧ s.isArrayOf cell ty ∧ cell.vm ≠ .unknown ∧ cell.slots.size = n ∧ ∀ i, i < n → cell.slots[i]? = some (f i) := by
  obtain ⟨a, cell, h1, h2, h3, h4⟩ := sg_len hl
  obtain ⟨h5, -, -, -⟩ := State.arrayAt?_spec h2
  obtain ⟨h6, h7⟩ := Cond.arrayOf_spec ha h1 h5
  refine ⟨a, cell, h1, h5, h6, h7, sg_sz h3 hn h4, fun i hi => ?_⟩
  have := sg_el (he i hi) h1 h2 (hb i hi) (hf i hi)
  rw [sg_nI (by omega)] at this
  exact this
/-- a field that a term names, by the class's own row -/
theorem sg_fld {ci k : Nat} {r : am_C} (hK : sm_K s D ci r) (hk : k < r.2.2.1) {t : Term} {a : Nat} {v : Value} (ht : t.eval args s none [] s = some (.ref a)) (hv : (Term.field t (r.2.1 k).1 (r.2.1 k).2.1 (r.2.1 k).2.2.1).eval args s none [] s = some v) : ∃ cell : Cell, s.heap[a]? = some cell ∧ cell.vm ≠ .unknown ∧ cell.slots[D.2 ci k]? = some v := by
  obtain ⟨cf, kf, fi, f, h1, h2, h3⟩ := hK.1 k hk
  obtain ⟨-, cell, h4, h5, -, -, h6⟩ := Term.field_spec h1 ht hv
  exact ⟨cell, h4, h5, by rw [← h3]; exact h6⟩
theorem sg_ff {t : Term} {C n d : String} {v : Value} (hv : (Term.field t C n d).eval args s none [] s = some v) : ∃ (cf : ClassId) (kf : Class) (fi : Nat) (f : Field), s.fieldFound? C n d = some (cf, kf, fi, f) ∧ f.isStatic = false := by
  obtain ⟨a, ha⟩ := Term.field_ref hv
  cases hf : s.fieldFound? C n d with
  | none =>
    simp only [Term.eval, ha, State.fieldOf?, State.fieldNamed?, hf, Option.bind_eq_bind, Option.bind_some, Option.bind_none, Option.bind_eq_some_iff] at hv
    obtain ⟨c, -, q⟩ := hv
    cases q
  | some x =>
    obtain ⟨cf, kf, fi, f⟩ := x
    exact ⟨cf, kf, fi, f, rfl, (Term.field_spec hf ha hv).1⟩
/-! what is read of the heap as it stood -/
def sg_sl (s : State) (a j : Nat) : Value := ((s.heap[a]?).bind fun c => c.slots[j]?).getD .null
def sg_n (s : State) (a : Nat) : Nat := match s.heap[a]? with
  | some c => c.slots.size
  | none => 0
def sg_O (s : State) (D : va_G) (ci n a : Nat) : am_E := .inr (ci, (List.range n).map fun k => sg_sl s a (D.2 ci k))
def sg_vi (v : Value) : Int32 := match v with
  | .int i => i
  | _ => 0
def sg_vr (v : Value) : Option Nat := match v with
  | .ref q => some q
  | _ => none
def sg_I (s : State) (t : FieldType) (a : Nat) : am_E := .inl (t, sg_n s a, .inl fun j => sg_vi (sg_sl s a j))
def sg_Q (s : State) (C : String) (a : Nat) : am_E := .inl (.object C, sg_n s a, .inr (.inr (.inr (.inr fun j => sg_vr (sg_sl s a j)))))
def sg_P (s : State) (D : va_G) (a : Nat) (e : am_E) : Prop := sm_at tb_ct D s.heap.size s a e s.heap
def sg_V (s : State) (D : va_G) (a : Nat) : Prop := sg_P s D a (sg_O s D 14 6 a) ∧ (∃ q, sg_sl s a (D.2 14 0) = .ref q) ∧ ∃ i, sg_sl s a (D.2 14 1) = .int i
noncomputable def sg_f (s : State) (D : va_G) (a : Nat) : Option am_E := by
  classical
  exact if sg_V s D a then some (sg_O s D 14 6 a)
    else if sg_P s D a (sg_I s .int a) then some (sg_I s .int a)
    else if sg_P s D a (sg_I s .byte a) then some (sg_I s .byte a)
    else if sg_P s D a (sg_Q s RX10 a) then some (sg_Q s RX10 a)
    else if sg_P s D a (sg_O s D 13 4 a) then some (sg_O s D 13 4 a)
    else none
theorem sg_rep (te : Nat → Value) : sm_Rep tb_ct D s.heap.size s.heap s (sg_f s D, s.heap.size, 0, te) s.heap := by
  refine ⟨rfl, Nat.le_refl _, rfl, fun a e h => ?_, fun _ _ => rfl⟩
  have h' : sg_f s D a = some e := h
  unfold sg_f at h'
  split at h'
  · rename_i q
    cases h'
    exact q.1
  · split at h'
    · rename_i q
      cases h'
      exact q
    · split at h'
      · rename_i q
        cases h'
        exact q
      · split at h'
        · rename_i q
          cases h'
          exact q
        · split at h'
          · rename_i q
            cases h'
            exact q
          · cases h'
theorem sg_sl_of {a j : Nat} {cell : Cell} {v : Value} (h : s.heap[a]? = some cell) (hv : cell.slots[j]? = some v) : sg_sl s a j = v := by
  unfold sg_sl
  rw [h, Option.bind_some, hv]
  rfl
theorem sg_n_of {a : Nat} {cell : Cell} (h : s.heap[a]? = some cell) : sg_n s a = cell.slots.size := by
  unfold sg_n
  rw [h]
theorem sg_lt {a : Nat} {cell : Cell} (h : s.heap[a]? = some cell) : a < s.heap.size := (Array.getElem?_eq_some_iff.mp h).1
/-- an array of ints, or of bytes, all of whose places are ints -/
theorem sg_PI {a : Nat} {cell : Cell} {t : FieldType} (h : s.heap[a]? = some cell) (h1 : s.isArrayOf cell t) (h2 : cell.vm ≠ .unknown) (h3 : ∀ j, j < cell.slots.size → ∃ i, cell.slots[j]? = some (.int i)) : sg_P s D a (sg_I s t a) := by
  refine ⟨cell, h, ⟨h1, h2, ?_, ?_, fun j hj => ?_⟩, fun q => absurd (sg_lt h) (by omega)⟩
  · show sg_n s a ≤ _
    rw [sg_n_of h]
    exact Nat.le_refl _
  · show _ = Int32.ofNat (sg_n s a)
    rw [sg_n_of h]
  · have hj : j < sg_n s a := hj
    rw [sg_n_of h] at hj
    obtain ⟨i, hi⟩ := h3 j hj
    show _ = some (Value.int (sg_vi (sg_sl s a j)))
    rw [sg_sl_of h hi, hi]
    rfl
theorem sg_PQ {a : Nat} {cell : Cell} {C : String} (h : s.heap[a]? = some cell) (h1 : s.isArrayOf cell (.object C)) (h2 : cell.vm ≠ .unknown) (h3 : ∀ j, j < cell.slots.size → ∃ q, cell.slots[j]? = some (.ref q)) : sg_P s D a (sg_Q s C a) := by
  refine ⟨cell, h, ⟨h1, h2, ?_, ?_, fun j hj => ?_⟩, fun q => absurd (sg_lt h) (by omega)⟩
  · show sg_n s a ≤ _
    rw [sg_n_of h]
    exact Nat.le_refl _
  · show _ = Int32.ofNat (sg_n s a)
    rw [sg_n_of h]
  · have hj : j < sg_n s a := hj
    rw [sg_n_of h] at hj
    obtain ⟨i, hi⟩ := h3 j hj
    show _ = some (va_rf (sg_vr (sg_sl s a j)))
    rw [sg_sl_of h hi, hi]
    rfl
theorem sg_PO {a ci n : Nat} {r : am_C} {cell : Cell} (hr : tb_ct[ci]? = some r) (hn : r.2.2.1 = n) (hfl : r.2.2.2.2 = false) (h : s.heap[a]? = some cell) (h1 : cell.cls = D.1 ci) (h2 : cell.vm ≠ .unknown) (h3 : cell.vm.isStatics = false) (h4 : ∀ k, k < n → ∃ v, cell.slots[D.2 ci k]? = some v) : sg_P s D a (sg_O s D ci n a) := by
  refine ⟨r, cell, hr, h, h1, h2, h3, (fun q => by rw [hfl] at q; cases q), fun k hk => ?_, ?_⟩
  · obtain ⟨v, hv⟩ := h4 k (by omega)
    rw [hv]
    have hk2 : k < n := by omega
    show _ = some (((List.range n).map fun k => sg_sl s a (D.2 ci k)).getD k .null)
    simp [hk2, sg_sl_of h hv]
  · show ((List.range n).map _).length = _
    simp [hn]
theorem sg_no {a : Nat} {cell : Cell} (h : s.heap[a]? = some cell) {t t' : FieldType} (h1 : s.isArrayOf cell t) (hne : t' ≠ t) {x : vp_A} : ¬ sg_P s D a (.inl (t', x)) := by
  rintro ⟨c2, e1, e2, -⟩
  cases h.symm.trans e1
  obtain ⟨-, k, k1, comp, k2⟩ := h1
  obtain ⟨⟨-, k', k3, comp', k4⟩, -⟩ := e2
  cases k1.symm.trans k3
  rw [k2] at k4
  cases k4
  exact hne rfl
/-- a list of ints is no verb, a list of references neither -/
theorem sg_nV {a : Nat} {cell : Cell} (h : s.heap[a]? = some cell) (h1 : (∀ (j : Nat) (v : Value), cell.slots[j]? = some v → ∃ i, v = .int i) ∨ ∀ (j : Nat) (v : Value), cell.slots[j]? = some v → ∃ q, v = .ref q) : ¬ sg_V s D a := by
  rintro ⟨-, ⟨q, hq⟩, i, hi⟩
  unfold sg_sl at hq hi
  rw [h, Option.bind_some] at hq hi
  rcases h1 with h1 | h1
  · rcases hz : cell.slots[D.2 14 0]? with _ | v
    · rw [hz] at hq
      cases hq
    · rw [hz] at hq
      obtain ⟨x, hx⟩ := h1 _ _ hz
      rw [hx] at hq
      cases hq
  · rcases hz : cell.slots[D.2 14 1]? with _ | v
    · rw [hz] at hi
      cases hi
    · rw [hz] at hi
      obtain ⟨x, hx⟩ := h1 _ _ hz
      rw [hx] at hi
      cases hi
theorem sg_all {cell : Cell} {n : Nat} {f : Nat → Value} {P : Value → Prop} (hz : cell.slots.size = n) (h : ∀ i, i < n → cell.slots[i]? = some (f i)) (hp : ∀ i, i < n → P (f i)) : ∀ (j : Nat) (v : Value), cell.slots[j]? = some v → P v := by
  intro j v hv
  have hj := (Array.getElem?_eq_some_iff.mp hv).1
  rw [h j (by omega)] at hv
  cases hv
  exact hp j (by omega)
/-- an array of ints stands in the state of rows -/
theorem sg_fI {a n : Nat} {cell : Cell} {t : FieldType} {f : Nat → Int32} (ht : t = .int ∨ t = .byte) (h : s.heap[a]? = some cell) (h1 : s.isArrayOf cell t) (h2 : cell.vm ≠ .unknown) (hz : cell.slots.size = n) (hv : ∀ i, i < n → cell.slots[i]? = some (.int (f i))) : ∃ g, sg_f s D a = some (.inl (t, n, .inl g)) ∧ ∀ i, i < n → g i = f i := by
  have hP : sg_P s D a (sg_I s t a) := sg_PI h h1 h2 fun j hj => ⟨_, hv j (by omega)⟩
  have hV : ¬ sg_V s D a := sg_nV h (Or.inl (sg_all (P := fun v => ∃ i, v = .int i) hz hv fun i _ => ⟨_, rfl⟩))
  have e : sg_f s D a = some (sg_I s t a) := by
    unfold sg_f
    rw [if_neg hV]
    rcases ht with rfl | rfl
    · rw [if_pos hP]
    · have h8 : ¬ sg_P s D a (sg_I s .int a) := sg_no h h1 (by decide)
      rw [if_neg h8, if_pos hP]
  refine ⟨fun j => sg_vi (sg_sl s a j), ?_, fun i hi => ?_⟩
  · rw [e]
    unfold sg_I
    rw [sg_n_of h, hz]
  · show sg_vi (sg_sl s a i) = f i
    rw [sg_sl_of h (hv i hi)]
    rfl
theorem sg_fQ {a n : Nat} {cell : Cell} {f : Nat → Nat} (h : s.heap[a]? = some cell) (h1 : s.isArrayOf cell (.object RX10)) (h2 : cell.vm ≠ .unknown) (hz : cell.slots.size = n) (hv : ∀ i, i < n → cell.slots[i]? = some (.ref (f i))) : ∃ g, sg_f s D a = some (.inl (.object RX10, n, .inr (.inr (.inr (.inr g))))) ∧ ∀ i, i < n → g i = some (f i) := by
  have hP : sg_P s D a (sg_Q s RX10 a) := sg_PQ h h1 h2 fun j hj => ⟨_, hv j (by omega)⟩
  have hV : ¬ sg_V s D a := sg_nV h (Or.inr (sg_all (P := fun v => ∃ q, v = .ref q) hz hv fun i _ => ⟨_, rfl⟩))
  have h8 : ¬ sg_P s D a (sg_I s .int a) := sg_no h h1 (by decide)
  have h9 : ¬ sg_P s D a (sg_I s .byte a) := sg_no h h1 (by decide)
  refine ⟨fun j => sg_vr (sg_sl s a j), ?_, fun i hi => ?_⟩
  · unfold sg_f
    rw [if_neg hV, if_neg h8, if_neg h9, if_pos hP]
    unfold sg_Q
    rw [sg_n_of h, hz]
  · show sg_vr (sg_sl s a i) = some (f i)
    rw [sg_sl_of h (hv i hi)]
    rfl
end Sg
/-! ===== the start: the words that are given of it ===== -/
def sg_N : Cond := Jvm.Cond.and given_1 narrow_1
def sg_l : Nat → Cond → Cond
  | 0, c => c
  | n + 1, .and a _ => sg_l n a
  | _ + 1, c => c
def sg_r : Nat → Cond → Cond
  | 0, c => c
  | n + 1, .and _ b => sg_r n b
  | _ + 1, c => c
/-- so often left, so often right, and so on -/
def sg_go : List Nat → Cond → Cond
  | [], c => c
  | [n], c => sg_l n c
  | n :: k :: t, c => sg_go t (sg_r k (sg_l n c))
def sg_ck : List Cond → List (List Nat) → Bool
  | [], _ => true
  | w :: ws, p :: ps => decide (sg_go p sg_N = w) && sg_ck ws ps
  | _ :: _, [] => false
theorem sg_lb {args : Array Value} {s : State} : ∀ (n : Nat) (c : Cond), c.before args s = true → (sg_l n c).before args s = true
  | 0, _, h => h
  | n + 1, c, h => by
    unfold sg_l
    split
    · omega
    · rename_i m a b e1
      cases e1
      rw [Cond.before_and, Bool.and_eq_true] at h
      exact sg_lb n _ h.1
    · exact h
theorem sg_rb {args : Array Value} {s : State} : ∀ (n : Nat) (c : Cond), c.before args s = true → (sg_r n c).before args s = true
  | 0, _, h => h
  | n + 1, c, h => by
    unfold sg_r
    split
    · omega
    · rename_i m a b e1
      cases e1
      rw [Cond.before_and, Bool.and_eq_true] at h
      exact sg_rb n _ h.2
    · exact h
theorem sg_gob {args : Array Value} {s : State} : ∀ (p : List Nat) (c : Cond), c.before args s = true → (sg_go p c).before args s = true
  | [], _, h => h
  | [n], c, h => sg_lb n c h
  | n :: k :: t, c, h => sg_gob t _ (sg_rb k _ (sg_lb n c h))
theorem sg_use {args : Array Value} {s : State} : ∀ {l : List Cond} {ps : List (List Nat)}, sg_ck l ps = true → (Jvm.Cond.and given_1 narrow_1).before args s = true → ∀ w ∈ l, w.before args s = true
  | [], _, _, _, w, hw => absurd hw List.not_mem_nil
  | x :: l, [], h, _, _, _ => by cases h
  | x :: l, p :: ps, h, hs, w, hw => by
    simp only [sg_ck, Bool.and_eq_true, decide_eq_true_eq] at h
    rcases List.mem_cons.mp hw with e | hw
    · rw [e, ← h.1]
      exact sg_gob p _ hs
    · exact sg_use h.2 hs w hw
def sg_tv (C : String) (ix : Nat) : Term := .field (.string C ix) "java/lang/String" "value" "[B"
def sg_av (t : Term) (ty : FieldType) (n : Nat) (f : Nat → Term) : List Cond := .arrayOf t ty :: .eq (.length t) (.int (nI n)) :: (List.range n).map fun i => .eq (.elem t (.int (nI i))) (f i)
def sg_ws (C : String) (ix : Nat) (l : List Int32) : List Cond := .exactly (.string C ix) "java/lang/String" :: .eq (.field (.string C ix) "java/lang/String" "coder" "B") (.int 0) :: sg_av (sg_tv C ix) .byte l.length fun i => .int (l.getD i 0)
def sg_vn (v : Nat) : String := match v with
  | 0 => "PUT"
  | 1 => "DELETE"
  | 2 => "GRANT"
  | 3 => "KEEP"
  | 4 => "REVOKE"
  | 5 => "WATCH"
  | 6 => "COMPACT"
  | 7 => "REVERT"
  | 8 => "TICK"
  | _ => "ATTACH"
def sg_vx (v : Nat) : Nat := match v with
  | 0 => 73
  | 1 => 79
  | 2 => 82
  | 3 => 85
  | 4 => 88
  | 5 => 91
  | 6 => 94
  | 7 => 97
  | 8 => 100
  | _ => 103
def sg_T (v : Nat) : Term := .static RX10 (sg_vn v) "LWatchedKeys$Verb;"
def sg_wv (v : Nat) : List Cond := [.exactly (sg_T v) RX10, .eq (.field (sg_T v) "java/lang/Enum" "ordinal" "I") (.int (nI v)), .eq (.field (sg_T v) RX10 "word" "Ljava/lang/String;") (.string RX10 (sg_vx v)), .eq (.field (sg_T v) RX10 "needed" "I") (.int (nI (vb_n v))), .eq (.field (sg_T v) RX10 "first" "I") (.int (nI (vb_k v 0))), .eq (.field (sg_T v) RX10 "second" "I") (.int (nI (vb_k v 1))), .eq (.field (sg_T v) RX10 "third" "I") (.int (nI (vb_k v 2)))]
def sg_mx (v : Nat) : Nat := match v with
  | 0 => 217
  | 1 => 221
  | 2 => 185
  | 3 => 197
  | 4 => 202
  | 5 => 226
  | 6 => 206
  | 7 => 208
  | 8 => 193
  | _ => 230
section Sh
variable {s : State} {args : Array Value} {D : va_G} {te : Nat → Value}
theorem sg_avs {t : Term} {ty : FieldType} {n : Nat} {f : Nat → Term} (hw : ∀ w ∈ sg_av t ty n f, w.before args s = true) : (Cond.arrayOf t ty).before args s = true ∧ (Cond.eq (.length t) (.int (nI n))).before args s = true ∧ ∀ i, i < n → (Cond.eq (.elem t (.int (nI i))) (f i)).before args s = true :=
  ⟨hw _ List.mem_cons_self, hw _ (List.mem_cons_of_mem _ List.mem_cons_self), fun i hi => hw _ (List.mem_cons_of_mem _ (List.mem_cons_of_mem _ (List.mem_map.mpr ⟨i, List.mem_range.mpr hi, rfl⟩)))⟩
/-- an array of numbers that is given place by place -/
theorem sg_avI {t : Term} {ty : FieldType} {n : Nat} {f : Nat → Int32} (hn : n < 2 ^ 31) (hty : ty = .int ∨ ty = .byte) (hw : ∀ w ∈ sg_av t ty n fun i => .int (f i), w.before args s = true) : ∃ a g, t.eval args s none [] s = some (.ref a) ∧ a < s.heap.size ∧ sg_f s D a = some (.inl (ty, n, .inl g)) ∧ ∀ i, i < n → g i = f i := by
  obtain ⟨h1, h2, h3⟩ := sg_avs hw
  obtain ⟨a, cell, k1, k2, k3, k4, k5, k6⟩ := sg_arr (f := fun i => .int (f i)) hn h1 h2 h3 (fun i _ => rfl) (fun i _ => Or.inl ⟨_, rfl⟩)
  obtain ⟨g, g1, g2⟩ := sg_fI (D := D) hty k2 k3 k4 k5 k6
  exact ⟨a, g, k1, sg_lt k2, g1, g2⟩
/-- a text -/
theorem sg_str {C : String} {ix : Nat} {l : List Int32} (hK : sm_K s D 13 (RJ0, TJ0, 4, tyJ0, false)) (hV : s.vm.findClass RX10 = some (D.1 14)) (hg : ∀ w ∈ lw_g, w.before args s = true) (hb : ∀ c, c ∈ l → bOk c) (h8 : l.length < 128) (hw : ∀ w ∈ sg_ws C ix l, w.before args s = true) : ∃ q, (Term.string C ix).eval args s none [] s = some (.ref q) ∧ ∀ n m : Nat, STR s.heap.size (sg_f s D, n, m, te) q l := by
  obtain ⟨q, c, cell, k, h1, h2, h3, h4, h5, h6, h7⟩ := Cond.exactly_spec (hw _ List.mem_cons_self)
  have hc := Cond.eq_int (hw _ (List.mem_cons_of_mem _ List.mem_cons_self)) rfl
  obtain ⟨cell', e1, e2, e3⟩ := sg_fld hK (k := 1) (by decide) h1 hc
  cases h3.symm.trans e1
  obtain ⟨w1, w2, w3⟩ := sg_avs (fun w hw' => hw w (List.mem_cons_of_mem _ (List.mem_cons_of_mem _ hw')))
  obtain ⟨qb, cb, k1, k2, k3, k4, k5, k6⟩ := sg_arr (f := fun i => .int (l.getD i 0)) (by omega) w1 w2 w3 (fun i _ => rfl) (fun i _ => Or.inl ⟨_, rfl⟩)
  obtain ⟨g, g1, g2⟩ := sg_fI (D := D) (Or.inr rfl) k2 k3 k4 k5 k6
  obtain ⟨cell'', f1, -, f3⟩ := sg_fld hK (k := 0) (by decide) h1 k1
  cases h3.symm.trans f1
  have hcc : c = D.1 13 := Option.some.inj (h2.symm.trans hK.2.1)
  subst hcc
  have hrow : (RJ0, TJ0, 4, tyJ0, false) ∈ tb_ct.take 14 := List.mem_of_getElem? (i := 13) rfl
  obtain ⟨c', k', i1, i2, i3, -⟩ := Cond.instantiable_spec (hg _ (lw_in_mem (st_inst _ hrow)))
  cases h2.symm.trans i1
  cases h4.symm.trans i2
  have hz := h7 i3
  have hsl : ∀ j, j < 4 → ∃ v, cell.slots[D.2 13 j]? = some v := by
    intro j hj
    obtain ⟨cf, kf, fi, f, r1, r2, r3⟩ := hK.1 j hj
    have hl := u_lays (fun w hw => hg w (lw_in_mem (List.all_eq_true.mp (st_words _ hrow) w hw))) (fun _ h => h) hj
    have h9 := (u_facts h2 h4 hl r1).2.2
    have h10 := (Array.getElem?_eq_some_iff.mp h9).1
    rw [← hz] at h10
    rw [← r3]
    exact ⟨_, Array.getElem?_eq_some_iff.mpr ⟨h10, rfl⟩⟩
  have hP : sg_P s D q (sg_O s D 13 4 q) := sg_PO (r := (RJ0, TJ0, 4, tyJ0, false)) rfl rfl rfl h3 h6 e2 h5 hsl
  have hnV : ¬ sg_V s D q := by
    rintro ⟨⟨r, c2, -, t1, t2, -⟩, -⟩
    cases h3.symm.trans t1
    have t3 : D.1 14 = D.1 13 := t2.symm.trans h6
    rw [t3] at hV
    obtain ⟨z1, y1, y2⟩ := Vm.findClass_spec hV
    obtain ⟨z2, y3, y4⟩ := Vm.findClass_spec h2
    cases y1.symm.trans y3
    exact absurd (y2.symm.trans y4) (by decide)
  have hnA : ∀ (ty : FieldType) (x : vp_A), ¬ sg_P s D q (.inl (ty, x)) := by
    rintro ty x ⟨c2, t1, ⟨⟨-, k9, t2, comp, t3⟩, -⟩, -⟩
    cases h3.symm.trans t1
    rw [h6] at t2
    cases h4.symm.trans t2
    rw [i3] at t3
    cases t3
  have n1 : ¬ sg_P s D q (sg_I s .int q) := hnA _ _
  have n2 : ¬ sg_P s D q (sg_I s .byte q) := hnA _ _
  have n3 : ¬ sg_P s D q (sg_Q s RX10 q) := hnA _ _
  have hf : sg_f s D q = some (sg_O s D 13 4 q) := by
    unfold sg_f
    rw [if_neg hnV, if_neg n1, if_neg n2, if_neg n3, if_pos hP]
  refine ⟨q, h1, fun n m => ⟨sg_lt h3, ⟨qb, g, sg_sl s q (D.2 13 2), sg_sl s q (D.2 13 3), sg_lt k2, ?_, g1, g2⟩, hb, h8⟩⟩
  show sg_f s D q = _
  rw [hf]
  show some (Sum.inr (13, [sg_sl s q (D.2 13 0), sg_sl s q (D.2 13 1), sg_sl s q (D.2 13 2), sg_sl s q (D.2 13 3)])) = _
  rw [sg_sl_of h3 f3, sg_sl_of h3 e3]
/-- a verb -/
theorem sg_vb {v q : Nat} (hK : sm_K s D 14 (RX10, tb_TV, 6, tb_tyV, false)) (hw : ∀ w ∈ sg_wv v, w.before args s = true) (hq : (Term.string RX10 (sg_vx v)).eval args s none [] s = some (.ref q)) : ∃ a, (sg_T v).eval args s none [] s = some (.ref a) ∧ a < s.heap.size ∧ sg_f s D a = some (.inr (14, [.ref q, .int (nI (vb_n v)), .int (nI (vb_k v 0)), .int (nI (vb_k v 1)), .int (nI (vb_k v 2)), .int (nI v)])) := by
  obtain ⟨a, c, cell, k, h1, h2, h3, h4, h5, h6, h7⟩ := Cond.exactly_spec (hw _ List.mem_cons_self)
  have hf : ∀ (j : Nat) (y : Value), j < 6 → (Term.field (sg_T v) (tb_TV j).1 (tb_TV j).2.1 (tb_TV j).2.2.1).eval args s none [] s = some y → cell.slots[D.2 14 j]? = some y ∧ cell.vm ≠ .unknown := by
    intro j y hj hy
    obtain ⟨c2, e1, e2, e3⟩ := sg_fld hK (k := j) hj h1 hy
    cases h3.symm.trans e1
    exact ⟨e3, e2⟩
  have m2 := hw _ (List.mem_cons_of_mem _ List.mem_cons_self)
  have m3 := hw _ (List.mem_cons_of_mem _ (List.mem_cons_of_mem _ List.mem_cons_self))
  have m4 := hw _ (List.mem_cons_of_mem _ (List.mem_cons_of_mem _ (List.mem_cons_of_mem _ List.mem_cons_self)))
  have m5 := hw _ (List.mem_cons_of_mem _ (List.mem_cons_of_mem _ (List.mem_cons_of_mem _ (List.mem_cons_of_mem _ List.mem_cons_self))))
  have m6 := hw _ (List.mem_cons_of_mem _ (List.mem_cons_of_mem _ (List.mem_cons_of_mem _ (List.mem_cons_of_mem _ (List.mem_cons_of_mem _ List.mem_cons_self)))))
  have m7 := hw _ (List.mem_cons_of_mem _ (List.mem_cons_of_mem _ (List.mem_cons_of_mem _ (List.mem_cons_of_mem _ (List.mem_cons_of_mem _ (List.mem_cons_of_mem _ List.mem_cons_self))))))
  obtain ⟨s0, hu⟩ := hf 0 _ (by decide) (Cond.eq_plain m3 hq (Or.inr (Or.inr rfl)))
  obtain ⟨s1, -⟩ := hf 1 _ (by decide) (Cond.eq_int m4 rfl)
  obtain ⟨s2, -⟩ := hf 2 _ (by decide) (Cond.eq_int m5 rfl)
  obtain ⟨s3, -⟩ := hf 3 _ (by decide) (Cond.eq_int m6 rfl)
  obtain ⟨s4, -⟩ := hf 4 _ (by decide) (Cond.eq_int m7 rfl)
  obtain ⟨s5, -⟩ := hf 5 _ (by decide) (Cond.eq_int m2 rfl)
  have hcc : c = D.1 14 := Option.some.inj (h2.symm.trans hK.2.1)
  have hsl : ∀ j, j < 6 → ∃ y, cell.slots[D.2 14 j]? = some y := by
    intro j hj
    rcases j with _ | _ | _ | _ | _ | _ | j
    · exact ⟨_, s0⟩
    · exact ⟨_, s1⟩
    · exact ⟨_, s2⟩
    · exact ⟨_, s3⟩
    · exact ⟨_, s4⟩
    · exact ⟨_, s5⟩
    · omega
  have hP : sg_P s D a (sg_O s D 14 6 a) := sg_PO (r := (RX10, tb_TV, 6, tb_tyV, false)) rfl rfl rfl h3 (h6.trans hcc) hu h5 hsl
  have hV : sg_V s D a := ⟨hP, ⟨q, sg_sl_of h3 s0⟩, _, sg_sl_of h3 s1⟩
  refine ⟨a, h1, sg_lt h3, ?_⟩
  unfold sg_f
  rw [if_pos hV]
  show some (Sum.inr (14, [sg_sl s a (D.2 14 0), sg_sl s a (D.2 14 1), sg_sl s a (D.2 14 2), sg_sl s a (D.2 14 3), sg_sl s a (D.2 14 4), sg_sl s a (D.2 14 5)])) = _
  rw [sg_sl_of h3 s0, sg_sl_of h3 s1, sg_sl_of h3 s2, sg_sl_of h3 s3, sg_sl_of h3 s4, sg_sl_of h3 s5]
end Sh
