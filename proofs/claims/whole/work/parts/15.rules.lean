/-! THE MACHINE'S STEPS AS EQUATIONS: what a run from a place is, by the instruction that stands there -/
abbrev am_R : Type := Option (am_O × am_S)
def eI (o : Option Int32) (f : Int32 → am_R) : am_R := match o with
  | some x => f x
  | none => none
def eJ (o : Option Int64) (f : Int64 → am_R) : am_R := match o with
  | some x => f x
  | none => none
def eK (o : Option Nat) (f : Nat → am_R) : am_R := match o with
  | some x => f x
  | none => none
def eS (o : Option am_S) (f : am_S → am_R) : am_R := match o with
  | some x => f x
  | none => none
def eA (o : Option (Option Nat)) (f : am_R) (g : Nat → am_R) : am_R := match o with
  | some none => f
  | some (some b) => g b
  | none => none
def cI (r : am_R) (f : Int32 → am_S → am_R) (x : Nat → am_S → am_R) : am_R := match r with
  | some (.inl (some (.int v)), s) => f v s
  | some (.inr E, s) => x E s
  | _ => none
def cJ (r : am_R) (f : Int64 → am_S → am_R) (x : Nat → am_S → am_R) : am_R := match r with
  | some (.inl (some (.long v)), s) => f v s
  | some (.inr E, s) => x E s
  | _ => none
def cF (r : am_R) (f : UInt32 → am_S → am_R) (x : Nat → am_S → am_R) : am_R := match r with
  | some (.inl (some (.float v)), s) => f v s
  | some (.inr E, s) => x E s
  | _ => none
def cD (r : am_R) (f : UInt64 → am_S → am_R) (x : Nat → am_S → am_R) : am_R := match r with
  | some (.inl (some (.double v)), s) => f v s
  | some (.inr E, s) => x E s
  | _ => none
def cV (r : am_R) (f : am_S → am_R) (x : Nat → am_S → am_R) : am_R := match r with
  | some (.inl none, s) => f s
  | some (.inr E, s) => x E s
  | _ => none
def cA (r : am_R) (f : am_S → am_R) (g : Nat → am_S → am_R) (x : Nat → am_S → am_R) : am_R := match r with
  | some (.inl (some .null), s) => f s
  | some (.inl (some (.ref b)), s) => g b s
  | some (.inr E, s) => x E s
  | _ => none
/-- it goes on to the caller -/
def xo (E : Nat) (s : am_S) : am_R := some (.inr E, s)
def gI (ct : List am_C) (s : am_S) (a ci k : Nat) : Option Int32 := match am_gf ct s a ci k with
  | some (.int x) => some x
  | _ => none
def gA (ct : List am_C) (s : am_S) (a ci k : Nat) : Option (Option Nat) := match am_gf ct s a ci k with
  | some .null => some none
  | some (.ref b) => some (some b)
  | _ => none
def aI (s : am_S) (a : Nat) (i : Int32) : Option Int32 := match am_ia s .int a with
  | some (n, f) => if am_inb i n = true then some (f i.toInt.toNat) else none
  | none => none
def aB (s : am_S) (a : Nat) (i : Int32) : Option Int32 := match am_ba s a with
  | some (_, n, f) => if am_inb i n = true then some (f i.toInt.toNat) else none
  | none => none
def aJ (s : am_S) (a : Nat) (i : Int32) : Option Int64 := match am_la s a with
  | some (n, f) => if am_inb i n = true then some (f i.toInt.toNat) else none
  | none => none
def aA (s : am_S) (a : Nat) (i : Int32) : Option (Option Nat) := match am_qa s a with
  | some (_, n, f) => if am_inb i n = true then some (f i.toInt.toNat) else none
  | none => none
def wI (B : Nat) (s : am_S) (a : Nat) (i v : Int32) : Option am_S := match am_ia s .int a with
  | some (n, f) => if am_inb i n = true ∧ B ≤ a then some (am_set s a (.inl (.int, n, .inl (upd f i.toInt.toNat v)))) else none
  | none => none
def wB (B : Nat) (s : am_S) (a : Nat) (i v : Int32) : Option am_S := match am_ba s a with
  | some (t, n, f) => if am_inb i n = true ∧ B ≤ a then some (am_set s a (.inl (t, n, .inl (upd f i.toInt.toNat (vp_nar t v))))) else none
  | none => none
def wJ (B : Nat) (s : am_S) (a : Nat) (i : Int32) (v : Int64) : Option am_S := match am_la s a with
  | some (n, f) => if am_inb i n = true ∧ B ≤ a then some (am_set s a (.inl (.long, n, .inr (.inl (vp_updL f i.toInt.toNat v))))) else none
  | none => none
def wA (ct : List am_C) (B : Nat) (s : am_S) (a : Nat) (i : Int32) (v : Nat) : Option am_S := match am_qa s a, am_cls s v with
  | some (C, n, f), some c => if am_inb i n = true ∧ B ≤ a ∧ (ct[c]?).map (fun q => q.1) = some C then some (am_set s a (.inl (.object C, n, .inr (.inr (.inr (.inr (va_up f i.toInt.toNat (some v)))))))) else none
  | _, _ => none
/-- arraycopy -/
def wC (B : Nat) (ty : FieldType) (s : am_S) (a : Nat) (sp : Int32) (d : Nat) (dp n : Int32) : Option am_S := (am_cpy B ty [.int n, .int dp, .ref d, .int sp, .ref a] s).map fun q => q.2
/-- a new array of numbers -/
def nwI (t : ArrayType) (s : am_S) (n : Int32) (f : Nat → am_S → am_R) : am_R :=
  if 0 ≤ n.toInt ∧ n.toInt ≤ 65536 ∧ (newarray.typeOf t = .int ∨ newarray.typeOf t = .byte ∨ newarray.typeOf t = .boolean) then f s.2.1 (am_new s (.inl (newarray.typeOf t, n.toInt.toNat, .inl fun _ => 0)) n.toInt.toNat)
  else if 0 ≤ n.toInt ∧ n.toInt ≤ 65536 ∧ newarray.typeOf t = .long then f s.2.1 (am_new s (.inl (.long, n.toInt.toNat, .inr (.inl fun _ => 0))) n.toInt.toNat) else none
def nwA (C : String) (s : am_S) (n : Int32) (f : Nat → am_S → am_R) : am_R :=
  if 0 ≤ n.toInt ∧ n.toInt ≤ 65536 then f s.2.1 (am_new s (.inl (.object C, n.toInt.toNat, .inr (.inr (.inr (.inr fun _ => none))))) n.toInt.toNat) else none
def nwO (ct : List am_C) (s : am_S) (ci : Nat) (f : Nat → am_S → am_R) : am_R := f s.2.1 (am_new s (.inr (ci, am_dfl ct ci)) (am_dfl ct ci).length)
/-- a switch by numbers in a row -/
def sw (v lo : Int) (es : List am_R) (d : am_R) : am_R := if v < lo ∨ lo + es.length ≤ v then d else es.getD (v - lo).toNat d
def am_isI : FieldType → Bool
  | .int => true
  | .byte => true
  | .boolean => true
  | .char => true
  | .short => true
  | _ => false
def am_isO : FieldType → Bool
  | .object _ => true
  | .array _ => true
  | _ => false
theorem am_isI_fits {t : FieldType} {v : Value} (ht : am_isI t = true) (h : fits t v = true) : ∃ x, v = .int x := by
  cases t <;> cases v <;> first | exact ⟨_, rfl⟩ | (simp [am_isI] at ht; done) | (simp [fits] at h; done)
theorem am_isO_fits {t : FieldType} {v : Value} (ht : am_isO t = true) (h : fits t v = true) : v = .null ∨ ∃ b, v = .ref b := by
  cases t <;> cases v <;> first | exact Or.inl rfl | exact Or.inr ⟨_, rfl⟩ | (simp [am_isO] at ht; done) | (simp [fits] at h; done)
def am_fty (ct : List am_C) (ci k : Nat) : Option FieldType := (ct[ci]?).map fun c => c.2.2.2.1 k
section Rules
variable {ct : List am_C} {mt : List am_M} {B : Nat} {M N : am_M} {pc len r1 r2 r3 k : Nat} {km : List Nat} {x : Instr} {L L' st : List Value} {s : am_S}
/-- so many instructions that touch locals and the operand stack alone -/
def am_go (M : am_M) (te : Nat → Value) : Nat → Nat → List Value → List Value → Option (Nat × List Value × List Value)
  | 0, pc, L, st => some (pc, L, st)
  | n + 1, pc, L, st => match (am_code M).lookup pc with
    | some (x, len, r1, r2, _, km) => (match am_pure x r1 r2 (am_kill km L) st te with
      | some st' => am_go M te n (pc + len) (am_kill km L) st'
      | none => match am_store x r1 r2 (am_kill km L) st with
        | some (L', st') => am_go M te n (pc + len) L' st'
        | none => match am_jump x pc r1 st with
          | some (t, st') => am_go M te n t (am_kill km L) st'
          | none => none)
    | none => none
theorem rn_go : ∀ (n : Nat) {pc pc' : Nat} {L st L' st' : List Value}, am_go M s.2.2.2 n pc L st = some (pc', L', st') → rn_ ct mt B M pc L st s = rn_ ct mt B M pc' L' st' s
  | 0, _, _, _, _, _, _, h => by cases h; rfl
  | n + 1, pc, pc', L, st, L', st', h => by
    rw [rn_eq]
    unfold am_go at h
    unfold am_step
    split at h
    · rename_i h0
      rw [h0]
      dsimp only
      unfold am_ins
      split at h
      · rename_i q
        rw [q]
        exact rn_go n h
      · rename_i q
        rw [q]
        dsimp only
        split at h
        · rename_i q
          rw [q]
          exact rn_go n h
        · rename_i q
          rw [q]
          dsimp only
          split at h
          · rename_i q
            rw [q]
            exact rn_go n h
          · cases h
    · cases h
theorem rn_jmp {t : Nat} {st' : List Value} (h : (am_code M).lookup pc = some (x, len, r1, r2, r3, km)) (hk : am_kill km L = L') (h1 : am_pure x r1 r2 L' st s.2.2.2 = none) (h2 : am_store x r1 r2 L' st = none) (h3 : am_jump x pc r1 st = some (t, st')) : rn_ ct mt B M pc L st s = rn_ ct mt B M t L' st' s := by
  rw [rn_eq]
  unfold am_step
  rw [h]
  dsimp only
  rw [hk]
  unfold am_ins
  rw [h1]
  dsimp only
  rw [h2]
  dsimp only
  rw [h3]
theorem rn_ifeq {o : Int} {v : Int32} (h : (am_code M).lookup pc = some (.ifCond .eq o, len, r1, r2, r3, km)) (hk : am_kill km L = L') : rn_ ct mt B M pc L (.int v :: st) s = if v = 0 then rn_ ct mt B M r1 L' st s else rn_ ct mt B M (pc + 3) L' st s := by
  rw [rn_jmp h hk rfl rfl rfl]
  split <;> rfl
theorem rn_ifne {o : Int} {v : Int32} (h : (am_code M).lookup pc = some (.ifCond .ne o, len, r1, r2, r3, km)) (hk : am_kill km L = L') : rn_ ct mt B M pc L (.int v :: st) s = if v = 0 then rn_ ct mt B M (pc + 3) L' st s else rn_ ct mt B M r1 L' st s := by
  rw [rn_jmp h hk rfl rfl rfl]
  split <;> rfl
theorem rn_iflt {o : Int} {v : Int32} (h : (am_code M).lookup pc = some (.ifCond .lt o, len, r1, r2, r3, km)) (hk : am_kill km L = L') : rn_ ct mt B M pc L (.int v :: st) s = if v < 0 then rn_ ct mt B M r1 L' st s else rn_ ct mt B M (pc + 3) L' st s := by
  rw [rn_jmp h hk rfl rfl rfl]
  split <;> rfl
theorem rn_ifge {o : Int} {v : Int32} (h : (am_code M).lookup pc = some (.ifCond .ge o, len, r1, r2, r3, km)) (hk : am_kill km L = L') : rn_ ct mt B M pc L (.int v :: st) s = if 0 ≤ v then rn_ ct mt B M r1 L' st s else rn_ ct mt B M (pc + 3) L' st s := by
  rw [rn_jmp h hk rfl rfl rfl]
  split <;> rfl
theorem rn_ifgt {o : Int} {v : Int32} (h : (am_code M).lookup pc = some (.ifCond .gt o, len, r1, r2, r3, km)) (hk : am_kill km L = L') : rn_ ct mt B M pc L (.int v :: st) s = if 0 < v then rn_ ct mt B M r1 L' st s else rn_ ct mt B M (pc + 3) L' st s := by
  rw [rn_jmp h hk rfl rfl rfl]
  split <;> rfl
theorem rn_ifle {o : Int} {v : Int32} (h : (am_code M).lookup pc = some (.ifCond .le o, len, r1, r2, r3, km)) (hk : am_kill km L = L') : rn_ ct mt B M pc L (.int v :: st) s = if v ≤ 0 then rn_ ct mt B M r1 L' st s else rn_ ct mt B M (pc + 3) L' st s := by
  rw [rn_jmp h hk rfl rfl rfl]
  split <;> rfl
theorem rn_iceq {o : Int} {v y : Int32} (h : (am_code M).lookup pc = some (.if_icmp .eq o, len, r1, r2, r3, km)) (hk : am_kill km L = L') : rn_ ct mt B M pc L (.int y :: .int v :: st) s = if v = y then rn_ ct mt B M r1 L' st s else rn_ ct mt B M (pc + 3) L' st s := by
  rw [rn_jmp h hk rfl rfl rfl]
  split <;> rfl
theorem rn_icne {o : Int} {v y : Int32} (h : (am_code M).lookup pc = some (.if_icmp .ne o, len, r1, r2, r3, km)) (hk : am_kill km L = L') : rn_ ct mt B M pc L (.int y :: .int v :: st) s = if v = y then rn_ ct mt B M (pc + 3) L' st s else rn_ ct mt B M r1 L' st s := by
  rw [rn_jmp h hk rfl rfl rfl]
  split <;> rfl
theorem rn_iclt {o : Int} {v y : Int32} (h : (am_code M).lookup pc = some (.if_icmp .lt o, len, r1, r2, r3, km)) (hk : am_kill km L = L') : rn_ ct mt B M pc L (.int y :: .int v :: st) s = if v < y then rn_ ct mt B M r1 L' st s else rn_ ct mt B M (pc + 3) L' st s := by
  rw [rn_jmp h hk rfl rfl rfl]
  split <;> rfl
theorem rn_icge {o : Int} {v y : Int32} (h : (am_code M).lookup pc = some (.if_icmp .ge o, len, r1, r2, r3, km)) (hk : am_kill km L = L') : rn_ ct mt B M pc L (.int y :: .int v :: st) s = if y ≤ v then rn_ ct mt B M r1 L' st s else rn_ ct mt B M (pc + 3) L' st s := by
  rw [rn_jmp h hk rfl rfl rfl]
  split <;> rfl
theorem rn_icgt {o : Int} {v y : Int32} (h : (am_code M).lookup pc = some (.if_icmp .gt o, len, r1, r2, r3, km)) (hk : am_kill km L = L') : rn_ ct mt B M pc L (.int y :: .int v :: st) s = if y < v then rn_ ct mt B M r1 L' st s else rn_ ct mt B M (pc + 3) L' st s := by
  rw [rn_jmp h hk rfl rfl rfl]
  split <;> rfl
theorem rn_icle {o : Int} {v y : Int32} (h : (am_code M).lookup pc = some (.if_icmp .le o, len, r1, r2, r3, km)) (hk : am_kill km L = L') : rn_ ct mt B M pc L (.int y :: .int v :: st) s = if v ≤ y then rn_ ct mt B M r1 L' st s else rn_ ct mt B M (pc + 3) L' st s := by
  rw [rn_jmp h hk rfl rfl rfl]
  split <;> rfl
theorem rn_aceq {o : Int} {v y : Nat} (h : (am_code M).lookup pc = some (.if_acmp .eq o, len, r1, r2, r3, km)) (hk : am_kill km L = L') : rn_ ct mt B M pc L (.ref y :: .ref v :: st) s = if v = y then rn_ ct mt B M r1 L' st s else rn_ ct mt B M (pc + 3) L' st s := by
  rw [rn_jmp (t := if v = y then r1 else pc + 3) (st' := st) h hk rfl rfl (by simp [am_jump, am_isR])]
  split <;> rfl
theorem rn_acne {o : Int} {v y : Nat} (h : (am_code M).lookup pc = some (.if_acmp .ne o, len, r1, r2, r3, km)) (hk : am_kill km L = L') : rn_ ct mt B M pc L (.ref y :: .ref v :: st) s = if v = y then rn_ ct mt B M (pc + 3) L' st s else rn_ ct mt B M r1 L' st s := by
  rw [rn_jmp (t := if v = y then pc + 3 else r1) (st' := st) h hk rfl rfl (by simp [am_jump, am_isR])]
  split <;> rfl
theorem rn_hp (h : (am_code M).lookup pc = some (x, len, r1, r2, r3, km)) (hk : am_kill km L = L')
    (h5 : am_ins ct mt B (cl_ ct mt B) M pc x len r1 r2 L' st s = match am_heap ct M B x r1 r2 st s with | some (st', s') => some (.inl (pc + len, L', st', s')) | none => none) : rn_ ct mt B M pc L st s = (match am_heap ct M B x r1 r2 st s with
      | some (st', s') => rn_ ct mt B M (pc + len) L' st' s'
      | none => none) := by
  rw [rn_eq]
  unfold am_step
  rw [h]
  dsimp only
  rw [hk, h5]
  split
  · rename_i q; split at q <;> cases q; rfl
  · rename_i q; split at q <;> cases q
  · rename_i q
    split at q
    · cases q
    · rfl
theorem am_gf_spec {a ci j : Nat} {v : Value} (h : am_gf ct s a ci j = some v) : ∃ t, am_fty ct ci j = some t ∧ fits t v = true ∧ am_getF s a ci j = some v := by
  unfold am_gf at h
  split at h
  · rename_i u c h1 h2
    split at h
    · rename_i hf
      cases h
      exact ⟨_, by unfold am_fty; rw [h2]; rfl, hf, h1⟩
    · cases h
  · cases h
theorem rn_gI {j a : Nat} {t : FieldType} (h : (am_code M).lookup pc = some (.getfield j, 3, r1, r2, r3, km)) (hk : am_kill km L = L') (ht : am_fty ct r1 r2 = some t) (hi : am_isI t = true) : rn_ ct mt B M pc L (.ref a :: st) s = eI (gI ct s a r1 r2) fun x => rn_ ct mt B M (pc + 3) L' (.int x :: st) s := by
  rw [rn_hp h hk (by simp only [am_ins, am_pure, am_store, am_jump, am_ret]; cases hq : am_heap ct M B (.getfield j) r1 r2 (.ref a :: st) s <;> rfl)]
  simp only [am_heap, gI, eI]
  cases hv : am_gf ct s a r1 r2 with
  | none => rfl
  | some v =>
    obtain ⟨t', h1, h2, -⟩ := am_gf_spec hv
    rw [ht] at h1
    cases h1
    obtain ⟨x, rfl⟩ := am_isI_fits hi h2
    rfl
theorem rn_gA {j a : Nat} {t : FieldType} (h : (am_code M).lookup pc = some (.getfield j, 3, r1, r2, r3, km)) (hk : am_kill km L = L') (ht : am_fty ct r1 r2 = some t) (hi : am_isO t = true) : rn_ ct mt B M pc L (.ref a :: st) s = eA (gA ct s a r1 r2) (rn_ ct mt B M (pc + 3) L' (.null :: st) s) fun b => rn_ ct mt B M (pc + 3) L' (.ref b :: st) s := by
  rw [rn_hp h hk (by simp only [am_ins, am_pure, am_store, am_jump, am_ret]; cases hq : am_heap ct M B (.getfield j) r1 r2 (.ref a :: st) s <;> rfl)]
  simp only [am_heap, gA, eA]
  cases hv : am_gf ct s a r1 r2 with
  | none => rfl
  | some v =>
    obtain ⟨t', h1, h2, -⟩ := am_gf_spec hv
    rw [ht] at h1
    cases h1
    rcases am_isO_fits hi h2 with rfl | ⟨b, rfl⟩ <;> rfl
theorem rn_gN {j : Nat} (h : (am_code M).lookup pc = some (.getfield j, 3, r1, r2, r3, km)) : rn_ ct mt B M pc L (.null :: st) s = none := by
  rw [rn_hp h rfl (by simp only [am_ins, am_pure, am_store, am_jump, am_ret]; rfl)]
  rfl
theorem rn_pF {j a : Nat} {v : Value} (h : (am_code M).lookup pc = some (.putfield j, 3, r1, r2, r3, km)) (hk : am_kill km L = L') : rn_ ct mt B M pc L (v :: .ref a :: st) s = eS (am_put ct M B s v a r1 r2) fun s' => rn_ ct mt B M (pc + 3) L' st s' := by
  rw [rn_hp h hk (by simp only [am_ins, am_pure, am_store, am_jump, am_ret]; cases hq : am_heap ct M B (.putfield j) r1 r2 (v :: .ref a :: st) s <;> rfl)]
  simp only [am_heap, eS]
  cases hv : am_put ct M B s v a r1 r2 <;> rfl
theorem rn_al {a : Nat} (h : (am_code M).lookup pc = some (.arraylength, 1, r1, r2, r3, km)) (hk : am_kill km L = L') : rn_ ct mt B M pc L (.ref a :: st) s = eK (am_len s a) fun n => rn_ ct mt B M (pc + 1) L' (.int (Int32.ofNat n) :: st) s := by
  rw [rn_hp h hk (by simp only [am_ins, am_pure, am_store, am_jump, am_ret]; cases hq : am_heap ct M B .arraylength r1 r2 (.ref a :: st) s <;> rfl)]
  simp only [am_heap, eK]
  cases hv : am_len s a <;> rfl
theorem rn_aI {i : Int32} {a : Nat} (h : (am_code M).lookup pc = some (.iaload, 1, r1, r2, r3, km)) (hk : am_kill km L = L') : rn_ ct mt B M pc L (.int i :: .ref a :: st) s = eI (aI s a i) fun x => rn_ ct mt B M (pc + 1) L' (.int x :: st) s := by
  rw [rn_hp h hk (by simp only [am_ins, am_pure, am_store, am_jump, am_ret]; cases hq : am_heap ct M B .iaload r1 r2 (.int i :: .ref a :: st) s <;> rfl)]
  simp only [am_heap, eI, aI]
  cases hv : am_ia s .int a with
  | none => rfl
  | some q => obtain ⟨n, f⟩ := q; dsimp only; by_cases hb : am_inb i n = true <;> simp [hb]
theorem rn_aB {i : Int32} {a : Nat} (h : (am_code M).lookup pc = some (.baload, 1, r1, r2, r3, km)) (hk : am_kill km L = L') : rn_ ct mt B M pc L (.int i :: .ref a :: st) s = eI (aB s a i) fun x => rn_ ct mt B M (pc + 1) L' (.int x :: st) s := by
  rw [rn_hp h hk (by simp only [am_ins, am_pure, am_store, am_jump, am_ret]; cases hq : am_heap ct M B .baload r1 r2 (.int i :: .ref a :: st) s <;> rfl)]
  simp only [am_heap, eI, aB]
  cases hv : am_ba s a with
  | none => rfl
  | some q => obtain ⟨t, n, f⟩ := q; dsimp only; by_cases hb : am_inb i n = true <;> simp [hb]
theorem rn_aJ {i : Int32} {a : Nat} (h : (am_code M).lookup pc = some (.laload, 1, r1, r2, r3, km)) (hk : am_kill km L = L') : rn_ ct mt B M pc L (.int i :: .ref a :: st) s = eJ (aJ s a i) fun x => rn_ ct mt B M (pc + 1) L' (.long x :: st) s := by
  rw [rn_hp h hk (by simp only [am_ins, am_pure, am_store, am_jump, am_ret]; cases hq : am_heap ct M B .laload r1 r2 (.int i :: .ref a :: st) s <;> rfl)]
  simp only [am_heap, eJ, aJ]
  cases hv : am_la s a with
  | none => rfl
  | some q => obtain ⟨n, f⟩ := q; dsimp only; by_cases hb : am_inb i n = true <;> simp [hb]
theorem rn_aA {i : Int32} {a : Nat} (h : (am_code M).lookup pc = some (.aaload, 1, r1, r2, r3, km)) (hk : am_kill km L = L') : rn_ ct mt B M pc L (.int i :: .ref a :: st) s = eA (aA s a i) (rn_ ct mt B M (pc + 1) L' (.null :: st) s) fun b => rn_ ct mt B M (pc + 1) L' (.ref b :: st) s := by
  rw [rn_hp h hk (by simp only [am_ins, am_pure, am_store, am_jump, am_ret]; cases hq : am_heap ct M B .aaload r1 r2 (.int i :: .ref a :: st) s <;> rfl)]
  simp only [am_heap, eA, aA]
  cases hv : am_qa s a with
  | none => rfl
  | some q =>
    obtain ⟨C, n, f⟩ := q
    dsimp only
    by_cases hb : am_inb i n = true
    · simp only [hb, if_true]
      cases hf : f i.toInt.toNat <;> rfl
    · simp [hb]
theorem rn_wI {i v : Int32} {a : Nat} (h : (am_code M).lookup pc = some (.iastore, 1, r1, r2, r3, km)) (hk : am_kill km L = L') : rn_ ct mt B M pc L (.int v :: .int i :: .ref a :: st) s = eS (wI B s a i v) fun s' => rn_ ct mt B M (pc + 1) L' st s' := by
  rw [rn_hp h hk (by simp only [am_ins, am_pure, am_store, am_jump, am_ret]; cases hq : am_heap ct M B .iastore r1 r2 (.int v :: .int i :: .ref a :: st) s <;> rfl)]
  simp only [am_heap, eS, wI]
  cases hv : am_ia s .int a with
  | none => rfl
  | some q => obtain ⟨n, f⟩ := q; dsimp only; by_cases hb : am_inb i n = true ∧ B ≤ a <;> simp [hb]
theorem rn_wB {i v : Int32} {a : Nat} (h : (am_code M).lookup pc = some (.bastore, 1, r1, r2, r3, km)) (hk : am_kill km L = L') : rn_ ct mt B M pc L (.int v :: .int i :: .ref a :: st) s = eS (wB B s a i v) fun s' => rn_ ct mt B M (pc + 1) L' st s' := by
  rw [rn_hp h hk (by simp only [am_ins, am_pure, am_store, am_jump, am_ret]; cases hq : am_heap ct M B .bastore r1 r2 (.int v :: .int i :: .ref a :: st) s <;> rfl)]
  simp only [am_heap, eS, wB]
  cases hv : am_ba s a with
  | none => rfl
  | some q => obtain ⟨t, n, f⟩ := q; dsimp only; by_cases hb : am_inb i n = true ∧ B ≤ a <;> simp [hb]
theorem rn_wJ {i : Int32} {v : Int64} {a : Nat} (h : (am_code M).lookup pc = some (.lastore, 1, r1, r2, r3, km)) (hk : am_kill km L = L') : rn_ ct mt B M pc L (.long v :: .int i :: .ref a :: st) s = eS (wJ B s a i v) fun s' => rn_ ct mt B M (pc + 1) L' st s' := by
  rw [rn_hp h hk (by simp only [am_ins, am_pure, am_store, am_jump, am_ret]; cases hq : am_heap ct M B .lastore r1 r2 (.long v :: .int i :: .ref a :: st) s <;> rfl)]
  simp only [am_heap, eS, wJ]
  cases hv : am_la s a with
  | none => rfl
  | some q => obtain ⟨n, f⟩ := q; dsimp only; by_cases hb : am_inb i n = true ∧ B ≤ a <;> simp [hb]
theorem rn_wA {i : Int32} {v a : Nat} (h : (am_code M).lookup pc = some (.aastore, 1, r1, r2, r3, km)) (hk : am_kill km L = L') : rn_ ct mt B M pc L (.ref v :: .int i :: .ref a :: st) s = eS (wA ct B s a i v) fun s' => rn_ ct mt B M (pc + 1) L' st s' := by
  rw [rn_hp h hk (by simp only [am_ins, am_pure, am_store, am_jump, am_ret]; cases hq : am_heap ct M B .aastore r1 r2 (.ref v :: .int i :: .ref a :: st) s <;> rfl)]
  simp only [am_heap, eS, wA]
  cases hv : am_qa s a with
  | none => rfl
  | some q =>
    obtain ⟨C, n, f⟩ := q
    cases hc : am_cls s v with
    | none => rfl
    | some c =>
      dsimp only
      by_cases hb : am_inb i n = true ∧ B ≤ a ∧ (ct[c]?).map (fun q => q.1) = some C
      · rw [if_pos hb, if_pos hb]
      · rw [if_neg hb, if_neg hb]
theorem rn_wAn {i : Int32} {a : Nat} (h : (am_code M).lookup pc = some (.aastore, 1, r1, r2, r3, km)) : rn_ ct mt B M pc L (.null :: .int i :: .ref a :: st) s = none := by
  rw [rn_hp h rfl (by simp only [am_ins, am_pure, am_store, am_jump, am_ret]; rfl)]
  rfl
theorem rn_new {j : Nat} (h : (am_code M).lookup pc = some (.new j, 3, r1, 0, r3, km)) (hk : am_kill km L = L') : rn_ ct mt B M pc L st s = nwO ct s r1 fun a s' => rn_ ct mt B M (pc + 3) L' (.ref a :: st) s' := by
  rw [rn_hp h hk (by simp only [am_ins, am_pure, am_store, am_jump, am_ret, am_heap]; rfl)]
  rfl
theorem rn_nwI {t : ArrayType} {n : Int32} (h : (am_code M).lookup pc = some (.newarray t, 2, r1, r2, r3, km)) (hk : am_kill km L = L') : rn_ ct mt B M pc L (.int n :: st) s = nwI t s n fun a s' => rn_ ct mt B M (pc + 2) L' (.ref a :: st) s' := by
  rw [rn_hp h hk (by simp only [am_ins, am_pure, am_store, am_jump, am_ret]; cases hq : am_heap ct M B (.newarray t) r1 r2 (.int n :: st) s <;> rfl)]
  simp only [am_heap, nwI]
  by_cases h1 : 0 ≤ n.toInt ∧ n.toInt ≤ 65536 ∧ (newarray.typeOf t = .int ∨ newarray.typeOf t = .byte ∨ newarray.typeOf t = .boolean)
  · rw [if_pos h1, if_pos h1]
  · rw [if_neg h1, if_neg h1]
    by_cases h2 : 0 ≤ n.toInt ∧ n.toInt ≤ 65536 ∧ newarray.typeOf t = .long
    · rw [if_pos h2, if_pos h2]
    · rw [if_neg h2, if_neg h2]
theorem rn_nwA {j : Nat} {n : Int32} {C : am_C} (h : (am_code M).lookup pc = some (.anewarray j, 3, r1, r2, r3, km)) (hk : am_kill km L = L') (hc : ct[r1]? = some C) : rn_ ct mt B M pc L (.int n :: st) s = nwA C.1 s n fun a s' => rn_ ct mt B M (pc + 3) L' (.ref a :: st) s' := by
  rw [rn_hp h hk (by simp only [am_ins, am_pure, am_store, am_jump, am_ret]; cases hq : am_heap ct M B (.anewarray j) r1 r2 (.int n :: st) s <;> rfl)]
  simp only [am_heap, nwA, hc]
  by_cases h1 : 0 ≤ n.toInt ∧ n.toInt ≤ 65536
  · rw [if_pos h1, if_pos h1]
  · rw [if_neg h1, if_neg h1]
/-- ends -/
theorem rn_end {t : am_O × am_S} (h : (am_code M).lookup pc = some (x, len, r1, r2, r3, km)) (h5 : am_ins ct mt B (cl_ ct mt B) M pc x len r1 r2 (am_kill km L) st s = some (.inr t)) : rn_ ct mt B M pc L st s = some t := by
  rw [rn_eq]
  unfold am_step
  rw [h]
  dsimp only
  rw [h5]
theorem rn_retI {v : Int32} {t : FieldType} (h : (am_code M).lookup pc = some (.ireturn, 1, r1, r2, r3, km)) (ht : am_retT M = some t) (hf : fits t (.int v) = true) : rn_ ct mt B M pc L [.int v] s = some (.inl (some (.int v)), s) :=
  rn_end h (by simp only [am_ins, am_pure, am_store, am_jump, am_heap, am_ret, ht, hf, if_true])
theorem rn_retV (h : (am_code M).lookup pc = some (.return_, 1, r1, r2, r3, km)) (ht : am_retT M = none) : rn_ ct mt B M pc L [] s = some (.inl none, s) :=
  rn_end h (by simp only [am_ins, am_pure, am_store, am_jump, am_heap, am_ret, ht, if_true])
theorem rn_retJ {v : Int64} (h : (am_code M).lookup pc = some (.lreturn, 1, r1, r2, r3, km)) (ht : am_retT M = some .long) : rn_ ct mt B M pc L [.long v] s = some (.inl (some (.long v)), s) :=
  rn_end h (by simp only [am_ins, am_pure, am_store, am_jump, am_heap, am_ret, ht, if_true])
theorem rn_retF {v : UInt32} (h : (am_code M).lookup pc = some (.freturn, 1, r1, r2, r3, km)) (ht : am_retT M = some .float) : rn_ ct mt B M pc L [.float v] s = some (.inl (some (.float v)), s) :=
  rn_end h (by simp only [am_ins, am_pure, am_store, am_jump, am_heap, am_ret, ht, if_true])
theorem rn_retD {v : UInt64} (h : (am_code M).lookup pc = some (.dreturn, 1, r1, r2, r3, km)) (ht : am_retT M = some .double) : rn_ ct mt B M pc L [.double v] s = some (.inl (some (.double v)), s) :=
  rn_end h (by simp only [am_ins, am_pure, am_store, am_jump, am_heap, am_ret, ht, if_true])
theorem rn_retA {v : Value} {t : FieldType} (h : (am_code M).lookup pc = some (.areturn, 1, r1, r2, r3, km)) (ht : am_retT M = some t) (hv : am_isR v = true) (hf : fits t v = true) : rn_ ct mt B M pc L [v] s = some (.inl (some v), s) :=
  rn_end h (by simp only [am_ins, am_pure, am_store, am_jump, am_heap, am_ret, ht, hv, hf, and_self, if_true])
theorem rn_thr {j : Nat} (h : (am_code M).lookup pc = some (.new j, 3, r1, 1, r3, km)) (hh : am_hh M = []) : rn_ ct mt B M pc L [] s = xo r1 (am_bump s) :=
  rn_end h (by simp [am_ins, am_pure, am_store, am_jump, am_heap, am_ret, hh, if_true])
/-- a return of a truth value that is not known -/
def rtI (t : FieldType) (v : Int32) (s : am_S) : am_R := if fits t (.int v) = true then some (.inl (some (.int v)), s) else none
theorem rn_rtI {v : Int32} {t : FieldType} (h : (am_code M).lookup pc = some (.ireturn, 1, r1, r2, r3, km)) (ht : am_retT M = some t) : rn_ ct mt B M pc L [.int v] s = rtI t v s := by
  unfold rtI
  split
  · rename_i hf
    exact rn_retI h ht hf
  · rename_i hf
    rw [rn_eq]
    unfold am_step
    rw [h]
    simp only [am_ins, am_pure, am_store, am_jump, am_heap, am_ret, ht, if_neg hf]
/-- a constructor of Object -/
theorem rn_obj {j a : Nat} (h : (am_code M).lookup pc = some (.invokespecial j, 3, r1, 8, r3, km)) (hk : am_kill km L = L') (hl : am_w st ≤ 8) : rn_ ct mt B M pc L (.ref a :: st) s = rn_ ct mt B M (pc + 3) L' st s := by
  rw [rn_eq]
  unfold am_step
  rw [h]
  dsimp only
  rw [hk]
  simp only [am_ins, am_pure, am_store, am_jump, am_heap, am_ret, if_true, if_pos hl]
theorem rn_cp {j a d : Nat} {sp dp n : Int32} {q : Nat} {ty : FieldType} (h : (am_code M).lookup pc = some (.invokestatic j, 3, r1, q, r3, km)) (hk : am_kill km L = L') (hq : (q = 9 ∧ ty = .int) ∨ (q = 19 ∧ ty = .byte)) (hl : am_w st ≤ 8) : rn_ ct mt B M pc L (.int n :: .int dp :: .ref d :: .int sp :: .ref a :: st) s = eS (wC B ty s a sp d dp n) fun s' => rn_ ct mt B M (pc + 3) L' st s' := by
  have key : am_cpy B ty (.int n :: .int dp :: .ref d :: .int sp :: .ref a :: st) s = (wC B ty s a sp d dp n).map fun s' => (st, s') := by
    unfold wC am_cpy
    dsimp only
    cases h1 : am_ia s ty a with
    | none => rfl
    | some q1 =>
      cases h2 : am_ia s ty d with
      | none => rfl
      | some q2 =>
        obtain ⟨n0, f⟩ := q1
        obtain ⟨n1, g⟩ := q2
        simp only [show am_w ([] : List Value) ≤ 8 from by decide, true_and, hl]
        split
        · rfl
        · rfl
  rw [rn_eq]
  unfold am_step
  rw [h]
  dsimp only
  rw [hk]
  rcases hq with ⟨rfl, rfl⟩ | ⟨rfl, rfl⟩
  · simp only [am_ins, am_pure, am_store, am_jump, am_heap, am_ret, if_true, key]
    cases wC B .int s a sp d dp n <;> rfl
  · simp only [am_ins, am_pure, am_store, am_jump, am_heap, am_ret, if_true, key]
    rw [if_neg (by decide)]
    cases wC B .byte s a sp d dp n <;> rfl
end Rules
