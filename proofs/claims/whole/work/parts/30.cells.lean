/-! ===== SPECS: reading and writing by cells ===== -/
theorem eI_s {x : Int32} {f : Int32 → am_R} : eI (some x) f = f x := rfl
theorem eJ_s {x : Int64} {f : Int64 → am_R} : eJ (some x) f = f x := rfl
theorem eK_s {x : Nat} {f : Nat → am_R} : eK (some x) f = f x := rfl
theorem eS_s {x : am_S} {f : am_S → am_R} : eS (some x) f = f x := rfl
theorem eC_s {c : Nat} {f : am_R} : eC (some c) c f = f := if_pos rfl
theorem cI_s {v : Int32} {s : am_S} {f : Int32 → am_S → am_R} {x : Nat → am_S → am_R} : cI (some (.inl (some (.int v)), s)) f x = f v s := rfl
theorem cI_x {E : Nat} {s : am_S} {f : Int32 → am_S → am_R} {x : Nat → am_S → am_R} : cI (some (.inr E, s)) f x = x E s := rfl
theorem cJ_s {v : Int64} {s : am_S} {f : Int64 → am_S → am_R} {x : Nat → am_S → am_R} : cJ (some (.inl (some (.long v)), s)) f x = f v s := rfl
theorem cJ_x {E : Nat} {s : am_S} {f : Int64 → am_S → am_R} {x : Nat → am_S → am_R} : cJ (some (.inr E, s)) f x = x E s := rfl
theorem cF_s {v : UInt32} {s : am_S} {f : UInt32 → am_S → am_R} {x : Nat → am_S → am_R} : cF (some (.inl (some (.float v)), s)) f x = f v s := rfl
theorem cD_s {v : UInt64} {s : am_S} {f : UInt64 → am_S → am_R} {x : Nat → am_S → am_R} : cD (some (.inl (some (.double v)), s)) f x = f v s := rfl
theorem cV_s {s : am_S} {f : am_S → am_R} {x : Nat → am_S → am_R} : cV (some (.inl none, s)) f x = f s := rfl
theorem cV_x {E : Nat} {s : am_S} {f : am_S → am_R} {x : Nat → am_S → am_R} : cV (some (.inr E, s)) f x = x E s := rfl
theorem cA_n {s : am_S} {f : am_S → am_R} {g : Nat → am_S → am_R} {x : Nat → am_S → am_R} : cA (some (.inl (some .null), s)) f g x = f s := rfl
theorem cA_s {b : Nat} {s : am_S} {f : am_S → am_R} {g : Nat → am_S → am_R} {x : Nat → am_S → am_R} : cA (some (.inl (some (.ref b)), s)) f g x = g b s := rfl
theorem cA_rs {b : Nat} {s : am_S} {f : am_S → am_R} {g : Nat → am_S → am_R} {x : Nat → am_S → am_R} : cA (some (.inl (some (va_rf (some b))), s)) f g x = g b s := rfl
theorem cA_rn {s : am_S} {f : am_S → am_R} {g : Nat → am_S → am_R} {x : Nat → am_S → am_R} : cA (some (.inl (some (va_rf none)), s)) f g x = f s := rfl
theorem cA_x {E : Nat} {s : am_S} {f : am_S → am_R} {g : Nat → am_S → am_R} {x : Nat → am_S → am_R} : cA (some (.inr E, s)) f g x = x E s := rfl
section Cells
variable {s : am_S} {a c k : Nat} {fs : List Value} {x : Int32} {v : Value}
theorem cls_o (h : s.1 a = some (.inr (c, fs))) : am_cls s a = some c := by unfold am_cls; rw [h]
theorem gF_o (h : s.1 a = some (.inr (c, fs))) : am_getF s a c k = fs[k]? := by unfold am_getF; rw [h]; exact if_pos rfl
theorem gI_o {t : FieldType} (h : s.1 a = some (.inr (c, fs))) (h3 : fs[k]? = some (.int x)) (h2 : am_fty tb_ct c k = some t) (hf : fits t (.int x) = true) : gI tb_ct s a c k = some x := by
  unfold gI am_gf
  rw [gF_o h, h3]
  unfold am_fty at h2
  cases hc : tb_ct[c]? with
  | none => rw [hc] at h2; cases h2
  | some q =>
    rw [hc] at h2
    cases h2
    dsimp only
    rw [if_pos hf]
theorem gA_o {b : Nat} {t : FieldType} (h : s.1 a = some (.inr (c, fs))) (h3 : fs[k]? = some (.ref b)) (h2 : am_fty tb_ct c k = some t) (hf : fits t (.ref b) = true) : gA tb_ct s a c k = some (some b) := by
  unfold gA am_gf
  rw [gF_o h, h3]
  unfold am_fty at h2
  cases hc : tb_ct[c]? with
  | none => rw [hc] at h2; cases h2
  | some q =>
    rw [hc] at h2
    cases h2
    dsimp only
    rw [if_pos hf]
theorem pF_o {M : am_M} {B : Nat} {ty : FieldType} {fin : Bool} (h : s.1 a = some (.inr (c, fs))) (hk : k < fs.length) (hf : am_fld tb_ct c k = some (ty, fin)) (ht : fits ty v = true) (hB : B ≤ a) (hw : fin = false ∨ am_kind M = 2) : am_put tb_ct M B s v a c k = some (am_set s a (.inr (c, fs.set k v))) := by
  unfold am_put
  rw [hf, cls_o h]
  dsimp only
  rw [if_pos ⟨rfl, hB, ht, hw, by rw [gF_o h, List.getElem?_eq_getElem hk]; rfl⟩]
  unfold am_setF
  rw [h]
theorem inb_n {i n : Nat} (h : i < n) (hn : n < 2 ^ 31) : am_inb (nI i) n = true := by
  unfold am_inb
  rw [nI_toInt (by omega)]
  simp
  omega
theorem nat_n {i : Nat} (h : i < 2 ^ 31) : (nI i).toInt.toNat = i := by rw [nI_toInt h]; rfl
theorem aI_o {n i : Nat} {f : Nat → Int32} (h : s.1 a = some (.inl (.int, n, .inl f))) (hi : i < n) (hn : n < 2 ^ 31) : aI s a (nI i) = some (f i) := by
  unfold aI am_ia
  rw [h]
  simp only [if_true]
  rw [if_pos (inb_n hi hn), nat_n (by omega)]
theorem aB_o {n i : Nat} {t : FieldType} {f : Nat → Int32} (h : s.1 a = some (.inl (t, n, .inl f))) (ht : t = .byte ∨ t = .boolean) (hi : i < n) (hn : n < 2 ^ 31) : aB s a (nI i) = some (f i) := by
  unfold aB am_ba
  rw [h]
  simp only [if_pos ht]
  rw [if_pos (inb_n hi hn), nat_n (by omega)]
theorem aA_o {n i : Nat} {C : String} {f : Nat → Option Nat} (h : s.1 a = some (.inl (.object C, n, .inr (.inr (.inr (.inr f)))))) (hi : i < n) (hn : n < 2 ^ 31) : aA s a (nI i) = some (f i) := by
  unfold aA am_qa
  rw [h]
  dsimp only
  rw [if_pos (inb_n hi hn), nat_n (by omega)]
theorem wI_o {B n i : Nat} {f : Nat → Int32} {x : Int32} (h : s.1 a = some (.inl (.int, n, .inl f))) (hi : i < n) (hn : n < 2 ^ 31) (hB : B ≤ a) : wI B s a (nI i) x = some (am_set s a (.inl (.int, n, .inl (upd f i x)))) := by
  unfold wI am_ia
  rw [h]
  simp only [if_true]
  rw [if_pos ⟨inb_n hi hn, hB⟩, nat_n (by omega)]
theorem wB_o {B n i : Nat} {t : FieldType} {f : Nat → Int32} {x : Int32} (h : s.1 a = some (.inl (t, n, .inl f))) (ht : t = .byte ∨ t = .boolean) (hi : i < n) (hn : n < 2 ^ 31) (hB : B ≤ a) : wB B s a (nI i) x = some (am_set s a (.inl (t, n, .inl (upd f i (vp_nar t x))))) := by
  unfold wB am_ba
  rw [h]
  simp only [if_pos ht]
  rw [if_pos ⟨inb_n hi hn, hB⟩, nat_n (by omega)]
theorem wA_o {B n i v cv : Nat} {C : String} {f : Nat → Option Nat} (h : s.1 a = some (.inl (.object C, n, .inr (.inr (.inr (.inr f)))))) (hv : am_cls s v = some cv) (hC : (tb_ct[cv]?).map (fun q => q.1) = some C) (hi : i < n) (hn : n < 2 ^ 31) (hB : B ≤ a) : wA tb_ct B s a (nI i) v = some (am_set s a (.inl (.object C, n, .inr (.inr (.inr (.inr (va_up f i (some v)))))))) := by
  unfold wA am_qa
  rw [h, hv]
  dsimp only
  rw [if_pos ⟨inb_n hi hn, hB, hC⟩, nat_n (by omega)]
theorem al_o {t : FieldType} {y : vp_A} (h : s.1 a = some (.inl (t, y))) : am_len s a = some y.1 := by unfold am_len; rw [h]
end Cells
/-! ints as naturals -/
theorem nI_2 {a b : Nat} (h : b ≤ a) : nI a - nI b = nI (a - b) := pk_sub h
theorem nI_neg1 {n : Nat} (h : 0 < n) : nI n + (-(1 : Int32)) = nI (n - 1) := by
  obtain ⟨m, rfl⟩ : ∃ m, n = m + 1 := ⟨n - 1, by omega⟩
  exact pk_m1 m
theorem nI_sub1 {n : Nat} (h : 0 < n) : nI n - (1 : Int32) = nI (n - 1) := nI_2 (b := 1) h
/-- the first place from i on, among so many, where p holds; i + k if none -/
def fi (p : Nat → Bool) : Nat → Nat → Nat
  | i, 0 => i
  | i, k + 1 => if p i = true then i else fi p (i + 1) k
theorem fi_0 {p : Nat → Bool} {i : Nat} : fi p i 0 = i := rfl
theorem fi_s {p : Nat → Bool} {i k : Nat} : fi p i (k + 1) = if p i = true then i else fi p (i + 1) k := rfl
theorem fi_le (p : Nat → Bool) : ∀ (k i : Nat), i ≤ fi p i k ∧ fi p i k ≤ i + k
  | 0, i => ⟨Nat.le_refl _, Nat.le_refl _⟩
  | k + 1, i => by
    unfold fi
    split
    · omega
    · have := fi_le p k (i + 1)
      omega
theorem fi_no (p : Nat → Bool) : ∀ (k i j : Nat), i ≤ j → j < fi p i k → p j = false
  | 0, i, j, h1, h2 => by unfold fi at h2; omega
  | k + 1, i, j, h1, h2 => by
    unfold fi at h2
    split at h2
    · omega
    · rename_i hp
      by_cases hj : j = i
      · subst hj
        simpa using hp
      · exact fi_no p k (i + 1) j (by omega) h2
theorem fi_yes (p : Nat → Bool) : ∀ (k i : Nat), fi p i k < i + k → p (fi p i k) = true
  | 0, i, h => by unfold fi at h; omega
  | k + 1, i, h => by
    unfold fi at h ⊢
    split at h
    · rename_i hp
      rw [if_pos hp]
      exact hp
    · rename_i hp
      rw [if_neg hp]
      exact fi_yes p k (i + 1) (by omega)
theorem fi_cg {p q : Nat → Bool} : ∀ (k i : Nat), (∀ j, i ≤ j → j < i + k → p j = q j) → fi p i k = fi q i k
  | 0, i, h => rfl
  | k + 1, i, h => by
    unfold fi
    rw [h i (Nat.le_refl _) (by omega), fi_cg k (i + 1) (fun j h1 h2 => h j (by omega) (by omega))]
/-- it is the one place r between i and i + k with nothing ahead -/
theorem fi_is {p : Nat → Bool} : ∀ {k i r : Nat}, i ≤ r → r ≤ i + k → (∀ j, i ≤ j → j < r → p j = false) → (r < i + k → p r = true) → fi p i k = r := by
  intro k i r h1 h2 h3 h4
  have a := fi_le p k i
  by_cases hlt : fi p i k < r
  · have := h3 _ a.1 hlt
    rw [fi_yes p k i (by omega)] at this
    cases this
  · by_cases hgt : r < fi p i k
    · have := fi_no p k i r h1 hgt
      rw [h4 (by omega)] at this
      cases this
    · omega
/-- how many places -/
def cn (p : Nat → Bool) : Nat → Nat → Nat
  | _, 0 => 0
  | i, k + 1 => (if p i = true then 1 else 0) + cn p (i + 1) k
theorem cn_le (p : Nat → Bool) : ∀ (k i : Nat), cn p i k ≤ k
  | 0, _ => Nat.le_refl _
  | k + 1, i => by
    unfold cn
    have := cn_le p k (i + 1)
    split <;> omega
theorem cn_cg {p q : Nat → Bool} : ∀ (k i : Nat), (∀ j, i ≤ j → j < i + k → p j = q j) → cn p i k = cn q i k
  | 0, i, h => rfl
  | k + 1, i, h => by
    unfold cn
    rw [h i (Nat.le_refl _) (by omega), cn_cg k (i + 1) (fun j h1 h2 => h j (by omega) (by omega))]
