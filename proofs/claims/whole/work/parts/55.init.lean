/-! ===== constructors of the store's parts ===== -/
def ax (s s' : am_S) (a n m : Nat) : Prop := (∀ q, q < a → s'.1 q = s.1 q) ∧ s'.2.1 = s.2.1 + n ∧ s'.2.2.1 = s.2.2.1 + m ∧ s'.2.2.2 = s.2.2.2
theorem ax_rf {s : am_S} {a : Nat} : ax s s a 0 0 := ⟨fun _ _ => rfl, rfl, rfl, rfl⟩
theorem ax_tr {s s' s'' : am_S} {a n m n' m' : Nat} (h : ax s s' a n m) (h' : ax s' s'' a n' m') : ax s s'' a (n + n') (m + m') := ⟨fun q hq => (h'.1 q hq).trans (h.1 q hq), by rw [h'.2.1, h.2.1, Nat.add_assoc], by rw [h'.2.2.1, h.2.2.1, Nat.add_assoc], h'.2.2.2.trans h.2.2.2⟩
theorem ax_dn {s s' : am_S} {a a' n m : Nat} (h : ax s s' a n m) (ha : a' ≤ a) : ax s s' a' n m := ⟨fun q hq => h.1 q (by omega), h.2⟩
theorem ax_new {s : am_S} {a n : Nat} {e : am_E} (h : a ≤ s.2.1) : ax s (am_new s e n) a 1 n := ⟨fun q hq => if_neg (by omega), rfl, rfl, rfl⟩
theorem ax_set {s : am_S} {a b : Nat} {e : am_E} (h : a ≤ b) : ax s (am_set s b e) a 0 0 := ⟨fun q hq => if_neg (by omega), rfl, rfl, rfl⟩
theorem ax_so {s s' : am_S} {a b c : Nat} (h : so s s' b c) (hb : a ≤ b) : ax s s' a 0 0 := ⟨fun q hq => h.1 q (by omega), by rw [h.2]; rfl, by rw [h.2]; rfl, by rw [h.2]⟩
section Nw
variable {s s' : am_S} {B a b c n : Nat} {e : am_E} {f : Nat → am_S → am_R} {M : am_M}
theorem new_at : (am_new s e n).1 s.2.1 = some e := if_pos rfl
theorem new_ne {q : Nat} (h : q ≠ s.2.1) : (am_new s e n).1 q = s.1 q := if_neg h
theorem nwO_s {ci : Nat} {fs : List Value} (h : am_dfl tb_ct ci = fs) : nwO tb_ct s ci f = f s.2.1 (am_new s (.inr (ci, fs)) fs.length) := by
  unfold nwO
  rw [h]
theorem nwA_s {C : String} {k : Nat} (hk : k ≤ 65536) : nwA C s (nI k) f = f s.2.1 (am_new s (.inl (.object C, k, .inr (.inr (.inr (.inr fun _ => none))))) k) := by
  unfold nwA
  rw [nI_toInt (by omega), if_pos (by omega)]
  rfl
theorem nwI_s {k : Nat} (hk : k ≤ 65536) : nwI .int s (nI k) f = f s.2.1 (am_new s (.inl (.int, k, .inl fun _ => 0)) k) := by
  unfold nwI
  rw [nI_toInt (by omega), if_pos ⟨by omega, by omega, Or.inl rfl⟩]
  rfl
theorem nwB_s {k : Nat} (hk : k ≤ 65536) : nwI .byte s (nI k) f = f s.2.1 (am_new s (.inl (.byte, k, .inl fun _ => 0)) k) := by
  unfold nwI
  rw [nI_toInt (by omega), if_pos ⟨by omega, by omega, Or.inr (Or.inl rfl)⟩]
  rfl
theorem nwZ_s {k : Nat} (hk : k ≤ 65536) : nwI .boolean s (nI k) f = f s.2.1 (am_new s (.inl (.boolean, k, .inl fun _ => 0)) k) := by
  unfold nwI
  rw [nI_toInt (by omega), if_pos ⟨by omega, by omega, Or.inr (Or.inr rfl)⟩]
  rfl
theorem df_0 : am_dfl tb_ct 0 = [.int 0, .int 0, .int 0, .int 0, .int 0, .int 0, .int 0] := rfl
theorem df_1 : am_dfl tb_ct 1 = [.null, .int 0] := rfl
theorem df_2 : am_dfl tb_ct 2 = [.int 0, .int 0, .int 0, .int 0, .int 0, .int 0] := rfl
theorem df_3 : am_dfl tb_ct 3 = [.null, .int 0] := rfl
theorem df_4 : am_dfl tb_ct 4 = [.int 0, .int 0, .int 0] := rfl
theorem df_6 : am_dfl tb_ct 6 = [.null, .null, .null, .int 0] := rfl
theorem df_7 : am_dfl tb_ct 7 = [.null, .null, .null, .null, .null, .int 0, .int 0, .int 0, .int 0, .int 0, .int 0] := rfl
theorem df_8 : am_dfl tb_ct 8 = [.null, .null, .null, .null, .int 0, .null, .null] := rfl
theorem df_9 : am_dfl tb_ct 9 = [.int 0, .int 0, .int 0, .int 0, .int 0, .int 0, .null] := rfl
theorem pR_o {ci k : Nat} {fs : List Value} {v : Nat} {ty : FieldType} {fin : Bool} (h : s.1 a = some (.inr (ci, fs))) (hk : k < fs.length) (hf : am_fld tb_ct ci k = some (ty, fin)) (ht : fits ty (.ref v) = true) (hB : B ≤ a) (hw : fin = false ∨ am_kind M = 2) : am_put tb_ct M B s (.ref v) a ci k = some (am_set s a (.inr (ci, fs.set k (.ref v)))) := pF_o h hk hf ht hB hw
/-! KeyRow, EventRow -/
def rwI (c : Nat) (nm : String) (N ce : Nat) (fs : List Value) (s : am_S) (a i : Nat) : Prop := s.2.1 = a + 2 + i ∧ s.1 a = some (.inr (c, [.ref (a + 1), .int 0])) ∧ s.1 (a + 1) = some (.inl (.object nm, N, .inr (.inr (.inr (.inr fun k => if k < i then some (a + 2 + k) else none))))) ∧ ∀ j, j < i → s.1 (a + 2 + j) = some (.inr (ce, fs))
theorem rwI_step {c N ce i : Nat} {nm : String} {fs : List Value} (h : rwI c nm N ce fs s a i) : (am_new s (.inr (ce, fs)) fs.length).1 (a + 1) = some (.inl (.object nm, N, .inr (.inr (.inr (.inr fun k => if k < i then some (a + 2 + k) else none))))) ∧ rwI c nm N ce fs (am_set (am_new s (.inr (ce, fs)) fs.length) (a + 1) (.inl (.object nm, N, .inr (.inr (.inr (.inr (va_up (fun k => if k < i then some (a + 2 + k) else none) i (some (s.2.1))))))))) a (i + 1) := by
  obtain ⟨h1, h2, h3, h4⟩ := h
  refine ⟨(new_ne (by omega)).trans h3, ?_, (set_ne (by omega)).trans ((new_ne (by omega)).trans h2), ?_, fun j hj => ?_⟩
  · change s.2.1 + 1 = _
    omega
  · rw [set_at]
    refine congrArg (fun f => some (Sum.inl (FieldType.object nm, N, Sum.inr (Sum.inr (Sum.inr (Sum.inr f)))))) (funext fun k => ?_)
    unfold va_up
    dsimp only
    by_cases hk : k = i
    · rw [if_pos hk, if_pos (by omega), h1, hk]
    · rw [if_neg hk]
      by_cases hk2 : k < i
      · rw [if_pos hk2, if_pos (by omega)]
      · rw [if_neg hk2, if_neg (by omega)]
  · rw [set_ne (by omega)]
    by_cases hj2 : j = i
    · rw [hj2, ← h1]
      exact new_at
    · rw [new_ne (by omega)]
      exact h4 j (by omega)
theorem rwI_done {c N ce : Nat} {nm : String} {fs : List Value} {F : (Nat → Int32) → List Value} (hF : F (fun _ => 0) = fs) (h : rwI c nm N ce fs s a N) : RW c nm N ce F s a 0 (fun i => i) (fun _ _ => 0) := by
  obtain ⟨h1, h2, h3, h4⟩ := h
  exact RW.mk (by rw [nI_0]; exact h2) h3 fun j hj => by rw [hF]; exact h4 j hj
theorem kr_init_lp (hB : B ≤ a) : ∀ k i s, i + k = 22 → rwI 3 "WatchedKeys$Key" 22 2 [.int 0, .int 0, .int 0, .int 0, .int 0, .int 0] s a i → ∃ s', rn_ tb_ct tb_mt B mm_X4_init 15 [.ref a, .int (nI i)] [] s = some (.inl none, s') ∧ ax s s' a k (6 * k) ∧ rwI 3 "WatchedKeys$Key" 22 2 [.int 0, .int 0, .int 0, .int 0, .int 0, .int 0] s' a 22 := by
  intro k
  induction k with
  | zero =>
    intro i s hi h
    refine ⟨s, ?_, ax_rf, by rw [show (22 : Nat) = i by omega]; rw [show i = 22 by omega] at h ⊢; exact h⟩
    rw [dc_X4_init_15, if_pos (show (22 : Int32) ≤ nI i from nI_le (a := 22) (by omega) (by omega))]
  | succ k ih =>
    intro i s hi h
    obtain ⟨h3, h4⟩ := rwI_step h
    obtain ⟨s', e1, a1, h5⟩ := ih (i + 1) _ (by omega) h4
    refine ⟨s', ?_, ?_, h5⟩
    · have h2 : s.1 a = some (.inr (3, [.ref (a + 1), .int 0])) := h.2.1
      have hc : am_cls (am_new s (.inr (2, [.int 0, .int 0, .int 0, .int 0, .int 0, .int 0])) 6) s.2.1 = some 2 := cls_o new_at
      rw [dc_X4_init_15, if_neg (show ¬ (22 : Int32) ≤ nI i from nI_ge (b := 22) (by omega) (by omega))]
      have hw := wA_o (B := B) h3 hc (cv := 2) rfl (i := i) (by omega) (by omega) (by omega)
      change wA tb_ct B (am_new s (.inr (2, [.int 0, .int 0, .int 0, .int 0, .int 0, .int 0])) 6) _ _ _ = _ at hw
      simp only [gA_o h2 rfl rfl rfl (k := 0), eA_s, nwO_s df_2]
      change eC (am_cls (am_new s (.inr (2, [.int 0, .int 0, .int 0, .int 0, .int 0, .int 0])) 6) s.2.1) 2 (cV (cl_ tb_ct tb_mt B K_X3_init [.ref s.2.1] (am_new s (.inr (2, [.int 0, .int 0, .int 0, .int 0, .int 0, .int 0])) 6)) (fun s_7 => eS (wA tb_ct B s_7 (a + 1) (nI i) s.2.1) (fun s_8 => rn_ tb_ct tb_mt B mm_X4_init 15 [.ref a, .int (nI i + 1)] [] s_8)) xo) = _
      rw [hc, in_X3_init, dc_X3_init_0]
      simp only [eC_s, cV_s]
      rw [hw]
      simp only [eS_s, nI_1]
      exact e1
    · have b1 : ax s (am_new s (.inr (2, [.int 0, .int 0, .int 0, .int 0, .int 0, .int 0])) 6) a 1 6 := ax_new (by have := h.1; omega)
      have b2 := ax_tr (ax_tr b1 (ax_set (b := a + 1) (by omega))) a1
      rw [show k + 1 = 1 + 0 + k by omega, show 6 * (1 + 0 + k) = 6 + 0 + 6 * k by omega]
      exact b2
theorem kr_init (hB : B ≤ a) (h : s.1 a = some (.inr (3, [.null, .int 0]))) (hn : s.2.1 = a + 1) (K : rowT) : ∃ s', cl_ tb_ct tb_mt B K_X4_init [.ref a] s = some (.inl none, s') ∧ ax s s' a 23 154 ∧ KW s' a 0 K := by
  have h1 : (am_new s (.inl (.object "WatchedKeys$Key", 22, .inr (.inr (.inr (.inr fun _ => none))))) 22).1 a = some (.inr (3, [.null, .int 0])) := (new_ne (by omega)).trans h
  have hp := pR_o (B := B) (M := mm_X4_init) (v := s.2.1) (k := 0) h1 (by decide) rfl rfl hB (Or.inr rfl)
  have hi : rwI 3 "WatchedKeys$Key" 22 2 [.int 0, .int 0, .int 0, .int 0, .int 0, .int 0] (am_set (am_new s (.inl (.object "WatchedKeys$Key", 22, .inr (.inr (.inr (.inr fun _ => none))))) 22) a (.inr (3, [.ref (a + 1), .int 0]))) a 0 := by
    refine ⟨?_, set_at, ?_, fun j hj => absurd hj (Nat.not_lt_zero _)⟩
    · change s.2.1 + 1 = _
      omega
    · rw [set_ne (by omega), ← hn, new_at]
      rfl
  obtain ⟨s', e1, a1, h5⟩ := kr_init_lp hB 22 0 _ (by omega) hi
  refine ⟨s', ?_, ?_, Nat.zero_le _, _, _, rwI_done rfl h5, ⟨fun i hi => hi, fun i _ j _ e => e⟩, fun i hi => absurd hi (Nat.not_lt_zero _)⟩
  · rw [in_X4_init, dc_X4_init_0]
    rw [show (22 : Int32) = nI 22 from rfl, nwA_s (by omega)]
    rw [hp]
    simp only [eS_s]
    rw [hn]
    exact e1
  · have b1 : ax s (am_new s (.inl (.object "WatchedKeys$Key", 22, .inr (.inr (.inr (.inr fun _ => none))))) 22) a 1 22 := ax_new (by omega)
    exact ax_tr (ax_tr b1 (ax_set (Nat.le_refl a))) a1
theorem er_init_lp (hB : B ≤ a) : ∀ k i s, i + k = 152 → rwI 1 "WatchedKeys$Event" 152 0 [.int 0, .int 0, .int 0, .int 0, .int 0, .int 0, .int 0] s a i → ∃ s', rn_ tb_ct tb_mt B mm_X2_init 16 [.ref a, .int (nI i)] [] s = some (.inl none, s') ∧ ax s s' a k (7 * k) ∧ rwI 1 "WatchedKeys$Event" 152 0 [.int 0, .int 0, .int 0, .int 0, .int 0, .int 0, .int 0] s' a 152 := by
  intro k
  induction k with
  | zero =>
    intro i s hi h
    refine ⟨s, ?_, ax_rf, by rw [show i = 152 by omega] at h; exact h⟩
    rw [dc_X2_init_16, if_pos (show (152 : Int32) ≤ nI i from nI_le (a := 152) (by omega) (by omega))]
  | succ k ih =>
    intro i s hi h
    obtain ⟨h3, h4⟩ := rwI_step h
    obtain ⟨s', e1, a1, h5⟩ := ih (i + 1) _ (by omega) h4
    refine ⟨s', ?_, ?_, h5⟩
    · have h2 : s.1 a = some (.inr (1, [.ref (a + 1), .int 0])) := h.2.1
      have hc : am_cls (am_new s (.inr (0, [.int 0, .int 0, .int 0, .int 0, .int 0, .int 0, .int 0])) 7) s.2.1 = some 0 := cls_o new_at
      rw [dc_X2_init_16, if_neg (show ¬ (152 : Int32) ≤ nI i from nI_ge (b := 152) (by omega) (by omega))]
      have hw := wA_o (B := B) h3 hc (cv := 0) rfl (i := i) (by omega) (by omega) (by omega)
      change wA tb_ct B (am_new s (.inr (0, [.int 0, .int 0, .int 0, .int 0, .int 0, .int 0, .int 0])) 7) _ _ _ = _ at hw
      simp only [gA_o h2 rfl rfl rfl (k := 0), eA_s, nwO_s df_0]
      change eC (am_cls (am_new s (.inr (0, [.int 0, .int 0, .int 0, .int 0, .int 0, .int 0, .int 0])) 7) s.2.1) 0 (cV (cl_ tb_ct tb_mt B K_X1_init [.ref s.2.1] (am_new s (.inr (0, [.int 0, .int 0, .int 0, .int 0, .int 0, .int 0, .int 0])) 7)) (fun s_7 => eS (wA tb_ct B s_7 (a + 1) (nI i) s.2.1) (fun s_8 => rn_ tb_ct tb_mt B mm_X2_init 16 [.ref a, .int (nI i + 1)] [] s_8)) xo) = _
      rw [hc, in_X1_init, dc_X1_init_0]
      simp only [eC_s, cV_s]
      rw [hw]
      simp only [eS_s, nI_1]
      exact e1
    · have b1 : ax s (am_new s (.inr (0, [.int 0, .int 0, .int 0, .int 0, .int 0, .int 0, .int 0])) 7) a 1 7 := ax_new (by have := h.1; omega)
      have b2 := ax_tr (ax_tr b1 (ax_set (b := a + 1) (by omega))) a1
      rw [show k + 1 = 1 + 0 + k by omega, show 7 * (1 + 0 + k) = 7 + 0 + 7 * k by omega]
      exact b2
theorem er_init (hB : B ≤ a) (h : s.1 a = some (.inr (1, [.null, .int 0]))) (hn : s.2.1 = a + 1) (K : rowT) : ∃ s', cl_ tb_ct tb_mt B K_X2_init [.ref a] s = some (.inl none, s') ∧ ax s s' a 153 1216 ∧ EW s' a 0 K := by
  have h1 : (am_new s (.inl (.object "WatchedKeys$Event", 152, .inr (.inr (.inr (.inr fun _ => none))))) 152).1 a = some (.inr (1, [.null, .int 0])) := (new_ne (by omega)).trans h
  have hp := pR_o (B := B) (M := mm_X2_init) (v := s.2.1) (k := 0) h1 (by decide) rfl rfl hB (Or.inr rfl)
  have hi : rwI 1 "WatchedKeys$Event" 152 0 [.int 0, .int 0, .int 0, .int 0, .int 0, .int 0, .int 0] (am_set (am_new s (.inl (.object "WatchedKeys$Event", 152, .inr (.inr (.inr (.inr fun _ => none))))) 152) a (.inr (1, [.ref (a + 1), .int 0]))) a 0 := by
    refine ⟨?_, set_at, ?_, fun j hj => absurd hj (Nat.not_lt_zero _)⟩
    · change s.2.1 + 1 = _
      omega
    · rw [set_ne (by omega), ← hn, new_at]
      rfl
  obtain ⟨s', e1, a1, h5⟩ := er_init_lp hB 152 0 _ (by omega) hi
  refine ⟨s', ?_, ?_, Nat.zero_le _, _, _, rwI_done rfl h5, ⟨fun i hi => hi, fun i _ j _ e => e⟩, fun i hi => absurd hi (Nat.not_lt_zero _)⟩
  · rw [in_X2_init, dc_X2_init_0]
    rw [show (152 : Int32) = nI 152 from rfl, nwA_s (by omega)]
    rw [hp]
    simp only [eS_s]
    rw [hn]
    exact e1
  · have b1 : ax s (am_new s (.inl (.object "WatchedKeys$Event", 152, .inr (.inr (.inr (.inr fun _ => none))))) 152) a 1 152 := ax_new (by omega)
    exact ax_tr (ax_tr b1 (ax_set (Nat.le_refl a))) a1
end Nw
