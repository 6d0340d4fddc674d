/-! ===== Store's constructor ===== -/
section Sn
variable {s s' : am_S} {B a b n i : Nat} {M : am_M}
theorem nw_ex (k : Nat) (hk : s.2.1 = k) (e : am_E) (m : Nat) : ∃ t, am_new s e m = t ∧ t.1 k = some e ∧ t.2.1 = k + 1 ∧ (∀ q, q ≠ k → t.1 q = s.1 q) ∧ ∀ a, a ≤ k → ax s t a 1 m := by
  subst hk
  exact ⟨_, rfl, new_at, rfl, fun q hq => new_ne hq, fun a ha => ax_new ha⟩
theorem se_ex (a : Nat) (e : am_E) : ∃ t, am_set s a e = t ∧ t.1 a = some e ∧ t.2.1 = s.2.1 ∧ (∀ q, q ≠ a → t.1 q = s.1 q) ∧ ax s t a 0 0 := ⟨_, rfl, set_at, rfl, fun q hq => set_ne hq, ax_set (Nat.le_refl a)⟩
theorem put_ex {ci k : Nat} {fs : List Value} {v : Nat} {ty : FieldType} {fin : Bool} (h : s.1 a = some (.inr (ci, fs))) (hk : k < fs.length) (hf : am_fld tb_ct ci k = some (ty, fin)) (ht : fits ty (.ref v) = true) (hB : B ≤ a) (hw : fin = false ∨ am_kind M = 2) : ∃ t, am_put tb_ct M B s (.ref v) a ci k = some t ∧ t.1 a = some (.inr (ci, fs.set k (.ref v))) ∧ t.2.1 = s.2.1 ∧ (∀ q, q ≠ a → t.1 q = s.1 q) ∧ ax s t a 0 0 := ⟨_, pR_o h hk hf ht hB hw, set_at, rfl, fun q hq => set_ne hq, ax_set (Nat.le_refl a)⟩
theorem sp_init (hB : B ≤ a) (h : s.1 a = some (.inr (6, [.null, .null, .null, .int 0]))) (hn : s.2.1 = a + 1) (T : rowT) : ∃ s', cl_ tb_ct tb_mt B K_X7_init [.ref a] s = some (.inl none, s') ∧ ax s s' a 3 18 ∧ PW s' a 0 T := by
  obtain ⟨s1, w1, z1, n1, f1, c1⟩ := nw_ex (s := s) (a + 1) hn (.inl (.int, 6, .inl fun _ => 0)) 6
  obtain ⟨s2, w2, z2, n2, f2, c2⟩ := put_ex (B := B) (M := mm_X7_init) (v := a + 1) (k := 0) ((f1 a (by omega)).trans h) (Nat.le_of_ble_eq_true rfl) rfl rfl hB (Or.inr rfl)
  obtain ⟨s3, w3, z3, n3, f3, c3⟩ := nw_ex (s := s2) (a + 2) (n2.trans n1) (.inl (.int, 6, .inl fun _ => 0)) 6
  obtain ⟨s4, w4, z4, n4, f4, c4⟩ := put_ex (B := B) (M := mm_X7_init) (v := a + 2) (k := 1) ((f3 a (by omega)).trans z2) (Nat.le_of_ble_eq_true rfl) rfl rfl hB (Or.inr rfl)
  obtain ⟨s5, w5, z5, n5, f5, c5⟩ := nw_ex (s := s4) (a + 3) (n4.trans n3) (.inl (.int, 6, .inl fun _ => 0)) 6
  obtain ⟨s6, w6, z6, n6, f6, c6⟩ := put_ex (B := B) (M := mm_X7_init) (v := a + 3) (k := 2) ((f5 a (by omega)).trans z4) (Nat.le_of_ble_eq_true rfl) rfl rfl hB (Or.inr rfl)
  refine ⟨s6, ?_, ax_tr (c1 a (by omega)) (ax_tr c2 (ax_tr (c3 a (by omega)) (ax_tr c4 (ax_tr (c5 a (by omega)) c6)))), Nat.zero_le _, fun _ _ => 0, fun j hj => ?_, fun i hi => absurd hi (Nat.not_lt_zero _)⟩
  · rw [in_X7_init, dc_X7_init_0]
    rw [show (6 : Int32) = nI 6 from rfl, nwI_s (by omega), hn, w1, w2]
    simp only [eS_s]
    rw [nwI_s (by omega), n2.trans n1, w3, w4]
    simp only [eS_s]
    rw [nwI_s (by omega), n4.trans n3, w5, w6]
    rfl
  · match j with
    | 0 => exact z6
    | 1 => exact (f6 (a + 1) (by omega)).trans ((f5 (a + 1) (by omega)).trans ((f4 (a + 1) (by omega)).trans ((f3 (a + 1) (by omega)).trans ((f2 (a + 1) (by omega)).trans z1))))
    | 2 => exact (f6 (a + 2) (by omega)).trans ((f5 (a + 2) (by omega)).trans ((f4 (a + 2) (by omega)).trans z3))
    | 3 => exact (f6 (a + 3) (by omega)).trans z5
    | j + 4 => omega
theorem tr_init (hB : B ≤ a) (h : s.1 a = some (.inr (8, [.null, .null, .null, .null, .int 0, .null, .null]))) (hn : s.2.1 = a + 1) (T T1 T2 : rowT) : ∃ s', cl_ tb_ct tb_mt B K_X9_init [.ref a] s = some (.inl none, s') ∧ ax s s' a 12 68 ∧ TW s' a 0 T ∧ PW s' (a + 5) 0 T1 ∧ PW s' (a + 9) 0 T2 := by
  obtain ⟨s1, w1, z1, n1, f1, c1⟩ := nw_ex (s := s) (a + 1) hn (.inl (.int, 6, .inl fun _ => 0)) 6
  obtain ⟨s2, w2, z2, n2, f2, c2⟩ := put_ex (B := B) (M := mm_X9_init) (v := a + 1) (k := 0) ((f1 a (by omega)).trans h) (Nat.le_of_ble_eq_true rfl) rfl rfl hB (Or.inr rfl)
  obtain ⟨s3, w3, z3, n3, f3, c3⟩ := nw_ex (s := s2) (a + 2) (n2.trans n1) (.inl (.int, 6, .inl fun _ => 0)) 6
  obtain ⟨s4, w4, z4, n4, f4, c4⟩ := put_ex (B := B) (M := mm_X9_init) (v := a + 2) (k := 1) ((f3 a (by omega)).trans z2) (Nat.le_of_ble_eq_true rfl) rfl rfl hB (Or.inr rfl)
  obtain ⟨s5, w5, z5, n5, f5, c5⟩ := nw_ex (s := s4) (a + 3) (n4.trans n3) (.inl (.int, 6, .inl fun _ => 0)) 6
  obtain ⟨s6, w6, z6, n6, f6, c6⟩ := put_ex (B := B) (M := mm_X9_init) (v := a + 3) (k := 2) ((f5 a (by omega)).trans z4) (Nat.le_of_ble_eq_true rfl) rfl rfl hB (Or.inr rfl)
  obtain ⟨s7, w7, z7, n7, f7, c7⟩ := nw_ex (s := s6) (a + 4) (n6.trans n5) (.inl (.int, 6, .inl fun _ => 0)) 6
  obtain ⟨s8, w8, z8, n8, f8, c8⟩ := put_ex (B := B) (M := mm_X9_init) (v := a + 4) (k := 3) ((f7 a (by omega)).trans z6) (Nat.le_of_ble_eq_true rfl) rfl rfl hB (Or.inr rfl)
  obtain ⟨s9, w9, z9, n9, f9, c9⟩ := nw_ex (s := s8) (a + 5) (n8.trans n7) (.inr (6, [.null, .null, .null, .int 0])) 4
  obtain ⟨s10, e10, a10, k10⟩ := sp_init (B := B) (a := a + 5) (by omega) z9 n9 T1
  have n10 : s10.2.1 = a + 9 := by rw [a10.2.1, n9]
  obtain ⟨s11, w11, z11, n11, f11, c11⟩ := put_ex (B := B) (M := mm_X9_init) (v := a + 5) (k := 5) ((a10.1 a (by omega)).trans ((f9 a (by omega)).trans z8)) (Nat.le_of_ble_eq_true rfl) rfl rfl hB (Or.inr rfl)
  obtain ⟨s12, w12, z12, n12, f12, c12⟩ := nw_ex (s := s11) (a + 9) (n11.trans n10) (.inr (6, [.null, .null, .null, .int 0])) 4
  obtain ⟨s13, e13, a13, k13⟩ := sp_init (B := B) (a := a + 9) (by omega) z12 n12 T2
  obtain ⟨s14, w14, z14, n14, f14, c14⟩ := put_ex (B := B) (M := mm_X9_init) (v := a + 9) (k := 6) ((a13.1 a (by omega)).trans ((f12 a (by omega)).trans z11)) (Nat.le_of_ble_eq_true rfl) rfl rfl hB (Or.inr rfl)
  have g8 : ∀ q, a < q → q < a + 5 → s14.1 q = s8.1 q := fun q h1 h2 => (f14 q (by omega)).trans ((a13.1 q (by omega)).trans ((f12 q (by omega)).trans ((f11 q (by omega)).trans ((a10.1 q (by omega)).trans (f9 q (by omega))))))
  refine ⟨s14, ?_, ax_tr (c1 a (by omega)) (ax_tr c2 (ax_tr (c3 a (by omega)) (ax_tr c4 (ax_tr (c5 a (by omega)) (ax_tr c6 (ax_tr (c7 a (by omega)) (ax_tr c8 (ax_tr (c9 a (by omega)) (ax_tr (ax_dn a10 (by omega)) (ax_tr c11 (ax_tr (c12 a (by omega)) (ax_tr (ax_dn a13 (by omega)) c14)))))))))))), ⟨Nat.zero_le _, fun _ _ => 0, fun j hj => ?_, fun i hi => absurd hi (Nat.not_lt_zero _)⟩, k10.at fun q _ _ => ?_, k13.at fun q _ _ => f14 q (by omega)⟩
  · rw [in_X9_init, dc_X9_init_0]
    rw [show (6 : Int32) = nI 6 from rfl, nwI_s (by omega), hn, w1, w2]
    simp only [eS_s]
    rw [nwI_s (by omega), n2.trans n1, w3, w4]
    simp only [eS_s]
    rw [nwI_s (by omega), n4.trans n3, w5, w6]
    simp only [eS_s]
    rw [nwI_s (by omega), n6.trans n5, w7, w8]
    simp only [eS_s]
    rw [nwO_s df_6]
    change (fun b_13 s_14 => eC (am_cls s_14 b_13) 6 (cV (cl_ tb_ct tb_mt B K_X7_init [.ref b_13] s_14) _ xo)) s8.2.1 (am_new s8 _ 4) = _
    rw [n8.trans n7, w9]
    dsimp only
    rw [cls_o z9, e10]
    simp only [eC_s, cV_s, w11, eS_s]
    rw [nwO_s df_6]
    change (fun b_13 s_14 => eC (am_cls s_14 b_13) 6 (cV (cl_ tb_ct tb_mt B K_X7_init [.ref b_13] s_14) _ xo)) s11.2.1 (am_new s11 _ 4) = _
    rw [n11.trans n10, w12]
    dsimp only
    rw [cls_o z12, e13]
    simp only [eC_s, cV_s, w14, eS_s]
  · match j with
    | 0 => exact z14
    | 1 => exact (g8 (a + 1) (by omega) (by omega)).trans ((f8 (a + 1) (by omega)).trans ((f7 (a + 1) (by omega)).trans ((f6 (a + 1) (by omega)).trans ((f5 (a + 1) (by omega)).trans ((f4 (a + 1) (by omega)).trans ((f3 (a + 1) (by omega)).trans ((f2 (a + 1) (by omega)).trans z1)))))))
    | 2 => exact (g8 (a + 2) (by omega) (by omega)).trans ((f8 (a + 2) (by omega)).trans ((f7 (a + 2) (by omega)).trans ((f6 (a + 2) (by omega)).trans ((f5 (a + 2) (by omega)).trans ((f4 (a + 2) (by omega)).trans z3)))))
    | 3 => exact (g8 (a + 3) (by omega) (by omega)).trans ((f8 (a + 3) (by omega)).trans ((f7 (a + 3) (by omega)).trans ((f6 (a + 3) (by omega)).trans z5)))
    | 4 => exact (g8 (a + 4) (by omega) (by omega)).trans ((f8 (a + 4) (by omega)).trans z7)
    | j + 5 => omega
  · rw [f14 q (by omega), a13.1 q (by omega), f12 q (by omega), f11 q (by omega)]
theorem w_init (hB : B ≤ a) (h : s.1 a = some (.inr (9, [.int 0, .int 0, .int 0, .int 0, .int 0, .int 0, .null]))) (hn : s.2.1 = a + 1) : ∃ s', cl_ tb_ct tb_mt B K_X11_init [.ref a] s = some (.inl none, s') ∧ ax s s' a 1 7 ∧ W1 s' a (fun _ => 0) (fun _ => 0) := by
  let s1 := am_new s (.inr (0, [.int 0, .int 0, .int 0, .int 0, .int 0, .int 0, .int 0])) 7
  have h1 : s1.1 a = some (.inr (9, [.int 0, .int 0, .int 0, .int 0, .int 0, .int 0, .null])) := (new_ne (by omega)).trans h
  have p1 := pR_o (B := B) (M := mm_X11_init) (v := s.2.1) (k := 6) h1 (Nat.le_of_ble_eq_true rfl) rfl rfl hB (Or.inr rfl)
  let s2 := am_set s1 a (.inr (9, [.int 0, .int 0, .int 0, .int 0, .int 0, .int 0, .ref s.2.1]))
  refine ⟨s2, ?_, ax_tr (ax_new (by omega)) (ax_set (Nat.le_refl a)), fun j hj => ?_⟩
  · rw [in_X11_init, dc_X11_init_0, nwO_s df_0]
    change eC (am_cls s1 s.2.1) 0 (cV (cl_ tb_ct tb_mt B K_X1_init [.ref s.2.1] s1) _ xo) = _
    rw [in_X1_init, dc_X1_init_0, cls_o (show s1.1 s.2.1 = _ from new_at)]
    simp only [eC_s, cV_s]
    rw [p1]
    rfl
  · match j with
    | 0 =>
      change s2.1 a = some (.inr (9, [.int 0, .int 0, .int 0, .int 0, .int 0, .int 0, .ref (a + 1)]))
      rw [set_at, hn]
    | 1 =>
      change s2.1 (a + 1) = _
      rw [set_ne (by omega), ← hn, new_at]
      rfl
    | j + 2 => omega
/-- the loops over watches and leases: arrays p, filled up to i -/
def arI (nm : String) (ad : Nat → Nat) (i : Nat) : am_E := .inl (.object nm, 8, .inr (.inr (.inr (.inr fun k => if k < i then some (ad k) else none))))
theorem arI_s {nm : String} {ad : Nat → Nat} {v : Nat} (hv : ad i = v) : (.inl (.object nm, 8, .inr (.inr (.inr (.inr (va_up (fun k => if k < i then some (ad k) else none) i (some v)))))) : am_E) = arI nm ad (i + 1) := by
  unfold arI
  refine congrArg (fun f => (Sum.inl (FieldType.object nm, 8, Sum.inr (Sum.inr (Sum.inr (Sum.inr f)))) : am_E)) (funext fun k => ?_)
  unfold va_up
  dsimp only
  by_cases hk : k = i
  · rw [if_pos hk, if_pos (by omega), hk, hv]
  · rw [if_neg hk]
    by_cases hk2 : k < i
    · rw [if_pos hk2, if_pos (by omega)]
    · rw [if_neg hk2, if_neg (by omega)]
theorem st_init89 (hB : B ≤ b) : ∀ k i s, i + k = 8 → s.2.1 = b + 210 + i → gA tb_ct s b 7 3 = some (some (b + 180)) → s.1 (b + 180) = some (arI "WatchedKeys$Lease" (fun j => b + 210 + j) i) → (∀ j, j < i → LC s (b + 210 + j) (fun _ => 0)) → ∃ s', rn_ tb_ct tb_mt B mm_X8_init 89 [.ref b, .int (nI i)] [] s = some (.inl none, s') ∧ ax s s' b k (3 * k) ∧ (∀ q, q < b + 210 + i → q ≠ b + 180 → s'.1 q = s.1 q) ∧ s'.1 (b + 180) = some (arI "WatchedKeys$Lease" (fun j => b + 210 + j) 8) ∧ ∀ j, j < 8 → LC s' (b + 210 + j) (fun _ => 0) := by
  intro k
  induction k with
  | zero =>
    intro i s hi hn _ h180 hl
    have : i = 8 := by omega
    subst this
    refine ⟨s, ?_, ax_rf, fun _ _ _ => rfl, h180, hl⟩
    rw [dc_X8_init_89, if_pos (show (8 : Int32) ≤ nI 8 by decide)]
  | succ k ih =>
    intro i s hi hn hg h180 hl
    let s1 := am_new s (.inr (4, [.int 0, .int 0, .int 0])) 3
    have c1 : am_cls s1 s.2.1 = some 4 := cls_o new_at
    have h1 : s1.1 (b + 180) = some (arI "WatchedKeys$Lease" (fun j => b + 210 + j) i) := (new_ne (by omega)).trans h180
    have hw := wA_o (B := B) h1 c1 rfl (i := i) (by omega) (by omega) (by omega)
    rw [arI_s (i := i) (ad := fun j => b + 210 + j) hn.symm] at hw
    have hg' : gA tb_ct (am_set s1 (b + 180) (arI "WatchedKeys$Lease" (fun j => b + 210 + j) (i + 1))) b 7 3 = some (some (b + 180)) := by
      unfold gA am_gf am_getF at hg ⊢
      rw [set_ne (by omega), new_ne (by omega)]
      exact hg
    obtain ⟨s', e1, a1, f1, g1, g2⟩ := ih (i + 1) (am_set s1 (b + 180) (arI "WatchedKeys$Lease" (fun j => b + 210 + j) (i + 1))) (by omega) (by change s.2.1 + 1 = _; omega) hg' set_at (fun j hj => by
      by_cases hj2 : j = i
      · rw [hj2, LC, set_ne (by omega), ← hn, new_at]
        rfl
      · rw [LC, set_ne (by omega), new_ne (by omega)]
        exact hl j (by omega))
    refine ⟨s', ?_, ?_, fun q h1 h2 => ?_, g1, g2⟩
    · rw [dc_X8_init_89, if_neg (show ¬ (8 : Int32) ≤ nI i from nI_ge (b := 8) (by omega) (by omega))]
      simp only [hg, eA_s, nwO_s df_4]
      change eC (am_cls s1 s.2.1) 4 (cV (cl_ tb_ct tb_mt B K_X5_init [.ref s.2.1] s1) (fun s_7 => eS (wA tb_ct B s_7 (b + 180) (nI i) s.2.1) (fun s_8 => rn_ tb_ct tb_mt B mm_X8_init 89 [.ref b, .int (nI i + 1)] [] s_8)) xo) = _
      rw [c1, in_X5_init, dc_X5_init_0]
      simp only [eC_s, cV_s]
      rw [hw]
      simp only [eS_s, nI_1]
      exact e1
    · have b1 : ax s s1 b 1 3 := ax_new (by omega)
      have b2 := ax_tr (ax_tr b1 (ax_set (b := b + 180) (by omega))) a1
      rw [show k + 1 = 1 + 0 + k by omega, show 3 * (1 + 0 + k) = 3 + 0 + 3 * k by omega]
      exact b2
    · rw [f1 q (by omega) h2, set_ne h2, new_ne (by omega)]
theorem st_init62 (hB : B ≤ b) : ∀ k i s, i + k = 8 → s.2.1 = b + 194 + 2 * i → gA tb_ct s b 7 2 = some (some (b + 179)) → s.1 (b + 179) = some (arI "WatchedKeys$Watch" (fun j => b + 194 + 2 * j) i) → (∀ j, j < i → W1 s (b + 194 + 2 * j) (fun _ => 0) (fun _ => 0)) → ∃ s', rn_ tb_ct tb_mt B mm_X8_init 62 [.ref b, .int (nI i)] [] s = rn_ tb_ct tb_mt B mm_X8_init 89 [.ref b, .int 0] [] s' ∧ ax s s' b (2 * k) (14 * k) ∧ (∀ q, q < b + 194 + 2 * i → q ≠ b + 179 → s'.1 q = s.1 q) ∧ s'.1 (b + 179) = some (arI "WatchedKeys$Watch" (fun j => b + 194 + 2 * j) 8) ∧ ∀ j, j < 8 → W1 s' (b + 194 + 2 * j) (fun _ => 0) (fun _ => 0) := by
  intro k
  induction k with
  | zero =>
    intro i s hi hn _ h180 hl
    have : i = 8 := by omega
    subst this
    refine ⟨s, ?_, ax_rf, fun _ _ _ => rfl, h180, hl⟩
    rw [dc_X8_init_62, if_pos (show (8 : Int32) ≤ nI 8 by decide)]
  | succ k ih =>
    intro i s hi hn hg h180 hl
    let s0 := am_new s (.inr (9, [.int 0, .int 0, .int 0, .int 0, .int 0, .int 0, .null])) 7
    have z0 : s0.1 (b + 194 + 2 * i) = some (.inr (9, [.int 0, .int 0, .int 0, .int 0, .int 0, .int 0, .null])) := by rw [← hn]; exact new_at
    obtain ⟨s1, ei, ai, ki⟩ := w_init (B := B) (a := b + 194 + 2 * i) (by omega) z0 (by change s.2.1 + 1 = _; omega)
    have c1 : am_cls s1 (b + 194 + 2 * i) = some 9 := w_cls ki
    have h1 : s1.1 (b + 179) = some (arI "WatchedKeys$Watch" (fun j => b + 194 + 2 * j) i) := (ai.1 _ (by omega)).trans ((new_ne (by omega)).trans h180)
    have hw := wA_o (B := B) h1 c1 rfl (i := i) (by omega) (by omega) (by omega)
    rw [arI_s (i := i) (ad := fun j => b + 194 + 2 * j) rfl] at hw
    have hg' : gA tb_ct (am_set s1 (b + 179) (arI "WatchedKeys$Watch" (fun j => b + 194 + 2 * j) (i + 1))) b 7 2 = some (some (b + 179)) := by
      unfold gA am_gf am_getF at hg ⊢
      rw [set_ne (by omega), ai.1 _ (by omega), new_ne (by omega)]
      exact hg
    have hn1 : s1.2.1 = b + 194 + 2 * (i + 1) := by
      rw [ai.2.1]
      change s.2.1 + 1 + 1 = _
      omega
    obtain ⟨s', e1, a1, f1, g1, g2⟩ := ih (i + 1) (am_set s1 (b + 179) (arI "WatchedKeys$Watch" (fun j => b + 194 + 2 * j) (i + 1))) (by omega) hn1 hg' set_at (fun j hj => by
      by_cases hj2 : j = i
      · rw [hj2]
        exact ki.at fun q _ _ => set_ne (by omega)
      · exact (hl j (by omega)).at fun q _ _ => (set_ne (by omega)).trans ((ai.1 q (by omega)).trans (new_ne (by omega))))
    refine ⟨s', ?_, ?_, fun q h1 h2 => ?_, g1, g2⟩
    · rw [dc_X8_init_62, if_neg (show ¬ (8 : Int32) ≤ nI i from nI_ge (b := 8) (by omega) (by omega))]
      simp only [hg, eA_s, nwO_s df_9]
      change eC (am_cls s0 s.2.1) 9 (cV (cl_ tb_ct tb_mt B K_X11_init [.ref s.2.1] s0) (fun s_7 => eS (wA tb_ct B s_7 (b + 179) (nI i) s.2.1) (fun s_8 => rn_ tb_ct tb_mt B mm_X8_init 62 [.ref b, .int (nI i + 1)] [] s_8)) xo) = _
      rw [hn, cls_o z0, ei]
      simp only [eC_s, cV_s]
      rw [hw]
      simp only [eS_s, nI_1]
      exact e1
    · have b1 : ax s s0 b 1 7 := ax_new (by omega)
      have b2 := ax_tr (ax_tr (ax_tr b1 (ax_dn ai (by omega))) (ax_set (b := b + 179) (by omega))) a1
      rw [show 2 * (k + 1) = 1 + 1 + 0 + 2 * k by omega, show 14 * (k + 1) = 7 + 7 + 0 + 14 * k by omega]
      exact b2
    · rw [f1 q (by omega) h2, set_ne h2, ai.1 q (by omega), new_ne (by omega)]
theorem st_init (hB : B ≤ b) (h : s.1 b = some (.inr (7, [.null, .null, .null, .null, .null, .int 0, .int 0, .int 0, .int 0, .int 0, .int 0]))) (hn : s.2.1 = b + 1) : ∃ s', cl_ tb_ct tb_mt B K_X8_init [.ref b] s = some (.inl none, s') ∧ ax s s' b 217 1601 ∧ SS s' b p_new := by
  obtain ⟨s1, w1, z1, n1, f1, c1⟩ := nw_ex (s := s) (b + 1) hn (.inr (3, [.null, .int 0])) 2
  obtain ⟨s2, e2, a2, k2⟩ := kr_init (B := B) (a := b + 1) (by omega) z1 n1 (p_new.2 0)
  have n2 : s2.2.1 = b + 25 := by rw [a2.2.1, n1]
  obtain ⟨s3, w3, z3, n3, f3, c3⟩ := put_ex (B := B) (M := mm_X8_init) (v := b + 1) (k := 0) ((a2.1 b (by omega)).trans ((f1 b (by omega)).trans h)) (Nat.le_of_ble_eq_true rfl) rfl rfl hB (Or.inr rfl)
  obtain ⟨s4, w4, z4, n4, f4, c4⟩ := nw_ex (s := s3) (b + 25) (n3.trans n2) (.inr (1, [.null, .int 0])) 2
  obtain ⟨s5, e5, a5, k5⟩ := er_init (B := B) (a := b + 25) (by omega) z4 n4 (p_new.2 2)
  have n5 : s5.2.1 = b + 179 := by rw [a5.2.1, n4]
  obtain ⟨s6, w6, z6, n6, f6, c6⟩ := put_ex (B := B) (M := mm_X8_init) (v := b + 25) (k := 1) ((a5.1 b (by omega)).trans ((f4 b (by omega)).trans z3)) (Nat.le_of_ble_eq_true rfl) rfl rfl hB (Or.inr rfl)
  obtain ⟨s7, w7, z7, n7, f7, c7⟩ := nw_ex (s := s6) (b + 179) (n6.trans n5) (.inl (.object "WatchedKeys$Watch", 8, .inr (.inr (.inr (.inr fun _ => none))))) 8
  obtain ⟨s8, w8, z8, n8, f8, c8⟩ := put_ex (B := B) (M := mm_X8_init) (v := b + 179) (k := 2) ((f7 b (by omega)).trans z6) (Nat.le_of_ble_eq_true rfl) rfl rfl hB (Or.inr rfl)
  obtain ⟨s9, w9, z9, n9, f9, c9⟩ := nw_ex (s := s8) (b + 180) (n8.trans n7) (.inl (.object "WatchedKeys$Lease", 8, .inr (.inr (.inr (.inr fun _ => none))))) 8
  obtain ⟨s10, w10, z10, n10, f10, c10⟩ := put_ex (B := B) (M := mm_X8_init) (v := b + 180) (k := 3) ((f9 b (by omega)).trans z8) (Nat.le_of_ble_eq_true rfl) rfl rfl hB (Or.inr rfl)
  obtain ⟨s11, w11, z11, n11, f11, c11⟩ := nw_ex (s := s10) (b + 181) (n10.trans n9) (.inr (8, [.null, .null, .null, .null, .int 0, .null, .null])) 7
  obtain ⟨s12, e12, a12, k12, k12a, k12b⟩ := tr_init (B := B) (a := b + 181) (by omega) z11 n11 (p_new.2 5) (p_new.2 6) (p_new.2 7)
  have n12 : s12.2.1 = b + 194 := by rw [a12.2.1, n11]
  obtain ⟨s13, w13, z13, n13, f13, c13⟩ := put_ex (B := B) (M := mm_X8_init) (v := b + 181) (k := 4) ((a12.1 b (by omega)).trans ((f11 b (by omega)).trans z10)) (Nat.le_of_ble_eq_true rfl) rfl rfl hB (Or.inr rfl)
  obtain ⟨s14, w14, z14, n14, f14, c14⟩ : ∃ t, am_put tb_ct mm_X8_init B s13 (.int 1) b 7 5 = some t ∧ t.1 b = some (.inr (7, [.ref (b + 1), .ref (b + 25), .ref (b + 179), .ref (b + 180), .ref (b + 181), .int 1, .int 0, .int 0, .int 0, .int 0, .int 0])) ∧ t.2.1 = s13.2.1 ∧ (∀ q, q ≠ b → t.1 q = s13.1 q) ∧ ax s13 t b 0 0 := ⟨_, pF_o z13 (Nat.le_of_ble_eq_true rfl) rfl rfl hB (Or.inr rfl), set_at, rfl, fun q hq => set_ne hq, ax_set (Nat.le_refl b)⟩
  have h14 : SO s14 b (sv 1 p_new.1) := z14
  have n14' : s14.2.1 = b + 194 + 2 * 0 := by rw [n14, n13, n12]
  have fr : ∀ q, b < q → q < b + 181 → s14.1 q = s10.1 q := fun q h1 h2 => (f14 q (by omega)).trans ((f13 q (by omega)).trans ((a12.1 q (by omega)).trans (f11 q (by omega))))
  have y179 : s14.1 (b + 179) = some (arI "WatchedKeys$Watch" (fun j => b + 194 + 2 * j) 0) := by
    rw [fr _ (by omega) (by omega), f10 _ (by omega), f9 _ (by omega), f8 _ (by omega), z7]
    rfl
  have y180 : s14.1 (b + 180) = some (arI "WatchedKeys$Lease" (fun j => b + 210 + j) 0) := by
    rw [fr _ (by omega) (by omega), f10 _ (by omega), z9]
    rfl
  obtain ⟨s15, e15, a15, f15, g15, w15⟩ := st_init62 (B := B) hB 8 0 s14 (by omega) n14' (gA_o h14 rfl rfl rfl) y179 (fun j hj => absurd hj (Nat.not_lt_zero _))
  have n15 : s15.2.1 = b + 210 + 0 := by rw [a15.2.1, n14']
  have h15 : SO s15 b (sv 1 p_new.1) := (f15 b (by omega) (by omega)).trans h14
  obtain ⟨s16, e16, a16, f16, g16, l16⟩ := st_init89 (B := B) hB 8 0 s15 (by omega) n15 (gA_o h15 rfl rfl rfl) ((f15 _ (by omega) (by omega)).trans y180) (fun j hj => absurd hj (Nat.not_lt_zero _))
  have ff : ∀ q, q < b + 194 → q ≠ b + 179 → q ≠ b + 180 → s16.1 q = s14.1 q := fun q h1 h2 h3 => (f16 q (by omega) h3).trans (f15 q (by omega) h2)
  have ok8 : okA 8 fun i => i := ⟨fun i hi => hi, fun i _ j _ e => e⟩
  refine ⟨s16, ?_, ax_tr (c1 b (by omega)) (ax_tr (ax_dn a2 (by omega)) (ax_tr c3 (ax_tr (c4 b (by omega)) (ax_tr (ax_dn a5 (by omega)) (ax_tr c6 (ax_tr (c7 b (by omega)) (ax_tr c8 (ax_tr (c9 b (by omega)) (ax_tr c10 (ax_tr (c11 b (by omega)) (ax_tr (ax_dn a12 (by omega)) (ax_tr c13 (ax_tr c14 (ax_tr a15 a16)))))))))))))), (ff b (by omega) (by omega) (by omega)).trans h14, k2.at fun q _ _ => ?_, k5.at fun q _ _ => ?_, ⟨Nat.zero_le _, fun i => i, fun _ _ => 0, fun _ _ => 0, ?_, ok8, fun j hj => (w15 j hj).at fun q _ _ => f16 q (by omega) (by omega), fun i hi => absurd hi (Nat.not_lt_zero _)⟩, ⟨Nat.zero_le _, fun i => i, fun _ _ => 0, g16, ok8, l16, fun i hi => absurd hi (Nat.not_lt_zero _)⟩, ?_, ?_, ?_⟩
  · rw [in_X8_init, dc_X8_init_0, nwO_s df_3]
    change (fun b_1 s_2 => eC (am_cls s_2 b_1) 3 (cV (cl_ tb_ct tb_mt B K_X4_init [.ref b_1] s_2) _ xo)) s.2.1 (am_new s _ 2) = _
    rw [hn, w1]
    dsimp only
    rw [cls_o z1, e2]
    simp only [eC_s, cV_s, w3, eS_s]
    rw [nwO_s df_1]
    change (fun b_1 s_2 => eC (am_cls s_2 b_1) 1 (cV (cl_ tb_ct tb_mt B K_X2_init [.ref b_1] s_2) _ xo)) s3.2.1 (am_new s3 _ 2) = _
    rw [n3.trans n2, w4]
    dsimp only
    rw [cls_o z4, e5]
    simp only [eC_s, cV_s, w6, eS_s]
    rw [show (8 : Int32) = nI 8 from rfl, nwA_s (by omega), n6.trans n5, w7, w8]
    simp only [eS_s]
    rw [nwA_s (by omega), n8.trans n7, w9, w10]
    simp only [eS_s]
    rw [nwO_s df_8]
    change (fun b_1 s_2 => eC (am_cls s_2 b_1) 8 (cV (cl_ tb_ct tb_mt B K_X9_init [.ref b_1] s_2) _ xo)) s10.2.1 (am_new s10 _ 7) = _
    rw [n10.trans n9, w11]
    dsimp only
    rw [cls_o z11, e12]
    simp only [eC_s, cV_s, w13, eS_s, w14]
    rw [nI_0] at e15 e16
    exact e15.trans e16
  · rw [ff q (by omega) (by omega) (by omega), fr q (by omega) (by omega), f10 q (by omega), f9 q (by omega), f8 q (by omega), f7 q (by omega), f6 q (by omega), a5.1 q (by omega), f4 q (by omega), f3 q (by omega)]
  · rw [ff q (by omega) (by omega) (by omega), fr q (by omega) (by omega), f10 q (by omega), f9 q (by omega), f8 q (by omega), f7 q (by omega), f6 q (by omega)]
  · exact (f16 _ (by omega) (by omega)).trans g15
  · exact k12.at fun q _ _ => (ff q (by omega) (by omega) (by omega)).trans ((f14 q (by omega)).trans (f13 q (by omega)))
  · exact k12a.at fun q _ _ => (ff q (by omega) (by omega) (by omega)).trans ((f14 q (by omega)).trans (f13 q (by omega)))
  · exact k12b.at fun q _ _ => (ff q (by omega) (by omega) (by omega)).trans ((f14 q (by omega)).trans (f13 q (by omega)))
end Sn
