/-! ===== the model's constructor ===== -/
def v0M : Nat → Int32 := fun i => if i = 16 then -1 else 0
def F0M : mrT := m1 (fun _ _ => 0) (fun q => if q = 0 then 1 else if q < 1329 then 0 else 0)
section Mi
variable {s : am_S} {B m : Nat}
theorem nwp_I {s sa s2 : am_S} {M : am_M} {g : am_S → am_R} {k a fld : Nat} {x : Int32} (hx : x = nI k) (hk : k ≤ 65536) (hn : s.2.1 = a) (wa : am_new s (.inl (.int, k, .inl fun _ => 0)) k = sa) (w : am_put tb_ct M B sa (.ref a) m 11 fld = some s2) : nwI .int s x (fun b s_2 => eS (am_put tb_ct M B s_2 (.ref b) m 11 fld) g) = g s2 := by
  rw [hx, nwI_s hk, hn, wa, w]
  rfl
theorem nwp_B {s sa s2 : am_S} {M : am_M} {g : am_S → am_R} {k a fld : Nat} {x : Int32} (hx : x = nI k) (hk : k ≤ 65536) (hn : s.2.1 = a) (wa : am_new s (.inl (.byte, k, .inl fun _ => 0)) k = sa) (w : am_put tb_ct M B sa (.ref a) m 11 fld = some s2) : nwI .byte s x (fun b s_2 => eS (am_put tb_ct M B s_2 (.ref b) m 11 fld) g) = g s2 := by
  rw [hx, nwB_s hk, hn, wa, w]
  rfl
theorem nwp_Z {s sa s2 : am_S} {M : am_M} {g : am_S → am_R} {k a fld : Nat} {x : Int32} (hx : x = nI k) (hk : k ≤ 65536) (hn : s.2.1 = a) (wa : am_new s (.inl (.boolean, k, .inl fun _ => 0)) k = sa) (w : am_put tb_ct M B sa (.ref a) m 11 fld = some s2) : nwI .boolean s x (fun b s_2 => eS (am_put tb_ct M B s_2 (.ref b) m 11 fld) g) = g s2 := by
  rw [hx, nwZ_s hk, hn, wa, w]
  rfl
theorem eSw {e : Option am_S} {s2 : am_S} {g : am_S → am_R} (w : e = some s2) : eS e g = g s2 := by rw [w]; rfl
theorem df_11 : am_dfl tb_ct 11 = [.null, .null, .null, .null, .int 0, .null, .null, .int 0, .null, .int 0, .int 0, .int 0, .int 0, .int 0, .int 0, .int 0, .int 0, .null, .null, .null, .null, .int 0] := rfl
theorem m_init (hB : B ≤ m) (h : s.1 m = some (.inr (11, [.null, .null, .null, .null, .int 0, .null, .null, .int 0, .null, .int 0, .int 0, .int 0, .int 0, .int 0, .int 0, .int 0, .int 0, .null, .null, .null, .null, .int 0]))) (hn : s.2.1 = m + 1) : ∃ s', cl_ tb_ct tb_mt B K_X13_init [.ref m] s = some (.inl none, s') ∧ ax s s' m 11 6014 ∧ MO s' m v0M F0M := by
  have neM : ∀ i, 0 < i → m ≠ m + i := fun i h => by omega
  have neR : ∀ i, 0 < i → m + i ≠ m := fun i h => by omega
  have neI : ∀ i j, i ≠ j → m + i ≠ m + j := fun i j h => by omega
  obtain ⟨s1a, w1a, z1a, n1a, f1a, c1a⟩ := nw_ex (s := s) (m + 1) hn (.inl (.int, 1329, .inl fun _ => 0)) 1329
  obtain ⟨s1, w1, z1, n1, f1, c1⟩ := put_ex (B := B) (M := mm_X13_init) (v := m + 1) (k := 0) ((f1a m (neM 1 (by decide))).trans h) (Nat.le_of_ble_eq_true rfl) rfl rfl hB (Or.inr rfl)
  obtain ⟨s2a, w2a, z2a, n2a, f2a, c2a⟩ := nw_ex (s := s1) (m + 2) (n1.trans n1a) (.inl (.int, 1329, .inl fun _ => 0)) 1329
  obtain ⟨s2, w2, z2, n2, f2, c2⟩ := put_ex (B := B) (M := mm_X13_init) (v := m + 2) (k := 1) ((f2a m (neM 2 (by decide))).trans z1) (Nat.le_of_ble_eq_true rfl) rfl rfl hB (Or.inr rfl)
  obtain ⟨s3a, w3a, z3a, n3a, f3a, c3a⟩ := nw_ex (s := s2) (m + 3) (n2.trans n2a) (.inl (.int, 2658, .inl fun _ => 0)) 2658
  obtain ⟨s3, w3, z3, n3, f3, c3⟩ := put_ex (B := B) (M := mm_X13_init) (v := m + 3) (k := 2) ((f3a m (neM 3 (by decide))).trans z2) (Nat.le_of_ble_eq_true rfl) rfl rfl hB (Or.inr rfl)
  obtain ⟨s4a, w4a, z4a, n4a, f4a, c4a⟩ := nw_ex (s := s3) (m + 4) (n3.trans n3a) (.inl (.boolean, 2, .inl fun _ => 0)) 2
  obtain ⟨s4, w4, z4, n4, f4, c4⟩ := put_ex (B := B) (M := mm_X13_init) (v := m + 4) (k := 3) ((f4a m (neM 4 (by decide))).trans z3) (Nat.le_of_ble_eq_true rfl) rfl rfl hB (Or.inr rfl)
  obtain ⟨s5a, w5a, z5a, n5a, f5a, c5a⟩ := nw_ex (s := s4) (m + 5) (n4.trans n4a) (.inl (.int, 28, .inl fun _ => 0)) 28
  obtain ⟨s5, w5, z5, n5, f5, c5⟩ := put_ex (B := B) (M := mm_X13_init) (v := m + 5) (k := 5) ((f5a m (neM 5 (by decide))).trans z4) (Nat.le_of_ble_eq_true rfl) rfl rfl hB (Or.inr rfl)
  obtain ⟨s6a, w6a, z6a, n6a, f6a, c6a⟩ := nw_ex (s := s5) (m + 6) (n5.trans n5a) (.inl (.int, 28, .inl fun _ => 0)) 28
  obtain ⟨s6, w6, z6, n6, f6, c6⟩ := put_ex (B := B) (M := mm_X13_init) (v := m + 6) (k := 6) ((f6a m (neM 6 (by decide))).trans z5) (Nat.le_of_ble_eq_true rfl) rfl rfl hB (Or.inr rfl)
  obtain ⟨s7a, w7a, z7a, n7a, f7a, c7a⟩ := nw_ex (s := s6) (m + 7) (n6.trans n6a) (.inl (.byte, 500, .inl fun _ => 0)) 500
  obtain ⟨s7, w7, z7, n7, f7, c7⟩ := put_ex (B := B) (M := mm_X13_init) (v := m + 7) (k := 8) ((f7a m (neM 7 (by decide))).trans z6) (Nat.le_of_ble_eq_true rfl) rfl rfl hB (Or.inr rfl)
  obtain ⟨s7i, w7i⟩ : ∃ s7i, s7i = am_set s7 m (.inr (11, [.ref (m + 1), .ref (m + 2), .ref (m + 3), .ref (m + 4), .int 0, .ref (m + 5), .ref (m + 6), .int 0, .ref (m + 7), .int 0, .int 0, .int 0, .int 0, .int 0, .int 0, .int 0, .int (-1), .null, .null, .null, .null, .int 0])) := ⟨_, rfl⟩
  have e7i : am_put tb_ct mm_X13_init B s7 (.int (-(1 : Int32))) m 11 16 = some s7i := by
    rw [w7i]
    exact pF_o z7 (Nat.le_of_ble_eq_true rfl) rfl rfl hB (Or.inr rfl)
  have z7i : s7i.1 m = some (.inr (11, [.ref (m + 1), .ref (m + 2), .ref (m + 3), .ref (m + 4), .int 0, .ref (m + 5), .ref (m + 6), .int 0, .ref (m + 7), .int 0, .int 0, .int 0, .int 0, .int 0, .int 0, .int 0, .int (-1), .null, .null, .null, .null, .int 0])) := by
    rw [w7i]
    exact set_at
  have n7i : s7i.2.1 = s7.2.1 := by
    rw [w7i]
    rfl
  have f7i : ∀ q, q ≠ m → s7i.1 q = s7.1 q := fun q hq => by
    rw [w7i]
    exact set_ne hq
  have c7i : ax s7 s7i m 0 0 := by
    rw [w7i]
    exact ax_set (Nat.le_refl _)
  obtain ⟨s8a, w8a, z8a, n8a, f8a, c8a⟩ := nw_ex (s := s7i) (m + 8) (n7i.trans (n7.trans n7a)) (.inl (.int, 28, .inl fun _ => 0)) 28
  obtain ⟨s8, w8, z8, n8, f8, c8⟩ := put_ex (B := B) (M := mm_X13_init) (v := m + 8) (k := 17) ((f8a m (neM 8 (by decide))).trans z7i) (Nat.le_of_ble_eq_true rfl) rfl rfl hB (Or.inr rfl)
  obtain ⟨s9a, w9a, z9a, n9a, f9a, c9a⟩ := nw_ex (s := s8) (m + 9) (n8.trans n8a) (.inl (.int, 28, .inl fun _ => 0)) 28
  obtain ⟨s9, w9, z9, n9, f9, c9⟩ := put_ex (B := B) (M := mm_X13_init) (v := m + 9) (k := 18) ((f9a m (neM 9 (by decide))).trans z8) (Nat.le_of_ble_eq_true rfl) rfl rfl hB (Or.inr rfl)
  obtain ⟨s10a, w10a, z10a, n10a, f10a, c10a⟩ := nw_ex (s := s9) (m + 10) (n9.trans n9a) (.inl (.int, 24, .inl fun _ => 0)) 24
  obtain ⟨s10, w10, z10, n10, f10, c10⟩ := put_ex (B := B) (M := mm_X13_init) (v := m + 10) (k := 19) ((f10a m (neM 10 (by decide))).trans z9) (Nat.le_of_ble_eq_true rfl) rfl rfl hB (Or.inr rfl)
  obtain ⟨s11a, w11a, z11a, n11a, f11a, c11a⟩ := nw_ex (s := s10) (m + 11) (n10.trans n10a) (.inl (.byte, 60, .inl fun _ => 0)) 60
  obtain ⟨s11, w11, z11, n11, f11, c11⟩ := put_ex (B := B) (M := mm_X13_init) (v := m + 11) (k := 20) ((f11a m (neM 11 (by decide))).trans z10) (Nat.le_of_ble_eq_true rfl) rfl rfl hB (Or.inr rfl)
  have A : ax s s11 m 11 6014 := (ax_tr (ax_tr (ax_tr (ax_tr (ax_tr (ax_tr (ax_tr (ax_tr (ax_tr (ax_tr (ax_tr (ax_tr (c1a m (Nat.le_add_right m 1)) c1) (ax_tr (c2a m (Nat.le_add_right m 2)) c2)) (ax_tr (c3a m (Nat.le_add_right m 3)) c3)) (ax_tr (c4a m (Nat.le_add_right m 4)) c4)) (ax_tr (c5a m (Nat.le_add_right m 5)) c5)) (ax_tr (c6a m (Nat.le_add_right m 6)) c6)) (ax_tr (c7a m (Nat.le_add_right m 7)) c7)) c7i) (ax_tr (c8a m (Nat.le_add_right m 8)) c8)) (ax_tr (c9a m (Nat.le_add_right m 9)) c9)) (ax_tr (c10a m (Nat.le_add_right m 10)) c10)) (ax_tr (c11a m (Nat.le_add_right m 11)) c11))
  have y1 : s11.1 (m + 1) = some (.inl (.int, 1329, .inl fun _ => 0)) := ((f11 (m + 1) (neR 1 (by decide))).trans ((f11a (m + 1) (neI 1 11 (by decide))).trans ((f10 (m + 1) (neR 1 (by decide))).trans ((f10a (m + 1) (neI 1 10 (by decide))).trans ((f9 (m + 1) (neR 1 (by decide))).trans ((f9a (m + 1) (neI 1 9 (by decide))).trans ((f8 (m + 1) (neR 1 (by decide))).trans ((f8a (m + 1) (neI 1 8 (by decide))).trans ((f7i (m + 1) (neR 1 (by decide))).trans ((f7 (m + 1) (neR 1 (by decide))).trans ((f7a (m + 1) (neI 1 7 (by decide))).trans ((f6 (m + 1) (neR 1 (by decide))).trans ((f6a (m + 1) (neI 1 6 (by decide))).trans ((f5 (m + 1) (neR 1 (by decide))).trans ((f5a (m + 1) (neI 1 5 (by decide))).trans ((f4 (m + 1) (neR 1 (by decide))).trans ((f4a (m + 1) (neI 1 4 (by decide))).trans ((f3 (m + 1) (neR 1 (by decide))).trans ((f3a (m + 1) (neI 1 3 (by decide))).trans ((f2 (m + 1) (neR 1 (by decide))).trans ((f2a (m + 1) (neI 1 2 (by decide))).trans ((f1 (m + 1) (neR 1 (by decide))).trans z1a))))))))))))))))))))))
  have y2 : s11.1 (m + 2) = some (.inl (.int, 1329, .inl fun _ => 0)) := ((f11 (m + 2) (neR 2 (by decide))).trans ((f11a (m + 2) (neI 2 11 (by decide))).trans ((f10 (m + 2) (neR 2 (by decide))).trans ((f10a (m + 2) (neI 2 10 (by decide))).trans ((f9 (m + 2) (neR 2 (by decide))).trans ((f9a (m + 2) (neI 2 9 (by decide))).trans ((f8 (m + 2) (neR 2 (by decide))).trans ((f8a (m + 2) (neI 2 8 (by decide))).trans ((f7i (m + 2) (neR 2 (by decide))).trans ((f7 (m + 2) (neR 2 (by decide))).trans ((f7a (m + 2) (neI 2 7 (by decide))).trans ((f6 (m + 2) (neR 2 (by decide))).trans ((f6a (m + 2) (neI 2 6 (by decide))).trans ((f5 (m + 2) (neR 2 (by decide))).trans ((f5a (m + 2) (neI 2 5 (by decide))).trans ((f4 (m + 2) (neR 2 (by decide))).trans ((f4a (m + 2) (neI 2 4 (by decide))).trans ((f3 (m + 2) (neR 2 (by decide))).trans ((f3a (m + 2) (neI 2 3 (by decide))).trans ((f2 (m + 2) (neR 2 (by decide))).trans z2a))))))))))))))))))))
  have y3 : s11.1 (m + 3) = some (.inl (.int, 2658, .inl fun _ => 0)) := ((f11 (m + 3) (neR 3 (by decide))).trans ((f11a (m + 3) (neI 3 11 (by decide))).trans ((f10 (m + 3) (neR 3 (by decide))).trans ((f10a (m + 3) (neI 3 10 (by decide))).trans ((f9 (m + 3) (neR 3 (by decide))).trans ((f9a (m + 3) (neI 3 9 (by decide))).trans ((f8 (m + 3) (neR 3 (by decide))).trans ((f8a (m + 3) (neI 3 8 (by decide))).trans ((f7i (m + 3) (neR 3 (by decide))).trans ((f7 (m + 3) (neR 3 (by decide))).trans ((f7a (m + 3) (neI 3 7 (by decide))).trans ((f6 (m + 3) (neR 3 (by decide))).trans ((f6a (m + 3) (neI 3 6 (by decide))).trans ((f5 (m + 3) (neR 3 (by decide))).trans ((f5a (m + 3) (neI 3 5 (by decide))).trans ((f4 (m + 3) (neR 3 (by decide))).trans ((f4a (m + 3) (neI 3 4 (by decide))).trans ((f3 (m + 3) (neR 3 (by decide))).trans z3a))))))))))))))))))
  have y4 : s11.1 (m + 4) = some (.inl (.boolean, 2, .inl fun _ => 0)) := ((f11 (m + 4) (neR 4 (by decide))).trans ((f11a (m + 4) (neI 4 11 (by decide))).trans ((f10 (m + 4) (neR 4 (by decide))).trans ((f10a (m + 4) (neI 4 10 (by decide))).trans ((f9 (m + 4) (neR 4 (by decide))).trans ((f9a (m + 4) (neI 4 9 (by decide))).trans ((f8 (m + 4) (neR 4 (by decide))).trans ((f8a (m + 4) (neI 4 8 (by decide))).trans ((f7i (m + 4) (neR 4 (by decide))).trans ((f7 (m + 4) (neR 4 (by decide))).trans ((f7a (m + 4) (neI 4 7 (by decide))).trans ((f6 (m + 4) (neR 4 (by decide))).trans ((f6a (m + 4) (neI 4 6 (by decide))).trans ((f5 (m + 4) (neR 4 (by decide))).trans ((f5a (m + 4) (neI 4 5 (by decide))).trans ((f4 (m + 4) (neR 4 (by decide))).trans z4a))))))))))))))))
  have y5 : s11.1 (m + 5) = some (.inl (.int, 28, .inl fun _ => 0)) := ((f11 (m + 5) (neR 5 (by decide))).trans ((f11a (m + 5) (neI 5 11 (by decide))).trans ((f10 (m + 5) (neR 5 (by decide))).trans ((f10a (m + 5) (neI 5 10 (by decide))).trans ((f9 (m + 5) (neR 5 (by decide))).trans ((f9a (m + 5) (neI 5 9 (by decide))).trans ((f8 (m + 5) (neR 5 (by decide))).trans ((f8a (m + 5) (neI 5 8 (by decide))).trans ((f7i (m + 5) (neR 5 (by decide))).trans ((f7 (m + 5) (neR 5 (by decide))).trans ((f7a (m + 5) (neI 5 7 (by decide))).trans ((f6 (m + 5) (neR 5 (by decide))).trans ((f6a (m + 5) (neI 5 6 (by decide))).trans ((f5 (m + 5) (neR 5 (by decide))).trans z5a))))))))))))))
  have y6 : s11.1 (m + 6) = some (.inl (.int, 28, .inl fun _ => 0)) := ((f11 (m + 6) (neR 6 (by decide))).trans ((f11a (m + 6) (neI 6 11 (by decide))).trans ((f10 (m + 6) (neR 6 (by decide))).trans ((f10a (m + 6) (neI 6 10 (by decide))).trans ((f9 (m + 6) (neR 6 (by decide))).trans ((f9a (m + 6) (neI 6 9 (by decide))).trans ((f8 (m + 6) (neR 6 (by decide))).trans ((f8a (m + 6) (neI 6 8 (by decide))).trans ((f7i (m + 6) (neR 6 (by decide))).trans ((f7 (m + 6) (neR 6 (by decide))).trans ((f7a (m + 6) (neI 6 7 (by decide))).trans ((f6 (m + 6) (neR 6 (by decide))).trans z6a))))))))))))
  have y7 : s11.1 (m + 7) = some (.inl (.byte, 500, .inl fun _ => 0)) := ((f11 (m + 7) (neR 7 (by decide))).trans ((f11a (m + 7) (neI 7 11 (by decide))).trans ((f10 (m + 7) (neR 7 (by decide))).trans ((f10a (m + 7) (neI 7 10 (by decide))).trans ((f9 (m + 7) (neR 7 (by decide))).trans ((f9a (m + 7) (neI 7 9 (by decide))).trans ((f8 (m + 7) (neR 7 (by decide))).trans ((f8a (m + 7) (neI 7 8 (by decide))).trans ((f7i (m + 7) (neR 7 (by decide))).trans ((f7 (m + 7) (neR 7 (by decide))).trans z7a))))))))))
  have y8 : s11.1 (m + 8) = some (.inl (.int, 28, .inl fun _ => 0)) := ((f11 (m + 8) (neR 8 (by decide))).trans ((f11a (m + 8) (neI 8 11 (by decide))).trans ((f10 (m + 8) (neR 8 (by decide))).trans ((f10a (m + 8) (neI 8 10 (by decide))).trans ((f9 (m + 8) (neR 8 (by decide))).trans ((f9a (m + 8) (neI 8 9 (by decide))).trans ((f8 (m + 8) (neR 8 (by decide))).trans z8a)))))))
  have y9 : s11.1 (m + 9) = some (.inl (.int, 28, .inl fun _ => 0)) := ((f11 (m + 9) (neR 9 (by decide))).trans ((f11a (m + 9) (neI 9 11 (by decide))).trans ((f10 (m + 9) (neR 9 (by decide))).trans ((f10a (m + 9) (neI 9 10 (by decide))).trans ((f9 (m + 9) (neR 9 (by decide))).trans z9a)))))
  have y10 : s11.1 (m + 10) = some (.inl (.int, 24, .inl fun _ => 0)) := ((f11 (m + 10) (neR 10 (by decide))).trans ((f11a (m + 10) (neI 10 11 (by decide))).trans ((f10 (m + 10) (neR 10 (by decide))).trans z10a)))
  have y11 : s11.1 (m + 11) = some (.inl (.byte, 60, .inl fun _ => 0)) := ((f11 (m + 11) (neR 11 (by decide))).trans z11a)
  have hM : MO s11 m v0M (fun _ _ => 0) := fun i hi => by
    match i, hi with
    | 0, _ => exact z11
    | 1, _ => exact y1
    | 2, _ => exact y2
    | 3, _ => exact y3
    | 4, _ => exact y4
    | 5, _ => exact y5
    | 6, _ => exact y6
    | 7, _ => exact y7
    | 8, _ => exact y8
    | 9, _ => exact y9
    | 10, _ => exact y10
    | 11, _ => exact y11
  have eb := mk_begins (B := B) hM hB
  refine ⟨_, ?_, ax_tr A (ax_so so_ov (Nat.le_refl _)), OV.of⟩
  · refine (in_X13_init m s).trans ((dc_X13_init_0 m s).trans ?_)
    refine (nwp_I (k := 1329) rfl (by decide) hn w1a w1).trans ?_
    refine (nwp_I (k := 1329) rfl (by decide) (n1.trans n1a) w2a w2).trans ?_
    refine (nwp_I (k := 2658) rfl (by decide) (n2.trans n2a) w3a w3).trans ?_
    refine (nwp_Z (k := 2) rfl (by decide) (n3.trans n3a) w4a w4).trans ?_
    refine (nwp_I (k := 28) rfl (by decide) (n4.trans n4a) w5a w5).trans ?_
    refine (nwp_I (k := 28) rfl (by decide) (n5.trans n5a) w6a w6).trans ?_
    refine (nwp_B (k := 500) rfl (by decide) (n6.trans n6a) w7a w7).trans ?_
    refine (eSw e7i).trans ?_
    refine (nwp_I (k := 28) rfl (by decide) (n7i.trans (n7.trans n7a)) w8a w8).trans ?_
    refine (nwp_I (k := 28) rfl (by decide) (n8.trans n8a) w9a w9).trans ?_
    refine (nwp_I (k := 24) rfl (by decide) (n9.trans n9a) w10a w10).trans ?_
    refine (nwp_B (k := 60) rfl (by decide) (n10.trans n10a) w11a w11).trans ?_
    have fin : eC (am_cls s11 m) 11 (cV (cl_ tb_ct tb_mt B K_X13_begins [.ref m] s11) (fun s_35 => some (.inl none, s_35)) xo) = some (.inl none, moS s11 m v0M F0M) := by
      rw [mo_cls hM, eC_s, eb, cV_s]
      rfl
    exact fin
end Mi
