/-! ===== the law: from its start ===== -/
section Lj
variable {B a0 N x : Nat} {g : Nat → Int32} {V Q : Nat → Nat} {s : am_S} {f : Nat → am_S → am_R}
theorem nwL_s : nwI .long s (1 : Int32) f = f s.2.1 (am_new s (.inl (.long, 1, .inr (.inl fun _ => 0))) 1) := by
  unfold nwI
  rw [if_neg (fun h => absurd h.2.2 (by decide)), if_pos ⟨by decide, by decide, rfl⟩]
  rfl
theorem gC_le (C : Nat) : gC C ≤ 2 := by
  unfold gC
  split
  · omega
  · split <;> omega
theorem gS_le (C : Nat) : gS C ≤ 104 := by
  unfold gS
  split
  · omega
  · split <;> omega
theorem law_go (re : RE B a0 N g V Q s) (hB : B ≤ x) (hx : s.2.1 = x) : ∃ s', cl_ tb_ct tb_mt B K_L_law [.ref a0] s = jR B 23 a0 x (nI 0) s' ∧ JL B a0 N g V Q s' x 4600 (x + 505) (s.2.2.1 + 11115) := by
  obtain ⟨s1, w1, z1, n1, f1, c1⟩ := nw_ex (s := s) x hx (.inr (10, [.null, .null, .null, .null, .null, .null, .null, .null])) 8
  have re1 : RE B a0 N g V Q s1 := re.at (fun q hq => f1 q (by omega)) (c1 x (Nat.le_refl _)).2.2.2
  obtain ⟨s2, e2, a2, o2, S2, S2', q2, X2, B2, P2⟩ := c_init hB z1 n1 re1.1
  have n2 : s2.2.1 = x + 492 := by rw [a2.2.1, n1]
  obtain ⟨s3, w3, z3, n3, f3, c3⟩ := nw_ex (s := s2) (x + 492) n2 (.inr (11, [.null, .null, .null, .null, .int 0, .null, .null, .int 0, .null, .int 0, .int 0, .int 0, .int 0, .int 0, .int 0, .int 0, .int 0, .null, .null, .null, .null, .int 0])) 22
  obtain ⟨s4, e4, a4, M4⟩ := m_init (B := B) (m := x + 492) (by omega) z3 n3
  have n4 : s4.2.1 = x + 504 := by rw [a4.2.1, n3]
  obtain ⟨s5, w5, z5, n5, f5, c5⟩ := nw_ex (s := s4) (x + 504) n4 (.inl (.long, 1, .inr (.inl fun _ => 0))) 1
  have p1 := c1 x (Nat.le_refl _)
  have p3 := c3 (x + 492) (Nat.le_refl _)
  have p5 := c5 (x + 504) (Nat.le_refl _)
  have of : ∀ q, q < x + 492 → s5.1 q = s2.1 q := fun q hq => (f5 q (by omega)).trans ((a4.1 q hq).trans (f3 q (by omega)))
  have ob : ∀ q, q < B → s5.1 q = s1.1 q := fun q hq => (of q (by omega)).trans (a2.1 q (by omega))
  have st : s5.2.2.2 = s1.2.2.2 := p5.2.2.2.trans (a4.2.2.2.trans (p3.2.2.2.trans a2.2.2.2))
  have sl : s5.2.2.1 = s.2.2.1 + 11115 := by
    have q1 := p1.2.2.1
    have q2' := a2.2.2.1
    have q3 := p3.2.2.1
    have q4 := a4.2.2.1
    have q5 := p5.2.2.1
    omega
  have hI := IA.new
  refine ⟨s5, ?_, x + 1, x + 219, x + 442, 16, 0, fun _ => none, [], fun _ => 0, fun _ => 0, fun _ => 0, v0M, F0M, fun _ => 0, p_new, p_new, re1.at ob st, ⟨(of x (by omega)).trans o2, SR.at S2 (fun q q1 q2 => of q (by omega)), hI.mono (by omega), fun i hi => absurd hi (Nat.not_lt_zero _), P2.at (fun q q1 q2 => of q (by omega)), hB, Or.inl rfl, by omega⟩, Or.inl ⟨rfl, rfl⟩, ⟨SR.at S2' (fun q q1 q2 => of q (by omega)), ⟨(of _ (by omega)).trans q2, fun i _ a τ hD => by cases hD⟩, OV.at X2 (fun q q1 q2 => of q (by omega)), rfl, Nat.zero_le _, B2.mv (of _ (by omega)) (of _ (by omega)) (by omega), Or.inl rfl, fun i a ρ _ hD => by cases hD⟩, ⟨OV.at M4 (fun q q1 q2 => f5 q (by omega)), FR.new (g := fun _ => 0), SZ.of hI (Nat.zero_le _), by omega⟩, ⟨⟨Nat.zero_le _, fun i hi => absurd hi (Nat.not_lt_zero _), fun i hi => absurd hi (Nat.not_lt_zero _)⟩, rfl, rfl, rfl, rfl, fun i hi => absurd hi (Nat.not_lt_zero _), Nat.zero_le _, fun i _ => rfl⟩, z5, by omega, by omega, by omega⟩
  have w1' : am_new s (.inr (10, [.null, .null, .null, .null, .null, .null, .null, .null])) ([.null, .null, .null, .null, .null, .null, .null, .null] : List Value).length = s1 := w1
  have w3' : am_new s2 (.inr (11, [.null, .null, .null, .null, .int 0, .null, .null, .int 0, .null, .int 0, .int 0, .int 0, .int 0, .int 0, .int 0, .int 0, .int 0, .null, .null, .null, .null, .int 0])) ([.null, .null, .null, .null, .int 0, .null, .null, .int 0, .null, .int 0, .int 0, .int 0, .int 0, .int 0, .int 0, .int 0, .int 0, .null, .null, .null, .null, .int 0] : List Value).length = s3 := w3
  rw [in_L_law, dc_L_law_0, nwO_s df_10, w1', hx, cls_o z1, eC_s, e2, cV_s, nwO_s df_11, w3', n2, cls_o z3, eC_s, e4, cV_s, nwL_s, n4, w5]
  rfl
/-- the law answers one -/
theorem law_one (re : RE B a0 N g V Q s) (hB : B ≤ x) (hx : s.2.1 = x) (hN : N ≤ 5000000) : ∃ s' K, 5 * K ≤ N ∧ cl_ tb_ct tb_mt B K_L_law [.ref a0] s = some (.inl (some (.int (1 : Int32))), s') ∧ s'.2.1 ≤ x + 507 + 218 * K ∧ s'.2.2.1 ≤ s.2.2.1 + 11219 + 1612 * K ∧ RE B a0 N g V Q s' := by
  obtain ⟨s1, e1, J1⟩ := law_go re hB hx
  obtain ⟨s', K, hK, e2, J2⟩ := law_lp (by omega) (N / 5) 0 s1 4600 (x + 505) (s.2.2.1 + 11115) (by omega) (Nat.zero_le _) J1 (Nat.le_refl _) (by omega)
  have re2 := J2.re
  obtain ⟨nb, sb, vb, C, n, D, l, F, T, W, v, G, f, σ, τ, w⟩ := J2
  have h1 := gC_le C
  have h2 := gS_le C
  have h3 := w.2.2.2.2.2.2.2.2.1
  have h4 := w.2.2.2.2.2.2.2.2.2
  exact ⟨s', K, by omega, e1.trans e2, by omega, by omega, re2⟩
end Lj
