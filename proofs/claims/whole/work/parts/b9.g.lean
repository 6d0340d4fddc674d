/-! ===== the law: bytes appended, a script loaded ===== -/
section Lg
variable {B a0 N x u k1 k2 j n : Nat} {g : Nat → Int32} {V Q : Nat → Nat} {s : am_S} {T : Nat → Int32} {J : Int64}
theorem ld1_5 : ∀ f k p (σ : stT), σ.1 5 ≤ 8 → (q_ld1 T n f k p σ).2.2.2.1 5 ≤ 8
  | 0, _, _, _, h => h
  | f + 1, k, p, σ, h => by
    unfold q_ld1
    split
    · exact h
    · split
      · exact pf5 h
      · split
        · exact pf5 h
        · split
          · exact pf5 h
          · exact ld1_5 f _ _ _ (pf5 h)
theorem q_ap_b : ∀ k T n, (∀ i, i < n → ∃ b : Nat, b < 256 ∧ T i = nI b) → ∀ i, i < n + q_ct J k → ∃ b : Nat, b < 256 ∧ (q_ap J k T n).1 i = nI b
  | 0, T, n, h, i, hi => h i hi
  | k + 1, T, n, h, i, hi => by
    rw [q_ct_s] at hi
    rw [q_ap_s]
    by_cases c : lbN J k = 0
    · rw [if_pos c] at hi ⊢
      exact q_ap_b k T n h i (by omega)
    · rw [if_neg c] at hi ⊢
      refine q_ap_b k _ (n + 1) (fun i2 h2 => ?_) i (by omega)
      by_cases e : i2 = n
      · rw [e]
        exact ⟨lbN J k, lbN_lt, if_pos rfl⟩
      · rw [upd_n e]
        exact h i2 (by omega)
theorem br_272 (hJ : JL B a0 N g V Q s x u k1 k2) (hj : j + 4 < N) (hN : N < 2 ^ 31) (hu : u + 18 < 2 ^ 24) : JN B a0 N g V Q x u k1 k2 j (jR B 272 a0 x (nI j) s) := by
  obtain ⟨nb, sb, vb, C, n, D, l, F, T, W, v, G, f, σ, τ, w⟩ := hJ
  have wc := w.2.1
  have n0 := wc.n
  have pk := w.pk
  have rd1 := w.1.rd (z := (1 : Int32)) (i := 1) (j := j) (by omega) hN rfl
  have rd2 := w.1.rd (z := (2 : Int32)) (i := 2) (j := j) (by omega) hN rfl
  obtain ⟨J, hJ⟩ : ∃ J : Int64, (((g (j + 1)).toInt64 <<< ((32 : Int32).toInt64 &&& 63)) ||| ((g (j + 2)).toInt64 &&& (4294967295 : Int64))) = J := ⟨_, rfl⟩
  have hw := w
  obtain ⟨w1, w2, w3, ⟨h1, h2, h3, h4, h5, h6, h7, h8⟩, w5, w6, w7, w8, w9, w10⟩ := w
  obtain ⟨s1, e1, o1, r1⟩ := c_append (j := J) w2.o n0.2.2.2 h3 h4 h5
  obtain ⟨⟨c1, c2, c3⟩, v2, v3, v4, v5, v6, v7, v8⟩ := w6
  have z1 := o1.2
  have re1 : RE B a0 N g V Q s1 := w1.at (fun q hq => o1.1 q (by omega)) (congrArg (fun p => p.2.2) z1)
  have m1 : MM B s1 (x + 492) v G σ := ⟨OV.at w5.1 (fun q p1 p2 => o1.1 q (by omega)), w5.2⟩
  have qd1 := re1.rd (z := (1 : Int32)) (i := 1) (j := j) (by omega) hN rfl
  have qd2 := re1.rd (z := (2 : Int32)) (i := 2) (j := j) (by omega) hN rfl
  obtain ⟨a1, a2⟩ := m_append (J := J) m1.1 m1.2.2.2 v2 h5 c2
  unfold jR
  rw [dc_L_law_272, rd1, eI_s, rd2, eI_s, cls_o w2.o, eC_s, hJ, e1, cI_s, qd1, eI_s, qd2, eI_s, hJ, mo_cls m1.1, eC_s]
  by_cases hc : n + q_ct J 8 ≤ 500
  · rw [if_pos hc] at r1
    obtain ⟨s9, v', G', e9, o9, M9, y9, y7, yG, y4, yv⟩ := a1 hc
    rw [e9, cI_s, if_pos hc, if_pos rfl]
    have z9 := o9.2
    have k1 : s9.2.1 = s.2.1 := (congrArg (fun p => p.1) z9).trans (congrArg (fun p => p.1) z1)
    have k2 : s9.2.2.1 = s.2.2.1 := (congrArg (fun p => p.2.1) z9).trans (congrArg (fun p => p.2.1) z1)
    have of : ∀ q, (q < x + 438 ∨ x + 441 ≤ q) → (q < x + 492 ∨ x + 504 ≤ q) → s9.1 q = s.1 q := fun q p1 p2 => (o9.1 q (by omega)).trans (o1.1 q p1)
    refine ⟨s9, dc_L_law_3221 a0 x (x + 492) (x + 504) (nI j) s9, ?_⟩
    refine ⟨nb, sb, vb, C, n + q_ct J 8, D, l, upd F 2 (nI (n + q_ct J 8)), (q_ap J 8 T n).1, W, v', G', f, σ, τ, re1.at (fun q hq => o9.1 q (by omega)) (congrArg (fun p => p.2.2) z9), ⟨(of x (by omega) (by omega)).trans w2.o, SR.at w2.ss (fun q p1 p2 => of q (by omega) (by omega)), pk.1.mono (by omega), pk.2.1, w2.p.at (fun q p1 p2 => of q (by omega) (by omega)), n0.2.2.2, w2.2.2.2.2.2.2.1, by omega⟩, w3, ⟨SR.at h1 (fun q p1 p2 => of q (by omega) (by omega)), h2.at (of _ (by omega) (by omega)) (fun q p1 p2 => of q (by omega) (by omega)) (by omega), OV.at r1 (fun q p1 p2 => o9.1 q (by omega)), if_pos rfl, hc, h6.mv (of _ (by omega) (by omega)) (of _ (by omega) (by omega)) (by omega), h7, h8⟩, ⟨M9, ?_, w5.2.2⟩, ⟨⟨hc, y7, q_ap_b 8 T n c3⟩, y9, (yv 15 (by omega) (by omega)).trans v3, (yv 16 (by omega) (by omega)).trans v4, (yv 21 (by omega) (by omega)).trans v5, ?_, v7, fun i hi => (v8 i hi).up (yG 3 (by omega)) (yG 4 (by omega)) (by omega)⟩, (of _ (by omega) (by omega)).trans w7, by omega, by omega, by omega⟩
    · rw [yG 1 (by omega)]
      exact w5.2.1
    · rw [yG 11 (by omega)]
      exact v6
  · rw [if_neg hc] at r1
    subst r1
    rw [a2 hc, cI_s, if_neg hc, if_pos rfl]
    exact ⟨_, dc_L_law_3221 a0 x (x + 492) (x + 504) (nI j) _, hw.go (cw_fr fr_rf) w2.ss w2.p w7 (mq_4 w5) pk.id hu⟩
theorem br_329 (hJ : JL B a0 N g V Q s x u k1 k2) (hu0 : 4600 ≤ u) (hu : u + 18 < 2 ^ 24) : JN B a0 N g V Q x u k1 k2 j (jR B 329 a0 x (nI j) s) := by
  obtain ⟨nb, sb, vb, C, n, D, l, F, T, W, v, G, f, σ, τ, w⟩ := hJ
  have wc := w.2.1
  have n0 := wc.n
  have pk := w.pk
  obtain ⟨w1, w2, w3, ⟨h1, h2, h3, h4, h5, h6, h7, h8⟩, w5, w6, w7, w8, w9, w10⟩ := w
  obtain ⟨⟨c1, c2, c3⟩, v2, v3, v4, v5, v6, v7, v8⟩ := w6
  obtain ⟨s1, F1, W1, e1, o1, z1, x1, x2, S1, S2, i1, i2, X1, f2, f7, f8, f5, P1⟩ := c_load w2 h1 w3 w1.1 w1.2.1 h3 h4 h5
  have hb5 : (q_ld1 T n (n + 1) 0 0 p_new).2.2.2.1 5 ≤ 8 := ld1_5 _ _ _ _ (Nat.zero_le 8)
  have oq : ∀ q, q ≠ x → (q < sb ∨ sb + 218 ≤ q) → (q < x + 438 ∨ x + 441 ≤ q) → (q < x + 443 ∨ x + 467 ≤ q) → s1.1 q = s.1 q := o1
  have re1 : RE B a0 N g V Q s1 := w1.at (fun q hq => oq q (by omega) (by omega) (by omega) (by omega)) (congrArg (fun p => p.2.2) z1)
  have m1 : MM B s1 (x + 492) v G σ := ⟨OV.at w5.1 (fun q p1 p2 => oq q (by omega) (by omega) (by omega) (by omega)), w5.2⟩
  obtain ⟨s9, v', G', e9, o9, M9, y1, yG, y4, y9, y15, y16, y21⟩ := m_load m1 re1.1 re1.2.2.1 ⟨c1, c2, c3⟩ v2
  unfold jR
  rw [dc_L_law_329, cls_o w2.o, eC_s, e1, cI_s, mo_cls m1.1, eC_s, e9, cI_s, if_pos rfl]
  refine ⟨s9, dc_L_law_3221 a0 x (x + 492) (x + 504) (nI j) s9, ?_⟩
  have z9 := o9.2
  have k1 : s9.2.1 = s.2.1 := (congrArg (fun p => p.1) z9).trans (congrArg (fun p => p.1) z1)
  have k2 : s9.2.2.1 = s.2.2.1 := (congrArg (fun p => p.2.1) z9).trans (congrArg (fun p => p.2.1) z1)
  have of : ∀ q, q ≠ x → (q < sb ∨ sb + 218 ≤ q) → (q < x + 438 ∨ x + 441 ≤ q) → (q < x + 443 ∨ x + 467 ≤ q) → (q < x + 492 ∨ x + 504 ≤ q) → s9.1 q = s.1 q := fun q p1 p2 p3 p4 p5 => (o9.1 q (by omega)).trans (oq q p1 p2 p3 p4)
  have re9 : RE B a0 N g V Q s9 := re1.at (fun q hq => o9.1 q (by omega)) (congrArg (fun p => p.2.2) z9)
  have P9 : PST s9 x := P1.at (fun q p1 p2 => o9.1 q (by omega))
  have S1' := SR.at S1 (s' := s9) (fun q p1 p2 => o9.1 q (by omega))
  have S2' := SR.at S2 (s' := s9) (fun q p1 p2 => o9.1 q (by omega))
  have q9 : q_slot x (x + 505) D s9 := h2.at (of _ (by omega) (by omega) (by omega) (by omega) (by omega)) (fun q p1 p2 => of q (by omega) (by omega) (by omega) (by omega) (by omega)) (by omega)
  have X9 : XSc s9 (x + 438) F1 T W1 := OV.at X1 (fun q p1 p2 => o9.1 q (by omega))
  have B9 : SBs B s9 (x + 441) vb C l := h6.mv (of _ (by omega) (by omega) (by omega) (by omega) (by omega)) (of _ (by omega) (by omega) (by omega) (by omega) (by omega)) (by omega)
  have T9 := (of (x + 504) (by omega) (by omega) (by omega) (by omega) (by omega)).trans w7
  have V9 : RV v' G' D (u + 9) 0 l F1 T := by
    refine ⟨⟨Nat.zero_le _, fun i hi => absurd hi (Nat.not_lt_zero _), fun i hi => absurd hi (Nat.not_lt_zero _)⟩, y9, y15.trans f7.symm, ?_, y21.trans v5, ?_, v7, fun i hi => (v8 i hi).up (yG 3 (by omega)) (yG 4 (by omega)) (by omega)⟩
    · rw [y16, f7, f5]
      by_cases e : (q_ld1 T n (n + 1) 0 0 p_new).1 = 0
      · rw [if_pos e, if_pos (show nI (q_ld1 T n (n + 1) 0 0 p_new).1 = 0 by rw [e]; rfl)]
      · rw [if_neg e, if_neg (nI_ne0 (by omega) (by omega))]
    · rw [yG 11 (by omega)]
      exact v6
  by_cases e : (q_ld1 T n (n + 1) 0 0 p_new).1 = 0
  · rw [if_pos e] at y1
    refine ⟨sb, nb, vb, C, 0, D, l, F1, T, W1, v', G', f, _, σ, re9, ⟨(o9.1 x (by omega)).trans (x1 e), S1', i1.mono (by omega), i2, P9, n0.2.2.2, by omega, by omega⟩, by omega, ⟨S2', q9, X9, f2, Nat.zero_le _, B9, h7, h8⟩, ⟨M9, y1, SZ.of i1 hb5, by omega⟩, V9, T9, by omega, by omega, by omega⟩
  · rw [if_neg e] at y1
    refine ⟨nb, sb, vb, C, 0, D, l, F1, T, W1, v', G', f, σ, _, re9, ⟨(o9.1 x (by omega)).trans (x2 e), S2', pk.1.mono (by omega), pk.2.1, P9, n0.2.2.2, by omega, by omega⟩, w3, ⟨S1', q9, X9, f2, Nat.zero_le _, B9, h7, h8⟩, ⟨M9, y1, w5.2.2⟩, V9, T9, by omega, by omega, by omega⟩
end Lg
