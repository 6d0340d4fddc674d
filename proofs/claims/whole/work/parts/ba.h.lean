/-! ===== the law: a key's text ===== -/
section Lh
variable {B a0 N x u k1 k2 j : Nat} {g : Nat → Int32} {V Q : Nat → Nat} {s : am_S}
theorem br_3028 (hJ : JL B a0 N g V Q s x u k1 k2) (hj : j + 4 < N) (hN : N < 2 ^ 31) (hu : u + 18 < 2 ^ 24) : JN B a0 N g V Q x u k1 k2 j (jR B 3028 a0 x (nI j) s) := by
  obtain ⟨nb, sb, vb, C, n, D, l, F, T, W, v, G, f, σ, τ, w⟩ := hJ
  have wc := w.2.1
  have n0 := wc.n
  have pk := w.pk
  have hw := w
  have rd := w.1.rd (z := (1 : Int32)) (i := 1) (j := j) (by omega) hN rfl
  obtain ⟨w1, w2, w3, ⟨h1, h2, h3, h4, h5, h6, h7, h8⟩, w5, w6, w7, w8, w9, w10⟩ := w
  obtain ⟨qv, sv1, sv2⟩ := w1.2.2.2.1
  obtain ⟨ql, sl1, sl2⟩ := w1.2.2.2.2.1
  obtain ⟨cw1, cw2⟩ := c_writeKey (key := g (j + 1)) w2 w1.1 sv1 sv2 sl1 sl2 h6 (by omega)
  unfold jR
  rw [dc_L_law_3028, rd, eI_s, in_L_writeKey, dc_L_writeKey_0, cls_o wc.o, eC_s]
  cases hk : bKey (g (j + 1)) with
  | false =>
    have md := hw.mid (s1 := am_bump s) ⟨fun _ _ _ _ _ => rfl, Nat.le_add_right _ _, Nat.le_refl _, Nat.le_add_right _ _, Nat.le_refl _, rfl⟩
    rw [cw1 hk, cI_x, x_writeKey_0, cI_s, md.1.rd (z := (1 : Int32)) (i := 1) (j := j) (by omega) hN rfl, eI_s]
    exact br_no hw (M := fun s => cl_ tb_ct tb_mt B K_X13_writeKey [.ref (x + 492), .int (g (j + 1))] s) (fun s h => m_writeKey_no h hk) (fun y s => dc_L_law_3081 a0 x (x + 492) (x + 504) (nI j) _ (.int y) s) hu
  | true =>
    obtain ⟨s1, vb', C', e1, B1, gr1, gr2, gr3, gr4, gr5, gr6⟩ := cw2 hk
    have hvl := h6.vlt
    have T1 : s1.1 (x + 504) = some (.inl (.long, 1, .inr (.inl f))) := (gr1 _ (by omega) (by omega) (by omega)).trans w7
    have o3 : ∀ q, q ≠ x + 504 → (am_set s1 (x + 504) (.inl (.long, 1, .inr (.inl (vp_updL f 0 (nI (q_txt σ (g (j + 1))).length).toInt64))))).1 q = s1.1 q := fun q hq => set_ne hq
    have T3 : (am_set s1 (x + 504) (.inl (.long, 1, .inr (.inl (vp_updL f 0 (nI (q_txt σ (g (j + 1))).length).toInt64))))).1 (x + 504) = some (.inl (.long, 1, .inr (.inl (vp_updL f 0 (nI (q_txt σ (g (j + 1))).length).toInt64)))) := set_at
    have z3 : (am_set s1 (x + 504) (.inl (.long, 1, .inr (.inl (vp_updL f 0 (nI (q_txt σ (g (j + 1))).length).toInt64))))).2 = s1.2 := rfl
    rw [e1, cI_s, wj_t T1 (by omega), eS_s, cI_s]
    generalize am_set s1 (x + 504) (.inl (.long, 1, .inr (.inl (vp_updL f 0 (nI (q_txt σ (g (j + 1))).length).toInt64)))) = s3 at o3 T3 z3 ⊢
    have oc : ∀ q, q < s.2.1 → q ≠ x + 441 → q ≠ vb → q ≠ x + 504 → s3.1 q = s.1 q := fun q p1 p2 p3 p4 => (o3 q p4).trans (gr1 q p2 p3 p1)
    have g1 : s3.2.1 = s1.2.1 := congrArg (fun p => p.1) z3
    have g2 : s3.2.2.1 = s1.2.2.1 := congrArg (fun p => p.2.1) z3
    have g3 : s3.2.2.2 = s1.2.2.2 := congrArg (fun p => p.2.2) z3
    have re3 : RE B a0 N g V Q s3 := w1.at (fun q hq => oc q (by omega) (by omega) (by omega) (by omega)) (g3.trans gr2)
    have m3 : MM B s3 (x + 492) v G σ := ⟨OV.at w5.1 (fun q p1 p2 => oc q (by omega) (by omega) (by omega) (by omega)), w5.2⟩
    rw [re3.rd (z := (1 : Int32)) (i := 1) (j := j) (by omega) hN rfl, eI_s]
    obtain ⟨hm, hlen⟩ := m_writeKey m3 wc.a.ik wc.tt hk
    have M9' := oT_M (v' := upd v 4 0) (l := q_txt σ (g (j + 1))) m3
    have o9 : ∀ q, (q < x + 492 ∨ x + 504 ≤ q) → (oT s3 (x + 492) (upd v 4 0) G (q_txt σ (g (j + 1)))).1 q = s3.1 q := fun q hq => ov_o (by omega)
    have z9 : (oT s3 (x + 492) (upd v 4 0) G (q_txt σ (g (j + 1)))).2 = s3.2 := rfl
    generalize oT s3 (x + 492) (upd v 4 0) G (q_txt σ (g (j + 1))) = s9 at hm o9 M9' z9
    have T9 := (o9 (x + 504) (by omega)).trans T3
    refine ⟨s9, lm_ev (K := jR B 23 a0 x (nI j + 5)) (mo_cls m3.1) hm M9'.1 ((upd_n (by omega)).trans (if_pos rfl)) T9 (if_pos rfl) (fun y s => (dc_L_law_3081 a0 x (x + 492) (x + 504) (nI j) _ (.int y) s).trans (dc_L_law_3221 a0 x (x + 492) (x + 504) (nI j) s)), ?_⟩
    have k1 : s9.2.1 = s1.2.1 := (congrArg (fun p => p.1) z9).trans g1
    have k2 : s9.2.2.1 = s1.2.2.1 := (congrArg (fun p => p.2.1) z9).trans g2
    have k3 : s9.2.2.2 = s3.2.2.2 := congrArg (fun p => p.2.2) z9
    have of : ∀ q, q < s.2.1 → q ≠ x + 441 → q ≠ vb → (q < x + 492 ∨ x + 505 ≤ q) → s9.1 q = s.1 q := fun q p1 p2 p3 p4 => (o9 q (by omega)).trans (oc q p1 p2 p3 (by omega))
    have q9 : q_slot x (x + 505) D s9 := by
      refine ⟨(of _ (by omega) (by omega) (by omega) (by omega)).trans h2.1, fun i hi a ρ hD => ?_⟩
      obtain ⟨d1, d2, d3, d4⟩ := h2.2 i hi a ρ hD
      have dv := h8 i a ρ hi hD
      exact ⟨d1, by omega, SR.at d3 (fun q p1 p2 => of q (by omega) (by omega) (by omega) (by omega)), d4⟩
    obtain ⟨⟨c1, c2, c3⟩, v2, v3, v4, v5, v6, v7, v8⟩ := w6
    refine ⟨nb, sb, vb', C', n, D, q_txt σ (g (j + 1)), F, T, W, _, _, _, σ, τ, re3.at (fun q hq => o9 q (by omega)) k3, ⟨(of x (by omega) (by omega) (by omega) (by omega)).trans w2.o, SR.at w2.ss (fun q p1 p2 => of q (by omega) (by omega) (by omega) (by omega)), pk.1.mono (by omega), pk.2.1, w2.p.at (fun q p1 p2 => of q (by omega) (by omega) (by omega) (by omega)), n0.2.2.2, w2.2.2.2.2.2.2.1, by omega⟩, w3, ⟨SR.at h1 (fun q p1 p2 => of q (by omega) (by omega) (by omega) (by omega)), q9, OV.at h3 (fun q p1 p2 => of q (by omega) (by omega) (by omega) (by omega)), h4, h5, ?_, by omega, fun i a ρ hi hD => ?_⟩, M9', ⟨⟨c1, c2, c3⟩, v2, v3, v4, if_pos rfl, fun i hi => ?_, hlen, fun i hi => (v8 i hi).up (if_neg (by omega)) (if_neg (by omega)) (by omega)⟩, T9, by omega, by omega, by omega⟩
    · exact B1.mv ((o9 _ (by omega)).trans (o3 _ (by omega))) ((o9 _ (by omega)).trans (o3 _ (by omega))) (by omega)
    · obtain ⟨d1, d2, -, -⟩ := h2.2 i hi a ρ hD
      have dv := h8 i a ρ hi hD
      rcases gr6 with e | e
      · rw [e]
        exact dv
      · exact Or.inr (by omega)
    · show wr (G 11) 0 (q_txt σ (g (j + 1))) i = _
      unfold wr
      rw [if_pos ⟨by omega, by omega⟩, Nat.sub_zero]
end Lh
