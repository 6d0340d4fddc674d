/-! ===== the law: a snapshot saved, a text written ===== -/
section Lf
variable {B a0 N x u k1 k2 j i m t n : Nat} {g : Nat → Int32} {V Q : Nat → Nat} {s s' : am_S} {σ : stT} {v v' : Nat → Int32} {G G' : mrT} {D : Nat → Option (Nat × stT)} {l : List Int32} {F T : Nat → Int32}
theorem RSl.sv {a ρ0 : Nat} (hf : FR (G 1) σ) (hz : SZ σ) (hp : PK u σ) (e4 : G' 4 i = 1) (e3 : ∀ q, q < 1329 → G' 3 (1329 * i + q) = G 1 q) : RSl G' (u + 9) i (some (a, σ)) := by
  refine ⟨?_, hf.cg hz e3, hz, hp.1.mono (by omega), hp.2.1⟩
  rw [e4]
  decide
theorem br_3109 (hJ : JL B a0 N g V Q s x u k1 k2) (hj : j + 4 < N) (hN : N < 2 ^ 31) (hu : u + 18 < 2 ^ 24) : JN B a0 N g V Q x u k1 k2 j (jR B 3109 a0 x (nI j) s) := by
  obtain ⟨nb, sb, vb, C, n, D, l, F, T, W, v, G, f, σ, τ, w⟩ := hJ
  have wc := w.2.1
  have n0 := wc.n
  have qs := w.2.2.2.1.2.1
  have wv := w.2.2.2.2.2.1
  have rd := w.1.rd (z := (1 : Int32)) (i := 1) (j := j) (by omega) hN rfl
  unfold jR
  rw [dc_L_law_3109, rd, eI_s, in_L_saveSnapshot, dc_L_saveSnapshot_0, cls_o wc.o, eC_s]
  cases hk : bIn (g (j + 1)) 0 1 with
  | false =>
    have md := w.mid (s1 := am_bump s) ⟨fun _ _ _ _ _ => rfl, Nat.le_add_right _ _, Nat.le_refl _, Nat.le_add_right _ _, Nat.le_refl _, rfl⟩
    rw [c_save_no wc qs (bIn_n hk), cI_x, x_saveSnapshot_0, cI_s, md.1.rd (z := (1 : Int32)) (i := 1) (j := j) (by omega) hN rfl, eI_s]
    exact br_no w (M := fun s => cl_ tb_ct tb_mt B K_X13_saveSnapshot [.ref (x + 492), .int (g (j + 1))] s) (fun s h => m_save_no h hk) (fun y s => dc_L_law_3162 a0 x (x + 492) (x + 504) (nI j) _ (.int y) s) hu
  | true =>
    obtain ⟨g0, hg0, eg⟩ := bInN (m := 1) (by omega) hk
    have hg1 : g0 < 2 := by omega
    have pk := w.pk
    obtain ⟨w1, w2, w3, ⟨h1, h2, h3, h4, h5, h6, h7, h8⟩, w5, w6, w7, w8, w9, w10⟩ := w
    obtain ⟨s1, a, e1, q1, fm, m1, m2, m3, m4, m5, ha⟩ := c_save2 wc qs (by omega) w8 hg1
    have hvl := h6.vlt
    have dj : ∀ q, q < x + 505 → ∀ b ρ, D g0 = some (b, ρ) → q < b ∨ b + 218 ≤ q := fun q hq b ρ hb => by
      have := (h2.2 g0 hg1 b ρ hb).1
      omega
    have T1 : s1.1 (x + 504) = some (.inl (.long, 1, .inr (.inl f))) := (fm _ (by omega) (by omega) (dj _ (by omega))).trans w7
    have o3 : ∀ q, q ≠ x + 504 → (am_set s1 (x + 504) (.inl (.long, 1, .inr (.inl (vp_updL f 0 (nI (σ.1 0)).toInt64))))).1 q = s1.1 q := fun q hq => set_ne hq
    have T3 : (am_set s1 (x + 504) (.inl (.long, 1, .inr (.inl (vp_updL f 0 (nI (σ.1 0)).toInt64))))).1 (x + 504) = some (.inl (.long, 1, .inr (.inl (vp_updL f 0 (nI (σ.1 0)).toInt64)))) := set_at
    have z3 : (am_set s1 (x + 504) (.inl (.long, 1, .inr (.inl (vp_updL f 0 (nI (σ.1 0)).toInt64))))).2 = s1.2 := rfl
    rw [eg, e1, cI_s, wj_t T1 (by omega), eS_s, cI_s]
    generalize am_set s1 (x + 504) (.inl (.long, 1, .inr (.inl (vp_updL f 0 (nI (σ.1 0)).toInt64)))) = s3 at o3 T3 z3 ⊢
    have oc : ∀ q, q < s.2.1 → q ≠ x + 437 → q ≠ x + 504 → (∀ b ρ, D g0 = some (b, ρ) → q < b ∨ b + 218 ≤ q) → s3.1 q = s.1 q := fun q p1 p2 p3 p4 => (o3 q p3).trans (fm q p1 p2 p4)
    have oc2 : ∀ q, q < x + 504 → q ≠ x + 437 → s3.1 q = s.1 q := fun q p1 p2 => oc q (by omega) p2 (by omega) (dj q (by omega))
    have g1 : s3.2.1 = s1.2.1 := congrArg (fun p => p.1) z3
    have g2 : s3.2.2.1 = s1.2.2.1 := congrArg (fun p => p.2.1) z3
    have g3 : s3.2.2.2 = s1.2.2.2 := congrArg (fun p => p.2.2) z3
    have re3 : RE B a0 N g V Q s3 := w1.at (fun q hq => oc2 q (by omega) (by omega)) (g3.trans m5)
    have m3' : MM B s3 (x + 492) v G σ := ⟨OV.at w5.1 (fun q p1 p2 => oc2 q (by omega) (by omega)), w5.2⟩
    rw [re3.rd (z := (1 : Int32)) (i := 1) (j := j) (by omega) hN rfl, eI_s, eg]
    have hm := m_save m3' hg1
    have o9 : ∀ q, (q < x + 492 ∨ x + 504 ≤ q) → (moS s3 (x + 492) (upd v 4 0) (mB (mB G 3 (cpR (G 1) 0 (G 3) g0)) 4 (upd (G 4) g0 1))).1 q = s3.1 q := fun q hq => ov_o (by omega)
    have M9 : MO (moS s3 (x + 492) (upd v 4 0) (mB (mB G 3 (cpR (G 1) 0 (G 3) g0)) 4 (upd (G 4) g0 1))) (x + 492) (upd v 4 0) (mB (mB G 3 (cpR (G 1) 0 (G 3) g0)) 4 (upd (G 4) g0 1)) := OV.of
    have z9 : (moS s3 (x + 492) (upd v 4 0) (mB (mB G 3 (cpR (G 1) 0 (G 3) g0)) 4 (upd (G 4) g0 1))).2 = s3.2 := rfl
    generalize moS s3 (x + 492) (upd v 4 0) (mB (mB G 3 (cpR (G 1) 0 (G 3) g0)) 4 (upd (G 4) g0 1)) = s9 at hm o9 M9 z9
    have T9 := (o9 (x + 504) (by omega)).trans T3
    refine ⟨s9, lm_ev (K := jR B 23 a0 x (nI j + 5)) (mo_cls m3'.1) hm M9 (if_pos rfl) T9 (if_pos rfl) (fun y s => (dc_L_law_3162 a0 x (x + 492) (x + 504) (nI j) _ (.int y) s).trans (dc_L_law_3221 a0 x (x + 492) (x + 504) (nI j) s)), ?_⟩
    have k1 : s9.2.1 = s1.2.1 := (congrArg (fun p => p.1) z9).trans g1
    have k2 : s9.2.2.1 = s1.2.2.1 := (congrArg (fun p => p.2.1) z9).trans g2
    have k3 : s9.2.2.2 = s3.2.2.2 := congrArg (fun p => p.2.2) z9
    have of : ∀ q, q < x + 492 → q ≠ x + 437 → s9.1 q = s.1 q := fun q p1 p2 => (o9 q (by omega)).trans (oc2 q (by omega) p2)
    refine ⟨nb, sb, vb, C, n, va_up D g0 (some (a, σ)), l, F, T, W, upd v 4 0, mB (mB G 3 (cpR (G 1) 0 (G 3) g0)) 4 (upd (G 4) g0 1), vp_updL f 0 (nI (σ.1 0)).toInt64, σ, τ, re3.at (fun q hq => o9 q (by omega)) k3, ⟨(of x (by omega) (by omega)).trans w2.o, SR.at w2.ss (fun q p1 p2 => of q (by omega) (by omega)), pk.1.mono (by omega), pk.2.1, w2.p.at (fun q p1 p2 => of q (by omega) (by omega)), n0.2.2.2, w2.2.2.2.2.2.2.1, by omega⟩, w3, ⟨SR.at h1 (fun q p1 p2 => of q (by omega) (by omega)), ?_, OV.at h3 (fun q p1 p2 => of q (by omega) (by omega)), h4, h5, ?_, h7, fun i b ρ hi hb => ?_⟩, ⟨M9, w5.2.1, w5.2.2⟩, ?_, T9, by omega, by omega, by omega⟩
    · exact q1.at ((o9 _ (by omega)).trans (o3 _ (by omega))) (fun q p1 p2 => (o9 q (by omega)).trans (o3 q (by omega))) (by omega)
    · refine h6.mv (of _ (by omega) (by omega)) ?_ (by omega)
      exact (o9 _ (by omega)).trans (oc _ hvl (by omega) (by omega) (fun b ρ hb => h8 g0 b ρ hg1 hb))
    · by_cases hi2 : i = g0
      · rw [hi2, va_us] at hb
        cases hb
        rcases ha with ha | ⟨ρ, ha⟩
        · omega
        · exact h8 g0 a ρ hg1 ha
      · rw [va_un hi2] at hb
        exact h8 i b ρ hi hb
    · obtain ⟨⟨c1, c2, c3⟩, v2, v3, v4, v5, v6, v7, v8⟩ := w6
      refine ⟨⟨c1, c2, c3⟩, v2, v3, v4, v5, v6, v7, fun i hi => ?_⟩
      by_cases hi2 : i = g0
      · rw [hi2, va_us]
        refine RSl.sv (ρ0 := 0) w5.2.1 w5.2.2.1 pk (if_pos rfl) (fun q hq => ?_)
        show cpR (G 1) 0 (G 3) g0 (1329 * g0 + q) = G 1 q
        unfold cpR
        rw [if_pos ⟨by omega, by omega⟩]
        exact congrArg (G 1) (by omega)
      · rw [va_un hi2]
        have sl := v8 i hi
        cases hD : D i with
        | none =>
          rw [hD] at sl
          exact (upd_n hi2).trans sl
        | some p =>
          rw [hD] at sl
          obtain ⟨l1, l2, l3, l4, l5⟩ := sl
          refine ⟨fun e => l1 ((upd_n hi2).symm.trans e), l2.cg l3 (fun q hq => ?_), l3, l4.mono (by omega), l5⟩
          show cpR (G 1) 0 (G 3) g0 (1329 * i + q) = G 3 (1329 * i + q)
          unfold cpR
          exact if_neg (by omega)
end Lf
