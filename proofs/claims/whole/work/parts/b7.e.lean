/-! ===== the law: snapshots and texts ===== -/
section Ce2
variable {s s' : am_S} {B x nb sb lo u i a c n : Nat} {σ : stT} {key v l f t y z : Int32} {k : Nat → Int32}
theorem c_save2 (h : CX B s x nb sb u σ) {D : Nat → Option (Nat × stT)} (hd : q_slot x lo D s) (hl : x + 492 ≤ lo) (hx : lo ≤ s.2.1) {g : Nat} (hg : g < 2) : ∃ s' a, cl_ tb_ct tb_mt B K_X12_saveSnapshot [.ref x, .int (nI g)] s = some (.inl (some (.int (nI (σ.1 0)))), s') ∧ q_slot x lo (va_up D g (some (a, σ))) s' ∧ (∀ q, q < s.2.1 → q ≠ x + 437 → (∀ b τ, D g = some (b, τ) → q < b ∨ b + 218 ≤ q) → s'.1 q = s.1 q) ∧ s.2.1 ≤ s'.2.1 ∧ s'.2.1 ≤ s.2.1 + 218 ∧ s.2.2.1 ≤ s'.2.2.1 ∧ s'.2.2.1 ≤ s.2.2.1 + 1612 ∧ s'.2.2.2 = s.2.2.2 ∧ (a = s.2.1 ∨ ∃ τ, D g = some (a, τ)) := by
  have hn := h.n
  have e0 : ∀ R : am_R, (if nI g < 0 then rn_ tb_ct tb_mt B mm_X12_saveSnapshot 13 [.ref x, .int (nI g), am_un] [] s else R) = R := fun R => if_neg (nI_pos (by omega))
  cases hD : D g with
  | some p =>
    obtain ⟨a, τ⟩ := p
    obtain ⟨d1, d2, d3, d4⟩ := hd.2 g hg a τ hD
    obtain ⟨s', e, o, hh⟩ := c_save47 (B := B) (y := nI g) hn.2.2.2 ⟨hn.1, hn.2.1⟩ h.o h.ss d3 (by omega)
    have oe : s'.2 = s.2 := o.2
    refine ⟨s', a, ?_, ⟨?_, fun i hi b τ' hb => ?_⟩, fun q q1 q2 q3 => o.1 q (by have := q3 a τ rfl; omega), by rw [oe]; omega, by rw [oe]; omega, by rw [oe]; omega, by rw [oe]; omega, by rw [oe], Or.inr ⟨τ, rfl⟩⟩
    · rw [in_X12_saveSnapshot, dc_X12_saveSnapshot_0, e0]
      simp only [xo_2 h.o, eA_s, al_o hd.1, eK_s]
      rw [if_pos (show nI g < Int32.ofNat 2 from nI_lt (b := 2) hg (by omega)), aA_o hd.1 hg (by omega), hD]
      exact e
    · rw [o.1 _ (by omega), hd.1]
      refine congrArg (fun f => some (Sum.inl (FieldType.object "WatchedKeys$Store", 2, Sum.inr (Sum.inr (Sum.inr (Sum.inr f)))))) (funext fun i => ?_)
      by_cases hi : i = g
      · rw [hi, va_us, hD]
        rfl
      · rw [va_un hi]
    · rw [oe]
      by_cases hig : i = g
      · subst hig
        rw [va_us] at hb
        cases hb
        refine ⟨d1, d2, hh, fun j hj hji b τ' hb => ?_⟩
        rw [va_un hji] at hb
        exact d4 j hj hji b τ' hb
      · rw [va_un hig] at hb
        obtain ⟨f1, f2, f3, f4⟩ := hd.2 i hi b τ' hb
        have dis := f4 g hg (fun hc => hig hc.symm) a τ hD
        refine ⟨f1, f2, f3.at fun q _ _ => o.1 q (by omega), fun j hj hji b' τ2 hb' => ?_⟩
        by_cases hjg : j = g
        · subst hjg
          rw [va_us] at hb'
          cases hb'
          exact dis
        · rw [va_un hjg] at hb'
          exact f4 j hj hji b' τ2 hb'
  | none =>
    obtain ⟨s1, w1, z1, n1, f1, c1⟩ := nw_ex (s := s) s.2.1 rfl (.inr (7, [.null, .null, .null, .null, .null, .int 0, .int 0, .int 0, .int 0, .int 0, .int 0])) 11
    obtain ⟨s2, e2, a2, h2⟩ := st_init (B := B) (b := s.2.1) (by omega) z1 n1
    have b1 := c1 s.2.1 (Nat.le_refl _)
    have u2 : ∀ q, q < s.2.1 → s2.1 q = s.1 q := fun q hq => (a2.1 q hq).trans (f1 q (by omega))
    have q2 : s2.2.1 = s.2.1 + 218 := by rw [a2.2.1, n1]
    have r2 : s2.2.2.1 = s.2.2.1 + 1612 := by rw [a2.2.2.1, b1.2.2.1]
    have t2 : s2.2.2.2 = s.2.2.2 := a2.2.2.2.trans b1.2.2.2
    have x2 : XO s2 x nb sb := (u2 x (by omega)).trans h.o
    have y2 : SS s2 nb σ := h.ss.at fun q _ _ => u2 q (by omega)
    have v2 := (u2 (x + 437) (by omega)).trans hd.1
    obtain ⟨s3, w3, z3, n3, f3, c3⟩ := se_ex (s := s2) (x + 437) (.inl (.object "WatchedKeys$Store", 2, .inr (.inr (.inr (.inr (va_up (fun i => (D i).map fun p => p.1) g (some s.2.1)))))))
    have x3 : XO s3 x nb sb := (f3 x (by omega)).trans x2
    have y3 : SS s3 nb σ := y2.at fun q _ _ => f3 q (by omega)
    have h3 : SS s3 s.2.1 p_new := h2.at fun q _ _ => f3 q (by omega)
    obtain ⟨s', e, o, hh⟩ := c_save47 (B := B) (y := nI g) hn.2.2.2 ⟨hn.1, hn.2.1⟩ x3 y3 h3 (by omega)
    have oe : s'.2 = s2.2 := by
      rw [o.2, ← w3]
      rfl
    refine ⟨s', s.2.1, ?_, ⟨?_, fun i hi b τ' hb => ?_⟩, fun q q1 q2 _ => (o.1 q (by omega)).trans ((f3 q q2).trans (u2 q (by omega))), by rw [oe]; omega, by rw [oe]; omega, by rw [oe]; omega, by rw [oe]; omega, by rw [oe]; exact t2, Or.inl rfl⟩
    · rw [in_X12_saveSnapshot, dc_X12_saveSnapshot_0, e0]
      simp only [xo_2 h.o, eA_s, al_o hd.1, eK_s]
      rw [if_pos (show nI g < Int32.ofNat 2 from nI_lt (b := 2) hg (by omega)), aA_o hd.1 hg (by omega), hD]
      simp only [Option.map_none, eA_n]
      rw [nwO_s df_7]
      change (fun b_5 s_6 => eC (am_cls s_6 b_5) 7 (cV (cl_ tb_ct tb_mt B K_X8_init [.ref b_5] s_6) _ xo)) s.2.1 (am_new s _ 11) = _
      rw [w1]
      dsimp only
      rw [cls_o z1, e2]
      simp only [eC_s, cV_s, xo_2 x2, eA_s]
      rw [wA_o (cv := 7) v2 (sr_cls h2) rfl hg (by omega) (show B ≤ x + 437 by omega), w3, eS_s]
      exact e
    · rw [o.1 _ (by omega), z3]
      refine congrArg (fun f => some (Sum.inl (FieldType.object "WatchedKeys$Store", 2, Sum.inr (Sum.inr (Sum.inr (Sum.inr f)))))) (funext fun i => ?_)
      by_cases hi : i = g
      · rw [hi, va_us, va_us]
        rfl
      · rw [va_un hi, va_un hi]
    · rw [oe, q2]
      by_cases hig : i = g
      · subst hig
        rw [va_us] at hb
        cases hb
        refine ⟨hx, Nat.le_refl _, hh, fun j hj hji b τ' hb => ?_⟩
        rw [va_un hji] at hb
        obtain ⟨f1, f2, -⟩ := hd.2 j hj b τ' hb
        omega
      · rw [va_un hig] at hb
        obtain ⟨m1, m2, m3, m4⟩ := hd.2 i hi b τ' hb
        refine ⟨m1, by omega, m3.at fun q _ _ => (o.1 q (by omega)).trans ((f3 q (by omega)).trans (u2 q (by omega))), fun j hj hji b' τ2 hb' => ?_⟩
        by_cases hjg : j = g
        · subst hjg
          rw [va_us] at hb'
          cases hb'
          omega
        · rw [va_un hjg] at hb'
          exact m4 j hj hji b' τ2 hb'
end Ce2
section Le
variable {B a0 N x u k1 k2 j i m t : Nat} {g : Nat → Int32} {V Q : Nat → Nat} {s s3 s7 : am_S} {σ : stT} {v v' : Nat → Int32} {G F' : mrT} {c z w : Int32} {M R : am_R} {f : Nat → Int64} {K Z : am_S → am_R} {G1 : Int32 → am_S → am_R}
theorem lm_ev (hc : am_cls s3 m = some 11) (hM : M = some (.inl (some (.int w)), s7)) (h7 : MO s7 m v' F') (h4 : v' 4 = 0) (ht : s7.1 t = some (.inl (.long, 1, .inr (.inl f)))) (hf : f 0 = w.toInt64) (hG : ∀ y s, G1 y s = K s) : eC (am_cls s3 m) 11 (cI M (fun y s7 => eC (am_cls s7 m) 11 (cI (cl_ tb_ct tb_mt B K_X13_thrown [.ref m] s7) (fun y2 s9 => if y2 = (0 : Int32) then if (0 : Int32) = 0 then eJ (aJ s9 t (0 : Int32)) (fun y3 => if (lg_cmp y3 y.toInt64) = 0 then G1 y s9 else Z s9) else G1 y s9 else Z s9) xo)) xo) = K s7 := by
  rw [hc, eC_s, hM, cI_s, mo_cls h7, eC_s, m_thr h7, cI_s, if_pos h4, if_pos rfl, aj_t ht, eJ_s, hf, if_pos lg_eq, hG]
theorem bIn_n (h : bIn z 0 1 = false) : z < 0 ∨ 2 ≤ z := by
  unfold bIn at h
  by_cases h1 : z < 0
  · exact Or.inl h1
  · by_cases h2 : 1 < z
    · refine Or.inr (Int32.le_iff_toInt_le.mpr ?_)
      have e1 := Int32.lt_iff_toInt_lt.mp h2
      have e3 : (1 : Int32).toInt = 1 := rfl
      have e4 : (2 : Int32).toInt = 2 := rfl
      omega
    · rw [decide_eq_false h1, decide_eq_false h2] at h
      cases h
/-- the class throws for a number that it refuses; the model says so too -/
theorem br_no {nb sb vb C n : Nat} {D : Nat → Option (Nat × stT)} {l : List Int32} {F T W : Nat → Int32} {f : Nat → Int64} {τ : stT} {G2 : Int32 → am_S → am_R} {M : am_S → am_R} (w : JW B a0 N g V Q s x u k1 k2 nb sb vb C n D l F T W v G f σ τ) (hM : ∀ s, MM B s (x + 492) v G σ → M s = some (.inl (some (.int 0)), moS s (x + 492) (upd v 4 1) G)) (hG : ∀ y s, G2 y s = jR B 3221 a0 x (nI j) s) (hu : u + 18 < 2 ^ 24) : JN B a0 N g V Q x u k1 k2 j (eC (am_cls (am_bump s) (x + 492)) 11 (cI (M (am_bump s)) (fun y s7 => eC (am_cls s7 (x + 492)) 11 (cI (cl_ tb_ct tb_mt B K_X13_thrown [.ref (x + 492)] s7) (fun y2 s9 => if y2 = (1 : Int32) then if (1 : Int32) = 0 then eJ (aJ s9 (x + 504) (0 : Int32)) (fun y3 => if (lg_cmp y3 y.toInt64) = 0 then G2 y s9 else jZ s9) else G2 y s9 else jZ s9) xo)) xo)) := by
  have wc := w.2.1
  have cw : CW s (am_bump s) x nb (x + 504) := ⟨fun _ _ _ _ _ => rfl, Nat.le_add_right _ _, Nat.le_refl _, Nat.le_add_right _ _, Nat.le_refl _, rfl⟩
  have md := w.mid cw
  have h1 : (1 : Int32) ≠ 0 := by decide
  obtain ⟨s9, e9, q9⟩ := lm_fin (B := B) (a := 0) (G := jR B 23 a0 x (nI j + 5)) (Z := jZ) (t := x + 504) (mo_cls md.2.1) (mr_no md.2 (hM _ md.2)) ⟨0, rfl, fun e => absurd e h1⟩ (show (am_bump s).1 (x + 504) = _ from w.ar) (fun e => absurd e h1) (by omega) (fun y s => (hG y s).trans (dc_L_law_3221 a0 x (x + 492) (x + 504) (nI j) s))
  exact ⟨s9, e9, w.go cw (SR.at wc.ss (fun _ _ _ => rfl)) (wc.p.at (fun _ _ _ => rfl)) w.ar q9 w.pk.id hu⟩
theorem br_3165 (hJ : JL B a0 N g V Q s x u k1 k2) (hj : j + 4 < N) (hN : N < 2 ^ 31) (hu : u + 18 < 2 ^ 24) : JN B a0 N g V Q x u k1 k2 j (jR B 3165 a0 x (nI j) s) := by
  obtain ⟨nb, sb, vb, C, n, D, l, F, T, W, v, G, f, σ, τ, w⟩ := hJ
  have wc := w.2.1
  have n0 := wc.n
  have qs := w.2.2.2.1.2.1
  have wv := w.2.2.2.2.2.1
  have rd := w.1.rd (z := (1 : Int32)) (i := 1) (j := j) (by omega) hN rfl
  unfold jR
  rw [dc_L_law_3165, rd, eI_s, in_L_restoreSnapshot, dc_L_restoreSnapshot_0, cls_o wc.o, eC_s]
  cases hk : bIn (g (j + 1)) 0 1 with
  | false =>
    have md := w.mid (s1 := am_bump s) ⟨fun _ _ _ _ _ => rfl, Nat.le_add_right _ _, Nat.le_refl _, Nat.le_add_right _ _, Nat.le_refl _, rfl⟩
    rw [c_restore_no wc qs (bIn_n hk), cI_x, x_restoreSnapshot_0, cI_s, md.1.rd (z := (1 : Int32)) (i := 1) (j := j) (by omega) hN rfl, eI_s]
    exact br_no w (M := fun s => cl_ tb_ct tb_mt B K_X13_restoreSnapshot [.ref (x + 492), .int (g (j + 1))] s) (fun s h => m_restore_no h hk) (fun y s => dc_L_law_3218 a0 x (x + 492) (x + 504) (nI j) _ (.int y) s) hu
  | true =>
    obtain ⟨g0, hg0, eg⟩ := bInN (m := 1) (by omega) hk
    have hg1 : g0 < 2 := by omega
    rw [eg]
    obtain ⟨c1, c2⟩ := c_restore wc qs (by omega) hg1
    have sl := wv.2.2.2.2.2.2.2 g0 hg1
    cases hD : D g0 with
    | none =>
      rw [hD] at sl
      have sl : G 4 g0 = 0 := sl
      obtain ⟨s3, f3, e1, cw, S3, P3, T3, k0⟩ := wo_set (f := f) (t := x + 504) (a := (-1 : Int32).toInt64) (R := some (.inl (some (.int 0)), am_set s (x + 504) (.inl (.long, 1, .inr (.inl (vp_updL f 0 (-1 : Int32).toInt64)))))) (fr_rf (s := s) (x := x) (nb := nb)) wc.ss wc.p ⟨n0.1, n0.2.1⟩ (Nat.le_refl _) rfl
      have md := w.mid cw
      obtain ⟨s9, e9, q9⟩ := lm_fin (B := B) (G := jR B 23 a0 x (nI j + 5)) (Z := jZ) (t := x + 504) (mo_cls md.2.1) (mr_no md.2 ((m_restore md.2 hg1).trans (if_pos sl))) ⟨_, rfl, fun _ => rfl⟩ T3 k0 (by omega) (fun y s => (dc_L_law_3218 a0 x (x + 492) (x + 504) (nI j) _ (.int y) s).trans (dc_L_law_3221 a0 x (x + 492) (x + 504) (nI j) s))
      refine ⟨s9, ?_, w.go cw S3 P3 T3 q9 w.pk.id hu⟩
      have e1 : am_set s (x + 504) (.inl (.long, 1, .inr (.inl (vp_updL f 0 (-1 : Int32).toInt64)))) = s3 := congrArg (fun p : am_S => p) (Prod.mk.inj (Option.some.inj e1)).2
      rw [c1 hD, cI_s, wj_t w.ar (by omega), eS_s, cI_s, e1, md.1.rd (z := (1 : Int32)) (i := 1) (j := j) (by omega) hN rfl, eI_s, eg]
      exact e9
    | some p =>
      obtain ⟨a, ρ⟩ := p
      rw [hD] at sl
      obtain ⟨l1, l2, l3, l4, l5⟩ := sl
      obtain ⟨s1, r1, r2, r3⟩ := c2 a ρ hD
      have fr1 : fr s s1 x nb := ⟨fun q q1 q2 => r2.1 q q1, r2.2⟩
      have T1 := w.t1 fr1
      have P1 : PST s1 x := wc.p.at (fun q q1 q2 => r2.1 q (by omega))
      obtain ⟨s3, f3, e1, cw, S3, P3, T3, k0⟩ := wo_set (f := f) (t := x + 504) (a := (nI (ρ.1 0)).toInt64) (R := some (.inl (some (.int 0)), am_set s1 (x + 504) (.inl (.long, 1, .inr (.inl (vp_updL f 0 (nI (ρ.1 0)).toInt64)))))) fr1 r3 P1 ⟨n0.1, n0.2.1⟩ (Nat.le_refl _) rfl
      have md := w.mid cw
      have hm := (m_restore md.2 hg1).trans (if_neg l1)
      have e0 : G 3 (1329 * g0) = nI (ρ.1 0) := l2.1 0 (by omega)
      rw [e0] at hm
      have MRh : MR s3 (x + 492) v G (cl_ tb_ct tb_mt B K_X13_restoreSnapshot [.ref (x + 492), .int (nI g0)] s3) 0 (.int (nI (ρ.1 0))) ρ := by
        refine ⟨_, _, _, hm, so_ov, OV.of, l2.cg l3 (fun q hq => ?_), ⟨fun i hi => if_neg (by omega), fun k h4 _ => upd_n h4⟩, if_pos rfl⟩
        show cpR (G 3) g0 (G 1) 0 q = G 3 (1329 * g0 + q)
        unfold cpR
        rw [if_pos ⟨by omega, by omega⟩]
        exact congrArg (G 3) (by omega)
      obtain ⟨s9, e9, q9⟩ := lm_fin (B := B) (G := jR B 23 a0 x (nI j + 5)) (Z := jZ) (t := x + 504) (mo_cls md.2.1) MRh ⟨_, rfl, fun _ => rfl⟩ T3 k0 (by omega) (fun y s => (dc_L_law_3218 a0 x (x + 492) (x + 504) (nI j) _ (.int y) s).trans (dc_L_law_3221 a0 x (x + 492) (x + 504) (nI j) s))
      refine ⟨s9, ?_, w.go cw S3 P3 T3 q9 ⟨l4.mono (by omega), l5, l3.2.2.2.2.1⟩ hu⟩
      have e1 : am_set s1 (x + 504) (.inl (.long, 1, .inr (.inl (vp_updL f 0 (nI (ρ.1 0)).toInt64)))) = s3 := congrArg (fun p : am_S => p) (Prod.mk.inj (Option.some.inj e1)).2
      rw [r1, cI_s, wj_t T1 (by omega), eS_s, cI_s, e1, md.1.rd (z := (1 : Int32)) (i := 1) (j := j) (by omega) hN rfl, eI_s, eg]
      exact e9
end Le
