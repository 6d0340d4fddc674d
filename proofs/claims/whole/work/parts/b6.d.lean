/-! ===== the law: the part deleted, the mean lag, the error, the bytes ===== -/
section Ld
variable {B a0 N x u k1 k2 j m : Nat} {g : Nat → Int32} {V Q : Nat → Nat} {s : am_S} {σ : stT} {v : Nat → Int32} {G : mrT} {c z : Int32} {R : am_R}
theorem q_lag_ok (h5 : σ.1 5 ≤ 8) (h6 : σ.1 6 ≤ 152) : (FP.f2d (q_lag σ)) &&& 0x7fffffffffffffff ≤ 0x7ff0000000000000 := by
  unfold q_lag
  by_cases h0 : σ.1 5 = 0
  · rw [if_pos h0]
    decide +kernel
  · rw [if_neg h0]
    have := q_sumW_le h6 (σ.1 5) 0
    exact ((q_fok (σ.1 5) (by omega) (q_sumW σ 0 (σ.1 5)) (by omega)).resolve_left h0).2
theorem cmp_go {d : UInt64} {X Y Z : am_R} : (if (Op.cmpValue (FP.dcmp d d) .l) = 0 then X else if (Op.cmpValue (FP.dcmp d d) .l) = 0 then Y else if (Op.cmpValue (FP.dcmp d d) .l) = 0 then Z else X) = X := by
  by_cases h : Op.cmpValue (FP.dcmp d d) .l = 0
  · rw [if_pos h]
  · rw [if_neg h, if_neg h, if_neg h]
theorem mq_4 (h : MM B s m v G σ) : MQL s (moS s m (upd v 4 c) G) m v G σ := ⟨so_ov, upd v 4 c, G, OV.of, h.2.1, KM.p (Or.inl rfl)⟩
theorem mr_no (h : MM B s m v G σ) (e : R = some (.inl (some (.int z)), moS s m (upd v 4 c) G)) : MR s m v G R c (.int z) σ := ⟨_, upd v 4 c, G, e, so_ov, OV.of, h.2.1, KM.p (Or.inl rfl), if_pos rfl⟩
theorem br_1140 (hJ : JL B a0 N g V Q s x u k1 k2) (hu : u + 18 < 2 ^ 24) : JN B a0 N g V Q x u k1 k2 j (jR B 1140 a0 x (nI j) s) := by
  obtain ⟨nb, sb, vb, C, n, D, l, F, T, W, v, G, f, σ, τ, w⟩ := hJ
  have wc := w.2.1
  obtain ⟨s3, e1, r2, S3, P3⟩ := (c_deletedPart wc).1 rfl
  have cw : CW s s3 x nb (x + 504) := cw_fr r2
  have md := w.mid cw
  obtain ⟨s9, v', F', e2, o2, M2, R2, K2, t2⟩ := m_deletedPart md.2 wc.a.2.2.1 wc.a.ik
  refine ⟨s9, ?_, w.go cw S3 P3 (w.t1 r2) ⟨o2, v', F', M2, R2, K2⟩ w.pk.id hu⟩
  unfold jR
  rw [dc_L_law_1140, cls_o wc.o, eC_s, e1, cD_s, mo_cls md.2.1, eC_s, e2, cD_s]
  exact cmp_go.trans ((dc_L_law_1178 a0 x (x + 492) (x + 504) (nI j) _ _ s9).trans (dc_L_law_3221 a0 x (x + 492) (x + 504) (nI j) s9))
theorem br_2339 (hJ : JL B a0 N g V Q s x u k1 k2) (hu : u + 18 < 2 ^ 24) : JN B a0 N g V Q x u k1 k2 j (jR B 2339 a0 x (nI j) s) := by
  obtain ⟨nb, sb, vb, C, n, D, l, F, T, W, v, G, f, σ, τ, w⟩ := hJ
  have wc := w.2.1
  obtain ⟨s3, e1, r2, S3, P3⟩ := (c_meanLag wc).1 rfl
  have cw : CW s s3 x nb (x + 504) := cw_fr r2
  have md := w.mid cw
  have h6 := wc.a.2.2.1
  have ok := q_lag_ok (σ := σ) w.pk.2.2 (by omega)
  obtain ⟨s9, v', F', e2, o2, M2, R2, K2, t2⟩ := m_meanLag md.2 wc.tt
  refine ⟨s9, ?_, w.go cw S3 P3 (w.t1 r2) ⟨o2, v', F', M2, R2, K2⟩ w.pk.id hu⟩
  unfold jR
  rw [dc_L_law_2339, cls_o wc.o, eC_s, e1, cF_s, if_pos ok, mo_cls md.2.1, eC_s, e2, cF_s, if_pos ok]
  exact cmp_go.trans ((dc_L_law_2379 a0 x (x + 492) (x + 504) (nI j) _ _ s9).trans (dc_L_law_3221 a0 x (x + 492) (x + 504) (nI j) s9))
theorem br_342 (hJ : JL B a0 N g V Q s x u k1 k2) (hu : u + 18 < 2 ^ 24) : JN B a0 N g V Q x u k1 k2 j (jR B 342 a0 x (nI j) s) := by
  obtain ⟨nb, sb, vb, C, n, D, l, F, T, W, v, G, f, σ, τ, w⟩ := hJ
  have wc := w.2.1
  have wm := w.2.2.2.2.1
  have wv := w.2.2.2.2.2.1
  refine ⟨moS s (x + 492) (upd v 4 0) G, ?_, w.go (cw_fr fr_rf) wc.ss wc.p w.ar (mq_4 wm) w.pk.id hu⟩
  unfold jR
  rw [dc_L_law_342, cls_o wc.o, eC_s, c_loadError wc.o w.2.2.2.1.2.2.1, cI_s, mo_cls wm.1, eC_s, m_loadError wm.1 wm.2.2.2, cI_s, if_pos wv.2.2.1.symm]
  exact dc_L_law_3221 a0 x (x + 492) (x + 504) (nI j) _
theorem br_355 (hJ : JL B a0 N g V Q s x u k1 k2) (hu : u + 18 < 2 ^ 24) : JN B a0 N g V Q x u k1 k2 j (jR B 355 a0 x (nI j) s) := by
  obtain ⟨nb, sb, vb, C, n, D, l, F, T, W, v, G, f, σ, τ, w⟩ := hJ
  have wc := w.2.1
  have wm := w.2.2.2.2.1
  have wv := w.2.2.2.2.2.1
  refine ⟨moS s (x + 492) (upd v 4 0) G, ?_, w.go (cw_fr fr_rf) wc.ss wc.p w.ar (mq_4 wm) w.pk.id hu⟩
  unfold jR
  rw [dc_L_law_355, cls_o wc.o, eC_s, c_loadStatement wc.o w.2.2.2.1.2.2.1, cI_s, mo_cls wm.1, eC_s, m_loadStatement wm.1 wm.2.2.2, cI_s, if_pos wv.2.2.2.1.symm]
  exact dc_L_law_3221 a0 x (x + 492) (x + 504) (nI j) _
theorem br_3084 (hJ : JL B a0 N g V Q s x u k1 k2) (hj : j + 4 < N) (hN : N < 2 ^ 31) (hu : u + 18 < 2 ^ 24) : JN B a0 N g V Q x u k1 k2 j (jR B 3084 a0 x (nI j) s) := by
  obtain ⟨nb, sb, vb, C, n, D, l, F, T, W, v, G, f, σ, τ, w⟩ := hJ
  have wc := w.2.1
  have wm := w.2.2.2.2.1
  have wv := w.2.2.2.2.2.1
  have rd := w.1.rd (z := (1 : Int32)) (i := 1) (j := j) (by omega) hN rfl
  refine ⟨moS s (x + 492) (upd v 4 0) G, ?_, w.go (cw_fr fr_rf) wc.ss wc.p w.ar (mq_4 wm) w.pk.id hu⟩
  unfold jR
  rw [dc_L_law_3084, rd, eI_s, cls_o wc.o, eC_s, c_outputByte wc.o w.1.1 w.2.2.2.1.2.2.2.2.2.1, cI_s, rd, eI_s, mo_cls wm.1, eC_s, m_outputByte wm.1 wm.2.2.2 wv.2.2.2.2.1 wv.2.2.2.2.2.2.1 wv.2.2.2.2.2.1, cI_s, if_pos rfl]
  exact dc_L_law_3221 a0 x (x + 492) (x + 504) (nI j) _
end Ld
