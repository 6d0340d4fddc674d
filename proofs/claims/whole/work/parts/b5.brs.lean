/-! ===== the law: its branches  ===== -/
section Lc
variable {B a0 N x u k1 k2 j : Nat} {g : Nat → Int32} {V Q : Nat → Nat} {s : am_S}
theorem br_368 (hJ : JL B a0 N g V Q s x u k1 k2) (hj : j + 4 < N) (hN : N < 2 ^ 31) (hu : u + 18 < 2 ^ 24) : JN B a0 N g V Q x u k1 k2 j (jR B 368 a0 x (nI j) s) := by
  obtain ⟨nb, sb, vb, C, n, D, l, F, T, W, v, G, f, σ, τ, w⟩ := hJ
  have wc := w.2.1
  have hp := w.pk
  have hb := w.ib
  obtain ⟨s3, f3, e1, cw, S3, P3, T3, k0⟩ := wo_CO wc w.ar (Nat.le_refl _) (c_count wc (y := (g (j + 1)))) (fun s' => x_count_0 (a0 := x) (x1 := (g (j + 1))) (a2 := (x + 504)) s')
  have md := w.mid cw
  obtain ⟨s9, e9, q9⟩ := lm_fin (B := B) (G := jR B 23 a0 x (nI j + 5)) (Z := jZ) (t := x + 504) (mo_cls md.2.1) (m_count md.2 (y := (g (j + 1)))) (if_int (fun _ => rfl)) T3 k0 (by omega) (fun y s => (dc_L_law_421 a0 x (x + 492) (x + 504) (nI j) _ (.int y) s).trans (dc_L_law_3221 a0 x (x + 492) (x + 504) (nI j) s))
  refine ⟨s9, ?_, w.go cw S3 P3 T3 q9 (hp.if1 (fun hk => hp.id)) hu⟩
  unfold jR
  rw [dc_L_law_368, w.1.rd (z := (1 : Int32)) (i := 1) (j := j) (by omega) hN rfl, eI_s, in_L_count, dc_L_count_0, cls_o wc.o, eC_s, e1, cI_s, md.1.rd (z := (1 : Int32)) (i := 1) (j := j) (by omega) hN rfl, eI_s]
  exact e9
theorem br_424 (hJ : JL B a0 N g V Q s x u k1 k2) (hj : j + 4 < N) (hN : N < 2 ^ 31) (hu : u + 18 < 2 ^ 24) : JN B a0 N g V Q x u k1 k2 j (jR B 424 a0 x (nI j) s) := by
  obtain ⟨nb, sb, vb, C, n, D, l, F, T, W, v, G, f, σ, τ, w⟩ := hJ
  have wc := w.2.1
  have hp := w.pk
  have hb := w.ib
  obtain ⟨s3, f3, e1, cw, S3, P3, T3, k0⟩ := wo_CO wc w.ar (Nat.le_refl _) (c_get wc (key := (g (j + 1))) (y := (g (j + 2)))) (fun s' => x_get_0 (a0 := x) (x1 := (g (j + 1))) (x2 := (g (j + 2))) (a3 := (x + 504)) s')
  have md := w.mid cw
  obtain ⟨s9, e9, q9⟩ := lm_fin (B := B) (G := jR B 23 a0 x (nI j + 5)) (Z := jZ) (t := x + 504) (mo_cls md.2.1) (m_get md.2 (key := (g (j + 1))) (y := (g (j + 2))) wc.a.ik.isS) (if_int (fun _ => rfl)) T3 k0 (by omega) (fun y s => (dc_L_law_489 a0 x (x + 492) (x + 504) (nI j) _ (.int y) s).trans (dc_L_law_3221 a0 x (x + 492) (x + 504) (nI j) s))
  refine ⟨s9, ?_, w.go cw S3 P3 T3 q9 (hp.if1 (fun hk => hp.id)) hu⟩
  unfold jR
  rw [dc_L_law_424, w.1.rd (z := (1 : Int32)) (i := 1) (j := j) (by omega) hN rfl, eI_s, w.1.rd (z := (2 : Int32)) (i := 2) (j := j) (by omega) hN rfl, eI_s, in_L_get, dc_L_get_0, cls_o wc.o, eC_s, e1, cI_s, md.1.rd (z := (1 : Int32)) (i := 1) (j := j) (by omega) hN rfl, eI_s, md.1.rd (z := (2 : Int32)) (i := 2) (j := j) (by omega) hN rfl, eI_s]
  exact e9
theorem br_492 (hJ : JL B a0 N g V Q s x u k1 k2) (hj : j + 4 < N) (hN : N < 2 ^ 31) (hu : u + 18 < 2 ^ 24) : JN B a0 N g V Q x u k1 k2 j (jR B 492 a0 x (nI j) s) := by
  obtain ⟨nb, sb, vb, C, n, D, l, F, T, W, v, G, f, σ, τ, w⟩ := hJ
  have wc := w.2.1
  have hp := w.pk
  have hb := w.ib
  obtain ⟨s3, f3, e1, cw, S3, P3, T3, k0⟩ := wo_CO wc w.ar (Nat.le_refl _) (c_getAt wc (key := (g (j + 1))) (y := (g (j + 2)))) (fun s' => x_getAt_0 (a0 := x) (x1 := (g (j + 1))) (x2 := (g (j + 2))) (a3 := (x + 504)) s')
  have md := w.mid cw
  obtain ⟨s9, e9, q9⟩ := lm_fin (B := B) (G := jR B 23 a0 x (nI j + 5)) (Z := jZ) (t := x + 504) (mo_cls md.2.1) (m_getAt md.2 (key := (g (j + 1))) (y := (g (j + 2))) wc.a.ik) (if_int (fun _ => rfl)) T3 k0 (by omega) (fun y s => (dc_L_law_557 a0 x (x + 492) (x + 504) (nI j) _ (.int y) s).trans (dc_L_law_3221 a0 x (x + 492) (x + 504) (nI j) s))
  refine ⟨s9, ?_, w.go cw S3 P3 T3 q9 (hp.if1 (fun hk => hp.id)) hu⟩
  unfold jR
  rw [dc_L_law_492, w.1.rd (z := (1 : Int32)) (i := 1) (j := j) (by omega) hN rfl, eI_s, w.1.rd (z := (2 : Int32)) (i := 2) (j := j) (by omega) hN rfl, eI_s, in_L_getAt, dc_L_getAt_0, cls_o wc.o, eC_s, e1, cI_s, md.1.rd (z := (1 : Int32)) (i := 1) (j := j) (by omega) hN rfl, eI_s, md.1.rd (z := (2 : Int32)) (i := 2) (j := j) (by omega) hN rfl, eI_s]
  exact e9
theorem br_560 (hJ : JL B a0 N g V Q s x u k1 k2) (hj : j + 4 < N) (hN : N < 2 ^ 31) (hu : u + 18 < 2 ^ 24) : JN B a0 N g V Q x u k1 k2 j (jR B 560 a0 x (nI j) s) := by
  obtain ⟨nb, sb, vb, C, n, D, l, F, T, W, v, G, f, σ, τ, w⟩ := hJ
  have wc := w.2.1
  have hp := w.pk
  have hb := w.ib
  obtain ⟨s3, f3, e1, cw, S3, P3, T3, k0⟩ := wo_CO wc w.ar (Nat.le_refl _) (c_keysAt wc (f := (g (j + 1))) (t := (g (j + 2))) (y := (g (j + 3)))) (fun s' => x_keysAt_0 (a0 := x) (x1 := (g (j + 1))) (x2 := (g (j + 2))) (x3 := (g (j + 3))) (a4 := (x + 504)) s')
  have md := w.mid cw
  obtain ⟨s9, e9, q9⟩ := lm_fin (B := B) (G := jR B 23 a0 x (nI j + 5)) (Z := jZ) (t := x + 504) (mo_cls md.2.1) (m_keysAt md.2 (f := (g (j + 1))) (t := (g (j + 2))) (y := (g (j + 3))) wc.a.ik) (if_int (fun _ => rfl)) T3 k0 (by omega) (fun y s => (dc_L_law_637 a0 x (x + 492) (x + 504) (nI j) _ (.int y) s).trans (dc_L_law_3221 a0 x (x + 492) (x + 504) (nI j) s))
  refine ⟨s9, ?_, w.go cw S3 P3 T3 q9 (hp.if1 (fun hk => hp.id)) hu⟩
  unfold jR
  rw [dc_L_law_560, w.1.rd (z := (1 : Int32)) (i := 1) (j := j) (by omega) hN rfl, eI_s, w.1.rd (z := (2 : Int32)) (i := 2) (j := j) (by omega) hN rfl, eI_s, w.1.rd (z := (3 : Int32)) (i := 3) (j := j) (by omega) hN rfl, eI_s, in_L_keysAt, dc_L_keysAt_0, cls_o wc.o, eC_s, e1, cI_s, md.1.rd (z := (1 : Int32)) (i := 1) (j := j) (by omega) hN rfl, eI_s, md.1.rd (z := (2 : Int32)) (i := 2) (j := j) (by omega) hN rfl, eI_s, md.1.rd (z := (3 : Int32)) (i := 3) (j := j) (by omega) hN rfl, eI_s]
  exact e9
theorem br_640 (hJ : JL B a0 N g V Q s x u k1 k2) (hj : j + 4 < N) (hN : N < 2 ^ 31) (hu : u + 18 < 2 ^ 24) : JN B a0 N g V Q x u k1 k2 j (jR B 640 a0 x (nI j) s) := by
  obtain ⟨nb, sb, vb, C, n, D, l, F, T, W, v, G, f, σ, τ, w⟩ := hJ
  have wc := w.2.1
  have hp := w.pk
  have hb := w.ib
  obtain ⟨s3, f3, e1, cw, S3, P3, T3, k0⟩ := wo_CO wc w.ar (Nat.le_refl _) (c_keyAt wc (f := (g (j + 1))) (t := (g (j + 2))) (z := (g (j + 3))) (y := (g (j + 4)))) (fun s' => x_keyAt_0 (a0 := x) (x1 := (g (j + 1))) (x2 := (g (j + 2))) (x3 := (g (j + 3))) (x4 := (g (j + 4))) (a5 := (x + 504)) s')
  have md := w.mid cw
  obtain ⟨s9, e9, q9⟩ := lm_fin (B := B) (G := jR B 23 a0 x (nI j + 5)) (Z := jZ) (t := x + 504) (mo_cls md.2.1) (m_keyAt md.2 (f := (g (j + 1))) (t := (g (j + 2))) (z := (g (j + 3))) (y := (g (j + 4))) wc.a.ik) (if_int (fun _ => rfl)) T3 k0 (by omega) (fun y s => (dc_L_law_729 a0 x (x + 492) (x + 504) (nI j) _ (.int y) s).trans (dc_L_law_3221 a0 x (x + 492) (x + 504) (nI j) s))
  refine ⟨s9, ?_, w.go cw S3 P3 T3 q9 (hp.if1 (fun hk => hp.id)) hu⟩
  unfold jR
  rw [dc_L_law_640, w.1.rd (z := (1 : Int32)) (i := 1) (j := j) (by omega) hN rfl, eI_s, w.1.rd (z := (2 : Int32)) (i := 2) (j := j) (by omega) hN rfl, eI_s, w.1.rd (z := (3 : Int32)) (i := 3) (j := j) (by omega) hN rfl, eI_s, w.1.rd (z := (4 : Int32)) (i := 4) (j := j) (by omega) hN rfl, eI_s, in_L_keyAt, dc_L_keyAt_0, cls_o wc.o, eC_s, e1, cI_s, md.1.rd (z := (1 : Int32)) (i := 1) (j := j) (by omega) hN rfl, eI_s, md.1.rd (z := (2 : Int32)) (i := 2) (j := j) (by omega) hN rfl, eI_s, md.1.rd (z := (3 : Int32)) (i := 3) (j := j) (by omega) hN rfl, eI_s, md.1.rd (z := (4 : Int32)) (i := 4) (j := j) (by omega) hN rfl, eI_s]
  exact e9
theorem br_732 (hJ : JL B a0 N g V Q s x u k1 k2) (hj : j + 4 < N) (hN : N < 2 ^ 31) (hu : u + 18 < 2 ^ 24) : JN B a0 N g V Q x u k1 k2 j (jR B 732 a0 x (nI j) s) := by
  obtain ⟨nb, sb, vb, C, n, D, l, F, T, W, v, G, f, σ, τ, w⟩ := hJ
  have wc := w.2.1
  have hp := w.pk
  have hb := w.ib
  obtain ⟨s3, f3, e1, cw, S3, P3, T3, k0⟩ := wo_COJ wc w.ar (Nat.le_refl _) (c_sumAt wc (f := (g (j + 1))) (t := (g (j + 2))) (y := (g (j + 3)))) (fun s' => x_sumAt_0 (a0 := x) (x1 := (g (j + 1))) (x2 := (g (j + 2))) (x3 := (g (j + 3))) (a4 := (x + 504)) s')
  have md := w.mid cw
  obtain ⟨s9, e9, q9⟩ := lm_finJ (b := 0) (B := B) (G := jR B 23 a0 x (nI j + 5)) (Z := jZ) (t := x + 504) (mo_cls md.2.1) (m_sumAt md.2 (f := (g (j + 1))) (t := (g (j + 2))) (y := (g (j + 3))) wc.a.ik) (if_lng (fun _ => rfl)) T3 k0 (by omega) (fun y s => (dc_L_law_808 a0 x (x + 492) (x + 504) (nI j) _ (.long y) s).trans (dc_L_law_3221 a0 x (x + 492) (x + 504) (nI j) s))
  refine ⟨s9, ?_, w.go cw S3 P3 T3 q9 (hp.if1 (fun hk => hp.id)) hu⟩
  unfold jR
  rw [dc_L_law_732, w.1.rd (z := (1 : Int32)) (i := 1) (j := j) (by omega) hN rfl, eI_s, w.1.rd (z := (2 : Int32)) (i := 2) (j := j) (by omega) hN rfl, eI_s, w.1.rd (z := (3 : Int32)) (i := 3) (j := j) (by omega) hN rfl, eI_s, in_L_sumAt, dc_L_sumAt_0, cls_o wc.o, eC_s, e1, cI_s, md.1.rd (z := (1 : Int32)) (i := 1) (j := j) (by omega) hN rfl, eI_s, md.1.rd (z := (2 : Int32)) (i := 2) (j := j) (by omega) hN rfl, eI_s, md.1.rd (z := (3 : Int32)) (i := 3) (j := j) (by omega) hN rfl, eI_s]
  exact e9
theorem br_811 (hJ : JL B a0 N g V Q s x u k1 k2) (hj : j + 4 < N) (hN : N < 2 ^ 31) (hu : u + 18 < 2 ^ 24) : JN B a0 N g V Q x u k1 k2 j (jR B 811 a0 x (nI j) s) := by
  obtain ⟨nb, sb, vb, C, n, D, l, F, T, W, v, G, f, σ, τ, w⟩ := hJ
  have wc := w.2.1
  have hp := w.pk
  have hb := w.ib
  obtain ⟨s3, f3, e1, cw, S3, P3, T3, k0⟩ := wo_CO wc w.ar (Nat.le_refl _) (c_changed wc (y := (g (j + 1))) (z := (g (j + 2)))) (fun s' => x_changed_0 (a0 := x) (x1 := (g (j + 1))) (x2 := (g (j + 2))) (a3 := (x + 504)) s')
  have md := w.mid cw
  obtain ⟨s9, e9, q9⟩ := lm_fin (B := B) (G := jR B 23 a0 x (nI j + 5)) (Z := jZ) (t := x + 504) (mo_cls md.2.1) (m_changed md.2 (y := (g (j + 1))) (z := (g (j + 2))) wc.a.ik) (if_int (fun _ => rfl)) T3 k0 (by omega) (fun y s => (dc_L_law_876 a0 x (x + 492) (x + 504) (nI j) _ (.int y) s).trans (dc_L_law_3221 a0 x (x + 492) (x + 504) (nI j) s))
  refine ⟨s9, ?_, w.go cw S3 P3 T3 q9 (hp.if1 (fun hk => hp.id)) hu⟩
  unfold jR
  rw [dc_L_law_811, w.1.rd (z := (1 : Int32)) (i := 1) (j := j) (by omega) hN rfl, eI_s, w.1.rd (z := (2 : Int32)) (i := 2) (j := j) (by omega) hN rfl, eI_s, in_L_changed, dc_L_changed_0, cls_o wc.o, eC_s, e1, cI_s, md.1.rd (z := (1 : Int32)) (i := 1) (j := j) (by omega) hN rfl, eI_s, md.1.rd (z := (2 : Int32)) (i := 2) (j := j) (by omega) hN rfl, eI_s]
  exact e9
theorem br_879 (hJ : JL B a0 N g V Q s x u k1 k2) (hj : j + 4 < N) (hN : N < 2 ^ 31) (hu : u + 18 < 2 ^ 24) : JN B a0 N g V Q x u k1 k2 j (jR B 879 a0 x (nI j) s) := by
  obtain ⟨nb, sb, vb, C, n, D, l, F, T, W, v, G, f, σ, τ, w⟩ := hJ
  have wc := w.2.1
  have hp := w.pk
  have hb := w.ib
  obtain ⟨s3, f3, e1, cw, S3, P3, T3, k0⟩ := wo_CO wc w.ar (Nat.le_refl _) (c_digest wc (y := (g (j + 1)))) (fun s' => x_digest_0 (a0 := x) (x1 := (g (j + 1))) (a2 := (x + 504)) s')
  have md := w.mid cw
  obtain ⟨s9, e9, q9⟩ := lm_fin (B := B) (G := jR B 23 a0 x (nI j + 5)) (Z := jZ) (t := x + 504) (mo_cls md.2.1) (m_digest md.2 (y := (g (j + 1))) wc.a.ik) (if_int (fun _ => rfl)) T3 k0 (by omega) (fun y s => (dc_L_law_932 a0 x (x + 492) (x + 504) (nI j) _ (.int y) s).trans (dc_L_law_3221 a0 x (x + 492) (x + 504) (nI j) s))
  refine ⟨s9, ?_, w.go cw S3 P3 T3 q9 (hp.if1 (fun hk => hp.id)) hu⟩
  unfold jR
  rw [dc_L_law_879, w.1.rd (z := (1 : Int32)) (i := 1) (j := j) (by omega) hN rfl, eI_s, in_L_digest, dc_L_digest_0, cls_o wc.o, eC_s, e1, cI_s, md.1.rd (z := (1 : Int32)) (i := 1) (j := j) (by omega) hN rfl, eI_s]
  exact e9
theorem br_935 (hJ : JL B a0 N g V Q s x u k1 k2) (hj : j + 4 < N) (hN : N < 2 ^ 31) (hu : u + 18 < 2 ^ 24) : JN B a0 N g V Q x u k1 k2 j (jR B 935 a0 x (nI j) s) := by
  obtain ⟨nb, sb, vb, C, n, D, l, F, T, W, v, G, f, σ, τ, w⟩ := hJ
  have wc := w.2.1
  have hp := w.pk
  have hb := w.ib
  obtain ⟨s3, f3, e1, cw, S3, P3, T3, k0⟩ := wo_CO wc w.ar (Nat.le_refl _) (c_versionAt wc (key := (g (j + 1))) (y := (g (j + 2)))) (fun s' => x_versionAt_0 (a0 := x) (x1 := (g (j + 1))) (x2 := (g (j + 2))) (a3 := (x + 504)) s')
  have md := w.mid cw
  obtain ⟨s9, e9, q9⟩ := lm_fin (B := B) (G := jR B 23 a0 x (nI j + 5)) (Z := jZ) (t := x + 504) (mo_cls md.2.1) (m_versionAt md.2 (key := (g (j + 1))) (y := (g (j + 2))) wc.a.ik wc.a.ik.isS wc.tt) (if_int (fun _ => rfl)) T3 k0 (by omega) (fun y s => (dc_L_law_1000 a0 x (x + 492) (x + 504) (nI j) _ (.int y) s).trans (dc_L_law_3221 a0 x (x + 492) (x + 504) (nI j) s))
  refine ⟨s9, ?_, w.go cw S3 P3 T3 q9 (hp.if1 (fun hk => hp.id)) hu⟩
  unfold jR
  rw [dc_L_law_935, w.1.rd (z := (1 : Int32)) (i := 1) (j := j) (by omega) hN rfl, eI_s, w.1.rd (z := (2 : Int32)) (i := 2) (j := j) (by omega) hN rfl, eI_s, in_L_versionAt, dc_L_versionAt_0, cls_o wc.o, eC_s, e1, cI_s, md.1.rd (z := (1 : Int32)) (i := 1) (j := j) (by omega) hN rfl, eI_s, md.1.rd (z := (2 : Int32)) (i := 2) (j := j) (by omega) hN rfl, eI_s]
  exact e9
theorem br_1003 (hJ : JL B a0 N g V Q s x u k1 k2) (hj : j + 4 < N) (hN : N < 2 ^ 31) (hu : u + 18 < 2 ^ 24) : JN B a0 N g V Q x u k1 k2 j (jR B 1003 a0 x (nI j) s) := by
  obtain ⟨nb, sb, vb, C, n, D, l, F, T, W, v, G, f, σ, τ, w⟩ := hJ
  have wc := w.2.1
  have hp := w.pk
  have hb := w.ib
  obtain ⟨s3, f3, e1, cw, S3, P3, T3, k0⟩ := wo_CO2 wc w.ar (Nat.le_refl _) (c_event wc (y := (g (j + 1))) (z := (g (j + 2)))) (fun s' => x_event_1 (a0 := x) (x1 := (g (j + 1))) (x2 := (g (j + 2))) (a3 := (x + 504)) s') (Or.inr (fun s' => x_event_0 (a0 := x) (x1 := (g (j + 1))) (x2 := (g (j + 2))) (a3 := (x + 504)) s'))
  have md := w.mid cw
  obtain ⟨s9, e9, q9⟩ := lm_fin (B := B) (G := jR B 23 a0 x (nI j + 5)) (Z := jZ) (t := x + 504) (mo_cls md.2.1) (m_event md.2 (y := (g (j + 1))) (z := (g (j + 2)))) (if_int2 rfl) T3 k0 (by omega) (fun y s => (dc_L_law_1068 a0 x (x + 492) (x + 504) (nI j) _ (.int y) s).trans (dc_L_law_3221 a0 x (x + 492) (x + 504) (nI j) s))
  refine ⟨s9, ?_, w.go cw S3 P3 T3 q9 (hp.if2 (fun _ _ => hp.id)) hu⟩
  unfold jR
  rw [dc_L_law_1003, w.1.rd (z := (1 : Int32)) (i := 1) (j := j) (by omega) hN rfl, eI_s, w.1.rd (z := (2 : Int32)) (i := 2) (j := j) (by omega) hN rfl, eI_s, in_L_event, dc_L_event_0, cls_o wc.o, eC_s, e1, cI_s, md.1.rd (z := (1 : Int32)) (i := 1) (j := j) (by omega) hN rfl, eI_s, md.1.rd (z := (2 : Int32)) (i := 2) (j := j) (by omega) hN rfl, eI_s]
  exact e9
theorem br_1071 (hJ : JL B a0 N g V Q s x u k1 k2) (hj : j + 4 < N) (hN : N < 2 ^ 31) (hu : u + 18 < 2 ^ 24) : JN B a0 N g V Q x u k1 k2 j (jR B 1071 a0 x (nI j) s) := by
  obtain ⟨nb, sb, vb, C, n, D, l, F, T, W, v, G, f, σ, τ, w⟩ := hJ
  have wc := w.2.1
  have hp := w.pk
  have hb := w.ib
  obtain ⟨s3, f3, e1, cw, S3, P3, T3, k0⟩ := wo_CO wc w.ar (Nat.le_refl _) (c_writes wc (key := (g (j + 1)))) (fun s' => x_writes_0 (a0 := x) (x1 := (g (j + 1))) (a2 := (x + 504)) s')
  have md := w.mid cw
  obtain ⟨s9, e9, q9⟩ := lm_fin (B := B) (G := jR B 23 a0 x (nI j + 5)) (Z := jZ) (t := x + 504) (mo_cls md.2.1) (m_writes md.2 (key := (g (j + 1)))) (if_int (fun _ => rfl)) T3 k0 (by omega) (fun y s => (dc_L_law_1124 a0 x (x + 492) (x + 504) (nI j) _ (.int y) s).trans (dc_L_law_3221 a0 x (x + 492) (x + 504) (nI j) s))
  refine ⟨s9, ?_, w.go cw S3 P3 T3 q9 (hp.if1 (fun hk => hp.id)) hu⟩
  unfold jR
  rw [dc_L_law_1071, w.1.rd (z := (1 : Int32)) (i := 1) (j := j) (by omega) hN rfl, eI_s, in_L_writes, dc_L_writes_0, cls_o wc.o, eC_s, e1, cI_s, md.1.rd (z := (1 : Int32)) (i := 1) (j := j) (by omega) hN rfl, eI_s]
  exact e9
theorem br_1127 (hJ : JL B a0 N g V Q s x u k1 k2) (hj : j + 4 < N) (hN : N < 2 ^ 31) (hu : u + 18 < 2 ^ 24) : JN B a0 N g V Q x u k1 k2 j (jR B 1127 a0 x (nI j) s) := by
  obtain ⟨nb, sb, vb, C, n, D, l, F, T, W, v, G, f, σ, τ, w⟩ := hJ
  have wc := w.2.1
  have hp := w.pk
  have hb := w.ib
  obtain ⟨s3, e1, r2, S3, P3⟩ := (c_busiest wc).1 rfl
  have cw : CW s s3 x nb (x + 504) := cw_fr r2
  have md := w.mid cw
  obtain ⟨s9, e9, q9⟩ := lm_dir (G := jR B 23 a0 x (nI j + 5)) (Z := jZ) (G1 := fun _ s => jR B 3221 a0 x (nI j) s) (mo_cls md.2.1) (m_busiest md.2 (fun i hi => (wc.a.ik.2.2.1 i hi).1)) (fun s => dc_L_law_3221 a0 x (x + 492) (x + 504) (nI j) s)
  refine ⟨s9, ?_, w.go cw S3 P3 (w.t1 r2) q9 (hp.id) hu⟩
  unfold jR
  rw [dc_L_law_1127, cls_o wc.o, eC_s, e1, cI_s]
  exact e9
theorem br_1181 (hJ : JL B a0 N g V Q s x u k1 k2) (hj : j + 4 < N) (hN : N < 2 ^ 31) (hu : u + 18 < 2 ^ 24) : JN B a0 N g V Q x u k1 k2 j (jR B 1181 a0 x (nI j) s) := by
  obtain ⟨nb, sb, vb, C, n, D, l, F, T, W, v, G, f, σ, τ, w⟩ := hJ
  have wc := w.2.1
  have hp := w.pk
  have hb := w.ib
  obtain ⟨s3, f3, e1, cw, S3, P3, T3, k0⟩ := wo_CO wc w.ar (Nat.le_refl _) (c_leader wc (f := (g (j + 1))) (t := (g (j + 2)))) (fun s' => x_leader_0 (a0 := x) (x1 := (g (j + 1))) (x2 := (g (j + 2))) (a3 := (x + 504)) s')
  have md := w.mid cw
  obtain ⟨s9, e9, q9⟩ := lm_fin (B := B) (G := jR B 23 a0 x (nI j + 5)) (Z := jZ) (t := x + 504) (mo_cls md.2.1) (m_leader md.2 (f := (g (j + 1))) (t := (g (j + 2))) wc.a.ik.isS) (if_int (fun _ => rfl)) T3 k0 (by omega) (fun y s => (dc_L_law_1246 a0 x (x + 492) (x + 504) (nI j) _ (.int y) s).trans (dc_L_law_3221 a0 x (x + 492) (x + 504) (nI j) s))
  refine ⟨s9, ?_, w.go cw S3 P3 T3 q9 (hp.if1 (fun hk => hp.id)) hu⟩
  unfold jR
  rw [dc_L_law_1181, w.1.rd (z := (1 : Int32)) (i := 1) (j := j) (by omega) hN rfl, eI_s, w.1.rd (z := (2 : Int32)) (i := 2) (j := j) (by omega) hN rfl, eI_s, in_L_leader, dc_L_leader_0, cls_o wc.o, eC_s, e1, cI_s, md.1.rd (z := (1 : Int32)) (i := 1) (j := j) (by omega) hN rfl, eI_s, md.1.rd (z := (2 : Int32)) (i := 2) (j := j) (by omega) hN rfl, eI_s]
  exact e9
theorem br_1249 (hJ : JL B a0 N g V Q s x u k1 k2) (hj : j + 4 < N) (hN : N < 2 ^ 31) (hu : u + 18 < 2 ^ 24) : JN B a0 N g V Q x u k1 k2 j (jR B 1249 a0 x (nI j) s) := by
  obtain ⟨nb, sb, vb, C, n, D, l, F, T, W, v, G, f, σ, τ, w⟩ := hJ
  have wc := w.2.1
  have hp := w.pk
  have hb := w.ib
  obtain ⟨s3, f3, e1, cw, S3, P3, T3, k0⟩ := wo_CO wc w.ar (Nat.le_refl _) (c_ahead wc (key := (g (j + 1))) (f := (g (j + 2))) (t := (g (j + 3)))) (fun s' => x_ahead_0 (a0 := x) (x1 := (g (j + 1))) (x2 := (g (j + 2))) (x3 := (g (j + 3))) (a4 := (x + 504)) s')
  have md := w.mid cw
  obtain ⟨s9, e9, q9⟩ := lm_fin (B := B) (G := jR B 23 a0 x (nI j + 5)) (Z := jZ) (t := x + 504) (mo_cls md.2.1) (m_ahead md.2 (key := (g (j + 1))) (f := (g (j + 2))) (t := (g (j + 3))) wc.a.ik.isS) (if_int (fun _ => rfl)) T3 k0 (by omega) (fun y s => (dc_L_law_1326 a0 x (x + 492) (x + 504) (nI j) _ (.int y) s).trans (dc_L_law_3221 a0 x (x + 492) (x + 504) (nI j) s))
  refine ⟨s9, ?_, w.go cw S3 P3 T3 q9 (hp.if1 (fun hk => hp.id)) hu⟩
  unfold jR
  rw [dc_L_law_1249, w.1.rd (z := (1 : Int32)) (i := 1) (j := j) (by omega) hN rfl, eI_s, w.1.rd (z := (2 : Int32)) (i := 2) (j := j) (by omega) hN rfl, eI_s, w.1.rd (z := (3 : Int32)) (i := 3) (j := j) (by omega) hN rfl, eI_s, in_L_ahead, dc_L_ahead_0, cls_o wc.o, eC_s, e1, cI_s, md.1.rd (z := (1 : Int32)) (i := 1) (j := j) (by omega) hN rfl, eI_s, md.1.rd (z := (2 : Int32)) (i := 2) (j := j) (by omega) hN rfl, eI_s, md.1.rd (z := (3 : Int32)) (i := 3) (j := j) (by omega) hN rfl, eI_s]
  exact e9
theorem br_1329 (hJ : JL B a0 N g V Q s x u k1 k2) (hj : j + 4 < N) (hN : N < 2 ^ 31) (hu : u + 18 < 2 ^ 24) : JN B a0 N g V Q x u k1 k2 j (jR B 1329 a0 x (nI j) s) := by
  obtain ⟨nb, sb, vb, C, n, D, l, F, T, W, v, G, f, σ, τ, w⟩ := hJ
  have wc := w.2.1
  have hp := w.pk
  have hb := w.ib
  obtain ⟨s3, f3, e1, cw, S3, P3, T3, k0⟩ := wo_CO wc w.ar (Nat.le_refl _) (c_place wc (key := (g (j + 1))) (f := (g (j + 2))) (t := (g (j + 3)))) (fun s' => x_place_0 (a0 := x) (x1 := (g (j + 1))) (x2 := (g (j + 2))) (x3 := (g (j + 3))) (a4 := (x + 504)) s')
  have md := w.mid cw
  obtain ⟨s9, e9, q9⟩ := lm_fin (B := B) (G := jR B 23 a0 x (nI j + 5)) (Z := jZ) (t := x + 504) (mo_cls md.2.1) (m_place md.2 (key := (g (j + 1))) (f := (g (j + 2))) (t := (g (j + 3))) wc.a.ik.isS) (if_int (fun _ => rfl)) T3 k0 (by omega) (fun y s => (dc_L_law_1406 a0 x (x + 492) (x + 504) (nI j) _ (.int y) s).trans (dc_L_law_3221 a0 x (x + 492) (x + 504) (nI j) s))
  refine ⟨s9, ?_, w.go cw S3 P3 T3 q9 (hp.if1 (fun hk => hp.id)) hu⟩
  unfold jR
  rw [dc_L_law_1329, w.1.rd (z := (1 : Int32)) (i := 1) (j := j) (by omega) hN rfl, eI_s, w.1.rd (z := (2 : Int32)) (i := 2) (j := j) (by omega) hN rfl, eI_s, w.1.rd (z := (3 : Int32)) (i := 3) (j := j) (by omega) hN rfl, eI_s, in_L_place, dc_L_place_0, cls_o wc.o, eC_s, e1, cI_s, md.1.rd (z := (1 : Int32)) (i := 1) (j := j) (by omega) hN rfl, eI_s, md.1.rd (z := (2 : Int32)) (i := 2) (j := j) (by omega) hN rfl, eI_s, md.1.rd (z := (3 : Int32)) (i := 3) (j := j) (by omega) hN rfl, eI_s]
  exact e9
theorem br_1409 (hJ : JL B a0 N g V Q s x u k1 k2) (hj : j + 4 < N) (hN : N < 2 ^ 31) (hu : u + 18 < 2 ^ 24) : JN B a0 N g V Q x u k1 k2 j (jR B 1409 a0 x (nI j) s) := by
  obtain ⟨nb, sb, vb, C, n, D, l, F, T, W, v, G, f, σ, τ, w⟩ := hJ
  have wc := w.2.1
  have hp := w.pk
  have hb := w.ib
  obtain ⟨s3, f3, e1, cw, S3, P3, T3, k0⟩ := wo_CO wc w.ar (Nat.le_refl _) (c_put wc (key := (g (j + 1))) (v := (g (j + 2))) (l := (g (j + 3)))) (fun s' => x_put_0 (a0 := x) (x1 := (g (j + 1))) (x2 := (g (j + 2))) (x3 := (g (j + 3))) (a4 := (x + 504)) s')
  have md := w.mid cw
  obtain ⟨s9, e9, q9⟩ := lm_fin (B := B) (G := jR B 23 a0 x (nI j + 5)) (Z := jZ) (t := x + 504) (mo_cls md.2.1) (m_put md.2 (key := (g (j + 1))) (val := (g (j + 2))) (l := (g (j + 3))) wc.a (by omega)) (if_int (fun _ => rfl)) T3 k0 (by omega) (fun y s => (dc_L_law_1486 a0 x (x + 492) (x + 504) (nI j) _ (.int y) s).trans (dc_L_law_3221 a0 x (x + 492) (x + 504) (nI j) s))
  refine ⟨s9, ?_, w.go cw S3 P3 T3 q9 (hp.if1 (fun hk => pk_put hp (by omega) hk)) hu⟩
  unfold jR
  rw [dc_L_law_1409, w.1.rd (z := (1 : Int32)) (i := 1) (j := j) (by omega) hN rfl, eI_s, w.1.rd (z := (2 : Int32)) (i := 2) (j := j) (by omega) hN rfl, eI_s, w.1.rd (z := (3 : Int32)) (i := 3) (j := j) (by omega) hN rfl, eI_s, in_L_put, dc_L_put_0, cls_o wc.o, eC_s, e1, cI_s, md.1.rd (z := (1 : Int32)) (i := 1) (j := j) (by omega) hN rfl, eI_s, md.1.rd (z := (2 : Int32)) (i := 2) (j := j) (by omega) hN rfl, eI_s, md.1.rd (z := (3 : Int32)) (i := 3) (j := j) (by omega) hN rfl, eI_s]
  exact e9
theorem br_1489 (hJ : JL B a0 N g V Q s x u k1 k2) (hj : j + 4 < N) (hN : N < 2 ^ 31) (hu : u + 18 < 2 ^ 24) : JN B a0 N g V Q x u k1 k2 j (jR B 1489 a0 x (nI j) s) := by
  obtain ⟨nb, sb, vb, C, n, D, l, F, T, W, v, G, f, σ, τ, w⟩ := hJ
  have wc := w.2.1
  have hp := w.pk
  have hb := w.ib
  obtain ⟨s3, f3, e1, cw, S3, P3, T3, k0⟩ := wo_CO wc w.ar (Nat.le_refl _) (c_delete wc (f := (g (j + 1))) (t := (g (j + 2)))) (fun s' => x_delete_0 (a0 := x) (x1 := (g (j + 1))) (x2 := (g (j + 2))) (a3 := (x + 504)) s')
  have md := w.mid cw
  obtain ⟨s9, e9, q9⟩ := lm_fin (B := B) (G := jR B 23 a0 x (nI j + 5)) (Z := jZ) (t := x + 504) (mo_cls md.2.1) (m_delete md.2 (f := (g (j + 1))) (t := (g (j + 2))) wc.a (by omega)) (if_int (fun _ => rfl)) T3 k0 (by omega) (fun y s => (dc_L_law_1554 a0 x (x + 492) (x + 504) (nI j) _ (.int y) s).trans (dc_L_law_3221 a0 x (x + 492) (x + 504) (nI j) s))
  refine ⟨s9, ?_, w.go cw S3 P3 T3 q9 (hp.if1 (fun hk => pk_del hp (by omega))) hu⟩
  unfold jR
  rw [dc_L_law_1489, w.1.rd (z := (1 : Int32)) (i := 1) (j := j) (by omega) hN rfl, eI_s, w.1.rd (z := (2 : Int32)) (i := 2) (j := j) (by omega) hN rfl, eI_s, in_L_delete, dc_L_delete_0, cls_o wc.o, eC_s, e1, cI_s, md.1.rd (z := (1 : Int32)) (i := 1) (j := j) (by omega) hN rfl, eI_s, md.1.rd (z := (2 : Int32)) (i := 2) (j := j) (by omega) hN rfl, eI_s]
  exact e9
theorem br_1557 (hJ : JL B a0 N g V Q s x u k1 k2) (hj : j + 4 < N) (hN : N < 2 ^ 31) (hu : u + 18 < 2 ^ 24) : JN B a0 N g V Q x u k1 k2 j (jR B 1557 a0 x (nI j) s) := by
  obtain ⟨nb, sb, vb, C, n, D, l, F, T, W, v, G, f, σ, τ, w⟩ := hJ
  have wc := w.2.1
  have hp := w.pk
  have hb := w.ib
  obtain ⟨s3, f3, e1, cw, S3, P3, T3, k0⟩ := wo_CO wc w.ar (Nat.le_refl _) (c_compact wc (y := (g (j + 1)))) (fun s' => x_compact_0 (a0 := x) (x1 := (g (j + 1))) (a2 := (x + 504)) s')
  have md := w.mid cw
  obtain ⟨s9, e9, q9⟩ := lm_fin (B := B) (G := jR B 23 a0 x (nI j + 5)) (Z := jZ) (t := x + 504) (mo_cls md.2.1) (m_compact md.2 (y := (g (j + 1))) wc.a (by omega)) (if_int (fun _ => rfl)) T3 k0 (by omega) (fun y s => (dc_L_law_1610 a0 x (x + 492) (x + 504) (nI j) _ (.int y) s).trans (dc_L_law_3221 a0 x (x + 492) (x + 504) (nI j) s))
  refine ⟨s9, ?_, w.go cw S3 P3 T3 q9 (hp.if1 (fun hk => pk_compact hp hk)) hu⟩
  unfold jR
  rw [dc_L_law_1557, w.1.rd (z := (1 : Int32)) (i := 1) (j := j) (by omega) hN rfl, eI_s, in_L_compact, dc_L_compact_0, cls_o wc.o, eC_s, e1, cI_s, md.1.rd (z := (1 : Int32)) (i := 1) (j := j) (by omega) hN rfl, eI_s]
  exact e9
theorem br_1613 (hJ : JL B a0 N g V Q s x u k1 k2) (hj : j + 4 < N) (hN : N < 2 ^ 31) (hu : u + 18 < 2 ^ 24) : JN B a0 N g V Q x u k1 k2 j (jR B 1613 a0 x (nI j) s) := by
  obtain ⟨nb, sb, vb, C, n, D, l, F, T, W, v, G, f, σ, τ, w⟩ := hJ
  have wc := w.2.1
  have hp := w.pk
  have hb := w.ib
  obtain ⟨s3, f3, e1, cw, S3, P3, T3, k0⟩ := wo_CO wc w.ar (Nat.le_refl _) (c_revert wc (y := (g (j + 1)))) (fun s' => x_revert_0 (a0 := x) (x1 := (g (j + 1))) (a2 := (x + 504)) s')
  have md := w.mid cw
  obtain ⟨s9, e9, q9⟩ := lm_fin (B := B) (G := jR B 23 a0 x (nI j + 5)) (Z := jZ) (t := x + 504) (mo_cls md.2.1) (m_revert md.2 (y := (g (j + 1))) wc.a (by omega)) (if_int (fun _ => rfl)) T3 k0 (by omega) (fun y s => (dc_L_law_1666 a0 x (x + 492) (x + 504) (nI j) _ (.int y) s).trans (dc_L_law_3221 a0 x (x + 492) (x + 504) (nI j) s))
  refine ⟨s9, ?_, w.go cw S3 P3 T3 q9 (hp.if1 (fun hk => pk_revert hp (by omega))) hu⟩
  unfold jR
  rw [dc_L_law_1613, w.1.rd (z := (1 : Int32)) (i := 1) (j := j) (by omega) hN rfl, eI_s, in_L_revert, dc_L_revert_0, cls_o wc.o, eC_s, e1, cI_s, md.1.rd (z := (1 : Int32)) (i := 1) (j := j) (by omega) hN rfl, eI_s]
  exact e9
theorem br_1669 (hJ : JL B a0 N g V Q s x u k1 k2) (hj : j + 4 < N) (hN : N < 2 ^ 31) (hu : u + 18 < 2 ^ 24) : JN B a0 N g V Q x u k1 k2 j (jR B 1669 a0 x (nI j) s) := by
  obtain ⟨nb, sb, vb, C, n, D, l, F, T, W, v, G, f, σ, τ, w⟩ := hJ
  have wc := w.2.1
  have hp := w.pk
  have hb := w.ib
  obtain ⟨s3, f3, e1, cw, S3, P3, T3, k0⟩ := wo_CO wc w.ar (Nat.le_refl _) (c_attach wc (key := (g (j + 1))) (l := (g (j + 2)))) (fun s' => x_attach_0 (a0 := x) (x1 := (g (j + 1))) (x2 := (g (j + 2))) (a3 := (x + 504)) s')
  have md := w.mid cw
  obtain ⟨s9, e9, q9⟩ := lm_fin (B := B) (G := jR B 23 a0 x (nI j + 5)) (Z := jZ) (t := x + 504) (mo_cls md.2.1) (m_attach md.2 (key := (g (j + 1))) (l := (g (j + 2))) wc.a) (if_int (fun _ => rfl)) T3 k0 (by omega) (fun y s => (dc_L_law_1734 a0 x (x + 492) (x + 504) (nI j) _ (.int y) s).trans (dc_L_law_3221 a0 x (x + 492) (x + 504) (nI j) s))
  refine ⟨s9, ?_, w.go cw S3 P3 T3 q9 (hp.if1 (fun hk => pk_attach hp hk)) hu⟩
  unfold jR
  rw [dc_L_law_1669, w.1.rd (z := (1 : Int32)) (i := 1) (j := j) (by omega) hN rfl, eI_s, w.1.rd (z := (2 : Int32)) (i := 2) (j := j) (by omega) hN rfl, eI_s, in_L_attach, dc_L_attach_0, cls_o wc.o, eC_s, e1, cI_s, md.1.rd (z := (1 : Int32)) (i := 1) (j := j) (by omega) hN rfl, eI_s, md.1.rd (z := (2 : Int32)) (i := 2) (j := j) (by omega) hN rfl, eI_s]
  exact e9
theorem br_1737 (hJ : JL B a0 N g V Q s x u k1 k2) (hj : j + 4 < N) (hN : N < 2 ^ 31) (hu : u + 18 < 2 ^ 24) : JN B a0 N g V Q x u k1 k2 j (jR B 1737 a0 x (nI j) s) := by
  obtain ⟨nb, sb, vb, C, n, D, l, F, T, W, v, G, f, σ, τ, w⟩ := hJ
  have wc := w.2.1
  have hp := w.pk
  have hb := w.ib
  obtain ⟨s3, f3, e1, cw, S3, P3, T3, k0⟩ := wo_CO wc w.ar (Nat.le_refl _) (c_watch wc (f := (g (j + 1))) (t := (g (j + 2))) (y := (g (j + 3))) (z := (g (j + 4)))) (fun s' => x_watch_0 (a0 := x) (x1 := (g (j + 1))) (x2 := (g (j + 2))) (x3 := (g (j + 3))) (x4 := (g (j + 4))) (a5 := (x + 504)) s')
  have md := w.mid cw
  obtain ⟨s9, e9, q9⟩ := lm_fin (B := B) (G := jR B 23 a0 x (nI j + 5)) (Z := jZ) (t := x + 504) (mo_cls md.2.1) (m_watch md.2 (f := (g (j + 1))) (t := (g (j + 2))) (y := (g (j + 3))) (z := (g (j + 4))) (by omega)) (if_int (fun _ => rfl)) T3 k0 (by omega) (fun y s => (dc_L_law_1826 a0 x (x + 492) (x + 504) (nI j) _ (.int y) s).trans (dc_L_law_3221 a0 x (x + 492) (x + 504) (nI j) s))
  refine ⟨s9, ?_, w.go cw S3 P3 T3 q9 (hp.if1 (fun hk => pk_watch hp)) hu⟩
  unfold jR
  rw [dc_L_law_1737, w.1.rd (z := (1 : Int32)) (i := 1) (j := j) (by omega) hN rfl, eI_s, w.1.rd (z := (2 : Int32)) (i := 2) (j := j) (by omega) hN rfl, eI_s, w.1.rd (z := (3 : Int32)) (i := 3) (j := j) (by omega) hN rfl, eI_s, w.1.rd (z := (4 : Int32)) (i := 4) (j := j) (by omega) hN rfl, eI_s, in_L_watch, dc_L_watch_0, cls_o wc.o, eC_s, e1, cI_s, md.1.rd (z := (1 : Int32)) (i := 1) (j := j) (by omega) hN rfl, eI_s, md.1.rd (z := (2 : Int32)) (i := 2) (j := j) (by omega) hN rfl, eI_s, md.1.rd (z := (3 : Int32)) (i := 3) (j := j) (by omega) hN rfl, eI_s, md.1.rd (z := (4 : Int32)) (i := 4) (j := j) (by omega) hN rfl, eI_s]
  exact e9
theorem br_1829 (hJ : JL B a0 N g V Q s x u k1 k2) (hj : j + 4 < N) (hN : N < 2 ^ 31) (hu : u + 18 < 2 ^ 24) : JN B a0 N g V Q x u k1 k2 j (jR B 1829 a0 x (nI j) s) := by
  obtain ⟨nb, sb, vb, C, n, D, l, F, T, W, v, G, f, σ, τ, w⟩ := hJ
  have wc := w.2.1
  have hp := w.pk
  have hb := w.ib
  obtain ⟨s3, f3, e1, cw, S3, P3, T3, k0⟩ := wo_CO2 wc w.ar (Nat.le_refl _) (c_watchValue wc (y := (g (j + 1))) (z := (g (j + 2)))) (fun s' => x_watchValue_1 (a0 := x) (x1 := (g (j + 1))) (x2 := (g (j + 2))) (a3 := (x + 504)) s') (Or.inr (fun s' => x_watchValue_0 (a0 := x) (x1 := (g (j + 1))) (x2 := (g (j + 2))) (a3 := (x + 504)) s'))
  have md := w.mid cw
  obtain ⟨s9, e9, q9⟩ := lm_fin (B := B) (G := jR B 23 a0 x (nI j + 5)) (Z := jZ) (t := x + 504) (mo_cls md.2.1) (m_watchValue md.2 (y := (g (j + 1))) (z := (g (j + 2))) wc.tt) (if_int2 rfl) T3 k0 (by omega) (fun y s => (dc_L_law_1894 a0 x (x + 492) (x + 504) (nI j) _ (.int y) s).trans (dc_L_law_3221 a0 x (x + 492) (x + 504) (nI j) s))
  refine ⟨s9, ?_, w.go cw S3 P3 T3 q9 (hp.if2 (fun _ _ => hp.id)) hu⟩
  unfold jR
  rw [dc_L_law_1829, w.1.rd (z := (1 : Int32)) (i := 1) (j := j) (by omega) hN rfl, eI_s, w.1.rd (z := (2 : Int32)) (i := 2) (j := j) (by omega) hN rfl, eI_s, in_L_watchValue, dc_L_watchValue_0, cls_o wc.o, eC_s, e1, cI_s, md.1.rd (z := (1 : Int32)) (i := 1) (j := j) (by omega) hN rfl, eI_s, md.1.rd (z := (2 : Int32)) (i := 2) (j := j) (by omega) hN rfl, eI_s]
  exact e9
theorem br_1897 (hJ : JL B a0 N g V Q s x u k1 k2) (hj : j + 4 < N) (hN : N < 2 ^ 31) (hu : u + 18 < 2 ^ 24) : JN B a0 N g V Q x u k1 k2 j (jR B 1897 a0 x (nI j) s) := by
  obtain ⟨nb, sb, vb, C, n, D, l, F, T, W, v, G, f, σ, τ, w⟩ := hJ
  have wc := w.2.1
  have hp := w.pk
  have hb := w.ib
  obtain ⟨s3, f3, e1, cw, S3, P3, T3, k0⟩ := wo_CO2t wc w.ar (Nat.le_refl _) (c_take wc (y := (g (j + 1)))) (fun s' => x_take_1 (a0 := x) (x1 := (g (j + 1))) (a2 := (x + 504)) s')
  have md := w.mid cw
  obtain ⟨s9, e9, q9⟩ := lm_fin (B := B) (G := jR B 23 a0 x (nI j + 5)) (Z := jZ) (t := x + 504) (mo_cls md.2.1) (m_take md.2 (y := (g (j + 1))) wc.tt) (if_int (fun _ => rfl)) T3 k0 (by omega) (fun y s => (dc_L_law_1950 a0 x (x + 492) (x + 504) (nI j) _ (.int y) s).trans (dc_L_law_3221 a0 x (x + 492) (x + 504) (nI j) s))
  refine ⟨s9, ?_, w.go cw S3 P3 T3 q9 (hp.if1 (fun _ => pk_take hp)) hu⟩
  unfold jR
  rw [dc_L_law_1897, w.1.rd (z := (1 : Int32)) (i := 1) (j := j) (by omega) hN rfl, eI_s, in_L_take, dc_L_take_0, cls_o wc.o, eC_s, e1, cI_s, md.1.rd (z := (1 : Int32)) (i := 1) (j := j) (by omega) hN rfl, eI_s]
  exact e9
theorem br_1953 (hJ : JL B a0 N g V Q s x u k1 k2) (hj : j + 4 < N) (hN : N < 2 ^ 31) (hu : u + 18 < 2 ^ 24) : JN B a0 N g V Q x u k1 k2 j (jR B 1953 a0 x (nI j) s) := by
  obtain ⟨nb, sb, vb, C, n, D, l, F, T, W, v, G, f, σ, τ, w⟩ := hJ
  have wc := w.2.1
  have hp := w.pk
  have hb := w.ib
  obtain ⟨s3, f3, e1, cw, S3, P3, T3, k0⟩ := wo_CO2 wc w.ar (Nat.le_refl _) (c_taken wc (y := (g (j + 1))) (z := (g (j + 2)))) (fun s' => x_taken_1 (a0 := x) (x1 := (g (j + 1))) (x2 := (g (j + 2))) (a3 := (x + 504)) s') (Or.inr (fun s' => x_taken_0 (a0 := x) (x1 := (g (j + 1))) (x2 := (g (j + 2))) (a3 := (x + 504)) s'))
  have md := w.mid cw
  obtain ⟨s9, e9, q9⟩ := lm_fin (B := B) (G := jR B 23 a0 x (nI j + 5)) (Z := jZ) (t := x + 504) (mo_cls md.2.1) (m_taken md.2 (y := (g (j + 1))) (z := (g (j + 2)))) (if_int2 rfl) T3 k0 (by omega) (fun y s => (dc_L_law_2018 a0 x (x + 492) (x + 504) (nI j) _ (.int y) s).trans (dc_L_law_3221 a0 x (x + 492) (x + 504) (nI j) s))
  refine ⟨s9, ?_, w.go cw S3 P3 T3 q9 (hp.if2 (fun _ _ => hp.id)) hu⟩
  unfold jR
  rw [dc_L_law_1953, w.1.rd (z := (1 : Int32)) (i := 1) (j := j) (by omega) hN rfl, eI_s, w.1.rd (z := (2 : Int32)) (i := 2) (j := j) (by omega) hN rfl, eI_s, in_L_taken, dc_L_taken_0, cls_o wc.o, eC_s, e1, cI_s, md.1.rd (z := (1 : Int32)) (i := 1) (j := j) (by omega) hN rfl, eI_s, md.1.rd (z := (2 : Int32)) (i := 2) (j := j) (by omega) hN rfl, eI_s]
  exact e9
theorem br_2021 (hJ : JL B a0 N g V Q s x u k1 k2) (hj : j + 4 < N) (hN : N < 2 ^ 31) (hu : u + 18 < 2 ^ 24) : JN B a0 N g V Q x u k1 k2 j (jR B 2021 a0 x (nI j) s) := by
  obtain ⟨nb, sb, vb, C, n, D, l, F, T, W, v, G, f, σ, τ, w⟩ := hJ
  have wc := w.2.1
  have hp := w.pk
  have hb := w.ib
  obtain ⟨s3, f3, e1, cw, S3, P3, T3, k0⟩ := wo_CO2t wc w.ar (Nat.le_refl _) (c_admit wc (y := (g (j + 1)))) (fun s' => x_admit_1 (a0 := x) (x1 := (g (j + 1))) (a2 := (x + 504)) s')
  have md := w.mid cw
  obtain ⟨s9, e9, q9⟩ := lm_fin (B := B) (G := jR B 23 a0 x (nI j + 5)) (Z := jZ) (t := x + 504) (mo_cls md.2.1) (m_admit md.2 (y := (g (j + 1)))) (if_int (fun _ => rfl)) T3 k0 (by omega) (fun y s => (dc_L_law_2074 a0 x (x + 492) (x + 504) (nI j) _ (.int y) s).trans (dc_L_law_3221 a0 x (x + 492) (x + 504) (nI j) s))
  refine ⟨s9, ?_, w.go cw S3 P3 T3 q9 (hp.if1 (fun _ => pk_adm hp)) hu⟩
  unfold jR
  rw [dc_L_law_2021, w.1.rd (z := (1 : Int32)) (i := 1) (j := j) (by omega) hN rfl, eI_s, in_L_admit, dc_L_admit_0, cls_o wc.o, eC_s, e1, cI_s, md.1.rd (z := (1 : Int32)) (i := 1) (j := j) (by omega) hN rfl, eI_s]
  exact e9
theorem br_2077 (hJ : JL B a0 N g V Q s x u k1 k2) (hj : j + 4 < N) (hN : N < 2 ^ 31) (hu : u + 18 < 2 ^ 24) : JN B a0 N g V Q x u k1 k2 j (jR B 2077 a0 x (nI j) s) := by
  obtain ⟨nb, sb, vb, C, n, D, l, F, T, W, v, G, f, σ, τ, w⟩ := hJ
  have wc := w.2.1
  have hp := w.pk
  have hb := w.ib
  obtain ⟨s3, f3, e1, cw, S3, P3, T3, k0⟩ := wo_CO2 wc w.ar (Nat.le_refl _) (c_rewatch wc (y := (g (j + 1))) (z := (g (j + 2)))) (fun s' => x_rewatch_1 (a0 := x) (x1 := (g (j + 1))) (x2 := (g (j + 2))) (a3 := (x + 504)) s') (Or.inr (fun s' => x_rewatch_0 (a0 := x) (x1 := (g (j + 1))) (x2 := (g (j + 2))) (a3 := (x + 504)) s'))
  have md := w.mid cw
  obtain ⟨s9, e9, q9⟩ := lm_fin (B := B) (G := jR B 23 a0 x (nI j + 5)) (Z := jZ) (t := x + 504) (mo_cls md.2.1) (m_rewatch md.2 (y := (g (j + 1))) (z := (g (j + 2))) wc.tt (by omega)) (if_int2 rfl) T3 k0 (by omega) (fun y s => (dc_L_law_2142 a0 x (x + 492) (x + 504) (nI j) _ (.int y) s).trans (dc_L_law_3221 a0 x (x + 492) (x + 504) (nI j) s))
  refine ⟨s9, ?_, w.go cw S3 P3 T3 q9 (hp.if2 (fun _ _ => pk_rew hp)) hu⟩
  unfold jR
  rw [dc_L_law_2077, w.1.rd (z := (1 : Int32)) (i := 1) (j := j) (by omega) hN rfl, eI_s, w.1.rd (z := (2 : Int32)) (i := 2) (j := j) (by omega) hN rfl, eI_s, in_L_rewatch, dc_L_rewatch_0, cls_o wc.o, eC_s, e1, cI_s, md.1.rd (z := (1 : Int32)) (i := 1) (j := j) (by omega) hN rfl, eI_s, md.1.rd (z := (2 : Int32)) (i := 2) (j := j) (by omega) hN rfl, eI_s]
  exact e9
theorem br_2145 (hJ : JL B a0 N g V Q s x u k1 k2) (hj : j + 4 < N) (hN : N < 2 ^ 31) (hu : u + 18 < 2 ^ 24) : JN B a0 N g V Q x u k1 k2 j (jR B 2145 a0 x (nI j) s) := by
  obtain ⟨nb, sb, vb, C, n, D, l, F, T, W, v, G, f, σ, τ, w⟩ := hJ
  have wc := w.2.1
  have hp := w.pk
  have hb := w.ib
  obtain ⟨s3, f3, e1, cw, S3, P3, T3, k0⟩ := wo_CO2t wc w.ar (Nat.le_refl _) (c_unwatch wc (y := (g (j + 1)))) (fun s' => x_unwatch_1 (a0 := x) (x1 := (g (j + 1))) (a2 := (x + 504)) s')
  have md := w.mid cw
  obtain ⟨s9, e9, q9⟩ := lm_fin (B := B) (G := jR B 23 a0 x (nI j + 5)) (Z := jZ) (t := x + 504) (mo_cls md.2.1) (m_unwatch md.2 (y := (g (j + 1)))) (if_int (fun _ => rfl)) T3 k0 (by omega) (fun y s => (dc_L_law_2198 a0 x (x + 492) (x + 504) (nI j) _ (.int y) s).trans (dc_L_law_3221 a0 x (x + 492) (x + 504) (nI j) s))
  refine ⟨s9, ?_, w.go cw S3 P3 T3 q9 (hp.if1 (fun _ => pk_unw hp)) hu⟩
  unfold jR
  rw [dc_L_law_2145, w.1.rd (z := (1 : Int32)) (i := 1) (j := j) (by omega) hN rfl, eI_s, in_L_unwatch, dc_L_unwatch_0, cls_o wc.o, eC_s, e1, cI_s, md.1.rd (z := (1 : Int32)) (i := 1) (j := j) (by omega) hN rfl, eI_s]
  exact e9
theorem br_2201 (hJ : JL B a0 N g V Q s x u k1 k2) (hj : j + 4 < N) (hN : N < 2 ^ 31) (hu : u + 18 < 2 ^ 24) : JN B a0 N g V Q x u k1 k2 j (jR B 2201 a0 x (nI j) s) := by
  obtain ⟨nb, sb, vb, C, n, D, l, F, T, W, v, G, f, σ, τ, w⟩ := hJ
  have wc := w.2.1
  have hp := w.pk
  have hb := w.ib
  obtain ⟨s3, e1, r2, S3, P3⟩ := (c_safe wc).1 rfl
  have cw : CW s s3 x nb (x + 504) := cw_fr r2
  have md := w.mid cw
  obtain ⟨s9, e9, q9⟩ := lm_dir (G := jR B 23 a0 x (nI j + 5)) (Z := jZ) (G1 := fun _ s => jR B 3221 a0 x (nI j) s) (mo_cls md.2.1) (m_safe md.2 wc.tt wc.a.ik) (fun s => dc_L_law_3221 a0 x (x + 492) (x + 504) (nI j) s)
  refine ⟨s9, ?_, w.go cw S3 P3 (w.t1 r2) q9 (hp.id) hu⟩
  unfold jR
  rw [dc_L_law_2201, cls_o wc.o, eC_s, e1, cI_s]
  exact e9
theorem br_2214 (hJ : JL B a0 N g V Q s x u k1 k2) (hj : j + 4 < N) (hN : N < 2 ^ 31) (hu : u + 18 < 2 ^ 24) : JN B a0 N g V Q x u k1 k2 j (jR B 2214 a0 x (nI j) s) := by
  obtain ⟨nb, sb, vb, C, n, D, l, F, T, W, v, G, f, σ, τ, w⟩ := hJ
  have wc := w.2.1
  have hp := w.pk
  have hb := w.ib
  obtain ⟨s3, f3, e1, cw, S3, P3, T3, k0⟩ := wo_CO wc w.ar (Nat.le_refl _) (c_missing wc (y := (g (j + 1)))) (fun s' => x_missing_0 (a0 := x) (x1 := (g (j + 1))) (a2 := (x + 504)) s')
  have md := w.mid cw
  obtain ⟨s9, e9, q9⟩ := lm_fin (B := B) (G := jR B 23 a0 x (nI j + 5)) (Z := jZ) (t := x + 504) (mo_cls md.2.1) (m_missing md.2 (y := (g (j + 1))) wc.tt wc.a.ik) (if_int (fun _ => rfl)) T3 k0 (by omega) (fun y s => (dc_L_law_2267 a0 x (x + 492) (x + 504) (nI j) _ (.int y) s).trans (dc_L_law_3221 a0 x (x + 492) (x + 504) (nI j) s))
  refine ⟨s9, ?_, w.go cw S3 P3 T3 q9 (hp.if1 (fun hk => hp.id)) hu⟩
  unfold jR
  rw [dc_L_law_2214, w.1.rd (z := (1 : Int32)) (i := 1) (j := j) (by omega) hN rfl, eI_s, in_L_missing, dc_L_missing_0, cls_o wc.o, eC_s, e1, cI_s, md.1.rd (z := (1 : Int32)) (i := 1) (j := j) (by omega) hN rfl, eI_s]
  exact e9
theorem br_2270 (hJ : JL B a0 N g V Q s x u k1 k2) (hj : j + 4 < N) (hN : N < 2 ^ 31) (hu : u + 18 < 2 ^ 24) : JN B a0 N g V Q x u k1 k2 j (jR B 2270 a0 x (nI j) s) := by
  obtain ⟨nb, sb, vb, C, n, D, l, F, T, W, v, G, f, σ, τ, w⟩ := hJ
  have wc := w.2.1
  have hp := w.pk
  have hb := w.ib
  obtain ⟨s3, e1, r2, S3, P3⟩ := (c_slowest wc).1 rfl
  have cw : CW s s3 x nb (x + 504) := cw_fr r2
  have md := w.mid cw
  obtain ⟨s9, e9, q9⟩ := lm_dir (G := jR B 23 a0 x (nI j + 5)) (Z := jZ) (G1 := fun _ s => jR B 3221 a0 x (nI j) s) (mo_cls md.2.1) (m_slowest md.2 wc.tt) (fun s => dc_L_law_3221 a0 x (x + 492) (x + 504) (nI j) s)
  refine ⟨s9, ?_, w.go cw S3 P3 (w.t1 r2) q9 (hp.id) hu⟩
  unfold jR
  rw [dc_L_law_2270, cls_o wc.o, eC_s, e1, cI_s]
  exact e9
theorem br_2283 (hJ : JL B a0 N g V Q s x u k1 k2) (hj : j + 4 < N) (hN : N < 2 ^ 31) (hu : u + 18 < 2 ^ 24) : JN B a0 N g V Q x u k1 k2 j (jR B 2283 a0 x (nI j) s) := by
  obtain ⟨nb, sb, vb, C, n, D, l, F, T, W, v, G, f, σ, τ, w⟩ := hJ
  have wc := w.2.1
  have hp := w.pk
  have hb := w.ib
  obtain ⟨s3, f3, e1, cw, S3, P3, T3, k0⟩ := wo_CO2t wc w.ar (Nat.le_refl _) (c_behind wc (y := (g (j + 1)))) (fun s' => x_behind_1 (a0 := x) (x1 := (g (j + 1))) (a2 := (x + 504)) s')
  have md := w.mid cw
  obtain ⟨s9, e9, q9⟩ := lm_fin (B := B) (G := jR B 23 a0 x (nI j + 5)) (Z := jZ) (t := x + 504) (mo_cls md.2.1) (m_behind md.2 (y := (g (j + 1))) wc.tt wc.a.ik) (if_int (fun _ => rfl)) T3 k0 (by omega) (fun y s => (dc_L_law_2336 a0 x (x + 492) (x + 504) (nI j) _ (.int y) s).trans (dc_L_law_3221 a0 x (x + 492) (x + 504) (nI j) s))
  refine ⟨s9, ?_, w.go cw S3 P3 T3 q9 (hp.if1 (fun _ => hp.id)) hu⟩
  unfold jR
  rw [dc_L_law_2283, w.1.rd (z := (1 : Int32)) (i := 1) (j := j) (by omega) hN rfl, eI_s, in_L_behind, dc_L_behind_0, cls_o wc.o, eC_s, e1, cI_s, md.1.rd (z := (1 : Int32)) (i := 1) (j := j) (by omega) hN rfl, eI_s]
  exact e9
theorem br_2382 (hJ : JL B a0 N g V Q s x u k1 k2) (hj : j + 4 < N) (hN : N < 2 ^ 31) (hu : u + 18 < 2 ^ 24) : JN B a0 N g V Q x u k1 k2 j (jR B 2382 a0 x (nI j) s) := by
  obtain ⟨nb, sb, vb, C, n, D, l, F, T, W, v, G, f, σ, τ, w⟩ := hJ
  have wc := w.2.1
  have hp := w.pk
  have hb := w.ib
  obtain ⟨s3, f3, e1, cw, S3, P3, T3, k0⟩ := wo_CO wc w.ar (Nat.le_refl _) (c_grant wc (y := (g (j + 1)))) (fun s' => x_grant_0 (a0 := x) (x1 := (g (j + 1))) (a2 := (x + 504)) s')
  have md := w.mid cw
  obtain ⟨s9, e9, q9⟩ := lm_fin (B := B) (G := jR B 23 a0 x (nI j + 5)) (Z := jZ) (t := x + 504) (mo_cls md.2.1) (m_grant md.2 (y := (g (j + 1)))) (if_int (fun _ => rfl)) T3 k0 (by omega) (fun y s => (dc_L_law_2435 a0 x (x + 492) (x + 504) (nI j) _ (.int y) s).trans (dc_L_law_3221 a0 x (x + 492) (x + 504) (nI j) s))
  refine ⟨s9, ?_, w.go cw S3 P3 T3 q9 (hp.if1 (fun hk => pk_grant hp (by omega) hk)) hu⟩
  unfold jR
  rw [dc_L_law_2382, w.1.rd (z := (1 : Int32)) (i := 1) (j := j) (by omega) hN rfl, eI_s, in_L_grant, dc_L_grant_0, cls_o wc.o, eC_s, e1, cI_s, md.1.rd (z := (1 : Int32)) (i := 1) (j := j) (by omega) hN rfl, eI_s]
  exact e9
theorem br_2438 (hJ : JL B a0 N g V Q s x u k1 k2) (hj : j + 4 < N) (hN : N < 2 ^ 31) (hu : u + 18 < 2 ^ 24) : JN B a0 N g V Q x u k1 k2 j (jR B 2438 a0 x (nI j) s) := by
  obtain ⟨nb, sb, vb, C, n, D, l, F, T, W, v, G, f, σ, τ, w⟩ := hJ
  have wc := w.2.1
  have hp := w.pk
  have hb := w.ib
  obtain ⟨s3, f3, e1, cw, S3, P3, T3, k0⟩ := wo_CO wc w.ar (Nat.le_refl _) (c_lease wc (l := (g (j + 1))) (y := (g (j + 2)))) (fun s' => x_lease_0 (a0 := x) (x1 := (g (j + 1))) (x2 := (g (j + 2))) (a3 := (x + 504)) s')
  have md := w.mid cw
  obtain ⟨s9, e9, q9⟩ := lm_fin (B := B) (G := jR B 23 a0 x (nI j + 5)) (Z := jZ) (t := x + 504) (mo_cls md.2.1) (m_lease md.2 (l := (g (j + 1))) (y := (g (j + 2)))) (if_int (fun _ => rfl)) T3 k0 (by omega) (fun y s => (dc_L_law_2503 a0 x (x + 492) (x + 504) (nI j) _ (.int y) s).trans (dc_L_law_3221 a0 x (x + 492) (x + 504) (nI j) s))
  refine ⟨s9, ?_, w.go cw S3 P3 T3 q9 (hp.if1 (fun hk => hp.id)) hu⟩
  unfold jR
  rw [dc_L_law_2438, w.1.rd (z := (1 : Int32)) (i := 1) (j := j) (by omega) hN rfl, eI_s, w.1.rd (z := (2 : Int32)) (i := 2) (j := j) (by omega) hN rfl, eI_s, in_L_lease, dc_L_lease_0, cls_o wc.o, eC_s, e1, cI_s, md.1.rd (z := (1 : Int32)) (i := 1) (j := j) (by omega) hN rfl, eI_s, md.1.rd (z := (2 : Int32)) (i := 2) (j := j) (by omega) hN rfl, eI_s]
  exact e9
theorem br_2506 (hJ : JL B a0 N g V Q s x u k1 k2) (hj : j + 4 < N) (hN : N < 2 ^ 31) (hu : u + 18 < 2 ^ 24) : JN B a0 N g V Q x u k1 k2 j (jR B 2506 a0 x (nI j) s) := by
  obtain ⟨nb, sb, vb, C, n, D, l, F, T, W, v, G, f, σ, τ, w⟩ := hJ
  have wc := w.2.1
  have hp := w.pk
  have hb := w.ib
  obtain ⟨s3, e1, r2, S3, P3⟩ := (c_keepAlive wc (y := (g (j + 1)))).1 rfl
  have cw : CW s s3 x nb (x + 504) := cw_fr r2
  have md := w.mid cw
  obtain ⟨s9, e9, q9⟩ := lm_dir (G := jR B 23 a0 x (nI j + 5)) (Z := jZ) (G1 := fun _ s => jR B 3221 a0 x (nI j) s) (mo_cls md.2.1) (m_keepAlive md.2 (l := (g (j + 1)))) (fun s => dc_L_law_3221 a0 x (x + 492) (x + 504) (nI j) s)
  refine ⟨s9, ?_, w.go cw S3 P3 (w.t1 r2) q9 (pk_renew hp) hu⟩
  unfold jR
  rw [dc_L_law_2506, w.1.rd (z := (1 : Int32)) (i := 1) (j := j) (by omega) hN rfl, eI_s, cls_o wc.o, eC_s, e1, cI_s, md.1.rd (z := (1 : Int32)) (i := 1) (j := j) (by omega) hN rfl, eI_s]
  exact e9
theorem br_2531 (hJ : JL B a0 N g V Q s x u k1 k2) (hj : j + 4 < N) (hN : N < 2 ^ 31) (hu : u + 18 < 2 ^ 24) : JN B a0 N g V Q x u k1 k2 j (jR B 2531 a0 x (nI j) s) := by
  obtain ⟨nb, sb, vb, C, n, D, l, F, T, W, v, G, f, σ, τ, w⟩ := hJ
  have wc := w.2.1
  have hp := w.pk
  have hb := w.ib
  obtain ⟨s3, e1, r2, S3, P3⟩ := (c_revoke wc (y := (g (j + 1)))).1 rfl
  have cw : CW s s3 x nb (x + 504) := cw_fr r2
  have md := w.mid cw
  obtain ⟨s9, e9, q9⟩ := lm_dir (G := jR B 23 a0 x (nI j + 5)) (Z := jZ) (G1 := fun _ s => jR B 3221 a0 x (nI j) s) (mo_cls md.2.1) (m_revoke md.2 (l := (g (j + 1))) wc.a (by omega)) (fun s => dc_L_law_3221 a0 x (x + 492) (x + 504) (nI j) s)
  refine ⟨s9, ?_, w.go cw S3 P3 (w.t1 r2) q9 (pk_revoke hp (by omega)) hu⟩
  unfold jR
  rw [dc_L_law_2531, w.1.rd (z := (1 : Int32)) (i := 1) (j := j) (by omega) hN rfl, eI_s, cls_o wc.o, eC_s, e1, cI_s, md.1.rd (z := (1 : Int32)) (i := 1) (j := j) (by omega) hN rfl, eI_s]
  exact e9
theorem br_2556 (hJ : JL B a0 N g V Q s x u k1 k2) (hj : j + 4 < N) (hN : N < 2 ^ 31) (hu : u + 18 < 2 ^ 24) : JN B a0 N g V Q x u k1 k2 j (jR B 2556 a0 x (nI j) s) := by
  obtain ⟨nb, sb, vb, C, n, D, l, F, T, W, v, G, f, σ, τ, w⟩ := hJ
  have wc := w.2.1
  have hp := w.pk
  have hb := w.ib
  obtain ⟨s3, f3, e1, cw, S3, P3, T3, k0⟩ := wo_CO wc w.ar (Nat.le_refl _) (c_tick wc (y := (g (j + 1)))) (fun s' => x_tick_0 (a0 := x) (x1 := (g (j + 1))) (a2 := (x + 504)) s')
  have md := w.mid cw
  obtain ⟨s9, e9, q9⟩ := lm_fin (B := B) (G := jR B 23 a0 x (nI j + 5)) (Z := jZ) (t := x + 504) (mo_cls md.2.1) (m_tick md.2 (y := (g (j + 1))) wc.a wc.2.2.2.1 (by omega)) (if_int (fun _ => rfl)) T3 k0 (by omega) (fun y s => (dc_L_law_2609 a0 x (x + 492) (x + 504) (nI j) _ (.int y) s).trans (dc_L_law_3221 a0 x (x + 492) (x + 504) (nI j) s))
  refine ⟨s9, ?_, w.go cw S3 P3 T3 q9 (hp.if1 (fun hk => pk_tick hp (by omega) hk)) hu⟩
  unfold jR
  rw [dc_L_law_2556, w.1.rd (z := (1 : Int32)) (i := 1) (j := j) (by omega) hN rfl, eI_s, in_L_tick, dc_L_tick_0, cls_o wc.o, eC_s, e1, cI_s, md.1.rd (z := (1 : Int32)) (i := 1) (j := j) (by omega) hN rfl, eI_s]
  exact e9
theorem br_2612 (hJ : JL B a0 N g V Q s x u k1 k2) (hj : j + 4 < N) (hN : N < 2 ^ 31) (hu : u + 18 < 2 ^ 24) : JN B a0 N g V Q x u k1 k2 j (jR B 2612 a0 x (nI j) s) := by
  obtain ⟨nb, sb, vb, C, n, D, l, F, T, W, v, G, f, σ, τ, w⟩ := hJ
  have wc := w.2.1
  have hp := w.pk
  have hb := w.ib
  obtain ⟨s3, f3, e1, cw, S3, P3, T3, k0⟩ := wo_CO wc w.ar (Nat.le_refl _) (c_expiry wc (y := (g (j + 1)))) (fun s' => x_expiry_0 (a0 := x) (x1 := (g (j + 1))) (a2 := (x + 504)) s')
  have md := w.mid cw
  obtain ⟨s9, e9, q9⟩ := lm_fin (B := B) (G := jR B 23 a0 x (nI j + 5)) (Z := jZ) (t := x + 504) (mo_cls md.2.1) (m_expiry md.2 (y := (g (j + 1)))) (if_int (fun _ => rfl)) T3 k0 (by omega) (fun y s => (dc_L_law_2665 a0 x (x + 492) (x + 504) (nI j) _ (.int y) s).trans (dc_L_law_3221 a0 x (x + 492) (x + 504) (nI j) s))
  refine ⟨s9, ?_, w.go cw S3 P3 T3 q9 (hp.if1 (fun hk => hp.id)) hu⟩
  unfold jR
  rw [dc_L_law_2612, w.1.rd (z := (1 : Int32)) (i := 1) (j := j) (by omega) hN rfl, eI_s, in_L_expiry, dc_L_expiry_0, cls_o wc.o, eC_s, e1, cI_s, md.1.rd (z := (1 : Int32)) (i := 1) (j := j) (by omega) hN rfl, eI_s]
  exact e9
theorem br_2668 (hJ : JL B a0 N g V Q s x u k1 k2) (hj : j + 4 < N) (hN : N < 2 ^ 31) (hu : u + 18 < 2 ^ 24) : JN B a0 N g V Q x u k1 k2 j (jR B 2668 a0 x (nI j) s) := by
  obtain ⟨nb, sb, vb, C, n, D, l, F, T, W, v, G, f, σ, τ, w⟩ := hJ
  have wc := w.2.1
  have hp := w.pk
  have hb := w.ib
  obtain ⟨s3, f3, e1, cw, S3, P3, T3, k0⟩ := wo_CO wc w.ar (Nat.le_refl _) (c_keysIn wc (y := (g (j + 1)))) (fun s' => x_keysIn_0 (a0 := x) (x1 := (g (j + 1))) (a2 := (x + 504)) s')
  have md := w.mid cw
  obtain ⟨s9, e9, q9⟩ := lm_fin (B := B) (G := jR B 23 a0 x (nI j + 5)) (Z := jZ) (t := x + 504) (mo_cls md.2.1) (m_keysIn md.2 (y := (g (j + 1))) wc.a.2.2.2.1 (by omega)) (if_int (fun _ => rfl)) T3 k0 (by omega) (fun y s => (dc_L_law_2721 a0 x (x + 492) (x + 504) (nI j) _ (.int y) s).trans (dc_L_law_3221 a0 x (x + 492) (x + 504) (nI j) s))
  refine ⟨s9, ?_, w.go cw S3 P3 T3 q9 (hp.if1 (fun hk => hp.id)) hu⟩
  unfold jR
  rw [dc_L_law_2668, w.1.rd (z := (1 : Int32)) (i := 1) (j := j) (by omega) hN rfl, eI_s, in_L_keysIn, dc_L_keysIn_0, cls_o wc.o, eC_s, e1, cI_s, md.1.rd (z := (1 : Int32)) (i := 1) (j := j) (by omega) hN rfl, eI_s]
  exact e9
theorem br_2724 (hJ : JL B a0 N g V Q s x u k1 k2) (hj : j + 4 < N) (hN : N < 2 ^ 31) (hu : u + 18 < 2 ^ 24) : JN B a0 N g V Q x u k1 k2 j (jR B 2724 a0 x (nI j) s) := by
  obtain ⟨nb, sb, vb, C, n, D, l, F, T, W, v, G, f, σ, τ, w⟩ := hJ
  have wc := w.2.1
  have hp := w.pk
  have hb := w.ib
  obtain ⟨s3, f3, e1, cw, S3, P3, T3, k0⟩ := wo_CO wc w.ar (Nat.le_refl _) (c_when wc (key := (g (j + 1))) (v := (g (j + 2))) (l := (g (j + 3))) (y := (g (j + 4)))) (fun s' => x_when_0 (a0 := x) (x1 := (g (j + 1))) (x2 := (g (j + 2))) (x3 := (g (j + 3))) (x4 := (g (j + 4))) (a5 := (x + 504)) s')
  have md := w.mid cw
  obtain ⟨s9, e9, q9⟩ := lm_fin (B := B) (G := jR B 23 a0 x (nI j + 5)) (Z := jZ) (t := x + 504) (mo_cls md.2.1) (m_when md.2 (key := (g (j + 1))) (x := (g (j + 2))) (y := (g (j + 3))) (z := (g (j + 4)))) (if_int (fun _ => rfl)) T3 k0 (by omega) (fun y s => (dc_L_law_2813 a0 x (x + 492) (x + 504) (nI j) _ (.int y) s).trans (dc_L_law_3221 a0 x (x + 492) (x + 504) (nI j) s))
  refine ⟨s9, ?_, w.go cw S3 P3 T3 q9 (hp.if1 (fun hk => pk_when hp hk)) hu⟩
  unfold jR
  rw [dc_L_law_2724, w.1.rd (z := (1 : Int32)) (i := 1) (j := j) (by omega) hN rfl, eI_s, w.1.rd (z := (2 : Int32)) (i := 2) (j := j) (by omega) hN rfl, eI_s, w.1.rd (z := (3 : Int32)) (i := 3) (j := j) (by omega) hN rfl, eI_s, w.1.rd (z := (4 : Int32)) (i := 4) (j := j) (by omega) hN rfl, eI_s, in_L_when, dc_L_when_0, cls_o wc.o, eC_s, e1, cI_s, md.1.rd (z := (1 : Int32)) (i := 1) (j := j) (by omega) hN rfl, eI_s, md.1.rd (z := (2 : Int32)) (i := 2) (j := j) (by omega) hN rfl, eI_s, md.1.rd (z := (3 : Int32)) (i := 3) (j := j) (by omega) hN rfl, eI_s, md.1.rd (z := (4 : Int32)) (i := 4) (j := j) (by omega) hN rfl, eI_s]
  exact e9
theorem br_2816 (hJ : JL B a0 N g V Q s x u k1 k2) (hj : j + 4 < N) (hN : N < 2 ^ 31) (hu : u + 18 < 2 ^ 24) : JN B a0 N g V Q x u k1 k2 j (jR B 2816 a0 x (nI j) s) := by
  obtain ⟨nb, sb, vb, C, n, D, l, F, T, W, v, G, f, σ, τ, w⟩ := hJ
  have wc := w.2.1
  have hp := w.pk
  have hb := w.ib
  obtain ⟨s3, f3, e1, cw, S3, P3, T3, k0⟩ := wo_CO wc w.ar (Nat.le_refl _) (c_then wc (key := (g (j + 1))) (v := (g (j + 2))) (l := (g (j + 3)))) (fun s' => x_then_0 (a0 := x) (x1 := (g (j + 1))) (x2 := (g (j + 2))) (x3 := (g (j + 3))) (a4 := (x + 504)) s')
  have md := w.mid cw
  obtain ⟨s9, e9, q9⟩ := lm_fin (B := B) (G := jR B 23 a0 x (nI j + 5)) (Z := jZ) (t := x + 504) (mo_cls md.2.1) (m_then md.2 (k := (g (j + 1))) (key := (g (j + 2))) (y := (g (j + 3)))) (if_int (fun _ => rfl)) T3 k0 (by omega) (fun y s => (dc_L_law_2893 a0 x (x + 492) (x + 504) (nI j) _ (.int y) s).trans (dc_L_law_3221 a0 x (x + 492) (x + 504) (nI j) s))
  refine ⟨s9, ?_, w.go cw S3 P3 T3 q9 (hp.if1 (fun hk => pk_then hp hk)) hu⟩
  unfold jR
  rw [dc_L_law_2816, w.1.rd (z := (1 : Int32)) (i := 1) (j := j) (by omega) hN rfl, eI_s, w.1.rd (z := (2 : Int32)) (i := 2) (j := j) (by omega) hN rfl, eI_s, w.1.rd (z := (3 : Int32)) (i := 3) (j := j) (by omega) hN rfl, eI_s, in_L_then, dc_L_then_0, cls_o wc.o, eC_s, e1, cI_s, md.1.rd (z := (1 : Int32)) (i := 1) (j := j) (by omega) hN rfl, eI_s, md.1.rd (z := (2 : Int32)) (i := 2) (j := j) (by omega) hN rfl, eI_s, md.1.rd (z := (3 : Int32)) (i := 3) (j := j) (by omega) hN rfl, eI_s]
  exact e9
theorem br_2896 (hJ : JL B a0 N g V Q s x u k1 k2) (hj : j + 4 < N) (hN : N < 2 ^ 31) (hu : u + 18 < 2 ^ 24) : JN B a0 N g V Q x u k1 k2 j (jR B 2896 a0 x (nI j) s) := by
  obtain ⟨nb, sb, vb, C, n, D, l, F, T, W, v, G, f, σ, τ, w⟩ := hJ
  have wc := w.2.1
  have hp := w.pk
  have hb := w.ib
  obtain ⟨s3, f3, e1, cw, S3, P3, T3, k0⟩ := wo_CO wc w.ar (Nat.le_refl _) (c_otherwise wc (key := (g (j + 1))) (v := (g (j + 2))) (l := (g (j + 3)))) (fun s' => x_otherwise_0 (a0 := x) (x1 := (g (j + 1))) (x2 := (g (j + 2))) (x3 := (g (j + 3))) (a4 := (x + 504)) s')
  have md := w.mid cw
  obtain ⟨s9, e9, q9⟩ := lm_fin (B := B) (G := jR B 23 a0 x (nI j + 5)) (Z := jZ) (t := x + 504) (mo_cls md.2.1) (m_otherwise md.2 (k := (g (j + 1))) (key := (g (j + 2))) (y := (g (j + 3)))) (if_int (fun _ => rfl)) T3 k0 (by omega) (fun y s => (dc_L_law_2973 a0 x (x + 492) (x + 504) (nI j) _ (.int y) s).trans (dc_L_law_3221 a0 x (x + 492) (x + 504) (nI j) s))
  refine ⟨s9, ?_, w.go cw S3 P3 T3 q9 (hp.if1 (fun hk => pk_otherwise hp hk)) hu⟩
  unfold jR
  rw [dc_L_law_2896, w.1.rd (z := (1 : Int32)) (i := 1) (j := j) (by omega) hN rfl, eI_s, w.1.rd (z := (2 : Int32)) (i := 2) (j := j) (by omega) hN rfl, eI_s, w.1.rd (z := (3 : Int32)) (i := 3) (j := j) (by omega) hN rfl, eI_s, in_L_otherwise, dc_L_otherwise_0, cls_o wc.o, eC_s, e1, cI_s, md.1.rd (z := (1 : Int32)) (i := 1) (j := j) (by omega) hN rfl, eI_s, md.1.rd (z := (2 : Int32)) (i := 2) (j := j) (by omega) hN rfl, eI_s, md.1.rd (z := (3 : Int32)) (i := 3) (j := j) (by omega) hN rfl, eI_s]
  exact e9
theorem br_2976 (hJ : JL B a0 N g V Q s x u k1 k2) (hj : j + 4 < N) (hN : N < 2 ^ 31) (hu : u + 18 < 2 ^ 24) : JN B a0 N g V Q x u k1 k2 j (jR B 2976 a0 x (nI j) s) := by
  obtain ⟨nb, sb, vb, C, n, D, l, F, T, W, v, G, f, σ, τ, w⟩ := hJ
  have wc := w.2.1
  have hp := w.pk
  have hb := w.ib
  obtain ⟨s3, e1, r2, S3, P3⟩ := (c_holds wc).1 rfl
  have cw : CW s s3 x nb (x + 504) := cw_fr r2
  have md := w.mid cw
  obtain ⟨s9, e9, q9⟩ := lm_dir (G := jR B 23 a0 x (nI j + 5)) (Z := jZ) (G1 := fun _ s => jR B 3221 a0 x (nI j) s) (mo_cls md.2.1) (m_holds md.2 wc.a.ik.isS wc.a.2.2.2.2.1.2.1) (fun s => dc_L_law_3221 a0 x (x + 492) (x + 504) (nI j) s)
  refine ⟨s9, ?_, w.go cw S3 P3 (w.t1 r2) q9 (hp.id) hu⟩
  unfold jR
  rw [dc_L_law_2976, cls_o wc.o, eC_s, e1, cI_s]
  exact e9
theorem br_2989 (hJ : JL B a0 N g V Q s x u k1 k2) (hj : j + 4 < N) (hN : N < 2 ^ 31) (hu : u + 18 < 2 ^ 24) : JN B a0 N g V Q x u k1 k2 j (jR B 2989 a0 x (nI j) s) := by
  obtain ⟨nb, sb, vb, C, n, D, l, F, T, W, v, G, f, σ, τ, w⟩ := hJ
  have wc := w.2.1
  have hp := w.pk
  have hb := w.ib
  obtain ⟨s3, e1, r2, S3, P3⟩ := (c_wouldWrite wc).1 rfl
  have cw : CW s s3 x nb (x + 504) := cw_fr r2
  have md := w.mid cw
  obtain ⟨s9, e9, q9⟩ := lm_dir (G := jR B 23 a0 x (nI j + 5)) (Z := jZ) (G1 := fun _ s => jR B 3221 a0 x (nI j) s) (mo_cls md.2.1) (m_wouldWrite md.2 wc.a.ik.isS wc.a.2.2.2.2.1.2.1) (fun s => dc_L_law_3221 a0 x (x + 492) (x + 504) (nI j) s)
  refine ⟨s9, ?_, w.go cw S3 P3 (w.t1 r2) q9 (hp.id) hu⟩
  unfold jR
  rw [dc_L_law_2989, cls_o wc.o, eC_s, e1, cI_s]
  exact e9
theorem br_3002 (hJ : JL B a0 N g V Q s x u k1 k2) (hj : j + 4 < N) (hN : N < 2 ^ 31) (hu : u + 18 < 2 ^ 24) : JN B a0 N g V Q x u k1 k2 j (jR B 3002 a0 x (nI j) s) := by
  obtain ⟨nb, sb, vb, C, n, D, l, F, T, W, v, G, f, σ, τ, w⟩ := hJ
  have wc := w.2.1
  have hp := w.pk
  have hb := w.ib
  obtain ⟨s3, e1, r2, S3, P3⟩ := (c_commit wc).1 rfl
  have cw : CW s s3 x nb (x + 504) := cw_fr r2
  have md := w.mid cw
  obtain ⟨s9, e9, q9⟩ := lm_dir (G := jR B 23 a0 x (nI j + 5)) (Z := jZ) (G1 := fun _ s => jR B 3221 a0 x (nI j) s) (mo_cls md.2.1) (m_commit md.2 wc.a (by omega)) (fun s => dc_L_law_3221 a0 x (x + 492) (x + 504) (nI j) s)
  refine ⟨s9, ?_, w.go cw S3 P3 (w.t1 r2) q9 (pk_commit hp (by omega)) hu⟩
  unfold jR
  rw [dc_L_law_3002, cls_o wc.o, eC_s, e1, cI_s]
  exact e9
theorem br_3015 (hJ : JL B a0 N g V Q s x u k1 k2) (hj : j + 4 < N) (hN : N < 2 ^ 31) (hu : u + 18 < 2 ^ 24) : JN B a0 N g V Q x u k1 k2 j (jR B 3015 a0 x (nI j) s) := by
  obtain ⟨nb, sb, vb, C, n, D, l, F, T, W, v, G, f, σ, τ, w⟩ := hJ
  have wc := w.2.1
  have hp := w.pk
  have hb := w.ib
  obtain ⟨s3, e1, r2, S3, P3⟩ := (c_drop wc).1 rfl
  have cw : CW s s3 x nb (x + 504) := cw_fr r2
  have md := w.mid cw
  obtain ⟨s9, e9, q9⟩ := lm_dir (G := jR B 23 a0 x (nI j + 5)) (Z := jZ) (G1 := fun _ s => jR B 3221 a0 x (nI j) s) (mo_cls md.2.1) (m_drop md.2) (fun s => dc_L_law_3221 a0 x (x + 492) (x + 504) (nI j) s)
  refine ⟨s9, ?_, w.go cw S3 P3 (w.t1 r2) q9 (pk_clr hp) hu⟩
  unfold jR
  rw [dc_L_law_3015, cls_o wc.o, eC_s, e1, cI_s]
  exact e9
end Lc
