/-! ===== load, all of it ===== -/
theorem q_rn_2 {T : Nat → Int32} {n : Nat} {kd : Nat → Nat} {nd : Nat} : ∀ k i p (W : Nat → Int32), (q_rn T n kd nd k i p W).1 ≤ 2
  | 0, _, _, _ => Nat.zero_le _
  | k + 1, i, p, W => by
    unfold q_rn
    split
    · exact Nat.zero_le _
    · split
      · split
        · exact Nat.zero_le _
        · exact (by decide : 1 ≤ 2)
      · generalize (if 0 < i then W 0 else 0) = w
        split
        · exact Nat.le_refl _
        · exact q_rn_2 k (i + 1) _ _
theorem q_sm_2 {T W : Nat → Int32} {n p : Nat} : (q_sm T n p W).1 ≤ 2 := by
  unfold q_sm
  split
  · exact q_rn_2 _ _ _ _
  · exact (by decide : 1 ≤ 2)
section Lo
variable {s s' s'' : am_S} {B x nb sb u v r n p a : Nat} {σ τ : stT} {F T W : Nat → Int32} {V : Nat → Nat} {y : Int32}
theorem xs_semi_no (h : XSc s a F T W) (h7 : F 7 ≠ 0) : cl_ tb_ct tb_mt B K_X6_passSemicolon [.ref a] s = some (.inl (some (.int 0)), s) := by
  rw [in_X6_passSemicolon, dc_X6_passSemicolon_0, xs_7 h, eI_s, if_neg h7]
theorem c_load_lp (hx : B ≤ x) (hb : sb = x + 1 ∨ sb = x + 219) (hn : n ≤ 500) : ∀ f k p cnt u (σ : stT) s F W, n + 1 ≤ f + p → cnt ≤ p → p ≤ n → EVd B s → EVv B s V → XO s x nb sb → SS s sb σ → IA u σ → ILp σ → u + 9 * f < 2 ^ 24 → XSc s (x + 438) F T W → F 2 = nI n → F 3 = nI p → F 5 + 1 = nI k → F 7 = 0 → (∃ n K, KW s (x + 443) n K) → ∃ s' F' W' w1 w2, rn_ tb_ct tb_mt B mm_X12_load 18 [.ref x, .int 1, .int (nI cnt), am_un] [] s = rn_ tb_ct tb_mt B mm_X12_load 72 [.ref x, w1, w2, am_un] [] s' ∧ ldf s s' x sb ∧ SS s' sb (q_ld1 T n f k p σ).2.2.2 ∧ IA (u + 9 * f) (q_ld1 T n f k p σ).2.2.2 ∧ ILp (q_ld1 T n f k p σ).2.2.2 ∧ XSc s' (x + 438) F' T W' ∧ F' 7 = nI (q_ld1 T n f k p σ).1 ∧ (q_ld1 T n f k p σ).1 ≤ 3 ∧ ((q_ld1 T n f k p σ).1 ≠ 0 → F' 8 = nI (q_ld1 T n f k p σ).2.1) ∧ F' 5 = nI (q_ld1 T n f k p σ).2.2.1 ∧ ∃ n K, KW s' (x + 443) n K := by
  intro f
  induction f with
  | zero =>
    intro k p cnt u σ s F W h1 h2 h3
    omega
  | succ f ih =>
    intro k p cnt u σ s F W hf hcp hp hE hV ho hs hA hL hu hX h2 h3 h5 h7 hpast
    obtain ⟨s1, F1, e1, o1, x1, k2, k5, k6, kz, kn⟩ := xs_stmt (B := B) (a := x + 438) (by omega) hE hV hX h2 h3 hn hp
    have l1 : ldf s s1 x sb := ldf_so o1
    have hz := q_sm_W (T := T) (n := n) W (p := p)
    have hok := q_sm_ok (T := T) (n := n) (W := W) hp
    have h2' := q_sm_2 (T := T) (n := n) (p := p) (W := W)
    unfold q_ld1
    generalize q_sm T n p W = R at *
    generalize (q_sm T n p fun _ => 0) = R0 at *
    obtain ⟨z1, z2, z3, z4, z5⟩ := hz
    have hd : rn_ tb_ct tb_mt B mm_X12_load 18 [.ref x, .int 1, .int (nI cnt), am_un] [] s = cA (cl_ tb_ct tb_mt B K_X6_readStatement [.ref (x + 438)] s) (fun s_2 => rn_ tb_ct tb_mt B mm_X12_load 58 [.ref x, .int 1, .int (nI cnt), va_rf none] [] s_2) (fun b_3 s_2 => eA (gA tb_ct s_2 x 10 3) (eA (gA tb_ct s_2 x 10 1) (eC (am_cls s_2 x) 10 (cI (cl_ tb_ct tb_mt B K_X12_perform [.ref x, .ref b_3, .null] s_2) (fun x_7 s_6 => none) xo)) (fun b_5 => eC (am_cls s_2 x) 10 (cI (cl_ tb_ct tb_mt B K_X12_perform [.ref x, .ref b_3, .ref b_5] s_2) (fun x_9 s_8 => none) xo))) (fun b_4 => eA (gA tb_ct s_2 x 10 1) (eC (am_cls s_2 x) 10 (cI (cl_ tb_ct tb_mt B K_X12_perform [.ref x, .ref b_3, .null] s_2) (fun x_12 s_11 => eC (am_cls s_11 b_4) 5 (cV (cl_ tb_ct tb_mt B K_X6_judge [.ref b_4, .ref b_3, .int x_12] s_11) (fun s_13 => rn_ tb_ct tb_mt B mm_X12_load 58 [.ref x, .int 1, .int (nI cnt), va_rf (some b_3)] [] s_13) xo)) xo)) (fun b_10 => eC (am_cls s_2 x) 10 (cI (cl_ tb_ct tb_mt B K_X12_perform [.ref x, .ref b_3, .ref b_10] s_2) (fun x_15 s_14 => eC (am_cls s_14 b_4) 5 (cV (cl_ tb_ct tb_mt B K_X6_judge [.ref b_4, .ref b_3, .int x_15] s_14) (fun s_16 => rn_ tb_ct tb_mt B mm_X12_load 58 [.ref x, .int 1, .int (nI cnt), va_rf (some b_3)] [] s_16) xo)) xo)))) xo := by
      rw [dc_X12_load_18, if_neg (by decide), if_neg (show ¬ (500 : Int32) < nI cnt from nI_nlt (b := 500) (a := cnt) |> fun h => fun hc => by
        have := (nI_ltI (a := 500) (b := cnt) (by omega) (by omega)).mp hc
        omega), xo_3 ho, eA_s, xs_cls hX, eC_s]
    rw [hd]
    have stop : ∀ s2 F2 W2 w3, XO s2 x nb sb → XSc s2 (x + 438) F2 T W2 → F2 7 ≠ 0 → rn_ tb_ct tb_mt B mm_X12_load 58 [.ref x, .int 1, .int (nI cnt), w3] [] s2 = rn_ tb_ct tb_mt B mm_X12_load 72 [.ref x, .int 0, .int (nI (cnt + 1)), am_un] [] s2 := by
      intro s2 F2 W2 w3 ho2 hX2 h72
      rw [dc_X12_load_58, xo_3 ho2, eA_s, xs_cls hX2, eC_s, xs_semi_no hX2 h72, cI_s, nI_1, dc_X12_load_18, if_pos rfl]
    have ho1 : XO s1 x nb sb := (o1.1 x (by omega)).trans ho
    have hs1 : SS s1 sb σ := hs.at fun q _ _ => o1.1 q (by omega)
    by_cases c0 : R.1 = 0
    · have c0' : R0.1 = 0 := z1 ▸ c0
      rw [if_pos c0] at e1
      obtain ⟨hN, hv, hq1, hq2⟩ := hok c0
      obtain ⟨kp3, kp4, kp7, kp8⟩ := kz c0
      have hb1 : ∀ q, q < B → s1.1 q = s.1 q := fun q hq => o1.1 q (by omega)
      have hV1 := hV.at hb1 (by rw [o1.2])
      have hE1 := hE.at hb1 (by rw [o1.2])
      obtain ⟨n0, K0, hp0⟩ := hpast
      obtain ⟨s2, e2, f2, t2, hs2, hpast2⟩ := c_perform (B := B) hV1 ho1 hs1 hA (by omega) hx hb x1 kp4 hN hv ⟨n0, K0, hp0.at fun q _ _ => o1.1 q (by omega)⟩
      obtain ⟨hA2, hL2⟩ := q_pf_ok (σ := σ) hN hA hL (by omega)
      have eW : q_pf R.2.2.1 R.2.2.2.1 R.2.2.2.2 σ = q_pf R0.2.2.1 R0.2.2.2.1 R0.2.2.2.2 σ := by
        rw [q_pf_W z5, z3, z4]
      have x2 : XSc s2 (x + 438) F1 T R.2.2.2.2 := OV.at x1 fun q _ _ => f2 q (by omega) (by omega)
      have ho2 : XO s2 x nb sb := (f2 x (by omega) (by omega)).trans ho1
      have l2 : ldf s s2 x sb := ldf_tr l1 ⟨fun q q1 q2 q3 => f2 q q1 q3, t2⟩
      have hb2 : ∀ q, q < B → s2.1 q = s1.1 q := fun q hq => f2 q (by omega) (by omega)
      have hV2 := hV1.at hb2 (by rw [t2])
      have hE2 := hE1.at hb2 (by rw [t2])
      have ej := xs_judge (B := B) (a := x + 438) (y := (q_pf R.2.2.1 R.2.2.2.1 R.2.2.2.2 σ).1) (by omega) hV2 hv x2
      rw [e1, cA_s, xo_3 ho1, eA_s, xo_1 ho1, eA_s, xo_cls ho1, eC_s, e2, cI_s, xs_cls x2, eC_s, ej, cV_s]
      rw [eW] at ej hs2 hA2 hL2 ⊢
      rw [z3] at ej ⊢
      rw [if_neg (show ¬ R0.1 ≠ 0 from fun hc => hc c0')]
      generalize q_pf R0.2.2.1 R0.2.2.2.1 R0.2.2.2.2 σ = A at *
      by_cases c1 : q_ref R0.2.2.1 A.1 = true
      · rw [if_pos c1, if_pos c1]
        have ho3 : XO (xsS s2 (x + 438) (upd (upd F1 7 3) 8 (F1 6)) T R.2.2.2.2) x nb sb := (ov_o (by omega)).trans ho2
        refine ⟨_, _, _, _, _, stop _ _ _ _ ho3 OV.of (show (3 : Int32) ≠ 0 by decide), ldf_tr l2 (ldf_so so_ov), hs2.at fun q _ _ => ov_o (by omega), hA2.mono (by omega), hL2, OV.of, rfl, Nat.le_refl _, fun _ => k6, ?_, ?_⟩
        · show F1 5 = nI k
          rw [k5, h5]
        · obtain ⟨n2, K2, k9⟩ := hpast2
          exact ⟨n2, K2, k9.at fun q _ _ => ov_o (by omega)⟩
      · rw [if_neg c1, if_neg c1]
        have hF7 : F1 7 = 0 := kp7.trans h7
        obtain ⟨s3, F3, e3, o3, x3, m2, m5, m59, mend, mbad⟩ := (xs_semi (B := B) (a := x + 438) (p := R.2.1) (by omega) hn x2 k2 kp3 hq2).2 hF7
        rw [z2] at e3 m59 mend mbad hq1 hq2
        have hj := q_sp_le (T := T) hq2
        have ho3 : XO s3 x nb sb := (o3.1 x (by omega)).trans ho2
        have hs3 : SS s3 sb A.2 := hs2.at fun q _ _ => o3.1 q (by omega)
        have l3 : ldf s s3 x sb := ldf_tr l2 (ldf_so o3)
        have hF5 : F3 5 = nI k := by rw [m5, k5, h5]
        have hpast3 : ∃ n K, KW s3 (x + 443) n K := by
          obtain ⟨n2, K2, k9⟩ := hpast2
          exact ⟨n2, K2, k9.at fun q _ _ => o3.1 q (by omega)⟩
        rw [dc_X12_load_58, xo_3 ho2, eA_s, xs_cls x2, eC_s, e3, cI_s, nI_1]
        by_cases c2 : n ≤ q_sp T n R0.2.1
        · rw [if_pos c2, if_neg (fun hc => by omega), dc_X12_load_18, if_pos rfl]
          exact ⟨s3, F3, _, _, _, rfl, l3, hs3, hA2.mono (by omega), hL2, x3, mend c2, Nat.zero_le _, fun hc => absurd rfl hc, hF5, hpast3⟩
        · rw [if_neg c2]
          by_cases c3 : T (q_sp T n R0.2.1) = 59
          · rw [if_neg (show ¬ T (q_sp T n R0.2.1) ≠ 59 from fun hc => hc c3), if_pos ⟨by omega, c3⟩]
            obtain ⟨m3, m7⟩ := m59 ⟨by omega, c3⟩
            have hb3 : ∀ q, q < B → s3.1 q = s2.1 q := fun q hq => o3.1 q (by omega)
            obtain ⟨s', F', W', w1, w2, r1, r2, r3, r4, r5⟩ := ih (k + 1) (q_sp T n R0.2.1 + 1) (cnt + 1) (u + 9) A.2 s3 F3 R.2.2.2.2 (by omega) (by omega) (by omega) (hE2.at hb3 (by rw [o3.2])) (hV2.at hb3 (by rw [o3.2])) ho3 hs3 hA2 hL2 (by omega) x3 m2 m3 (by rw [hF5, nI_1]) m7 hpast3
            exact ⟨s', F', W', w1, w2, r1, ldf_tr l3 r2, r3, r4.mono (by omega), r5⟩
          · rw [if_pos c3, if_neg (fun hc => c3 hc.2), dc_X12_load_18, if_pos rfl]
            obtain ⟨m7, m8⟩ := mbad ⟨by omega, c3⟩
            exact ⟨s3, F3, _, _, _, rfl, l3, hs3, hA2.mono (by omega), hL2, x3, m7, (by decide : 1 ≤ 3), fun _ => m8, hF5, hpast3⟩
    · have c0' : R0.1 ≠ 0 := z1 ▸ c0
      rw [if_neg c0] at e1
      obtain ⟨m7, m8⟩ := kn c0
      rw [e1, cA_n, if_pos c0']
      rw [z1] at m7 h2'
      rw [z2] at m8
      refine ⟨s1, F1, _, _, _, stop _ _ _ _ ho1 x1 (by rw [m7]; exact nI_ne0 (Nat.pos_of_ne_zero c0') (by omega)), l1, hs1, hA.mono (by omega), hL, x1, m7, by dsimp only; omega, fun _ => m8, by rw [k5, h5], ?_⟩
      obtain ⟨n0, K0, hp0⟩ := hpast
      exact ⟨n0, K0, hp0.at fun q _ _ => o1.1 q (by omega)⟩
theorem xs_begin (hB : B ≤ a) (h : XSc s a F T W) : cl_ tb_ct tb_mt B K_X6_begin [.ref a] s = some (.inl none, xsS s a (upd (upd (upd (upd F 3 0) 5 (-1)) 7 0) 8 0) T W) := by
  rw [in_X6_begin, dc_X6_begin_0, xs_p3 h hB, eS_s, xs_p5 OV.of hB, eS_s, xs_idem, xs_p7 OV.of hB, eS_s, xs_idem, xs_p8 OV.of hB, eS_s, xs_idem]
theorem xs_finish (hB : B ≤ a) (h : XSc s a F T W) : cl_ tb_ct tb_mt B K_X6_finish [.ref a] s = some (.inl (some (.int (if F 7 = 0 then F 5 + 1 else -100 - F 8))), xsS s a (upd F 2 0) T W) := by
  have x1 : XSc (xsS s a (upd F 2 0) T W) a (upd F 2 0) T W := OV.of
  rw [in_X6_finish, dc_X6_finish_0, xs_p2 h hB, eS_s, xs_7 x1, eI_s, xs_5 x1, eI_s, xs_8 x1, eI_s, upd_n (by omega), upd_n (by omega), upd_n (by omega)]
  by_cases c : F 7 = 0
  · rw [if_pos c, if_pos c]
  · rw [if_neg c, if_neg c]
theorem c_load (h : CX B s x nb sb u σ) (hsb : SS s sb τ) (hnb : nb = x + 1 ∧ sb = x + 219 ∨ nb = x + 219 ∧ sb = x + 1) (hE : EVd B s) (hV : EVv B s V) (hX : XSc s (x + 438) F T W) (h2 : F 2 = nI n) (hn : n ≤ 500) : ∃ s' F' W', cl_ tb_ct tb_mt B K_X12_load [.ref x] s = some (.inl (some (.int (if (q_ld1 T n (n + 1) 0 0 p_new).1 = 0 then nI ((q_ld1 T n (n + 1) 0 0 p_new).2.2.1 + 1) else -100 - nI (q_ld1 T n (n + 1) 0 0 p_new).2.1))), s') ∧ (∀ q, q ≠ x → (q < sb ∨ sb + 218 ≤ q) → (q < x + 438 ∨ x + 441 ≤ q) → (q < x + 443 ∨ x + 467 ≤ q) → s'.1 q = s.1 q) ∧ s'.2 = s.2 ∧ ((q_ld1 T n (n + 1) 0 0 p_new).1 = 0 → XO s' x sb nb) ∧ ((q_ld1 T n (n + 1) 0 0 p_new).1 ≠ 0 → XO s' x nb sb) ∧ SS s' sb (q_ld1 T n (n + 1) 0 0 p_new).2.2.2 ∧ SS s' nb σ ∧ IA 4600 (q_ld1 T n (n + 1) 0 0 p_new).2.2.2 ∧ ILp (q_ld1 T n (n + 1) 0 0 p_new).2.2.2 ∧ XSc s' (x + 438) F' T W' ∧ F' 2 = 0 ∧ F' 7 = nI (q_ld1 T n (n + 1) 0 0 p_new).1 ∧ (q_ld1 T n (n + 1) 0 0 p_new).1 ≤ 3 ∧ F' 5 = nI (q_ld1 T n (n + 1) 0 0 p_new).2.2.1 ∧ PST s' x := by
  obtain ⟨ho, hs, hA, hL, hP, hx, -, huu⟩ := h
  have hb : sb = x + 1 ∨ sb = x + 219 := by omega
  obtain ⟨s1, e1, o1, y1⟩ := st_clear (B := B) (b := sb) hsb (by omega)
  have ho1 : XO s1 x nb sb := (o1.1 x (by omega)).trans ho
  have x1 : XSc s1 (x + 438) F T W := OV.at hX fun q _ _ => o1.1 q (by omega)
  have eb := xs_begin (B := B) (a := x + 438) (by omega) x1
  obtain ⟨F2, hF2⟩ : ∃ F2, F2 = upd (upd (upd (upd F 3 0) 5 (-1)) 7 0) 8 0 := ⟨_, rfl⟩
  obtain ⟨s2, hs2⟩ : ∃ s2, s2 = xsS s1 (x + 438) F2 T W := ⟨_, rfl⟩
  rw [← hF2, ← hs2] at eb
  have x2 : XSc s2 (x + 438) F2 T W := hs2 ▸ OV.of
  have o2 : so s1 s2 (x + 438) (x + 438 + 3) := hs2 ▸ so_ov
  have l2 : ldf s s2 x sb := ldf_tr ⟨fun q q1 _ _ => o1.1 q q1, o1.2⟩ (ldf_so o2)
  have hbel : ∀ q, q < B → s2.1 q = s.1 q := fun q hq => l2.1 q (by omega) (by omega) (by omega)
  obtain ⟨⟨n1, K1, k1⟩, ⟨n2, K2, k2⟩, g3, h3⟩ := hP
  have ho2 : XO s2 x nb sb := (o2.1 x (by omega)).trans ho1
  obtain ⟨s3, F3, W3, w1, w2, e3, l3, r3, r4, r5, x3, r7, r7', r8, r9, n4, K4, r10⟩ := c_load_lp (B := B) (nb := nb) (V := V) (T := T) hx hb hn (n + 1) 0 0 0 1 p_new s2 F2 W (by omega) (by omega) (by omega) (hE.at hbel (by rw [l2.2])) (hV.at hbel (by rw [l2.2])) ho2 (y1.at fun q _ _ => o2.1 q (by omega)) IA.new ILp.new (by omega) x2 (by rw [hF2]; exact h2) (by rw [hF2]; rfl) (by rw [hF2]; exact (by decide +kernel : (-1 : Int32) + 1 = nI 0)) (by rw [hF2]; rfl) ⟨n1, K1, k1.at fun q _ _ => (o2.1 q (by omega)).trans (o1.1 q (by omega))⟩
  generalize q_ld1 T n (n + 1) 0 0 p_new = R at *
  have l23 : ldf s s3 x sb := ldf_tr l2 l3
  have ho3 : XO s3 x nb sb := (l23.1 x (by omega) (by omega) (by omega)).trans ho
  have hs3 : SS s3 nb σ := hs.at fun q _ _ => l23.1 q (by omega) (by omega) (by omega)
  have hp3 : PST s3 x := ⟨⟨n4, K4, r10⟩, ⟨n2, K2, k2.at fun q _ _ => l23.1 q (by omega) (by omega) (by omega)⟩, g3, (l23.1 _ (by omega) (by omega) (by omega)).trans h3⟩
  have start : cl_ tb_ct tb_mt B K_X12_load [.ref x] s = rn_ tb_ct tb_mt B mm_X12_load 72 [.ref x, w1, w2, am_un] [] s3 := by
    rw [nI_0] at e3
    rw [in_X12_load, dc_X12_load_0, xo_1 ho, eA_s, sr_cls hsb, eC_s, e1, cV_s, xo_3 ho1, eA_s, xs_cls x1, eC_s, eb, cV_s, e3]
  -- the swap, or not
  have last : ∀ s4 w4 nb' sb', XO s4 x nb' sb' → XSc s4 (x + 438) F3 T W3 → ∃ s', rn_ tb_ct tb_mt B mm_X12_load 100 [.ref x, am_un, w4, am_un] [] s4 = some (.inl (some (.int (if R.1 = 0 then nI (R.2.2.1 + 1) else -100 - nI R.2.1))), s') ∧ so s4 s' (x + 438) (x + 438 + 3) ∧ XSc s' (x + 438) (upd F3 2 0) T W3 := by
    intro s4 w4 nb' sb' ho4 hX4
    refine ⟨xsS s4 (x + 438) (upd F3 2 0) T W3, ?_, so_ov, OV.of⟩
    rw [dc_X12_load_100, xo_3 ho4, eA_s, xs_cls hX4, eC_s, xs_finish (by omega) hX4, cI_s, r9, nI_1]
    by_cases c : R.1 = 0
    · rw [if_pos (show F3 7 = 0 by rw [r7, c]; rfl), if_pos c]
    · rw [if_neg (show ¬ F3 7 = 0 by rw [r7]; exact nI_ne0 (Nat.pos_of_ne_zero c) (by omega)), if_neg c, r8 c]
  by_cases c : R.1 = 0
  · have ep := pR_o (B := B) (M := mm_X12_load) (k := 0) (v := sb) ho3 (Nat.le_of_ble_eq_true rfl) rfl rfl hx (Or.inl rfl)
    obtain ⟨s4, hs4⟩ : ∃ s4, s4 = am_set s3 x (.inr (10, xf x sb sb)) := ⟨_, rfl⟩
    have ho4 : XO s4 x sb sb := hs4 ▸ set_at
    have ep2 := pR_o (B := B) (M := mm_X12_load) (k := 1) (v := nb) ho4 (Nat.le_of_ble_eq_true rfl) rfl rfl hx (Or.inl rfl)
    obtain ⟨s5, hs5⟩ : ∃ s5, s5 = am_set s4 x (.inr (10, xf x sb nb)) := ⟨_, rfl⟩
    have ho5 : XO s5 x sb nb := hs5 ▸ set_at
    have f5 : ∀ q, q ≠ x → s5.1 q = s3.1 q := fun q hq => by
      rw [hs5, hs4]
      exact (set_ne hq).trans (set_ne hq)
    have t5 : s5.2 = s3.2 := by
      rw [hs5, hs4]
      rfl
    have x5 : XSc s5 (x + 438) F3 T W3 := OV.at x3 fun q _ _ => f5 q (by omega)
    obtain ⟨s', e', o', x'⟩ := last s5 (.ref nb) sb nb ho5 x5
    have fin : ∀ q, q ≠ x → (q < x + 438 ∨ x + 441 ≤ q) → s'.1 q = s3.1 q := fun q q1 q2 => (o'.1 q (by omega)).trans (f5 q q1)
    refine ⟨s', _, _, ?_, fun q q1 q2 q3 q4 => (fin q q1 q3).trans (l23.1 q q2 q3 q4), o'.2.trans (t5.trans l23.2), fun _ => (o'.1 x (by omega)).trans ho5, fun hc => absurd c hc, r3.at fun q _ _ => fin q (by omega) (by omega), hs3.at fun q _ _ => fin q (by omega) (by omega), r4.mono (by omega), r5, x', rfl, r7, r7', r9, ?_⟩
    · rw [start, dc_X12_load_72, xo_3 ho3, eA_s, xs_7 x3, eI_s, if_pos (show F3 7 = 0 by rw [r7, c]; rfl), xo_0 ho3, eA_s, xo_1 ho3, eA_s, ep, eS_s]
      show eS (am_put tb_ct mm_X12_load B (am_set s3 x (.inr (10, xf x sb sb))) (.ref nb) x 10 1) _ = _
      rw [← hs4, ep2, eS_s]
      show rn_ tb_ct tb_mt B mm_X12_load 100 _ [] (am_set s4 x (.inr (10, xf x sb nb))) = _
      rw [← hs5]
      exact e'
    · obtain ⟨⟨m1, J1, j1⟩, ⟨m2, J2, j2⟩, g4, j3⟩ := hp3
      exact ⟨⟨m1, J1, j1.at fun q _ _ => fin q (by omega) (by omega)⟩, ⟨m2, J2, j2.at fun q _ _ => fin q (by omega) (by omega)⟩, g4, (fin _ (by omega) (by omega)).trans j3⟩
  · obtain ⟨s', e', o', x'⟩ := last s3 am_un nb sb ho3 x3
    have fin : ∀ q, (q < x + 438 ∨ x + 441 ≤ q) → s'.1 q = s3.1 q := fun q q2 => o'.1 q (by omega)
    refine ⟨s', _, _, ?_, fun q q1 q2 q3 q4 => (fin q q3).trans (l23.1 q q2 q3 q4), o'.2.trans l23.2, fun hc => absurd hc c, fun _ => (o'.1 x (by omega)).trans ho3, r3.at fun q _ _ => fin q (by omega), hs3.at fun q _ _ => fin q (by omega), r4.mono (by omega), r5, x', rfl, r7, r7', r9, ?_⟩
    · rw [start, dc_X12_load_72, xo_3 ho3, eA_s, xs_7 x3, eI_s, if_neg (show ¬ F3 7 = 0 by rw [r7]; exact nI_ne0 (Nat.pos_of_ne_zero c) (by omega))]
      exact e'
    · obtain ⟨⟨m1, J1, j1⟩, ⟨m2, J2, j2⟩, g4, j3⟩ := hp3
      exact ⟨⟨m1, J1, j1.at fun q _ _ => fin q (by omega)⟩, ⟨m2, J2, j2.at fun q _ _ => fin q (by omega)⟩, g4, (fin _ (by omega)).trans j3⟩
end Lo
