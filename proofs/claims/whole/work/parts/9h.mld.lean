/-! ===== the model: load ===== -/
noncomputable def ldE (B m : Nat) (s : am_S) : am_R := eS (am_put tb_ct mm_X13_load B s (.int (0 : Int32)) m 11 4) (fun s_3 => eS (am_put tb_ct mm_X13_load B s_3 (.int (0 : Int32)) m 11 9) (fun s_4 => eI (gI tb_ct s_4 m 11 12) (fun x_5 => eS (am_put tb_ct mm_X13_load B s_4 (.int x_5) m 11 15) (fun s_6 => eI (gI tb_ct s_6 m 11 12) (fun x_7 => if x_7 = 0 then rn_ tb_ct tb_mt B mm_X13_load 84 [.ref m] [.int (-(1 : Int32)), .ref m] s_6 else eI (gI tb_ct s_6 m 11 14) (fun x_8 => rn_ tb_ct tb_mt B mm_X13_load 84 [.ref m] [.int x_8, .ref m] s_6))))))
section Lm
variable {s s' : am_S} {B m i j n p q e b c k kd u r vb : Nat} {v v1 v2 v' : Nat → Int32} {F F' : mrT} {T W g : Nat → Int32} {x y a lo hi w0 : Int32} {σ σ' σ1 : stT} {Q : Nat → Nat} {A C : am_R}
theorem mk_more_err (h12 : v 12 ≠ 0) : cl_ tb_ct tb_mt B K_X13_isMore [.ref m] (moS s m v F) = some (.inl (some (.int 0)), moS s m v F) := by
  rw [in_X13_isMore, dc_X13_isMore_0, mo_12s, eI_s, if_neg h12]
theorem mk_more (hC : CT F T n) (hB : B ≤ m) (h9 : v 9 = nI n) (h10 : v 10 = nI p) (hp : p ≤ n) (h12 : v 12 = 0) : ∃ v', (∀ a, (a < 10 ∨ 15 ≤ a) → v' a = v a) ∧ (n ≤ q_sp T n p → cl_ tb_ct tb_mt B K_X13_isMore [.ref m] (moS s m v F) = some (.inl (some (.int 0)), moS s m v' F) ∧ v' 12 = 0 ∧ v' 14 = v 14) ∧ (q_sp T n p < n → T (q_sp T n p) ≠ 59 → cl_ tb_ct tb_mt B K_X13_isMore [.ref m] (moS s m v F) = some (.inl (some (.int 0)), moS s m v' F) ∧ v' 12 = nI 1 ∧ v' 13 = nI (q_sp T n p) ∧ v' 14 = v 14) ∧ (q_sp T n p < n → T (q_sp T n p) = 59 → cl_ tb_ct tb_mt B K_X13_isMore [.ref m] (moS s m v F) = some (.inl (some (.int 1)), moS s m v' F) ∧ v' 10 = nI (q_sp T n p + 1) ∧ v' 12 = 0 ∧ v' 14 = v 14 + 1) := by
  have hn := hC.1
  obtain ⟨v1, a1, a2, a3, a4⟩ := mk_next (s := s) hC hB h9 h10 hp
  have hq := q_sp_le (T := T) hp
  have b9 : v1 9 = nI n := (a4 9 (by omega) (by omega)).trans h9
  have b12 : v1 12 = 0 := (a4 12 (by omega) (by omega)).trans h12
  have b14 : v1 14 = v 14 := a4 14 (by omega) (by omega)
  have kv : ∀ a, (a < 10 ∨ 15 ≤ a) → v1 a = v a := fun a ha => a4 a (by omega) (by omega)
  generalize q_sp T n p = P at *
  have run : cl_ tb_ct tb_mt B K_X13_isMore [.ref m] (moS s m v F) = if (0 : Int32) ≤ byt T n P then (if byt T n P = 59 then some (.inl (some (.int 1)), moS s m (upd (upd v1 10 (nI (P + 1))) 14 (v 14 + 1)) F) else some (.inl (some (.int 0)), moS s m (upd (upd v1 12 1) 13 (nI P)) F)) else some (.inl (some (.int 0)), moS s m v1 F) := by
    rw [in_X13_isMore, dc_X13_isMore_0, mo_12s, eI_s, if_pos h12, mo_cs, eC_s, a1, cI_s, mo_cs, eC_s, mk_here hC b9 a2 (by omega), cI_s, mo_10s, eI_s, a2, nI_1, mp_10s hB, eS_s, mo_14s, eI_s, upd_n (by omega), b14, mp_14s hB, eS_s, mo_cs, eC_s, mk_fails hB b12, cV_s, a3]
  by_cases d : P < n
  · obtain ⟨b, hb, eb⟩ := hC.2.2 P d
    have ep : byt T n P = T P := if_pos d
    rw [ep, eb, if_pos (Int32.not_lt.mp (nI_pos (by omega))), ← eb] at run
    by_cases c : T P = 59
    · rw [if_pos c] at run
      refine ⟨upd (upd v1 10 (nI (P + 1))) 14 (v 14 + 1), fun a ha => ?_, fun h => absurd d (Nat.not_lt.mpr h), fun _ h => absurd c h, fun _ _ => ⟨run, ?_, ?_, upd_k⟩⟩
      · rw [upd_n (by omega), upd_n (by omega)]
        exact kv a ha
      · rw [upd_n (by omega)]
        exact upd_k
      · rw [upd_n (by omega), upd_n (by omega)]
        exact b12
    · rw [if_neg c] at run
      refine ⟨upd (upd v1 12 1) 13 (nI P), fun a ha => ?_, fun h => absurd d (Nat.not_lt.mpr h), fun _ _ => ⟨run, ?_, upd_k, ?_⟩, fun _ h => absurd h c⟩
      · rw [upd_n (by omega), upd_n (by omega)]
        exact kv a ha
      · rw [upd_n (by omega)]
        exact upd_k
      · rw [upd_n (by omega), upd_n (by omega)]
        exact b14
  · rw [byt_no d, if_neg (by decide)] at run
    exact ⟨v1, kv, fun _ => ⟨run, b12, b14⟩, fun h => absurd h d, fun h => absurd h d⟩
theorem ld36 (h : MO s m v F) {z : Int32} (e : cl_ tb_ct tb_mt B K_X13_isMore [.ref m] s = some (.inl (some (.int z)), s')) (hc : am_cls s' m = some 11) : rn_ tb_ct tb_mt B mm_X13_load 36 [.ref m] [] s = if z = 0 then ldE B m s' else cV (cl_ tb_ct tb_mt B K_X13_statement [.ref m] s') (fun s_9 => rn_ tb_ct tb_mt B mm_X13_load 36 [.ref m] [] s_9) xo := by
  rw [dc_X13_load_36, mo_cls h, eC_s, e, cI_s, hc, eC_s]
  rfl
theorem ld_lp : ∀ f k p u σ s v F, n + 1 ≤ f + p → p ≤ n → MM B s m v F σ → IA u σ → ILp σ → u + 9 * f + 10000 < 2 ^ 24 → EVd B s → ELt B s Q → CT F T n → v 9 = nI n → v 10 = nI p → v 12 = 0 → v 14 = nI k → ∃ s' v' F', cV (cl_ tb_ct tb_mt B K_X13_statement [.ref m] s) (fun s_9 => rn_ tb_ct tb_mt B mm_X13_load 36 [.ref m] [] s_9) xo = ldE B m s' ∧ so s s' m (m + 12) ∧ MO s' m v' F' ∧ FR (F' 1) (q_ld1 T n f k p σ).2.2.2 ∧ (∀ i, (i = 2 ∨ i = 3 ∨ i = 4 ∨ i = 7 ∨ i = 11) → F' i = F i) ∧ (∀ a, (a < 10 ∨ 15 ≤ a) → a ≠ 4 → a ≠ 7 → v' a = v a) ∧ v' 12 = nI (q_ld1 T n f k p σ).1 ∧ (q_ld1 T n f k p σ).1 ≤ 3 ∧ ((q_ld1 T n f k p σ).1 ≠ 0 → v' 13 = nI (q_ld1 T n f k p σ).2.1) ∧ v' 14 = nI (q_ld1 T n f k p σ).2.2.1 := by
  intro f
  induction f with
  | zero =>
    intro k p u σ s v F h1 h2
    omega
  | succ f ih =>
    intro k p u σ s v F hfp hp h hA hL hu hE hQ hC h9 h10 h12 h14
    have hB := h.2.2.2
    have hst := mk_statement h hA hL (by omega) hE hQ hC h9 h10 hp h12
    have hok := q_sm_ok (T := T) (n := n) (W := fun _ => 0) hp
    have h2' : (q_sm T n p fun _ => 0).1 ≤ 2 := q_sm_2
    have hq := q_sp_le (T := T) hp
    unfold q_ld1
    generalize (q_sm T n p fun _ => 0) = R at *
    obtain ⟨s1, v1, F1, σ1, e1, o1, m1', f1, kF, kv, z1, z2⟩ := hst
    rw [e1, cV_s]
    have c9 : v1 9 = nI n := (kv 9 (by omega) (by omega) (by omega)).trans h9
    have c14 : v1 14 = nI k := (kv 14 (by omega) (by omega) (by omega)).trans h14
    have kv' : ∀ a, (a < 10 ∨ 15 ≤ a) → a ≠ 4 → a ≠ 7 → v1 a = v a := fun a ha => kv a (by omega)
    have stop : v1 12 ≠ 0 → rn_ tb_ct tb_mt B mm_X13_load 36 [.ref m] [] s1 = ldE B m s1 := by
      intro hne
      have em : cl_ tb_ct tb_mt B K_X13_isMore [.ref m] s1 = some (.inl (some (.int 0)), s1) := by
        have := mk_more_err (s := s1) (B := B) (m := m) (F := F1) hne
        rw [mo_self m1'] at this
        exact this
      rw [ld36 m1' em (mo_cls m1'), if_pos rfl]
    by_cases c0 : R.1 = 0
    · obtain ⟨rfl, y1, y2⟩ := z2 c0
      obtain ⟨hN, hv, hp1, hp2⟩ := hok c0
      obtain ⟨hA2, hL2⟩ := q_pf_ok (σ := σ) hN hA hL (by omega)
      have hz2 : SZ (q_pf R.2.2.1 R.2.2.2.1 R.2.2.2.2 σ).2 := SZ.of hA2 (pf5 h.2.2.1.2.2.2.2.1)
      rw [if_neg (fun hc => hc c0), aQ_ref]
      cases hr : q_ref 0 (aQ R.2.2.1 (q_pf R.2.2.1 R.2.2.2.1 R.2.2.2.2 σ).1) with
      | true =>
        obtain ⟨y3, y4⟩ := y1 hr
        rw [if_pos rfl]
        refine ⟨s1, v1, F1, stop (by rw [y3]; decide), o1, m1', f1, kF, kv', y3, Nat.le_refl _, fun _ => y4, c14⟩
      | false =>
        obtain ⟨y3, y4⟩ := y2 hr
        rw [if_neg Bool.false_ne_true]
        have hC1 : CT F1 T n := ⟨hC.1, by rw [kF 7 (by omega)]; exact hC.2.1, hC.2.2⟩
        obtain ⟨v2, w1, w2, w3, w4⟩ := mk_more (s := s1) (B := B) (m := m) hC1 hB c9 y4 hp2 y3
        rw [mo_self m1'] at w2 w3 w4
        have hq2 := q_sp_le (T := T) hp2
        have kv2 : ∀ a, (a < 10 ∨ 15 ≤ a) → a ≠ 4 → a ≠ 7 → v2 a = v a := fun a ha h4 h7 => (w1 a ha).trans (kv' a ha h4 h7)
        by_cases c1 : n ≤ q_sp T n R.2.1
        · obtain ⟨x1, x2, x3⟩ := w2 c1
          rw [if_pos c1]
          refine ⟨_, v2, F1, ?_, so_tr o1 so_ov, OV.of, f1, kF, kv2, x2, Nat.zero_le _, fun h => absurd rfl h, x3.trans c14⟩
          rw [ld36 m1' x1 mo_cs, if_pos rfl]
        · rw [if_neg c1]
          by_cases c2 : T (q_sp T n R.2.1) = 59
          · obtain ⟨x1, x2, x3, x4⟩ := w4 (by omega) c2
            rw [if_neg (fun h => h c2)]
            have hs1 : ∀ q, q < B → (moS s1 m v2 F1).1 q = s.1 q := fun q hq => (ov_o (by omega)).trans (o1.1 q (by omega))
            have ht1 : (moS s1 m v2 F1).2.2.2 = s.2.2.2 := by
              show s1.2.2.2 = s.2.2.2
              rw [o1.2]
            obtain ⟨s', v', F', t1, t2, t3, t4, t5, t6, t7, t8, t9, t10⟩ := ih (k + 1) (q_sp T n R.2.1 + 1) (u + 9) (q_pf R.2.2.1 R.2.2.2.1 R.2.2.2.2 σ).2 (moS s1 m v2 F1) v2 F1 (by omega) (by omega) ⟨OV.of, f1, hz2, hB⟩ hA2 hL2 (by omega) (hE.at hs1 ht1) (hQ.at hs1 ht1) hC1 ((w1 9 (by omega)).trans c9) x2 x3 (by rw [x4, c14, nI_1])
            refine ⟨s', v', F', ?_, so_tr (so_tr o1 so_ov) t2, t3, t4, fun i hi => (t5 i hi).trans (kF i hi), fun a ha h4 h7 => (t6 a ha h4 h7).trans (kv2 a ha h4 h7), t7, t8, t9, t10⟩
            rw [ld36 m1' x1 mo_cs, if_neg (by decide), t1]
          · obtain ⟨x1, x2, x3, x4⟩ := w3 (by omega) c2
            rw [if_pos c2]
            refine ⟨_, v2, F1, ?_, so_tr o1 so_ov, OV.of, f1, kF, kv2, x2, (by decide : 1 ≤ 3), fun _ => x3, x4.trans c14⟩
            rw [ld36 m1' x1 mo_cs, if_pos rfl]
    · obtain ⟨rfl, y1, y2⟩ := z1 c0
      rw [if_pos c0]
      exact ⟨s1, v1, F1, stop (by rw [y1]; exact err_ne (by omega)), o1, m1', f1, kF, kv', y1, Nat.le_succ_of_le h2', fun _ => y2, c14⟩
theorem mk_begins (h : MO s m v F) (hB : B ≤ m) : cl_ tb_ct tb_mt B K_X13_begins [.ref m] s = some (.inl none, moS s m v (m1 F (fun q => if q = 0 then 1 else if q < 1329 then 0 else F 1 q))) := by
  have lp : ∀ k i g, i + k = 1329 → rn_ tb_ct tb_mt B mm_X13_begins 2 [.ref m, .int (nI i)] [] (moS s m v (m1 F g)) = some (.inl none, moS s m v (m1 F (fun q => if q = 0 then 1 else if i ≤ q ∧ q < 1329 then 0 else g q))) := by
    intro k
    induction k with
    | zero =>
      intro i g hi
      obtain rfl : i = 1329 := by omega
      have e0 : wI B (moS s m v (m1 F g)) (m + 1) 0 1 = some (moS s m v (m1 F (upd g 0 1))) := mw2 (j := 0) hB (by omega)
      rw [dc_X13_begins_2, if_pos (show (1329 : Int32) ≤ nI 1329 from Int32.le_refl _), mo_0s, eA_s, e0, eS_s]
      rw [show upd g 0 1 = fun q => if q = 0 then 1 else if 1329 ≤ q ∧ q < 1329 then 0 else g q from funext fun q => by
        by_cases c : q = 0
        · subst c
          rw [upd_k, if_pos rfl]
        · rw [upd_n c, if_neg c, if_neg (by omega)]]
    | succ k ih =>
      intro i g hi
      rw [dc_X13_begins_2, if_neg (show ¬ (1329 : Int32) ≤ nI i from nI_ge (b := 1329) (by omega) (by omega)), mo_0s, eA_s, mw2 hB (by omega), eS_s, nI_1, ih (i + 1) _ (by omega)]
      rw [show (fun q => if q = 0 then (1 : Int32) else if i + 1 ≤ q ∧ q < 1329 then 0 else upd g i 0 q) = fun q => if q = 0 then 1 else if i ≤ q ∧ q < 1329 then 0 else g q from funext fun q => by
        by_cases c : q = 0
        · rw [if_pos c, if_pos c]
        · rw [if_neg c, if_neg c]
          by_cases d : q = i
          · subst d
            rw [if_neg (by omega), upd_k, if_pos (by omega)]
          · rw [upd_n d]
            by_cases f : i + 1 ≤ q ∧ q < 1329
            · rw [if_pos f, if_pos (by omega)]
            · rw [if_neg f, if_neg (by omega)]]
  have e := lp 1329 0 (F 1) (by omega)
  rw [m1_id rfl, mo_self h, nI_0] at e
  rw [in_X13_begins, dc_X13_begins_0, e]
  rw [show (fun q => if q = 0 then (1 : Int32) else if 0 ≤ q ∧ q < 1329 then 0 else F 1 q) = fun q => if q = 0 then 1 else if q < 1329 then 0 else F 1 q from funext fun q => by
    by_cases d : q < 1329
    · rw [if_pos d, if_pos (show 0 ≤ q ∧ q < 1329 from ⟨Nat.zero_le _, d⟩)]
    · rw [if_neg d, if_neg (show ¬ (0 ≤ q ∧ q < 1329) from fun h => d h.2)]]
theorem FR.new : FR (fun q => if q = 0 then 1 else if q < 1329 then 0 else g q) p_new := by
  refine ⟨fun i hi => ?_, fun i w hi => absurd hi (Nat.not_lt_zero _), fun i w hi => absurd hi (Nat.not_lt_zero _), fun i w hi => absurd hi (Nat.not_lt_zero _), fun i w hi => absurd hi (Nat.not_lt_zero _), fun i w hi => absurd hi (Nat.not_lt_zero _), fun i w hi => absurd hi (Nat.not_lt_zero _), fun i w hi => absurd hi (Nat.not_lt_zero _), fun i w hi => absurd hi (Nat.not_lt_zero _)⟩
  show (if i = 0 then (1 : Int32) else if i < 1329 then 0 else g i) = nI (if i = 0 then 1 else 0)
  by_cases c : i = 0
  · rw [if_pos c, if_pos c]
    rfl
  · rw [if_neg c, if_neg c, if_pos (by omega)]
    rfl
theorem FR.cg {f f' : Nat → Int32} (h : FR f σ) (hz : SZ σ) (e : ∀ q, q < 1329 → f' q = f q) : FR f' σ := by
  obtain ⟨h0, h1, h2, h3, h4, h5, h6, h7, h8⟩ := h
  obtain ⟨z1, z2, z3, z4, z5, z6, z7, z8⟩ := hz
  refine ⟨fun i hi => ?_, fun i w hi hw => ?_, fun i w hi hw => ?_, fun i w hi hw => ?_, fun i w hi hw => ?_, fun i w hi hw => ?_, fun i w hi hw => ?_, fun i w hi hw => ?_, fun i w hi hw => ?_⟩
  · rw [e _ (by omega)]
    exact h0 i hi
  · rw [e _ (by omega)]
    exact h1 i w hi hw
  · rw [e _ (by omega)]
    exact h2 i w hi hw
  · rw [e _ (by omega)]
    exact h3 i w hi hw
  · rw [e _ (by omega)]
    exact h4 i w hi hw
  · rw [e _ (by omega)]
    exact h5 i w hi hw
  · rw [e _ (by omega)]
    exact h6 i w hi hw
  · rw [e _ (by omega)]
    exact h7 i w hi hw
  · rw [e _ (by omega)]
    exact h8 i w hi hw
/-- behind the last statement -/
theorem ldE_eq (h : MO s m v F) (hB : B ≤ m) : ldE B m s = if v 12 = 0 then some (.inl (some (.int (v 14 + 1))), moS s m (upd (upd (upd (upd v 4 0) 9 0) 15 (v 12)) 16 (-1)) F) else some (.inl (some (.int (-(100 : Int32) - v 13))), moS s m (upd (upd (upd (upd v 4 0) 9 0) 15 (v 12)) 16 (v 14)) (mB F 1 (cpR (F 2) 0 (F 1) 0))) := by
  have e84 : ∀ w, rn_ tb_ct tb_mt B mm_X13_load 84 [.ref m] [.int w, .ref m] (moS s m (upd (upd (upd v 4 0) 9 0) 15 (v 12)) F) = if v 12 = 0 then some (.inl (some (.int (v 14 + 1))), moS s m (upd (upd (upd (upd v 4 0) 9 0) 15 (v 12)) 16 w) F) else some (.inl (some (.int (-(100 : Int32) - v 13))), moS s m (upd (upd (upd (upd v 4 0) 9 0) 15 (v 12)) 16 w) (mB F 1 (cpR (F 2) 0 (F 1) 0))) := by
    intro w
    have ec : cl_ tb_ct tb_mt B K_X13_copies [.ref (m + 2), .int 0, .ref (m + 1), .int 0] (moS s m (upd (upd (upd (upd v 4 0) 9 0) 15 (v 12)) 16 w) F) = some (.inl none, moS s m (upd (upd (upd (upd v 4 0) 9 0) 15 (v 12)) 16 w) (mB F 1 (cpR (F 2) 0 (F 1) 0))) := mk_copies (p := 0) (q := 0) (a := 2) (b := 1) hB ⟨by omega, by omega, rfl⟩ ⟨by omega, by omega, rfl⟩ (by omega) (show 1329 * 0 + 1329 ≤ 1329 by omega) (show 1329 * 0 + 1329 ≤ 1329 by omega) (by decide) (by decide)
    rw [dc_X13_load_84, mp_16s hB, eS_s, mo_12s, eI_s, upd_n (by omega), upd_n (by omega), upd_n (by omega), upd_n (by omega), mo_14s, eI_s, upd_n (by omega), upd_n (by omega), upd_n (by omega), upd_n (by omega), show gA tb_ct (moS s m (upd (upd (upd (upd v 4 0) 9 0) 15 (v 12)) 16 w) F) m 11 1 = some (some (m + 2)) from mo_1 OV.of, eA_s, mo_0s, eA_s, ec, cV_s, mo_13s, eI_s, upd_n (by omega), upd_n (by omega), upd_n (by omega), upd_n (by omega)]
  have ep : am_put tb_ct mm_X13_load B s (.int 0) m 11 4 = some (moS s m (upd v 4 0) F) := mp_4 h hB
  unfold ldE
  rw [ep, eS_s, mp_9s hB, eS_s, mo_12s, eI_s, upd_n (by omega), upd_n (by omega), mp_15s hB, eS_s, mo_12s, eI_s, upd_n (by omega), upd_n (by omega), upd_n (by omega), mo_14s, eI_s, upd_n (by omega), upd_n (by omega), upd_n (by omega), e84, e84]
  by_cases c : v 12 = 0
  · rw [if_pos c, if_pos c, if_pos c]
  · rw [if_neg c, if_neg c, if_neg c]
theorem m_load (h : MM B s m v F σ) (hE : EVd B s) (hQ : ELt B s Q) (hC : CT F T n) (h9 : v 9 = nI n) : ∃ s' v' F', cl_ tb_ct tb_mt B K_X13_load [.ref m] s = some (.inl (some (.int (if (q_ld1 T n (n + 1) 0 0 p_new).1 = 0 then nI ((q_ld1 T n (n + 1) 0 0 p_new).2.2.1 + 1) else -100 - nI (q_ld1 T n (n + 1) 0 0 p_new).2.1))), s') ∧ so s s' m (m + 12) ∧ MO s' m v' F' ∧ FR (F' 1) (if (q_ld1 T n (n + 1) 0 0 p_new).1 = 0 then (q_ld1 T n (n + 1) 0 0 p_new).2.2.2 else σ) ∧ (∀ i, (i = 3 ∨ i = 4 ∨ i = 7 ∨ i = 11) → F' i = F i) ∧ v' 4 = 0 ∧ v' 9 = 0 ∧ v' 15 = nI (q_ld1 T n (n + 1) 0 0 p_new).1 ∧ v' 16 = (if (q_ld1 T n (n + 1) 0 0 p_new).1 = 0 then -1 else nI (q_ld1 T n (n + 1) 0 0 p_new).2.2.1) ∧ v' 21 = v 21 := by
  have hB := h.2.2.2
  have hn := hC.1
  have ep : am_put tb_ct mm_X13_load B s (.int 0) m 11 10 = some (moS s m (upd v 10 0) F) := mp_10 h.1 hB
  have ec : cl_ tb_ct tb_mt B K_X13_copies [.ref (m + 1), .int 0, .ref (m + 2), .int 0] (moS s m (upd (upd (upd v 10 0) 12 0) 14 0) F) = some (.inl none, moS s m (upd (upd (upd v 10 0) 12 0) 14 0) (mB F 2 (cpR (F 1) 0 (F 2) 0))) := mk_copies (p := 0) (q := 0) (a := 1) (b := 2) hB ⟨by omega, by omega, rfl⟩ ⟨by omega, by omega, rfl⟩ (by omega) (show 1329 * 0 + 1329 ≤ 1329 by omega) (show 1329 * 0 + 1329 ≤ 1329 by omega) (by decide) (by decide)
  have eb := mk_begins (B := B) (m := m) (s := moS s m (upd (upd (upd v 10 0) 12 0) 14 0) (mB F 2 (cpR (F 1) 0 (F 2) 0))) (v := upd (upd (upd v 10 0) 12 0) 14 0) (F := mB F 2 (cpR (F 1) 0 (F 2) 0)) OV.of hB
  rw [mo_idem] at eb
  have hs1 : ∀ q, q < B → (moS s m (upd (upd (upd v 10 0) 12 0) 14 0) (m1 (mB F 2 (cpR (F 1) 0 (F 2) 0)) (fun q => if q = 0 then 1 else if q < 1329 then 0 else mB F 2 (cpR (F 1) 0 (F 2) 0) 1 q))).1 q = s.1 q := fun q hq => ov_o (by omega)
  obtain ⟨s1, v1, F1, t1, t2, t3, t4, t5, t6, t7, t8, t9, t10⟩ := ld_lp (B := B) (m := m) (n := n) (T := T) (Q := Q) (n + 1) 0 0 1 p_new (moS s m (upd (upd (upd v 10 0) 12 0) 14 0) (m1 (mB F 2 (cpR (F 1) 0 (F 2) 0)) (fun q => if q = 0 then 1 else if q < 1329 then 0 else mB F 2 (cpR (F 1) 0 (F 2) 0) 1 q))) (upd (upd (upd v 10 0) 12 0) 14 0) (m1 (mB F 2 (cpR (F 1) 0 (F 2) 0)) (fun q => if q = 0 then 1 else if q < 1329 then 0 else mB F 2 (cpR (F 1) 0 (F 2) 0) 1 q)) (Nat.le_refl _) (Nat.zero_le _) ⟨OV.of, FR.new, SZ.of IA.new (Nat.zero_le _), hB⟩ IA.new ILp.new (by omega) (hE.at hs1 rfl) (hQ.at hs1 rfl) ⟨hn, hC.2⟩ (by rw [upd_n (by omega), upd_n (by omega), upd_n (by omega)]; exact h9) (by rw [upd_n (by omega), upd_n (by omega)]; exact upd_k) (by rw [upd_n (by omega)]; exact upd_k) upd_k
  have run : cl_ tb_ct tb_mt B K_X13_load [.ref m] s = ldE B m s1 := by
    rw [in_X13_load, dc_X13_load_0, ep, eS_s, mp_12s hB, eS_s, mp_14s hB, eS_s, mo_0s, eA_s, show gA tb_ct (moS s m (upd (upd (upd v 10 0) 12 0) 14 0) F) m 11 1 = some (some (m + 2)) from mo_1 OV.of, eA_s, ec, cV_s, mo_cs, eC_s, eb, cV_s, mo_cs, eC_s, t1]
  rw [run, ldE_eq t3 hB, t7]
  have k21 : v1 21 = v 21 := (t6 21 (by omega) (by omega) (by omega)).trans (by rw [upd_n (by omega), upd_n (by omega), upd_n (by omega)])
  by_cases c : (q_ld1 T n (n + 1) 0 0 p_new).1 = 0
  · rw [if_pos (show nI (q_ld1 T n (n + 1) 0 0 p_new).1 = 0 by rw [c]; rfl), if_pos c, if_pos c, if_pos c, t10, nI_1]
    refine ⟨_, _, F1, rfl, so_tr (so_tr so_ov t2) so_ov, OV.of, t4, fun i hi => ?_, ?_, ?_, ?_, upd_k, ?_⟩
    · rw [t5 i (by omega)]
      unfold m1 mB
      rw [if_neg (by omega), if_neg (by omega)]
    · rw [upd_n (by omega), upd_n (by omega), upd_n (by omega), upd_k]
    · rw [upd_n (by omega), upd_n (by omega), upd_k]
    · rw [upd_n (by omega), upd_k]
    · rw [upd_n (by omega), upd_n (by omega), upd_n (by omega), upd_n (by omega)]
      exact k21
  · have hne : nI (q_ld1 T n (n + 1) 0 0 p_new).1 ≠ 0 := fun hc => c ((nI_eq (b := 0) (by omega) (by omega)).mp hc)
    rw [if_neg hne, if_neg c, if_neg c, if_neg c, t9 c, t10]
    have e2 : F1 2 = cpR (F 1) 0 (F 2) 0 := (t5 2 (by omega)).trans rfl
    refine ⟨_, _, _, rfl, so_tr (so_tr so_ov t2) so_ov, OV.of, ?_, fun i hi => ?_, ?_, ?_, ?_, upd_k, ?_⟩
    · show FR (cpR (F1 2) 0 (F1 1) 0) σ
      refine h.2.1.cg h.2.2.1 fun q hq => ?_
      rw [e2]
      unfold cpR
      rw [if_pos (by omega), if_pos (by omega)]
      congr 1
      omega
    · show mB F1 1 _ i = F i
      refine (if_neg (by omega)).trans ?_
      rw [t5 i (by omega)]
      unfold m1 mB
      rw [if_neg (by omega), if_neg (by omega)]
    · rw [upd_n (by omega), upd_n (by omega), upd_n (by omega), upd_k]
    · rw [upd_n (by omega), upd_n (by omega), upd_k]
    · rw [upd_n (by omega), upd_k]
    · rw [upd_n (by omega), upd_n (by omega), upd_n (by omega), upd_n (by omega)]
      exact k21
end Lm
