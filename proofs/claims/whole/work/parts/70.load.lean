/-! ===== load ===== -/
/-- what a load may touch -/
def ldf (s s' : am_S) (x sb : Nat) : Prop := (∀ q, (q < sb ∨ sb + 218 ≤ q) → (q < x + 438 ∨ x + 441 ≤ q) → (q < x + 443 ∨ x + 467 ≤ q) → s'.1 q = s.1 q) ∧ s'.2 = s.2
section Ld
variable {s s' s'' : am_S} {B x nb sb u v r n p a : Nat} {σ : stT} {F T W : Nat → Int32} {V : Nat → Nat} {y : Int32}
theorem ldf_rf : ldf s s x sb := ⟨fun _ _ _ _ => rfl, rfl⟩
theorem ldf_tr (h : ldf s s' x sb) (h' : ldf s' s'' x sb) : ldf s s'' x sb := ⟨fun q q1 q2 q3 => (h'.1 q q1 q2 q3).trans (h.1 q q1 q2 q3), h'.2.trans h.2⟩
theorem ldf_so (h : so s s' (x + 438) (x + 438 + 3)) : ldf s s' x sb := ⟨fun q _ q2 _ => h.1 q (by omega), h.2⟩
theorem c_perform (hV : EVv B s V) (ho : XO s x nb sb) (hs : SS s sb σ) (hA : IA u σ) (hu : u + 9 < 2 ^ 24) (hx : B ≤ x) (hb : sb = x + 1 ∨ sb = x + 219) (hX : XSc s (x + 438) F T W) (h4 : F 4 = nI r) (hN : NOK v r W) (hv : v < 10) (hp : ∃ n K, KW s (x + 443) n K) : ∃ s', cl_ tb_ct tb_mt B K_X12_perform [.ref x, .ref (V v), .ref sb] s = some (.inl (some (.int (q_pf v r W σ).1)), s') ∧ (∀ q, (q < sb ∨ sb + 218 ≤ q) → (q < x + 443 ∨ x + 467 ≤ q) → s'.1 q = s.1 q) ∧ s'.2 = s.2 ∧ SS s' sb (q_pf v r W σ).2 ∧ ∃ n K, KW s' (x + 443) n K := by
  obtain ⟨-, v5, -, m, g, m1, m2, m3, m4⟩ := hV
  obtain ⟨w1, q, w2, -⟩ := v5 v hv
  have hr3 := hN.2.1
  have hB : B ≤ sb := by omega
  have n0 : cl_ tb_ct tb_mt B K_X6_numberAt [.ref (x + 438), .int 0] s = some (.inl (some (.int (nm r W 0))), s) := xs_numAt (B := B) (j := 0) hX h4 hr3 (by omega)
  have n1 : cl_ tb_ct tb_mt B K_X6_numberAt [.ref (x + 438), .int 1] s = some (.inl (some (.int (nm r W 1))), s) := xs_numAt (B := B) (j := 1) hX h4 hr3 (by omega)
  have n2 : cl_ tb_ct tb_mt B K_X6_numberAt [.ref (x + 438), .int 2] s = some (.inl (some (.int (nm r W 2))), s) := xs_numAt (B := B) (j := 2) hX h4 hr3 (by omega)
  have eo : cl_ tb_ct tb_mt B K_Jx29ce0_ordinal_8abf5 [.ref (V v)] s = some (.inl (some (.int (nI v))), s) := by
    rw [in_Jx29ce0_ordinal_8abf5, dc_Jx29ce0_ordinal_8abf5_0, gI_o w2 rfl rfl rfl, eI_s]
  have hc := sr_cls hs
  have keep : ∀ {z : Int32} {τ : stT}, (∃ s', cl_ tb_ct tb_mt B K_X12_perform [.ref x, .ref (V v), .ref sb] s = some (.inl (some (.int z)), s') ∧ so s s' sb (sb + 218) ∧ SS s' sb τ) → ∃ s', cl_ tb_ct tb_mt B K_X12_perform [.ref x, .ref (V v), .ref sb] s = some (.inl (some (.int z)), s') ∧ (∀ q, (q < sb ∨ sb + 218 ≤ q) → (q < x + 443 ∨ x + 467 ≤ q) → s'.1 q = s.1 q) ∧ s'.2 = s.2 ∧ SS s' sb τ ∧ ∃ n K, KW s' (x + 443) n K := by
    rintro z τ ⟨s', e, o, hh⟩
    obtain ⟨n', K', k1⟩ := hp
    exact ⟨s', e, fun q q1 _ => o.1 q q1, o.2, hh, n', K', k1.at fun q _ _ => o.1 q (by omega)⟩
  have start : ∀ R, sw (g v).toInt 1 [eC (am_cls s sb) 7 (cI (cl_ tb_ct tb_mt B K_X8_putKey [.ref sb, .int (nm r W 0), .int (nm r W 1), .int (nm r W 2)] s) (fun x_15 s_14 => some (.inl (some (.int x_15)), s_14)) xo), eA (gA tb_ct s x 10 3) (none) (fun b_16 => eI (gI tb_ct s b_16 5 4) (fun x_17 => if x_17 ≤ (1 : Int32) then rn_ tb_ct tb_mt B mm_X12_perform 117 [.ref x, .ref (V v), .ref sb, .int (nm r W 0), .int (nm r W 1), .int (nm r W 2)] [.int (nm r W 0), .int (nm r W 0), .ref sb] s else rn_ tb_ct tb_mt B mm_X12_perform 117 [.ref x, .ref (V v), .ref sb, .int (nm r W 0), .int (nm r W 1), .int (nm r W 2)] [.int (nm r W 1), .int (nm r W 0), .ref sb] s)), eC (am_cls s sb) 7 (cI (cl_ tb_ct tb_mt B K_X8_addLease [.ref sb, .int (nm r W 0)] s) (fun x_19 s_18 => some (.inl (some (.int x_19)), s_18)) xo), eC (am_cls s sb) 7 (cI (cl_ tb_ct tb_mt B K_X8_renew [.ref sb, .int (nm r W 0)] s) (fun x_21 s_20 => some (.inl (some (.int x_21)), s_20)) xo), eC (am_cls s sb) 7 (cI (cl_ tb_ct tb_mt B K_X8_endLease [.ref sb, .int (nm r W 0)] s) (fun x_23 s_22 => some (.inl (some (.int x_23)), s_22)) xo), eC (am_cls s sb) 7 (cI (cl_ tb_ct tb_mt B K_X8_addWatch [.ref sb, .int (nm r W 0), .int (nm r W 1), .int (nm r W 2), .int (0 : Int32)] s) (fun x_25 s_24 => some (.inl (some (.int x_25)), s_24)) xo), eC (am_cls s sb) 7 (cI (cl_ tb_ct tb_mt B K_X8_compactFor [.ref sb, .int (nm r W 0)] s) (fun x_27 s_26 => some (.inl (some (.int x_27)), s_26)) xo), eA (gA tb_ct s x 10 5) (eC (am_cls s sb) 7 (cI (cl_ tb_ct tb_mt B K_X8_revertTo [.ref sb, .int (nm r W 0), .null] s) (fun x_30 s_29 => some (.inl (some (.int x_30)), s_29)) xo)) (fun b_28 => eC (am_cls s sb) 7 (cI (cl_ tb_ct tb_mt B K_X8_revertTo [.ref sb, .int (nm r W 0), .ref b_28] s) (fun x_32 s_31 => some (.inl (some (.int x_32)), s_31)) xo)), eC (am_cls s sb) 7 (cI (cl_ tb_ct tb_mt B K_X8_letPass [.ref sb, .int (nm r W 0)] s) (fun x_34 s_33 => some (.inl (some (.int x_34)), s_33)) xo)] (eC (am_cls s sb) 7 (cI (cl_ tb_ct tb_mt B K_X8_attachKey [.ref sb, .int (nm r W 0), .int (nm r W 1)] s) (fun x_36 s_35 => some (.inl (some (.int x_36)), s_35)) xo)) = R → cl_ tb_ct tb_mt B K_X12_perform [.ref x, .ref (V v), .ref sb] s = R := by
    intro R hR
    rw [in_X12_perform, dc_X12_perform_0, xo_3 ho, eA_s, xs_cls hX, eC_s, n0, cI_s, xo_3 ho, eA_s, xs_cls hX, eC_s, n1, cI_s, xo_3 ho, eA_s, xs_cls hX, eC_s, n2, cI_s, m1, eK_s, cls_o w2, eC_s, eo, cI_s, aI_o m3 hv (by omega), eI_s]
    exact hR
  have m4 := m4 v hv
  rw [hc] at start
  have tt := hA.2.2.2.2.2.2.1
  match v, hv with
  | 0, _ =>
    obtain ⟨h1, h2, h3⟩ := hN.put
    obtain ⟨s', e, o, hh⟩ := st_putKey (B := B) hs hA (by omega) hB h1 h2 h3
    refine keep ⟨s', start _ ?_, o, hh⟩
    rw [m4, if_pos (by omega), nI_toInt (by omega)]
    show eC (some 7) 7 (cI (cl_ tb_ct tb_mt B K_X8_putKey _ s) _ _) = _
    rw [eC_s, e, cI_s]
    rfl
  | 1, _ =>
    obtain ⟨h1, h2⟩ := hN.del
    obtain ⟨s', e, o, hh⟩ := st_delete (B := B) hs hA (by omega) hB h1 h2
    refine keep ⟨s', start _ ?_, o, hh⟩
    rw [m4, if_pos (by omega), nI_toInt (by omega)]
    show eA (gA tb_ct s x 10 3) none (fun b_16 => eI (gI tb_ct s b_16 5 4) _) = _
    rw [xo_3 ho, eA_s, xs_4 hX, eI_s, h4]
    by_cases c : 1 < r
    · have et : q_to r W = nm r W 1 := if_pos c
      rw [if_neg (show ¬ nI r ≤ (1 : Int32) from nI_ge (a := 1) c (by omega)), dc_X12_perform_117, hc, eC_s, show cl_ tb_ct tb_mt B K_X8_deleteRange [.ref sb, .int (nm r W 0), .int (nm r W 1)] s = cl_ tb_ct tb_mt B K_X8_deleteRange [.ref sb, .int (nm r W 0), .int (q_to r W)] s by rw [et], e, cI_s]
      rfl
    · have et : q_to r W = nm r W 0 := if_neg c
      rw [if_pos (show nI r ≤ (1 : Int32) from nI_le (b := 1) (by omega) (by omega)), dc_X12_perform_117, hc, eC_s, show cl_ tb_ct tb_mt B K_X8_deleteRange [.ref sb, .int (nm r W 0), .int (nm r W 0)] s = cl_ tb_ct tb_mt B K_X8_deleteRange [.ref sb, .int (nm r W 0), .int (q_to r W)] s by rw [et], e, cI_s]
      rfl
  | 2, _ =>
    obtain ⟨s', e, o, hh⟩ := st_grant (B := B) (x := nm r W 0) hs hB
    refine keep ⟨s', start _ ?_, o, hh⟩
    rw [m4, if_pos (by omega), nI_toInt (by omega)]
    show eC (some 7) 7 (cI (cl_ tb_ct tb_mt B K_X8_addLease _ s) _ _) = _
    rw [eC_s, e, cI_s]
    rfl
  | 3, _ =>
    obtain ⟨s', e, o, hh⟩ := st_keep (B := B) (x := nm r W 0) hs hB
    refine keep ⟨s', start _ ?_, o, hh⟩
    rw [m4, if_pos (by omega), nI_toInt (by omega)]
    show eC (some 7) 7 (cI (cl_ tb_ct tb_mt B K_X8_renew _ s) _ _) = _
    rw [eC_s, e, cI_s]
    rfl
  | 4, _ =>
    obtain ⟨s', e, o, hh⟩ := st_endLease (B := B) (l := nm r W 0) hs hA (by omega) hB
    refine keep ⟨s', start _ ?_, o, hh⟩
    rw [m4, if_pos (by omega), nI_toInt (by omega)]
    show eC (some 7) 7 (cI (cl_ tb_ct tb_mt B K_X8_endLease _ s) _ _) = _
    rw [eC_s, e, cI_s]
    rfl
  | 5, _ =>
    obtain ⟨c1, c2, c3⟩ := st_addWatch (B := B) hs hB (by omega) (nm r W 0) (nm r W 1) (nm r W 2) 0
    have n5 := SR.n5 hs
    have : ∃ s', cl_ tb_ct tb_mt B K_X8_addWatch [.ref sb, .int (nm r W 0), .int (nm r W 1), .int (nm r W 2), .int (0 : Int32)] s = some (.inl (some (.int (q_pf 5 r W σ).1)), s') ∧ so s s' sb (sb + 218) ∧ SS s' sb (q_pf 5 r W σ).2 := by
      show ∃ s', cl_ tb_ct tb_mt B K_X8_addWatch [.ref sb, .int (nm r W 0), .int (nm r W 1), .int (nm r W 2), .int (0 : Int32)] s = some (.inl (some (.int (p_watch σ (nm r W 0) (nm r W 1) (nm r W 2) 0).1)), s') ∧ so s s' sb (sb + 218) ∧ SS s' sb (p_watch σ (nm r W 0) (nm r W 1) (nm r W 2) 0).2
      unfold p_watch
      by_cases h8 : σ.1 5 = 8
      · rw [if_pos h8]
        exact ⟨s, c1 h8, so_rfl, hs⟩
      · rw [if_neg h8]
        by_cases hy : nm r W 2 ≤ nI (σ.1 0 + 1)
        · rw [if_neg (fun hc => hc hy)]
          exact c3 (by omega) hy
        · rw [if_pos hy]
          exact ⟨s, c2 (by omega) hy, so_rfl, hs⟩
    obtain ⟨s', e, o, hh⟩ := this
    refine keep ⟨s', start _ ?_, o, hh⟩
    rw [m4, if_pos (by omega), nI_toInt (by omega)]
    show eC (some 7) 7 (cI (cl_ tb_ct tb_mt B K_X8_addWatch _ s) _ _) = _
    rw [eC_s, e, cI_s]
  | 6, _ =>
    obtain ⟨j, e, j1, j2, j3⟩ := hN.one (lo := 1) (hi := 9999) (Nat.le_refl _) rfl rfl (by omega)
    obtain ⟨s', e, o, hh⟩ := st_compact (B := B) (y := nm r W 0) hs hB (by rw [e]; exact nI_pos j3) (by omega)
    refine keep ⟨s', start _ ?_, o, hh⟩
    rw [m4, if_pos (by omega), nI_toInt (by omega)]
    show eC (some 7) 7 (cI (cl_ tb_ct tb_mt B K_X8_compactFor _ s) _ _) = _
    rw [eC_s, e, cI_s]
    rfl
  | 7, _ =>
    obtain ⟨j, ej, j1, j2, j3⟩ := hN.one (lo := 1) (hi := 9999) (Nat.le_refl _) rfl rfl (by omega)
    obtain ⟨n', K', k1⟩ := hp
    obtain ⟨s', e, o, hh, n2', K2, k2⟩ := st_revert (B := B) (x := nm r W 0) (p := x + 443) hs hA (by omega) hB (by omega) (Or.inr (by omega)) k1 (by rw [ej]; exact nI_ne0 (by omega) j3)
    refine ⟨s', start _ ?_, fun q q1 q2 => o.1 q q1 (by omega), o.2, hh, n2', K2, k2⟩
    rw [m4, if_pos (by omega), nI_toInt (by omega)]
    show eA (gA tb_ct s x 10 5) _ (fun b_28 => eC (some 7) 7 (cI (cl_ tb_ct tb_mt B K_X8_revertTo [.ref sb, .int (nm r W 0), .ref b_28] s) _ _)) = _
    rw [xo_5 ho, eA_s, eC_s, e, cI_s]
    rfl
  | 8, _ =>
    obtain ⟨j, ej, j1, j2, -⟩ := hN.one (lo := 1) (hi := 1000) (Nat.le_refl _) rfl rfl (by omega)
    obtain ⟨s', e, o, hh⟩ := st_tick (B := B) (tt := j) hs hA hu hB (by omega)
    rw [← ej] at e hh
    refine keep ⟨s', start _ ?_, o, hh⟩
    rw [m4, if_pos (by omega), nI_toInt (by omega)]
    show eC (some 7) 7 (cI (cl_ tb_ct tb_mt B K_X8_letPass _ s) _ _) = _
    rw [eC_s, e, cI_s]
    rfl
  | 9, _ =>
    obtain ⟨s', e, o, hh⟩ := st_attach (B := B) (key := nm r W 0) (l := nm r W 1) hs hB
    refine keep ⟨s', start _ ?_, o, hh⟩
    rw [m4, if_neg (by omega)]
    show eC (some 7) 7 (cI (cl_ tb_ct tb_mt B K_X8_attachKey _ s) _ _) = _
    rw [eC_s, e, cI_s]
    rfl
theorem EVv.inj (hV : EVv B s V) (hv : v < 10) (e : V v = V 9) : v = 9 := by
  obtain ⟨-, q1, k1, -⟩ := hV.2.1 v hv
  obtain ⟨-, q2, k2, -⟩ := hV.2.1 9 (by omega)
  rw [e, k2] at k1
  have h5 : (nI 9) = nI v := by
    have := Option.some.inj k1
    have := (Prod.mk.inj (Sum.inr.inj this)).2
    simp only [List.cons.injEq, Value.int.injEq] at this
    exact this.2.2.2.2.2.1
  exact ((nI_eq (by omega) (by omega)).mp h5).symm
theorem xs_judge (hB : B ≤ a) (hV : EVv B s V) (hv : v < 10) (h : XSc s a F T W) : cl_ tb_ct tb_mt B K_X6_judge [.ref a, .ref (V v), .int y] s = some (.inl none, if q_ref v y = true then xsS s a (upd (upd F 7 3) 8 (F 6)) T W else s) := by
  have e36 : rn_ tb_ct tb_mt B mm_X6_judge 36 [.ref a, .ref (V v), .int y, am_un] [] s = some (.inl none, xsS s a (upd (upd F 7 3) 8 (F 6)) T W) := by
    rw [dc_X6_judge_36, dc_X6_judge_41, if_neg (by decide), xs_6 h, eI_s, xs_cls h, eC_s, xs_fail h hB, cI_s]
  have e40 : rn_ tb_ct tb_mt B mm_X6_judge 40 [.ref a, .ref (V v), .int y, am_un] [] s = some (.inl none, s) := by
    rw [dc_X6_judge_40, dc_X6_judge_41, if_pos rfl]
  rw [in_X6_judge, dc_X6_judge_0, e36, e40, hV.2.2.1, eK_s]
  unfold q_ref
  by_cases h1 : y = -2
  · rw [if_pos h1, decide_eq_true h1]
    rfl
  · rw [if_neg h1, decide_eq_false h1]
    by_cases h2 : y = -3
    · rw [if_pos h2, decide_eq_true h2]
      rfl
    · rw [if_neg h2, decide_eq_false h2]
      by_cases h3 : y = -2000000001
      · rw [if_pos h3, decide_eq_true h3]
        rfl
      · rw [if_neg h3, decide_eq_false h3]
        by_cases h4 : y = -2000000002
        · rw [if_pos h4, decide_eq_true h4]
          rfl
        · rw [if_neg h4, decide_eq_false h4]
          by_cases h5 : v = 9
          · rw [decide_eq_true h5, if_pos (by rw [h5])]
            by_cases h6 : y = -1
            · rw [if_pos h6, decide_eq_true h6]
              rfl
            · rw [if_neg h6, decide_eq_false h6]
              rfl
          · rw [decide_eq_false h5, if_neg (fun hc => h5 (hV.inj hv hc))]
            rfl
theorem xs_semi (hB : B ≤ a) (hn : n ≤ 500) (h : XSc s a F T W) (h2 : F 2 = nI n) (h3 : F 3 = nI p) (hp : p ≤ n) : (F 7 ≠ 0 → cl_ tb_ct tb_mt B K_X6_passSemicolon [.ref a] s = some (.inl (some (.int 0)), s)) ∧ (F 7 = 0 → ∃ s' F', cl_ tb_ct tb_mt B K_X6_passSemicolon [.ref a] s = some (.inl (some (.int (if q_sp T n p < n ∧ T (q_sp T n p) = 59 then 1 else 0))), s') ∧ so s s' a (a + 3) ∧ XSc s' a F' T W ∧ F' 2 = nI n ∧ F' 5 = F 5 ∧ (q_sp T n p < n ∧ T (q_sp T n p) = 59 → F' 3 = nI (q_sp T n p + 1) ∧ F' 7 = 0) ∧ (n ≤ q_sp T n p → F' 7 = 0) ∧ (q_sp T n p < n ∧ T (q_sp T n p) ≠ 59 → F' 7 = 1 ∧ F' 8 = nI (q_sp T n p))) := by
  have hj := q_sp_le (T := T) hp
  rw [in_X6_passSemicolon, dc_X6_passSemicolon_0, xs_7 h, eI_s]
  refine ⟨fun hc => if_neg hc, fun h7 => ?_⟩
  obtain ⟨s1, e1, o1, x1⟩ := xs_skip (B := B) hB hn h h2 h3 hp
  have g2 : (upd F 3 (nI (q_sp T n p))) 2 = nI n := (upd_n (by omega)).trans h2
  have g7 : (upd F 3 (nI (q_sp T n p))) 7 = 0 := (upd_n (by omega)).trans h7
  have g5 : (upd F 3 (nI (q_sp T n p))) 5 = F 5 := upd_n (by omega)
  rw [if_pos h7, xs_cls h, eC_s, e1, cV_s, xs_3 x1, eI_s, xs_2 x1, eI_s, g2, upd_k]
  by_cases c1 : q_sp T n p < n
  · have hb := xs_byte (B := B) x1 g2 hn (show q_sp T n p < 2 ^ 31 by omega)
    rw [show byt T n (q_sp T n p) = T (q_sp T n p) from if_pos c1] at hb
    rw [if_pos (nI_lt c1 (by omega)), eI_s, xs_cls x1, eC_s, hb, cI_s]
    by_cases c2 : T (q_sp T n p) = 59
    · rw [if_pos c2, xs_3 x1, eI_s, upd_k, nI_1, xs_p3 x1 hB, eS_s, if_pos ⟨c1, c2⟩]
      exact ⟨_, _, rfl, so_tr o1 so_ov, OV.of, g2, g5, fun _ => ⟨rfl, g7⟩, fun hc => by omega, fun hc => absurd c2 hc.2⟩
    · rw [if_neg c2, xs_3 x1, eI_s, upd_k, xs_cls x1, eC_s, xs_fail x1 hB, cI_s, if_neg (fun hc => c2 hc.2)]
      exact ⟨_, _, rfl, so_tr o1 so_ov, OV.of, g2, g5, fun hc => absurd hc.2 c2, fun hc => by omega, fun _ => ⟨rfl, rfl⟩⟩
  · rw [if_neg (nI_nlt (by omega) (by omega)), if_neg (fun hc => c1 hc.1)]
    exact ⟨_, _, rfl, o1, x1, g2, g5, fun hc => absurd hc.1 c1, fun _ => g7, fun hc => absurd hc.1 c1⟩
end Ld
