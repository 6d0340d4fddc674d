/-! ===== the model: a statement, all of it ===== -/
section W5
variable {σ : stT} {i u r vb : Nat} {x y l f t k key : Int32} {W : Nat → Int32} {p : (Nat → Int32) → Bool}
theorem bg_5 : (bg σ.1) 5 = σ.1 5 := va_un (by omega)
theorem del5 : (p_del p σ).1 5 = σ.1 5 := by
  unfold p_del
  split
  · rfl
  · exact (p_se_k (by omega) (by omega) (by omega) (by omega) _ _).trans (p_df_k (by omega) (by omega) _ _ _)
theorem ends5 : (p_ends i σ).1 5 = σ.1 5 := by
  unfold p_ends
  rw [del5]
  show va_up σ.1 4 (σ.1 4 - 1) 5 = σ.1 5
  exact va_un (by omega)
theorem pass5 : ∀ k t (σ : stT), (p_pass k t σ).2.1 5 = σ.1 5
  | 0, _, _ => rfl
  | k + 1, t, σ => by
    unfold p_pass
    split
    · rfl
    · rw [pass5 k, ends5]
      rfl
/-- at most eight watches behind a statement -/
theorem pf5 (h : σ.1 5 ≤ 8) : (q_pf vb r W σ).2.1 5 ≤ 8 := by
  unfold q_pf
  split
  · unfold p_put
    split
    · exact h
    · split
      · exact h
      · rw [p_se_k (by omega) (by omega) (by omega) (by omega), p_wr_k (by omega) (by omega), bg_5]
        exact h
  · show (p_del _ σ).1 5 ≤ 8
    rw [del5]
    exact h
  · unfold p_grant
    split
    · exact h
    · show va_up (va_up σ.1 4 (σ.1 4 + 1)) 8 (σ.1 8 + 1) 5 ≤ 8
      rw [va_un (by omega), va_un (by omega)]
      exact h
  · unfold p_renew
    split
    · exact h
    · exact h
  · unfold p_revoke
    split
    · show (p_ends _ σ).1 5 ≤ 8
      rw [ends5]
      exact h
    · exact h
  · unfold p_watch
    split
    · exact h
    · split
      · exact h
      · show va_up σ.1 5 (σ.1 5 + 1) 5 ≤ 8
        rw [va_us]
        omega
  · unfold p_compact
    split
    · exact h
    · split
      · exact h
      · show (p_co σ.1 σ.2 _).1 5 ≤ 8
        rw [p_co_k (by omega) (by omega) (by omega) (by omega)]
        exact h
  · unfold p_revert
    split
    · split
      · exact h
      · show (p_se 152 (p_rv σ _)).1 5 ≤ 8
        rw [p_se_k (by omega) (by omega) (by omega) (by omega)]
        unfold p_rv
        rw [p_wu_k (by omega) (by omega), p_df_k (by omega) (by omega)]
        exact h
    · exact h
  · unfold p_tick
    show va_up (p_pass 9 (nm r W 0) σ).2.1 2 (σ.1 2 + nN (nm r W 0)) 5 ≤ 8
    rw [va_un (by omega), pass5]
    exact h
  · unfold p_attach
    split
    · split
      · exact h
      · exact h
    · exact h
theorem SZ.of (hA : IA u σ) (h5 : σ.1 5 ≤ 8) : SZ σ := ⟨by have := hA.2.1; omega, hA.1.2.2.2.2.2.2.1, by have := hA.2.2.1; omega, hA.2.2.2.1.1, h5, hA.2.2.2.2.1.1, hA.2.2.2.2.1.2.2.1.1, hA.2.2.2.2.1.2.2.2.1⟩
end W5
def aQ (vb : Nat) (x : Int32) : Int32 := if vb = 9 then (if x = -1 then -2 else x) else x
theorem aQ_ref {vb : Nat} {x : Int32} : q_ref vb x = q_ref 0 (aQ vb x) := by
  unfold aQ
  by_cases c : vb = 9
  · subst c
    rw [if_pos rfl]
    exact ref_9
  · rw [if_neg c]
    exact ref_0 c
section Sr
variable {s s' : am_S} {B m i j n p q e b c kd u r vb : Nat} {v v1 v2 v' : Nat → Int32} {F F' : mrT} {T W : Nat → Int32} {x y a lo hi w0 : Int32} {σ σ' σ1 : stT} {Q : Nat → Nat} {A C : am_R} {R : Nat × Nat × Nat × (Nat → Int32)}
theorem STO.vk {p' : Nat} (h : STO s m v1 F σ σ1 e p p' a A) (hk : ∀ k, (k < 10 ∨ 14 ≤ k) → v1 k = v k) : STO s m v F σ σ1 e p p' a A := by
  obtain ⟨s', v', F', σ', h1, h2, h3, h4, h5, h6, h7⟩ := h
  exact ⟨s', v', F', σ', h1, h2, h3, h4, h5, fun k a b c => (h6 k a b c).trans (hk k a), h7⟩
theorem MR.cl9 {K : Nat} {as : List Value} {cc : Int32} (h : MR s m v F (cl_ tb_ct tb_mt B K as s) cc (.int a) σ') : MR s m v F (cI (cl_ tb_ct tb_mt B K as s) (fun x_1 s_1 => some (.inl (some (.int (if x_1 = -1 then -2 else x_1))), s_1)) xo) cc (.int (if a = -1 then -2 else a)) σ' := by
  obtain ⟨s', v', F', e, o, h1, h2, h3, h4⟩ := h
  refine ⟨s', v', F', ?_, o, h1, h2, h3, h4⟩
  rw [e, cI_s]
theorem MR.ok {ok : Bool} {a' : Value} {R : am_R} (h : MR s m v F R (if ok = true then 0 else 1) (if ok = true then .int a else a') (if ok = true then σ' else σ)) (hk : ok = true) : MR s m v F R 0 (.int a) σ' := by
  rw [if_pos hk, if_pos hk, if_pos hk] at h
  exact h
theorem mk_statement (h : MM B s m v F σ) (hA : IA u σ) (hL : ILp σ) (hu : u + 10000 < 2 ^ 24) (hE : EVd B s) (hQ : ELt B s Q) (hC : CT F T n) (h9 : v 9 = nI n) (h10 : v 10 = nI p) (hp : p ≤ n) (h12 : v 12 = 0) : STO s m v F σ (q_pf (q_sm T n p fun _ => 0).2.2.1 (q_sm T n p fun _ => 0).2.2.2.1 (q_sm T n p fun _ => 0).2.2.2.2 σ).2 (q_sm T n p fun _ => 0).1 (q_sp T n p) (q_sm T n p fun _ => 0).2.1 (aQ (q_sm T n p fun _ => 0).2.2.1 (q_pf (q_sm T n p fun _ => 0).2.2.1 (q_sm T n p fun _ => 0).2.2.2.1 (q_sm T n p fun _ => 0).2.2.2.2 σ).1) (cl_ tb_ct tb_mt B K_X13_statement [.ref m] s) := by
  have hB := h.2.2.2
  have hf := h.2.1
  obtain ⟨v1, r1, r10, r11, rk⟩ := mk_reads (s := s) hC hB h9 h10 hp
  have hq := q_sp_le (T := T) hp
  have hl := q_le_le (T := T) hq.2
  have k9 : v1 9 = nI n := (rk 9 (by omega) (by omega)).trans h9
  have k12 : v1 12 = 0 := (rk 12 (by omega) (by omega)).trans h12
  have hok := q_sm_ok (T := T) (n := n) (W := fun _ => 0) hp
  obtain ⟨vb, hvb⟩ : ∃ w, w = q_vb T (q_sp T n p) (q_le T n (q_sp T n p)) := ⟨_, rfl⟩
  have hw : ∀ w, w < 10 → cl_ tb_ct tb_mt B K_X13_isWord [.ref m, .ref (Q w)] (moS s m v1 F) = some (.inl (some (.int (if w = vb then 1 else 0))), moS s m v1 F) := by
    intro w hw
    rw [mk_isWord hC hE hB r10 r11 (hQ w hw).2 hl.1 hl.2, wd_vb hw, ← hvb]
    by_cases d : w = vb
    · rw [decide_eq_true d, if_pos d, if_pos rfl]
    · rw [decide_eq_false d, if_neg d, if_neg Bool.false_ne_true]
  have hvle : vb ≤ 10 := by
    rw [hvb]
    exact fi_le0 _ _
  have run : cl_ tb_ct tb_mt B K_X13_statement [.ref m] s = cl_ tb_ct tb_mt B K_X13_statement [.ref m] (moS s m v F) := by rw [mo_self h.1]
  have hM2 : ∀ v2, MM B (moS s m v2 F) m v2 F σ := fun v2 => ⟨OV.of, h.2⟩
  have vk : ∀ k, (k < 10 ∨ 14 ≤ k) → v1 k = v k := fun k hk => rk k (by omega) (by omega)
  rw [run, st_head hQ hw r11 r1]
  by_cases hv : vb < 10
  · have hR : (q_sm T n p fun _ => 0) = ((q_rn T n (vb_k vb) (vb_n vb) 3 0 (q_le T n (q_sp T n p)) fun _ => 0).1, (q_rn T n (vb_k vb) (vb_n vb) 3 0 (q_le T n (q_sp T n p)) fun _ => 0).2.1, vb, (q_rn T n (vb_k vb) (vb_n vb) 3 0 (q_le T n (q_sp T n p)) fun _ => 0).2.2) := by
      unfold q_sm
      rw [← hvb, if_pos hv]
    have h2 : (q_rn T n (vb_k vb) (vb_n vb) 3 0 (q_le T n (q_sp T n p)) fun _ => 0).1 ≤ 2 := q_rn_2 _ _ _ _
    rw [hR] at hok ⊢
    obtain ⟨R4, hrn⟩ : ∃ R4, R4 = (q_rn T n (vb_k vb) (vb_n vb) 3 0 (q_le T n (q_sp T n p)) fun _ => 0) := ⟨_, rfl⟩
    rw [← hrn] at hok h2 ⊢
    have hN : R4.1 = 0 → NOK vb R4.2.2.1 R4.2.2.2 := fun h0 => (hok h0).1
    clear hok hR
    have hcase : vb = 0 ∨ vb = 1 ∨ vb = 2 ∨ vb = 3 ∨ vb = 4 ∨ vb = 5 ∨ vb = 6 ∨ vb = 7 ∨ vb = 8 ∨ vb = 9 := by omega
    have e165 : ∀ z, rn_ tb_ct tb_mt B mm_X13_otherPart 165 [.ref m, .int z, am_un] [] (moS s m v1 F) = cI (cl_ tb_ct tb_mt B K_X13_number [.ref m, .int 1, .int 9999] (moS s m v1 F)) (fun x_2 s_1 => eI (gI tb_ct s_1 m 11 12) (fun x_3 => if x_3 = 0 then (if z = 0 then eC (am_cls s_1 m) 11 (CL1 B K_X13_revert [.ref m, .int x_2] s_1) else eC (am_cls s_1 m) 11 (CL1 B K_X13_compact [.ref m, .int x_2] s_1)) else some (.inl (some (.int 0)), s_1))) xo := fun z => by
      rw [dc_X13_otherPart_165, mo_cs, eC_s]
    rcases hcase with rfl | rfl | rfl | rfl | rfl | rfl | rfl | rfl | rfl | rfl
    · obtain ⟨v2, hPT⟩ := mk_putPart (s := s) hC hB k9 r10 hl.2 k12 hrn
      refine (st_tail hB hPT hf h2 fun h0 => ?_).vk vk
      obtain ⟨a1, a2, a3⟩ := (hN h0).put
      exact (MR.ok (m_put (hM2 v2) hA (by omega)) (by rw [bKey_of a1, bVal_of a2, bNNN.mpr a3]; rfl)).cl1
    · obtain ⟨v2, hPT⟩ := mk_deletePart (s := s) hC hB k9 r10 hl.2 k12 hrn
      refine (st_tail hB hPT hf h2 fun h0 => ?_).vk vk
      exact (MR.ok (m_delete (hM2 v2) hA (by omega)) (hN h0).rng1).cl1
    · obtain ⟨v2, x2, e1, k1, k2, k3⟩ := mk_one (s := s) (vb := 2) (kd := 3) (lo := 1) (hi := 1000) hC hB k9 r10 hl.2 k12 rfl (by omega) (by omega) rfl rfl rfl rfl (lo_b (by omega)) (by decide) hrn
      have hPT : PTs R4 v1 v2 (moS s m v2 F) (cl_ tb_ct tb_mt B K_X13_otherPart [.ref m] (moS s m v1 F)) (CL1 B K_X13_grant [.ref m, .int (nm R4.2.2.1 R4.2.2.2 0)] (moS s m v2 F)) := one_PT k1 k2 k3 (by rw [ot_head hQ hw, if_pos rfl, e1, cI_s, mo_12s, eI_s, mo_cs, eC_s])
      refine (st_tail hB hPT hf h2 fun h0 => ?_).vk vk
      obtain ⟨j, ej, j1, j2, -⟩ := (hN h0).one (lo := 1) (hi := 1000) (Nat.le_refl _) rfl rfl (by omega)
      exact (MR.ok (m_grant (hM2 v2)) (by rw [ej]; exact bTck_of (by omega) (by omega))).cl1
    · obtain ⟨v2, x2, e1, k1, k2, k3⟩ := mk_one (s := s) (vb := 3) (kd := 5) (lo := 0) (hi := 9999) hC hB k9 r10 hl.2 k12 rfl (by omega) (by omega) rfl rfl rfl rfl (lo_b (by omega)) (by decide) hrn
      have hPT : PTs R4 v1 v2 (moS s m v2 F) (cl_ tb_ct tb_mt B K_X13_otherPart [.ref m] (moS s m v1 F)) (CL1 B K_X13_keepAlive [.ref m, .int (nm R4.2.2.1 R4.2.2.2 0)] (moS s m v2 F)) := one_PT k1 k2 k3 (by rw [ot_head hQ hw, if_neg (by decide), if_neg (by decide), if_pos rfl, e1, cI_s, mo_12s, eI_s, mo_cs, eC_s])
      refine (st_tail hB hPT hf h2 fun h0 => ?_).vk vk
      exact (m_keepAlive (hM2 v2)).cl1
    · obtain ⟨v2, x2, e1, k1, k2, k3⟩ := mk_one (s := s) (vb := 4) (kd := 5) (lo := 0) (hi := 9999) hC hB k9 r10 hl.2 k12 rfl (by omega) (by omega) rfl rfl rfl rfl (lo_b (by omega)) (by decide) hrn
      have hPT : PTs R4 v1 v2 (moS s m v2 F) (cl_ tb_ct tb_mt B K_X13_otherPart [.ref m] (moS s m v1 F)) (CL1 B K_X13_revoke [.ref m, .int (nm R4.2.2.1 R4.2.2.2 0)] (moS s m v2 F)) := one_PT k1 k2 k3 (by rw [ot_head hQ hw, if_neg (by decide), if_neg (by decide), if_neg (by decide), if_pos rfl, e1, cI_s, mo_12s, eI_s, mo_cs, eC_s])
      refine (st_tail hB hPT hf h2 fun h0 => ?_).vk vk
      exact (m_revoke (hM2 v2) hA (by omega)).cl1
    · obtain ⟨v2, hPT⟩ := mk_watchPart (s := s) hC hB k9 r10 hl.2 k12 hrn
      refine (st_tail hB hPT hf h2 fun h0 => ?_).vk vk
      exact (MR.ok (m_watch (hM2 v2) hA.1.h0) (by rw [(hN h0).rng5, bNNN.mpr ((hN h0).opt (j := 2) rfl)]; rfl)).cl1
    · obtain ⟨v2, x2, e1, k1, k2, k3⟩ := mk_one (s := s) (vb := 6) (kd := 4) (lo := 1) (hi := 9999) hC hB k9 r10 hl.2 k12 rfl (by omega) (by omega) rfl rfl rfl rfl (lo_b (by omega)) (by decide) hrn
      have hPT : PTs R4 v1 v2 (moS s m v2 F) (cl_ tb_ct tb_mt B K_X13_otherPart [.ref m] (moS s m v1 F)) (CL1 B K_X13_compact [.ref m, .int (nm R4.2.2.1 R4.2.2.2 0)] (moS s m v2 F)) := one_PT k1 k2 k3 (by rw [ot_head hQ hw, if_neg (by decide), if_neg (by decide), if_neg (by decide), if_neg (by decide), if_pos rfl, e165, e1, cI_s, mo_12s, eI_s, if_neg (show ¬ (1 : Int32) = 0 by decide), mo_cs, eC_s])
      refine (st_tail hB hPT hf h2 fun h0 => ?_).vk vk
      obtain ⟨j, ej, j1, j2, j3⟩ := (hN h0).one (lo := 1) (hi := 9999) (Nat.le_refl _) rfl rfl (by omega)
      exact (MR.ok (m_compact (hM2 v2) hA (by omega)) (by rw [ej, decide_eq_false (show ¬ nI j < (1 : Int32) from nI_nlt (b := 1) (by omega) (by omega))]; rfl)).cl1
    · obtain ⟨v2, x2, e1, k1, k2, k3⟩ := mk_one (s := s) (vb := 7) (kd := 4) (lo := 1) (hi := 9999) hC hB k9 r10 hl.2 k12 rfl (by omega) (by omega) rfl rfl rfl rfl (lo_b (by omega)) (by decide) hrn
      have hPT : PTs R4 v1 v2 (moS s m v2 F) (cl_ tb_ct tb_mt B K_X13_otherPart [.ref m] (moS s m v1 F)) (CL1 B K_X13_revert [.ref m, .int (nm R4.2.2.1 R4.2.2.2 0)] (moS s m v2 F)) := one_PT k1 k2 k3 (by rw [ot_head hQ hw, if_neg (by decide), if_neg (by decide), if_neg (by decide), if_neg (by decide), if_neg (by decide), if_pos rfl, e165, e1, cI_s, mo_12s, eI_s, if_pos (show (0 : Int32) = 0 from rfl), mo_cs, eC_s])
      refine (st_tail hB hPT hf h2 fun h0 => ?_).vk vk
      obtain ⟨j, ej, j1, j2, j3⟩ := (hN h0).one (lo := 1) (hi := 9999) (Nat.le_refl _) rfl rfl (by omega)
      exact (MR.ok (m_revert (hM2 v2) hA (by omega)) (by rw [ej, decide_eq_false (show ¬ nI j < (1 : Int32) from nI_nlt (b := 1) (by omega) (by omega))]; rfl)).cl1
    · obtain ⟨v2, x2, e1, k1, k2, k3⟩ := mk_one (s := s) (vb := 8) (kd := 3) (lo := 1) (hi := 1000) hC hB k9 r10 hl.2 k12 rfl (by omega) (by omega) rfl rfl rfl rfl (lo_b (by omega)) (by decide) hrn
      have hPT : PTs R4 v1 v2 (moS s m v2 F) (cl_ tb_ct tb_mt B K_X13_otherPart [.ref m] (moS s m v1 F)) (CL1 B K_X13_tick [.ref m, .int (nm R4.2.2.1 R4.2.2.2 0)] (moS s m v2 F)) := one_PT k1 k2 k3 (by rw [ot_head hQ hw, if_neg (by decide), if_pos rfl, e1, cI_s, mo_12s, eI_s, mo_cs, eC_s])
      refine (st_tail hB hPT hf h2 fun h0 => ?_).vk vk
      obtain ⟨j, ej, j1, j2, -⟩ := (hN h0).one (lo := 1) (hi := 1000) (Nat.le_refl _) rfl rfl (by omega)
      exact (MR.ok (m_tick (hM2 v2) hA hL (by omega)) (by rw [ej]; exact bTck_of (by omega) (by omega))).cl1
    · obtain ⟨v2, hPT⟩ := mk_attachPart (s := s) hC hB k9 r10 hl.2 k12 hrn
      refine (st_tail hB hPT hf h2 fun h0 => ?_).vk vk
      exact (MR.ok (m_attach (hM2 v2) hA) (by rw [(hN h0).key9, bNNN.mpr ((hN h0).opt (j := 1) rfl)]; rfl)).cl9
  · have hR : (q_sm T n p fun _ => 0) = (1, q_sp T n p, 10, 0, fun _ => 0) := by
      unfold q_sm
      rw [← hvb, if_neg hv]
    have hkp : KPt vb = K_X13_otherPart := by
      unfold KPt
      rw [if_neg (by omega), if_neg (by omega), if_neg (by omega), if_neg (by omega)]
    rw [hR, hkp]
    have k12' : upd (upd v1 12 1) 13 (v1 11) 12 ≠ 0 := by
      rw [upd_n (by omega), upd_k]
      decide
    have hA' : cl_ tb_ct tb_mt B K_X13_otherPart [.ref m] (moS s m v1 F) = some (.inl (some (.int 0)), moS s m (upd (upd v1 12 1) 13 (v1 11)) F) := by
      rw [ot_head hQ hw, if_neg (by omega), if_neg (by omega), if_neg (by omega), if_neg (by omega), if_neg (by omega), if_neg (by omega), mk_fails hB k12, cV_s, dc_X13_otherPart_165, mo_cs, eC_s, mk_number_err k12', cI_s, mo_12s, eI_s, if_neg k12']
    have hPT : PTs (1, q_sp T n p, 0, fun _ => 0) v1 (upd (upd v1 12 1) 13 (v1 11)) (moS s m (upd (upd v1 12 1) 13 (v1 11)) F) (cl_ tb_ct tb_mt B K_X13_otherPart [.ref m] (moS s m v1 F)) none := by
      refine ⟨fun k hk => ?_, fun _ => ⟨⟨0, hA'⟩, ?_, ?_⟩, fun h => absurd h (by decide : (1 : Nat) ≠ 0)⟩
      · rw [upd_n (by omega), upd_n (by omega)]
      · rw [upd_n (by omega)]
        exact upd_k
      · rw [upd_k]
        exact r11
    exact (st_tail (R := (1, q_sp T n p, 0, fun _ => 0)) hB hPT hf (show 1 ≤ 2 by omega) fun h0 => absurd h0 (by decide : (1 : Nat) ≠ 0)).vk vk
end Sr
