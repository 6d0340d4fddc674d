/-! ===== the law: what a wrapper leaves, what the model's call adds ===== -/
def CW (s s' : am_S) (x nb t : Nat) : Prop := (∀ q, q < s.2.1 → (q < nb ∨ nb + 218 ≤ q) → (q < x + 443 ∨ x + 492 ≤ q) → q ≠ t → s'.1 q = s.1 q) ∧ s.2.1 ≤ s'.2.1 ∧ s'.2.1 ≤ s.2.1 + 1 ∧ s.2.2.1 ≤ s'.2.2.1 ∧ s'.2.2.1 ≤ s.2.2.1 + 6 ∧ s'.2.2.2 = s.2.2.2
def WO (s : am_S) (x nb t : Nat) (R : am_R) (k : Int32) (a : Int64) (σ' : stT) : Prop := ∃ s' f, R = some (.inl (some (.int k)), s') ∧ CW s s' x nb t ∧ SS s' nb σ' ∧ PST s' x ∧ s'.1 t = some (.inl (.long, 1, .inr (.inl f))) ∧ (k = 0 → f 0 = a)
section Lw
variable {s s' s1 : am_S} {B x nb sb u t m : Nat} {σ σ' : stT} {f : Nat → Int64} {R M : am_R} {ok ok1 ok2 : Bool} {k c w : Int32} {a z : Int64} {H : Nat → am_S → am_R} {v v' : Nat → Int32} {F F' : mrT} {G Z : am_S → am_R} {G1 : Int32 → am_S → am_R} {A : Value}
theorem lg_eq : lg_cmp a a = 0 := by
  unfold lg_cmp
  rw [if_neg (fun h : a > a => absurd (Int64.lt_iff_toInt_lt.mp h) (Int.lt_irrefl _)), if_pos rfl]
theorem wj_t (h : s.1 t = some (.inl (.long, 1, .inr (.inl f)))) (hB : B ≤ t) : wJ B s t (0 : Int32) a = some (am_set s t (.inl (.long, 1, .inr (.inl (vp_updL f 0 a))))) := by
  show wJ B s t (nI 0) a = _
  unfold wJ am_la
  rw [h]
  simp only [if_true]
  rw [if_pos ⟨inb_n (by omega) (by omega), hB⟩, nat_n (by omega)]
theorem aj_t (h : s.1 t = some (.inl (.long, 1, .inr (.inl f)))) : aJ s t (0 : Int32) = some (f 0) := by
  show aJ s t (nI 0) = _
  unfold aJ am_la
  rw [h]
  simp only [if_true]
  rw [if_pos (inb_n (by omega) (by omega)), nat_n (by omega)]
theorem wo_set (e2 : fr s s1 x nb) (e3 : SS s1 nb σ') (e4 : PST s1 x) (n0 : x < nb ∧ nb + 218 ≤ x + 437) (hl : x + 504 ≤ t) (e1 : R = some (.inl (some (.int 0)), am_set s1 t (.inl (.long, 1, .inr (.inl (vp_updL f 0 a)))))) : WO s x nb t R 0 a σ' := by
  refine ⟨am_set s1 t (.inl (.long, 1, .inr (.inl (vp_updL f 0 a)))), vp_updL f 0 a, e1, ⟨fun q hq h1 h2 h3 => (set_ne h3).trans (e2.1 q h1 h2), ?_⟩, ?_, ?_, set_at, fun _ => if_pos rfl⟩
  · show s.2.1 ≤ s1.2.1 ∧ s1.2.1 ≤ s.2.1 + 1 ∧ s.2.2.1 ≤ s1.2.2.1 ∧ s1.2.2.1 ≤ s.2.2.1 + 6 ∧ s1.2.2.2 = s.2.2.2
    rw [e2.2]
    exact ⟨Nat.le_refl _, Nat.le_add_right _ _, Nat.le_refl _, Nat.le_add_right _ _, rfl⟩
  · exact SR.at e3 (fun q h1 h2 => set_ne (by omega))
  · exact e4.at (fun q h1 h2 => set_ne (by omega))
theorem wo_bump (h : CX B s x nb sb u σ) (ht : s.1 t = some (.inl (.long, 1, .inr (.inl f)))) (hk : k ≠ 0) (e1 : R = some (.inl (some (.int k)), am_bump s)) : WO s x nb t R k a σ :=
  ⟨am_bump s, f, e1, ⟨fun _ _ _ _ _ => rfl, Nat.le_add_right _ _, Nat.le_refl _, Nat.le_add_right _ _, Nat.le_refl _, rfl⟩, SR.at h.ss (fun _ _ _ => rfl), h.p.at (fun _ _ _ => rfl), ht, fun e => absurd e hk⟩
theorem wo_CO (h : CX B s x nb sb u σ) (ht : s.1 t = some (.inl (.long, 1, .inr (.inl f)))) (hl : x + 504 ≤ t) (hc : CO s x nb R ok (.int w) σ') (hH : ∀ s', H 0 s' = some (.inl (some (.int 1)), s')) : WO s x nb t (cI R (fun y s1 => eS (wJ B s1 t (0 : Int32) y.toInt64) (fun s3 => some (.inl (some (.int (0 : Int32))), s3))) H) (if ok = true then 0 else 1) w.toInt64 (if ok = true then σ' else σ) := by
  have n0 := h.n
  cases ok with
  | true =>
    obtain ⟨s1, e1, e2, e3, e4⟩ := hc.1 rfl
    have t1 : s1.1 t = some (.inl (.long, 1, .inr (.inl f))) := (e2.1 t (by omega) (by omega)).trans ht
    refine wo_set (f := f) e2 e3 e4 ⟨n0.1, n0.2.1⟩ hl ?_
    rw [e1, cI_s, wj_t t1 (by omega), eS_s]
  | false =>
    refine wo_bump h ht (by decide) ?_
    rw [hc.2 rfl, cI_x, hH]
    rfl
theorem wo_COJ (h : CX B s x nb sb u σ) (ht : s.1 t = some (.inl (.long, 1, .inr (.inl f)))) (hl : x + 504 ≤ t) (hc : CO s x nb R ok (.long a) σ') (hH : ∀ s', H 0 s' = some (.inl (some (.int 1)), s')) : WO s x nb t (cJ R (fun y s1 => eS (wJ B s1 t (0 : Int32) y) (fun s3 => some (.inl (some (.int (0 : Int32))), s3))) H) (if ok = true then 0 else 1) a (if ok = true then σ' else σ) := by
  have n0 := h.n
  cases ok with
  | true =>
    obtain ⟨s1, e1, e2, e3, e4⟩ := hc.1 rfl
    have t1 : s1.1 t = some (.inl (.long, 1, .inr (.inl f))) := (e2.1 t (by omega) (by omega)).trans ht
    refine wo_set (f := f) e2 e3 e4 ⟨n0.1, n0.2.1⟩ hl ?_
    rw [e1, cJ_s, wj_t t1 (by omega), eS_s]
  | false =>
    refine wo_bump h ht (by decide) ?_
    rw [hc.2 rfl, cJ_x, hH]
    rfl
theorem wo_CO2 (h : CX B s x nb sb u σ) (ht : s.1 t = some (.inl (.long, 1, .inr (.inl f)))) (hl : x + 504 ≤ t) (hc : CO2 s x nb R ok1 ok2 (.int w) σ') (hH : ∀ s', H 1 s' = some (.inl (some (.int 1)), s')) (hH2 : ok2 = true ∨ ∀ s', H 0 s' = some (.inl (some (.int 2)), s')) : WO s x nb t (cI R (fun y s1 => eS (wJ B s1 t (0 : Int32) y.toInt64) (fun s3 => some (.inl (some (.int (0 : Int32))), s3))) H) (if ok1 = true then (if ok2 = true then 0 else 2) else 1) w.toInt64 (if ok1 = true then (if ok2 = true then σ' else σ) else σ) := by
  have n0 := h.n
  cases ok1 with
  | true =>
    cases ok2 with
    | true =>
      obtain ⟨s1, e1, e2, e3, e4⟩ := hc.2.2 rfl rfl
      have t1 : s1.1 t = some (.inl (.long, 1, .inr (.inl f))) := (e2.1 t (by omega) (by omega)).trans ht
      refine wo_set (f := f) e2 e3 e4 ⟨n0.1, n0.2.1⟩ hl ?_
      rw [e1, cI_s, wj_t t1 (by omega), eS_s]
    | false =>
      rcases hH2 with hH2 | hH2
      · cases hH2
      refine wo_bump h ht (show (2 : Int32) ≠ 0 by decide) ?_
      rw [hc.2.1 rfl rfl, cI_x, hH2]
      rfl
  | false =>
    refine wo_bump h ht (show (1 : Int32) ≠ 0 by decide) ?_
    rw [hc.1 rfl, cI_x, hH]
    rfl
theorem m_thr (h : MO s m v F) : cl_ tb_ct tb_mt B K_X13_thrown [.ref m] s = some (.inl (some (.int (v 4))), s) := by
  rw [in_X13_thrown, dc_X13_thrown_0, gI_o (mo_o h) rfl rfl rfl, eI_s]
/-- what the model's call leaves -/
def MQL (s s' : am_S) (m : Nat) (v : Nat → Int32) (F : mrT) (σ' : stT) : Prop := so s s' m (m + 12) ∧ ∃ v' F', MO s' m v' F' ∧ FR (F' 1) σ' ∧ KM v v' F F'
theorem lm_fin (hc : am_cls s m = some 11) (hm : MR s m v F M k A σ') (hA : ∃ w, A = .int w ∧ (k = 0 → a = w.toInt64)) (ht : s.1 t = some (.inl (.long, 1, .inr (.inl f)))) (hf : k = 0 → f 0 = a) (htm : t < m ∨ m + 12 ≤ t) (hG : ∀ y s, G1 y s = G s) : ∃ s', eC (am_cls s m) 11 (cI M (fun y s7 => eC (am_cls s7 m) 11 (cI (cl_ tb_ct tb_mt B K_X13_thrown [.ref m] s7) (fun y2 s9 => if y2 = k then if k = 0 then eJ (aJ s9 t (0 : Int32)) (fun y3 => if (lg_cmp y3 y.toInt64) = 0 then G1 y s9 else Z s9) else G1 y s9 else Z s9) xo)) xo) = G s' ∧ MQL s s' m v F σ' := by
  obtain ⟨s7, v', F', e1, e2, e3, e4, e5, e6⟩ := hm
  obtain ⟨w, rfl, hw⟩ := hA
  refine ⟨s7, ?_, e2, v', F', e3, e4, e5⟩
  rw [hc, eC_s, e1, cI_s, mo_cls e3, eC_s, m_thr e3, cI_s, if_pos e6]
  by_cases h0 : k = 0
  · rw [if_pos h0, aj_t ((e2.1 t htm).trans ht), eJ_s, hf h0, hw h0, if_pos lg_eq, hG]
  · rw [if_neg h0, hG]
theorem lm_finJ {b : Int64} {G2 : Int64 → am_S → am_R} (hc : am_cls s m = some 11) (hm : MR s m v F M k A σ') (hA : ∃ b : Int64, A = .long b ∧ (k = 0 → a = b)) (ht : s.1 t = some (.inl (.long, 1, .inr (.inl f)))) (hf : k = 0 → f 0 = a) (htm : t < m ∨ m + 12 ≤ t) (hG : ∀ y s, G2 y s = G s) : ∃ s', eC (am_cls s m) 11 (cJ M (fun y s7 => eC (am_cls s7 m) 11 (cI (cl_ tb_ct tb_mt B K_X13_thrown [.ref m] s7) (fun y2 s9 => if y2 = k then if k = 0 then eJ (aJ s9 t (0 : Int32)) (fun y3 => if (lg_cmp y3 y) = 0 then G2 y s9 else Z s9) else G2 y s9 else Z s9) xo)) xo) = G s' ∧ MQL s s' m v F σ' := by
  obtain ⟨s7, v', F', e1, e2, e3, e4, e5, e6⟩ := hm
  obtain ⟨w, rfl, hw⟩ := hA
  refine ⟨s7, ?_, e2, v', F', e3, e4, e5⟩
  rw [hc, eC_s, e1, cJ_s, mo_cls e3, eC_s, m_thr e3, cI_s, if_pos e6]
  by_cases h0 : k = 0
  · rw [if_pos h0, aj_t ((e2.1 t htm).trans ht), eJ_s, hf h0, hw h0, if_pos lg_eq, hG]
  · rw [if_neg h0, hG]
theorem lm_dir (hc : am_cls s m = some 11) (hm : MR s m v F M c (.int w) σ') (hG : ∀ s, G1 w s = G s) : ∃ s', eC (am_cls s m) 11 (cI M (fun y s3 => if w = y then G1 y s3 else Z s3) xo) = G s' ∧ MQL s s' m v F σ' := by
  obtain ⟨s7, v', F', e1, e2, e3, e4, e5, e6⟩ := hm
  refine ⟨s7, ?_, e2, v', F', e3, e4, e5⟩
  rw [hc, eC_s, e1, cI_s, if_pos rfl, hG]
theorem if_int (hk : ok = true → a = w.toInt64) : ∃ w', (if ok = true then Value.int w else .int 0) = .int w' ∧ ((if ok = true then (0 : Int32) else 1) = 0 → a = w'.toInt64) := by
  cases ok with
  | true => exact ⟨w, rfl, fun _ => hk rfl⟩
  | false => exact ⟨0, rfl, fun e => absurd e (by decide)⟩
theorem if_lng (hk : ok = true → a = z) : ∃ w' : Int64, (if ok = true then Value.long z else .long 0) = .long w' ∧ ((if ok = true then (0 : Int32) else 1) = 0 → a = w') := by
  cases ok with
  | true => exact ⟨z, rfl, fun _ => hk rfl⟩
  | false => exact ⟨0, rfl, fun e => absurd e (by decide)⟩
end Lw
