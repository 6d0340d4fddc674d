/-! ===== Store: a key written, a key deleted ===== -/
def k6 (a0 a1 a2 a3 a4 a5 : Int32) : Nat → Int32
  | 0 => a0
  | 1 => a1
  | 2 => a2
  | 3 => a3
  | 4 => a4
  | _ => a5
def NOV : Int32 := -2000000000
def p_wr (Z : nmT) (G : rwT) (rv key v l : Int32) : nmT × rwT :=
  if pF (G 0) (Z 3) key < Z 3 then (va_up Z 6 (Z 6 + 1), va_up (va_up G 0 (va_up (G 0) (pF (G 0) (Z 3) key) (k6 key v (G 0 (pF (G 0) (Z 3) key) 2) rv (G 0 (pF (G 0) (Z 3) key) 4 + 1) l))) 2 (va_up (G 2) (Z 6) (ev7 rv 0 key v (G 0 (pF (G 0) (Z 3) key) 1) l (G 0 (pF (G 0) (Z 3) key) 4 + 1))))
  else (va_up (va_up Z 3 (Z 3 + 1)) 6 (Z 6 + 1), va_up (va_up G 0 (insR (G 0) (pI (G 0) (Z 3) key) (Z 3) (k6 key v rv rv 1 l))) 2 (va_up (G 2) (Z 6) (ev7 rv 0 key v NOV l 1)))
def p_de (Z : nmT) (G : rwT) (rv : Int32) (i : Nat) : nmT × rwT := (va_up (va_up Z 6 (Z 6 + 1)) 3 (Z 3 - 1), va_up (va_up G 2 (va_up (G 2) (Z 6) (ev7 rv 1 (G 0 i 0) 0 (G 0 i 1) (G 0 i 5) (G 0 i 4)))) 0 (delR (G 0) i (Z 3)))
section Wr
variable {s s' : am_S} {B b r n i a : Nat} {Z : nmT} {G : rwT} {K : rowT} {key : Int32}
theorem at_inj {a' : Nat} (h : cl_ tb_ct tb_mt B K_X4_at [.ref b, .int (nI i)] s = some (.inl (some (.ref a)), s)) (h' : cl_ tb_ct tb_mt B K_X4_at [.ref b, .int (nI i)] s = some (.inl (some (.ref a')), s)) : a = a' := by
  rw [h] at h'
  injection h' with h'
  injection h' with h' _
  injection h' with h'
  injection h' with h'
  injection h' with h'
theorem kw_kc (h : KW s b n K) (hi : i < n) (ha : cl_ tb_ct tb_mt B K_X4_at [.ref b, .int (nI i)] s = some (.inl (some (.ref a)), s)) : KC s a (K i) ∧ b + 2 ≤ a ∧ a < b + 24 := by
  obtain ⟨h1, A, C, h2, h3, h4⟩ := h
  have hAi := h3.1 i (by omega)
  have := at_inj ha (kr_at_in h2 h1 hi)
  subst this
  have g1 : b + 2 ≤ b + 2 + A i := by omega
  have g2 : b + 2 + A i < b + 24 := by omega
  exact ⟨⟨C (A i), RW.ek h2 hAi, h4 i hi⟩, g1, g2⟩
theorem kw_find_at (h : KW s b n K) (hf : pF K n key < n) : ∃ a, cl_ tb_ct tb_mt B K_X4_find [.ref b, .int key] s = some (.inl (some (.ref a)), s) ∧ cl_ tb_ct tb_mt B K_X4_at [.ref b, .int (nI (pF K n key))] s = some (.inl (some (.ref a)), s) := by
  obtain ⟨h1, A, C, h2, h3, h4⟩ := h
  have e : pF (fun i => C (A i)) n key = pF K n key := pF_cg fun i hi => h4 i hi 0 (by omega)
  refine ⟨b + 2 + A (pF K n key), ?_, kr_at_in h2 h1 hf⟩
  rw [kr_find h2 h3 h1]
  change some (Sum.inl (some (va_rf (if pF (fun i => C (A i)) n key < n then some (b + 2 + A (pF (fun i => C (A i)) n key)) else none))), s) = _
  rw [e, if_pos hf]
  rfl
theorem kw_insert (h : KW s b n K) (hs : srt K n) (hn : n < 22) (hB : B ≤ b) (key : Int32) : ∃ s' a k, cl_ tb_ct tb_mt B K_X4_insert [.ref b, .int key] s = some (.inl (some (.ref a)), s') ∧ so s s' b (b + 24) ∧ KW s' b (n + 1) (insR K (pI K n key) n k) ∧ k 0 = key ∧ k 4 = 0 ∧ cl_ tb_ct tb_mt B K_X4_at [.ref b, .int (nI (pI K n key))] s' = some (.inl (some (.ref a)), s') := by
  obtain ⟨h1, A, C, h2, h3, h4⟩ := h
  have e : ri (fun i => decide (C (A i) 0 < key)) n = pI K n key := by
    rw [← ri_pI hs]
    exact ri_cg n fun i hi => by rw [h4 i hi 0 (by omega)]
  have hle : pI K n key ≤ n := pI_le
  have hok := okA_ins h3 hn hle
  have hc := kr_insert h2 h3 hn hB key
  rw [e] at hc
  refine ⟨_, _, upd (upd (C (A n)) 0 key) 4 0, hc, so_rw, ⟨by omega, _, _, RW.of, hok, fun i hi w hw => ?_⟩, rfl, rfl, ?_⟩
  · unfold insA insR
    by_cases hi2 : i = pI K n key
    · rw [if_pos hi2, if_pos hi2, va_us]
    · rw [if_neg hi2, if_neg hi2]
      by_cases hi3 : pI K n key < i ∧ i ≤ n
      · rw [if_pos hi3, if_pos hi3, va_un (fun e => by have := h3.2 (i - 1) (by omega) n hn e; omega)]
        exact h4 _ (by omega) w hw
      · rw [if_neg hi3, if_neg hi3, va_un (fun e => by have := h3.2 i (by omega) n hn e; omega)]
        exact h4 _ (by omega) w hw
  · rw [kr_at_in RW.of (by omega) (show pI K n key < n + 1 by omega)]
    unfold insA
    rw [if_pos rfl]
/-- the four fields that each writing writes, the creation ahead of them -/
theorem st_w59 {v l bf : Int32} {w1 : Value} {q : Nat} (h : SR s b r Z G) (hq : q < Z 3) (ha : cl_ tb_ct tb_mt B K_X4_at [.ref (b + 1), .int (nI q)] s = some (.inl (some (.ref a)), s)) (he : Z 6 < 152) (hB : B ≤ b) : ∃ s', rn_ tb_ct tb_mt B mm_X8_writeOne 59 [.ref b, w1, .int v, .int l, .ref a, .int bf] [] s = some (.inl none, s') ∧ so s s' b (b + 218) ∧ SR s' b r (va_up Z 6 (Z 6 + 1)) (va_up (va_up G 0 (va_up (G 0) q (k6 (G 0 q 0) v (G 0 q 2) (nI (r + 1)) (G 0 q 4 + 1) l))) 2 (va_up (G 2) (Z 6) (ev7 (nI (r + 1)) 0 (G 0 q 0) v bf l (G 0 q 4 + 1)))) := by
  have hB1 : B ≤ b + 1 := by omega
  obtain ⟨s1, e1, o1, k1, a1⟩ := kw_put h.kw hB1 hq a ha mm_X8_writeOne 1 v (by omega)
  obtain ⟨s2, e2, o2, k2, a2⟩ := kw_put k1 hB1 hq a a1 mm_X8_writeOne 5 l (by omega)
  obtain ⟨s3, e3, o3, k3, a3⟩ := kw_put k2 hB1 hq a a2 mm_X8_writeOne 3 (nI (r + 1)) (by omega)
  obtain ⟨s4, e4, o4, k4, a4⟩ := kw_put k3 hB1 hq a a3 mm_X8_writeOne 4 (G 0 q 4 + 1) (by omega)
  have c3 := (kw_kc k3 hq a3).1
  have c4 := kw_kc k4 hq a4
  have e34 : gI tb_ct s3 a 2 4 = some (G 0 q 4) := by
    rw [kc_4 c3]
    simp [up2]
  have o12 := so_tr o1 o2
  have o14 := so_tr (so_tr o12 o3) o4
  have hSO2 : gI tb_ct s2 b 7 5 = some (nI r) := gI_o ((o12.1 b (by omega)).trans h.o) rfl rfl rfl
  have hS4 := h.setK o14 k4
  obtain ⟨s5, e5, o5, h5⟩ := st_addEvent (B := B) (kd := 0) (bf := bf) hS4 c4.1 (by omega) (by exact he) hB
  refine ⟨s5, ?_, so_tr (so_up o14 (by omega) (by omega)) (so_up o5 (by omega) (by omega)), ?_⟩
  · rw [dc_X8_writeOne_59]
    simp only [e1, e2, e3, e4, e34, eS_s, hSO2, eI_s, nI_1, sr_cls hS4, eC_s, e5, cV_s]
  · refine h5.cg ?_ ?_ ?_ ?_
    · intro i h1 h2
      unfold va_up
      by_cases h6 : i = 6
      · rw [if_pos h6, if_pos h6]
        rfl
      · rw [if_neg h6, if_neg h6]
        by_cases h3 : i = 3
        · rw [if_pos h3, h3]
        · rw [if_neg h3]
    · intro i hi w hw
      change up2 (up2 (up2 (up2 (G 0) q 1 v) q 5 l) q 3 (nI (r + 1))) q 4 (G 0 q 4 + 1) i w = va_up (G 0) q (k6 (G 0 q 0) v (G 0 q 2) (nI (r + 1)) (G 0 q 4 + 1) l) i w
      by_cases hi2 : i = q
      · subst hi2
        rw [va_us]
        match w with
        | 0 => simp [up2, k6]
        | 1 => simp [up2, k6]
        | 2 => simp [up2, k6]
        | 3 => simp [up2, k6]
        | 4 => simp [up2, k6]
        | 5 => simp [up2, k6]
        | w + 6 => omega
      · rw [va_un hi2]
        simp [up2, hi2]
    · intro i hi w hw
      change va_up (G 2) (Z 6) _ i w = va_up (G 2) (Z 6) _ i w
      by_cases hi2 : i = Z 6
      · subst hi2
        rw [va_us, va_us]
        match w with
        | 0 => simp [up2, ev7]
        | 1 => simp [up2, ev7]
        | 2 => simp [up2, ev7]
        | 3 => simp [up2, ev7]
        | 4 => simp [up2, ev7]
        | 5 => simp [up2, ev7]
        | 6 => simp [up2, ev7]
        | w + 7 => omega
      · rw [va_un hi2, va_un hi2]
    · intro g h1 h2
      unfold va_up
      rw [if_neg (by omega), if_neg (by omega), if_neg (by omega), if_neg (by omega)]
theorem st_writeOne {key v l : Int32} (h : SR s b r Z G) (hs : srt (G 0) (Z 3)) (hn : pF (G 0) (Z 3) key < Z 3 ∨ Z 3 < 22) (he : Z 6 < 152) (hB : B ≤ b) : ∃ s', cl_ tb_ct tb_mt B K_X8_writeOne [.ref b, .int key, .int v, .int l] s = some (.inl none, s') ∧ so s s' b (b + 218) ∧ SR s' b r (p_wr Z G (nI (r + 1)) key v l).1 (p_wr Z G (nI (r + 1)) key v l).2 := by
  rw [in_X8_writeOne, dc_X8_writeOne_0]
  simp only [sr_k h, eA_s, sr_kc h, eC_s]
  unfold p_wr
  by_cases hf : pF (G 0) (Z 3) key < Z 3
  · simp only [if_pos hf]
    obtain ⟨a, e1, e2⟩ := kw_find_at (B := B) h.kw hf
    obtain ⟨s', g1, g2, g3⟩ := st_w59 (v := v) (l := l) (bf := G 0 (pF (G 0) (Z 3) key) 1) (w1 := .int key) h hf e2 he hB
    simp only [e1, cA_s, kc_1 (kw_kc h.kw hf e2).1, eI_s]
    refine ⟨s', ?_, g2, ?_⟩
    · rw [← g1]
      exact (dc_X8_writeOne_25 b key v l (some a) (G 0 (pF (G 0) (Z 3) key) 1) s).trans rfl
    · rw [pF_eq hf] at g3
      exact g3
  · simp only [if_neg hf, kw_find_no h.kw hf, cA_n]
    have hn2 : Z 3 < 22 := hn.resolve_left hf
    obtain ⟨s1, a, k, e1, o1, k1, hk0, hk4, a1⟩ := kw_insert h.kw hs hn2 (show B ≤ b + 1 by omega) key
    have hpI : pI (G 0) (Z 3) key < Z 3 + 1 := by
      have : pI (G 0) (Z 3) key ≤ Z 3 := pI_le
      omega
    obtain ⟨s2, e2, o2, k2, a2⟩ := kw_put k1 (show B ≤ b + 1 by omega) hpI a a1 mm_X8_writeOne 2 (nI (r + 1)) (by omega)
    have o12 := so_tr o1 o2
    have hS2 := h.setK o12 k2
    have hSO1 : gI tb_ct s1 b 7 5 = some (nI r) := gI_o ((o1.1 b (by omega)).trans h.o) rfl rfl rfl
    obtain ⟨s3, g1, g2, g3⟩ := st_w59 (v := v) (l := l) (bf := NOV) (w1 := .int key) hS2 hpI a2 he hB
    refine ⟨s3, ?_, so_tr (so_up o12 (by omega) (by omega)) g2, ?_⟩
    · rw [← g1]
      refine (dc_X8_writeOne_25 b key v l none (-2000000000) s).trans ?_
      simp only [eA_n, sr_k h, eA_s, sr_kc h, eC_s, e1, cA_s, hSO1, eI_s, nI_1, e2, eS_s]
      rfl
    · refine g3.cg ?_ ?_ ?_ ?_
      · intro i h1 h2
        rfl
      · intro i hi w hw
        change va_up (up2 (insR (G 0) (pI (G 0) (Z 3) key) (Z 3) k) (pI (G 0) (Z 3) key) 2 (nI (r + 1))) (pI (G 0) (Z 3) key) _ i w = insR (G 0) (pI (G 0) (Z 3) key) (Z 3) _ i w
        by_cases hi2 : i = pI (G 0) (Z 3) key
        · subst hi2
          rw [va_us]
          match w with
          | 0 => simp [up2, insR, k6, hk0, va_up]
          | 1 => simp [up2, insR, k6, hk0, va_up]
          | 2 => simp [up2, insR, k6, hk0, va_up]
          | 3 => simp [up2, insR, k6, hk0, va_up]
          | 4 => simp [up2, insR, k6, hk0, hk4, va_up]
          | 5 => simp [up2, insR, k6, hk0, va_up]
          | w + 6 => omega
        · rw [va_un hi2]
          simp [up2, insR, hi2]
      · intro i hi w hw
        change va_up (G 2) (Z 6) _ i w = va_up (G 2) (Z 6) _ i w
        by_cases hi2 : i = Z 6
        · subst hi2
          rw [va_us, va_us]
          match w with
          | 0 => simp [up2, ev7, insR, va_up, hk0, hk4]
          | 1 => simp [up2, ev7, insR, va_up, hk0, hk4]
          | 2 => simp [up2, ev7, insR, va_up, hk0, hk4]
          | 3 => simp [up2, ev7, insR, va_up, hk0, hk4]
          | 4 => simp [up2, ev7, insR, va_up, hk0, hk4]
          | 5 => simp [up2, ev7, insR, va_up, hk0, hk4]
          | 6 => simp [up2, ev7, insR, va_up, hk0, hk4]
          | w + 7 => omega
        · rw [va_un hi2, va_un hi2]
      · intro g h1 h2
        unfold va_up
        simp only [if_neg (show ¬ g = 2 by omega), if_neg (show ¬ g = 0 by omega)]
theorem st_deleteAt {q : Nat} (h : SR s b r Z G) (hq : q < Z 3) (he : Z 6 < 152) (hB : B ≤ b) : ∃ s', cl_ tb_ct tb_mt B K_X8_deleteAt [.ref b, .int (nI q)] s = some (.inl none, s') ∧ so s s' b (b + 218) ∧ SR s' b r (p_de Z G (nI (r + 1)) q).1 (p_de Z G (nI (r + 1)) q).2 := by
  obtain ⟨a, e1, -⟩ := kw_at (B := B) h.kw hq
  obtain ⟨c1, l1, l2⟩ := kw_kc h.kw hq e1
  obtain ⟨s2, e2, o2, h2⟩ := st_addEvent (B := B) (kd := 1) (bf := G 0 q 1) h c1 (by omega) he hB
  obtain ⟨s3, e3, o3, k3⟩ := kw_removeAt h2.kw (show B ≤ b + 1 by omega) hq
  refine ⟨s3, ?_, so_tr (so_up o2 (by omega) (by omega)) (so_up o3 (by omega) (by omega)), h2.setK o3 k3⟩
  rw [in_X8_deleteAt, dc_X8_deleteAt_0]
  simp only [sr_k h, eA_s, sr_kc h, eC_s, e1, cA_s, kc_1 c1, eI_s, sr_cls h, e2, cV_s, sr_k h2, sr_kc h2, e3]
theorem st_deleteAt_no {x : Int32} (h : SR s b r Z G) (hx : x < 0 ∨ nI (Z 3) ≤ x) : cl_ tb_ct tb_mt B K_X8_deleteAt [.ref b, .int x] s = some (.inl none, s) := by
  rw [in_X8_deleteAt, dc_X8_deleteAt_0]
  simp only [sr_k h, eA_s, sr_kc h, eC_s, kw_at_no h.kw hx, cA_n]
end Wr
