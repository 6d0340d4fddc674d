/-! ===== Store: leases ===== -/
section Le
variable {s s' : am_S} {B b r n i a : Nat} {Z Z' : nmT} {G : rwT} {M : am_M} {k : Nat → Int32} {x : Int32}
abbrev LC (s : am_S) (a : Nat) (k : Nat → Int32) : Prop := s.1 a = some (.inr (4, lf k))
theorem l_0 (h : LC s a k) : gI tb_ct s a 4 0 = some (k 0) := gI_o h rfl rfl rfl
theorem l_1 (h : LC s a k) : gI tb_ct s a 4 1 = some (k 1) := gI_o h rfl rfl rfl
theorem l_2 (h : LC s a k) : gI tb_ct s a 4 2 = some (k 2) := gI_o h rfl rfl rfl
theorem l_p0 (h : LC s a k) (hB : B ≤ a) : am_put tb_ct M B s (.int x) a 4 0 = some (am_set s a (.inr (4, lf (upd k 0 x)))) := by
  rw [pF_o h (Nat.le_of_ble_eq_true rfl) rfl rfl hB (Or.inl rfl)]
  rfl
theorem l_p1 (h : LC s a k) (hB : B ≤ a) : am_put tb_ct M B s (.int x) a 4 1 = some (am_set s a (.inr (4, lf (upd k 1 x)))) := by
  rw [pF_o h (Nat.le_of_ble_eq_true rfl) rfl rfl hB (Or.inl rfl)]
  rfl
theorem l_p2 (h : LC s a k) (hB : B ≤ a) : am_put tb_ct M B s (.int x) a 4 2 = some (am_set s a (.inr (4, lf (upd k 2 x)))) := by
  rw [pF_o h (Nat.le_of_ble_eq_true rfl) rfl rfl hB (Or.inl rfl)]
  rfl
theorem lf_cg {k k' : Nat → Int32} (h : ∀ w, w < 3 → k w = k' w) : lf k = lf k' := by
  unfold lf
  rw [h 0 (by omega), h 1 (by omega), h 2 (by omega)]
theorem st_leaseAt (h : SR s b r Z G) (hi : i < Z 4) : ∃ a, cl_ tb_ct tb_mt B K_X8_leaseAt [.ref b, .int (nI i)] s = some (.inl (some (.ref a)), s) ∧ LC s a (G 3 i) ∧ b + 210 ≤ a ∧ a < b + 218 ∧ ∀ k', SR (am_set s a (.inr (4, lf k'))) b r Z (va_up G 3 (va_up (G 3) i k')) := by
  obtain ⟨hn, A, C, a1, a2, a3, a4⟩ := h.lw
  have hAi := a2.1 i (by omega)
  have g1 : b + 210 ≤ b + 210 + A i := by omega
  have g2 : b + 210 + A i < b + 218 := by omega
  have ar : s.1 (b + 180) = some (arE "WatchedKeys$Lease" (fun j => b + 210 + j) A) := a1
  refine ⟨b + 210 + A i, ?_, ?_, g1, g2, fun k' => ?_⟩
  · rw [in_X8_leaseAt, dc_X8_leaseAt_0, if_neg (nI_pos (by omega))]
    simp only [sr_9 h, eI_s, if_neg (nI_ge hi (by omega)), if_neg (show ¬ (8 : Int32) ≤ nI i from nI_ge (b := 8) (by omega) (by omega)), sr_l h, eA_s, ar_at ar (show i < 8 by omega)]
  · rw [LC, a3 _ hAi, lf_cg (a4 i hi)]
  · refine h.setL (so3_of (so_set2 (by omega) (by omega))) ⟨rfl, rfl, rfl, rfl, rfl, rfl, rfl⟩ ((set_ne (by omega)).trans h.o) ⟨hn, A, va_up C (A i) k', (set_ne (by omega)).trans a1, a2, fun j hj => ?_, fun j hj w hw => ?_⟩
    · by_cases hj2 : j = A i
      · subst hj2
        rw [va_us]
        exact set_at
      · rw [va_un hj2]
        exact (set_ne (by omega)).trans (a3 j hj)
    · by_cases hj2 : j = i
      · subst hj2
        rw [va_us, va_us]
      · rw [va_un hj2, va_un (fun e => hj2 (a2.2 j (by omega) i (by omega) e))]
        exact a4 j hj w hw
theorem st_leaseAt_no {x : Int32} (h : SR s b r Z G) (hx : x < 0 ∨ nI (Z 4) ≤ x) : cl_ tb_ct tb_mt B K_X8_leaseAt [.ref b, .int x] s = some (.inl (some .null), s) := by
  rw [in_X8_leaseAt, dc_X8_leaseAt_0]
  by_cases h1 : x < 0
  · rw [if_pos h1]
  · rw [if_neg h1]
    simp only [sr_9 h, eI_s, if_pos (hx.resolve_left h1)]
theorem SR.n4 (h : SR s b r Z G) : Z 4 ≤ 8 := h.lw.1
theorem SR.n5 (h : SR s b r Z G) : Z 5 ≤ 8 := h.ww.1
theorem SR.n3 (h : SR s b r Z G) : Z 3 ≤ 22 := h.kw.1
theorem SR.n6 (h : SR s b r Z G) : Z 6 ≤ 152 := h.ew.1
theorem st_findLease_lp (h : SR s b r Z G) (x : Int32) : ∀ k i, i + k = Z 4 → rn_ tb_ct tb_mt B mm_X8_findLease 2 [.ref b, .int x, .int (nI i), am_un] [] s = some (.inl (some (.int (if fi (fun i => decide (G 3 i 0 = x)) i k < Z 4 then nI (fi (fun i => decide (G 3 i 0 = x)) i k) else -1))), s) := by
  have hn := h.n4
  intro k
  induction k with
  | zero =>
    intro i hi
    rw [dc_X8_findLease_2]
    simp only [sr_9 h, eI_s, if_pos (nI_le (show Z 4 ≤ i by omega) (by omega))]
    rw [fi_0, if_neg (show ¬ i < Z 4 by omega)]
  | succ k ih =>
    intro i hi
    obtain ⟨a, e1, c1, -⟩ := st_leaseAt (B := B) h (show i < Z 4 by omega)
    rw [dc_X8_findLease_2]
    simp only [sr_9 h, eI_s, if_neg (nI_ge (show i < Z 4 by omega) (by omega)), sr_cls h, eC_s, e1, cA_s, l_0 c1]
    rw [fi_s]
    by_cases hk : G 3 i 0 = x
    · rw [if_pos hk]
      simp only [hk, decide_true, if_true, if_pos (show i < Z 4 by omega)]
    · rw [if_neg hk, dc_X8_findLease_30, nI_1, ih (i + 1) (by omega)]
      simp only [hk, decide_false, Bool.false_eq_true, if_false]
theorem st_findLease (h : SR s b r Z G) (x : Int32) : cl_ tb_ct tb_mt B K_X8_findLease [.ref b, .int x] s = some (.inl (some (.int (if pF (G 3) (Z 4) x < Z 4 then nI (pF (G 3) (Z 4) x) else -1))), s) := by
  rw [in_X8_findLease, dc_X8_findLease_0, ← nI_0, st_findLease_lp h x (Z 4) 0 (by omega)]
  rfl
theorem nI_m1 {n : Nat} (h : n < 2 ^ 31) : ¬ nI n = -1 := fun e => absurd (e ▸ nI_pos h) (by decide)
/-- which lease ends first -/
def feG (L : rowT) : Nat → Nat → Int32 → Int32 → Int32
  | _, 0, f, _ => f
  | i, k + 1, f, l => if f = -1 ∨ L i 2 < l then feG L (i + 1) k (nI i) (L i 2) else feG L (i + 1) k f l
theorem st_firstToEnd_lp (h : SR s b r Z G) : ∀ k i f l, i + k = Z 4 → rn_ tb_ct tb_mt B mm_X8_firstToEnd 6 [.ref b, .int f, .int l, .int (nI i), am_un] [] s = some (.inl (some (.int (feG (G 3) i k f l))), s) := by
  have hn := h.n4
  intro k
  induction k with
  | zero =>
    intro i f l hi
    rw [dc_X8_firstToEnd_6]
    simp only [sr_9 h, eI_s, if_pos (nI_le (show Z 4 ≤ i by omega) (by omega))]
    rfl
  | succ k ih =>
    intro i f l hi
    obtain ⟨a, e1, c1, -⟩ := st_leaseAt (B := B) h (show i < Z 4 by omega)
    rw [dc_X8_firstToEnd_6]
    simp only [sr_9 h, eI_s, if_neg (nI_ge (show i < Z 4 by omega) (by omega)), sr_cls h, eC_s, e1, cA_s, l_2 c1]
    unfold feG
    by_cases h1 : f = -1
    · rw [if_pos h1, if_pos (Or.inl h1), dc_X8_firstToEnd_40]
      simp only [l_2 c1, eI_s]
      exact (dc_X8_firstToEnd_48 b (nI i) (G 3 i 2) (nI i) _ s).trans (by rw [nI_1, ih (i + 1) _ _ (by omega)])
    · rw [if_neg h1]
      by_cases h2 : G 3 i 2 < l
      · rw [if_neg (Int32.not_le.mpr h2), if_pos (Or.inr h2), dc_X8_firstToEnd_40]
        simp only [l_2 c1, eI_s]
        exact (dc_X8_firstToEnd_48 b (nI i) (G 3 i 2) (nI i) _ s).trans (by rw [nI_1, ih (i + 1) _ _ (by omega)])
      · rw [if_pos (Int32.not_lt.mp h2), if_neg (fun hc => hc.elim h1 h2)]
        exact (dc_X8_firstToEnd_48 b f l (nI i) _ s).trans (by rw [nI_1, ih (i + 1) _ _ (by omega)])
theorem st_firstToEnd (h : SR s b r Z G) : cl_ tb_ct tb_mt B K_X8_firstToEnd [.ref b] s = some (.inl (some (.int (feG (G 3) 0 (Z 4) (-1) 0))), s) := by
  rw [in_X8_firstToEnd, dc_X8_firstToEnd_0]
  have := st_firstToEnd_lp (B := B) h (Z 4) 0 (-1) 0 (by omega)
  rw [nI_0] at this
  exact this
def l3 (a0 a1 a2 : Int32) : Nat → Int32
  | 0 => a0
  | 1 => a1
  | _ => a2
theorem st_addLease_no (h : SR s b r Z G) (h8 : Z 4 = 8) (x : Int32) : cl_ tb_ct tb_mt B K_X8_addLease [.ref b, .int x] s = some (.inl (some (.int (-2))), s) := by
  rw [in_X8_addLease, dc_X8_addLease_0]
  simp only [sr_9 h, eI_s, h8, if_neg (show ¬ nI 8 < (8 : Int32) by decide), ite_self]
theorem st_addLease (h : SR s b r Z G) (hB : B ≤ b) (h8 : Z 4 < 8) (x : Int32) : ∃ s', cl_ tb_ct tb_mt B K_X8_addLease [.ref b, .int x] s = some (.inl (some (.int (nI (Z 8 + 1)))), s') ∧ so s s' b (b + 218) ∧ SR s' b r (va_up (va_up Z 4 (Z 4 + 1)) 8 (Z 8 + 1)) (va_up G 3 (va_up (G 3) (Z 4) (l3 (nI (Z 8 + 1)) x x))) := by
  obtain ⟨hn, A, C, a1, a2, a3, a4⟩ := h.lw
  have hA4 := a2.1 _ h8
  have ar : s.1 (b + 180) = some (arE "WatchedKeys$Lease" (fun j => b + 210 + j) A) := a1
  have hlt : nI (Z 4) < (8 : Int32) := nI_lt (b := 8) h8 (by omega)
  have hBa : B ≤ b + 210 + A (Z 4) := by omega
  have o0 : SO s b (sv r Z) := h.o
  have o1 : SO (am_set s b (.inr (7, stO (upd (sv r Z) 10 (nI (Z 8 + 1))) b))) b (upd (sv r Z) 10 (nI (Z 8 + 1))) := set_at
  have o2 : SO (am_set s b (.inr (7, stO (upd (upd (sv r Z) 10 (nI (Z 8 + 1))) 9 (nI (Z 4 + 1))) b))) b (upd (upd (sv r Z) 10 (nI (Z 8 + 1))) 9 (nI (Z 4 + 1))) := set_at
  have g1 : gI tb_ct (am_set s b (.inr (7, stO (upd (sv r Z) 10 (nI (Z 8 + 1))) b))) b 7 9 = some (nI (Z 4)) := gI_o o1 rfl rfl rfl
  have g2 : gI tb_ct (am_set s b (.inr (7, stO (upd (upd (sv r Z) 10 (nI (Z 8 + 1))) 9 (nI (Z 4 + 1))) b))) b 7 10 = some (nI (Z 8 + 1)) := gI_o o2 rfl rfl rfl
  have c2 : LC (am_set s b (.inr (7, stO (upd (upd (sv r Z) 10 (nI (Z 8 + 1))) 9 (nI (Z 4 + 1))) b))) (b + 210 + A (Z 4)) (C (A (Z 4))) := (set_ne (by omega)).trans (a3 _ hA4)
  have c3 : ∀ k, LC (am_set (am_set s b (.inr (7, stO (upd (upd (sv r Z) 10 (nI (Z 8 + 1))) 9 (nI (Z 4 + 1))) b))) (b + 210 + A (Z 4)) (.inr (4, lf k))) (b + 210 + A (Z 4)) k := fun k => set_at
  have g3 : ∀ k, gI tb_ct (am_set (am_set s b (.inr (7, stO (upd (upd (sv r Z) 10 (nI (Z 8 + 1))) 9 (nI (Z 4 + 1))) b))) (b + 210 + A (Z 4)) (.inr (4, lf k))) b 7 10 = some (nI (Z 8 + 1)) := fun k => gI_o ((set_ne (by omega)).trans o2) rfl rfl rfl
  refine ⟨am_set (am_set s b (.inr (7, stO (upd (upd (sv r Z) 10 (nI (Z 8 + 1))) 9 (nI (Z 4 + 1))) b))) (b + 210 + A (Z 4)) (.inr (4, lf (upd (upd (upd (C (A (Z 4))) 0 (nI (Z 8 + 1))) 1 x) 2 x))), ?_, so_tr (so_up so_set (by omega) (by omega)) (so_set2 (by omega) (by omega)), ?_⟩
  · rw [in_X8_addLease, dc_X8_addLease_0]
    simp only [sr_9 h, eI_s, if_neg (nI_pos (show Z 4 < 2 ^ 31 by omega)), if_pos hlt, sr_l h, eA_s, ar_at ar h8, sr_10 h, nI_1, so_p o0 hB (show 5 ≤ 10 ∧ 10 ≤ 10 by omega), eS_s, g1, so_p o1 hB (show 5 ≤ 9 ∧ 9 ≤ 10 by omega), set_set, g2, l_p0 c2 hBa, l_p1 (c3 _) hBa, l_p2 (c3 _) hBa, g3]
  · refine h.setL (so3_tr so3_b (so3_of (so_set2 (by omega) (by omega)))) ⟨rfl, rfl, rfl, rfl, rfl, rfl, rfl⟩ (SO.cg ((set_ne (by omega)).trans o2) fun k k1 k2 => ?_) ⟨?_, A, va_up C (A (Z 4)) (upd (upd (upd (C (A (Z 4))) 0 (nI (Z 8 + 1))) 1 x) 2 x), (set_ne (by omega)).trans ((set_ne (by omega)).trans a1), a2, fun j hj => ?_, fun j hj w hw => ?_⟩
    · match k, k1, k2 with
      | 5, _, _ => rfl
      | 6, _, _ => rfl
      | 7, _, _ => rfl
      | 8, _, _ => rfl
      | 9, _, _ => rfl
      | 10, _, _ => rfl
      | k + 11, _, k2 => omega
    · change Z 4 + 1 ≤ 8
      omega
    · by_cases hj2 : j = A (Z 4)
      · subst hj2
        rw [va_us]
        exact set_at
      · rw [va_un hj2]
        exact (set_ne (by omega)).trans ((set_ne (by omega)).trans (a3 j hj))
    · change j < Z 4 + 1 at hj
      by_cases hj2 : j = Z 4
      · subst hj2
        rw [va_us, va_us]
        match w with
        | 0 => rfl
        | 1 => rfl
        | 2 => rfl
        | w + 3 => omega
      · rw [va_un hj2, va_un (fun e => hj2 (a2.2 j (by omega) _ h8 e))]
        exact a4 j (by omega) w hw
theorem st_renew_no (h : SR s b r Z G) (hf : ¬ pF (G 3) (Z 4) x < Z 4) : cl_ tb_ct tb_mt B K_X8_renew [.ref b, .int x] s = some (.inl (some (.int (-3))), s) := by
  rw [in_X8_renew, dc_X8_renew_0]
  simp only [sr_cls h, eC_s, st_findLease h, if_neg hf, cI_s, st_leaseAt_no h (x := -1) (Or.inl (by decide)), cA_n]
theorem st_renew (h : SR s b r Z G) (hB : B ≤ b) (hf : pF (G 3) (Z 4) x < Z 4) : ∃ s', cl_ tb_ct tb_mt B K_X8_renew [.ref b, .int x] s = some (.inl (some (.int (G 3 (pF (G 3) (Z 4) x) 1))), s') ∧ so s s' b (b + 218) ∧ SR s' b r Z (va_up G 3 (va_up (G 3) (pF (G 3) (Z 4) x) (upd (G 3 (pF (G 3) (Z 4) x)) 2 (G 3 (pF (G 3) (Z 4) x) 1)))) := by
  obtain ⟨a, e1, c1, l1, l2, hs⟩ := st_leaseAt (B := B) h hf
  have c2 : ∀ k, LC (am_set s a (.inr (4, lf k))) a k := fun k => set_at
  refine ⟨_, ?_, so_set2 (by omega) (by omega), hs _⟩
  rw [in_X8_renew, dc_X8_renew_0]
  simp only [sr_cls h, eC_s, st_findLease h, if_pos hf, cI_s, e1, cA_s, l_1 c1, eI_s, l_p2 c1 (show B ≤ a by omega), eS_s, l_1 (c2 _)]
  rfl
/-! removeLease -/
theorem st_remLease_lp {A : Nat → Nat} {C : rowT} {n : Nat} (hB : B ≤ b) (hn : n ≤ 8) (hA : okA 8 A) (hi : i < n) : ∀ k l w s, l + 1 + k = n → i ≤ l → SO s b (sv r Z) → Z 4 = n → s.1 (b + 180) = some (arE "WatchedKeys$Lease" (fun j => b + 210 + j) (shlA A i l)) → (∀ j, j < 8 → LC s (b + 210 + j) (C j)) → rn_ tb_ct tb_mt B mm_X8_removeLease 13 [.ref b, w, .ref (b + 210 + A i), .int (nI l)] [] s = some (.inl none, am_set (am_set s (b + 180) (arE "WatchedKeys$Lease" (fun j => b + 210 + j) (remA A i n))) b (.inr (7, stO (upd (sv r Z) 9 (nI (n - 1))) b))) := by
  intro k
  induction k with
  | zero =>
    intro l w s hl hil ho h5 ar hw
    have hAi := hA.1 i (by omega)
    have g8 : gI tb_ct s b 7 9 = some (nI n) := h5 ▸ gI_o ho rfl rfl rfl
    have gw : gA tb_ct s b 7 3 = some (some (b + 180)) := gA_o ho rfl rfl rfl
    have ho2 : ∀ e, SO (am_set s (b + 180) e) b (sv r Z) := fun e => (set_ne (by omega)).trans ho
    have g82 : ∀ e, gI tb_ct (am_set s (b + 180) e) b 7 9 = some (nI n) := fun e => h5 ▸ gI_o (ho2 e) rfl rfl rfl
    have hwr := ar_w (B := B) (i := l) ar (cls_o (hw _ hAi)) rfl (by omega) (by omega)
    rw [shlA_end hl hil] at hwr
    rw [dc_X8_removeLease_13]
    simp only [g8, eI_s, nI_1, if_pos (nI_le (show n ≤ l + 1 by omega) (by omega))]
    rw [dc_X8_removeLease_51]
    simp only [gw, eA_s, hwr, eS_s, g82, eI_s, nI_sub1 (show 0 < n by omega), so_p (ho2 _) hB (show 5 ≤ 9 ∧ 9 ≤ 10 by omega)]
  | succ k ih =>
    intro l w s hl hil ho h5 ar hw
    have hAl := hA.1 (l + 1) (by omega)
    have g8 : gI tb_ct s b 7 9 = some (nI n) := h5 ▸ gI_o ho rfl rfl rfl
    have gw : gA tb_ct s b 7 3 = some (some (b + 180)) := gA_o ho rfl rfl rfl
    have ra := ar_at (i := l + 1) ar (by omega)
    rw [show shlA A i l (l + 1) = A (l + 1) from if_neg (by omega)] at ra
    have hwr := ar_w (B := B) (i := l) ar (cls_o (hw _ hAl)) rfl (by omega) (by omega)
    rw [shlA_up hil] at hwr
    rw [dc_X8_removeLease_13]
    simp only [g8, eI_s, nI_1, if_neg (nI_ge (show l + 1 < n by omega) (by omega)), if_neg (show ¬ (8 : Int32) ≤ nI (l + 1) from nI_ge (b := 8) (by omega) (by omega)), gw, eA_s, ra, hwr, eS_s]
    rw [ih (l + 1) _ _ (by omega) (by omega) ((set_ne (by omega)).trans ho) h5 set_at (fun j hj => (set_ne (by omega)).trans (hw j hj))]
    simp only [set_set]
theorem st_removeLease (h : SR s b r Z G) (hB : B ≤ b) (hi : i < Z 4) : ∃ s', cl_ tb_ct tb_mt B K_X8_removeLease [.ref b, .int (nI i)] s = some (.inl none, s') ∧ so s s' b (b + 218) ∧ (∀ q, b + 210 ≤ q → s'.1 q = s.1 q) ∧ SR s' b r (va_up Z 4 (Z 4 - 1)) (va_up G 3 (delR (G 3) i (Z 4))) := by
  obtain ⟨hn, A, C, a1, a2, a3, a4⟩ := h.lw
  have hAi := a2.1 i (by omega)
  have ar : s.1 (b + 180) = some (arE "WatchedKeys$Lease" (fun j => b + 210 + j) A) := a1
  have hat : cl_ tb_ct tb_mt B K_X8_leaseAt [.ref b, .int (nI i)] s = some (.inl (some (.ref (b + 210 + A i))), s) := by
    rw [in_X8_leaseAt, dc_X8_leaseAt_0, if_neg (nI_pos (by omega))]
    simp only [sr_9 h, eI_s, if_neg (nI_ge hi (by omega)), if_neg (show ¬ (8 : Int32) ≤ nI i from nI_ge (b := 8) (by omega) (by omega)), sr_l h, eA_s, ar_at ar (show i < 8 by omega)]
  refine ⟨am_set (am_set s (b + 180) (arE "WatchedKeys$Lease" (fun j => b + 210 + j) (remA A i (Z 4)))) b (.inr (7, stO (upd (sv r Z) 9 (nI (Z 4 - 1))) b)), ?_, so_tr (so_set2 (by omega) (by omega)) (so_up so_set (by omega) (by omega)), fun q hq => (set_ne (by omega)).trans (set_ne (by omega)), ?_⟩
  · rw [in_X8_removeLease, dc_X8_removeLease_0]
    simp only [sr_cls h, eC_s, hat, cA_s]
    exact st_remLease_lp hB hn a2 hi (Z 4 - i - 1) i _ s (by omega) (Nat.le_refl _) h.o rfl (by rw [shlA_self]; exact ar) a3
  · refine h.setL (so3_tr so3_x so3_b) ⟨rfl, rfl, rfl, rfl, rfl, rfl, rfl⟩ (SO.cg set_at fun k k1 k2 => ?_) ⟨?_, remA A i (Z 4), C, (set_ne (by omega)).trans set_at, okA_rem a2 (by omega) hi, fun j hj => ?_, fun j hj => ?_⟩
    · match k, k1, k2 with
      | 5, _, _ => rfl
      | 6, _, _ => rfl
      | 7, _, _ => rfl
      | 8, _, _ => rfl
      | 9, _, _ => rfl
      | 10, _, _ => rfl
      | k + 11, _, k2 => omega
    · change Z 4 - 1 ≤ 8
      omega
    · exact (set_ne (by omega)).trans ((set_ne (by omega)).trans (a3 j hj))
    · change j < Z 4 - 1 at hj
      unfold remA delR
      rw [if_neg (by omega)]
      by_cases hc : i ≤ j ∧ j + 1 < Z 4
      · rw [if_pos hc, if_pos hc]
        exact a4 _ (by omega)
      · rw [if_neg hc, if_neg hc]
        exact a4 _ (by omega)
/-! age -/
def agR (L : rowT) (t : Int32) : Nat → Nat → rowT
  | _, 0 => L
  | i, k + 1 => agR (va_up L i (upd (L i) 2 (L i 2 - t))) t (i + 1) k
theorem agR_eq (L : rowT) (t : Int32) : ∀ k i, agR L t i k = fun j => if i ≤ j ∧ j < i + k then upd (L j) 2 (L j 2 - t) else L j := by
  intro k
  induction k generalizing L with
  | zero =>
    intro i
    funext j
    unfold agR
    rw [if_neg (by omega)]
  | succ k ih =>
    intro i
    unfold agR
    rw [ih]
    funext j
    by_cases h1 : j = i
    · subst h1
      rw [if_neg (by omega), if_pos (by omega), va_us]
    · rw [va_un h1]
      by_cases h2 : i + 1 ≤ j ∧ j < i + 1 + k
      · rw [if_pos h2, if_pos (by omega)]
      · rw [if_neg h2, if_neg (by omega)]
theorem va_va {α : Type} {f : Nat → α} {i : Nat} {x y : α} : va_up (va_up f i x) i y = va_up f i y := by
  funext j
  unfold va_up
  split <;> rfl
theorem va_id {α : Type} {f : Nat → α} {i : Nat} : va_up f i (f i) = f := by
  funext j
  unfold va_up
  split
  · rename_i h
    rw [h]
  · rfl
theorem st_age_lp (hB : B ≤ b) (t : Int32) : ∀ k i s L, SR s b r Z (va_up G 3 L) → i + k = Z 4 → ∃ s', rn_ tb_ct tb_mt B mm_X8_age 2 [.ref b, .int t, .int (nI i), am_un] [] s = some (.inl none, s') ∧ so s s' (b + 210) (b + 218) ∧ SR s' b r Z (va_up G 3 (agR L t i k)) := by
  intro k
  induction k with
  | zero =>
    intro i s L h hi
    have hn := h.n4
    refine ⟨s, ?_, so_rfl, h⟩
    rw [dc_X8_age_2]
    simp only [sr_9 h, eI_s, if_pos (nI_le (show Z 4 ≤ i by omega) (by omega))]
  | succ k ih =>
    intro i s L h hi
    have hn := h.n4
    obtain ⟨a, e1, c1, l1, l2, hs⟩ := st_leaseAt (B := B) h (show i < Z 4 by omega)
    have hs' := hs (upd (L i) 2 (L i 2 - t))
    rw [va_va] at hs'
    obtain ⟨s', g1, g2, g3⟩ := ih (i + 1) _ _ hs' (by omega)
    refine ⟨s', ?_, so_tr (so_set2 (by omega) (by omega)) g2, g3⟩
    rw [dc_X8_age_2]
    simp only [sr_9 h, eI_s, if_neg (nI_ge (show i < Z 4 by omega) (by omega)), sr_cls h, eC_s, e1, cA_s, l_2 c1, l_p2 c1 (show B ≤ a by omega), eS_s]
    rw [dc_X8_age_30, nI_1]
    exact g1
theorem st_age (h : SR s b r Z G) (hB : B ≤ b) (t : Int32) : ∃ s', cl_ tb_ct tb_mt B K_X8_age [.ref b, .int t] s = some (.inl none, s') ∧ so s s' (b + 210) (b + 218) ∧ SR s' b r Z (va_up G 3 (agR (G 3) t 0 (Z 4))) := by
  rw [in_X8_age, dc_X8_age_0, ← nI_0]
  refine st_age_lp hB t (Z 4) 0 s (G 3) ?_ (by omega)
  rw [va_id]
  exact h
end Le
