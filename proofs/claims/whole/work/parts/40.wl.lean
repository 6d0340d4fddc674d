/-! ===== Store: watches and leases ===== -/
/-- an array of eight objects -/
def arE (nm : String) (ad A : Nat → Nat) : am_E := .inl (.object nm, 8, .inr (.inr (.inr (.inr fun i => if i < 8 then some (ad (A i)) else none))))
section Ar
variable {s : am_S} {B p i j cv : Nat} {nm : String} {ad A : Nat → Nat}
theorem ar_at (h : s.1 p = some (arE nm ad A)) (hi : i < 8) : aA s p (nI i) = some (some (ad (A i))) := by
  rw [aA_o h hi (by omega), if_pos hi]
theorem ar_w (h : s.1 p = some (arE nm ad A)) (hv : am_cls s (ad j) = some cv) (hC : (tb_ct[cv]?).map (fun q => q.1) = some nm) (hi : i < 8) (hB : B ≤ p) : wA tb_ct B s p (nI i) (ad j) = some (am_set s p (arE nm ad (va_up A i j))) := by
  rw [wA_o h hv hC hi (by omega) hB]
  refine congrArg (fun f => some (am_set s p (.inl (.object nm, 8, .inr (.inr (.inr (.inr f))))))) (funext fun k => ?_)
  unfold va_up
  by_cases hk : k = i
  · subst hk
    rw [if_pos rfl, if_pos hi, if_pos rfl]
  · rw [if_neg hk, if_neg hk]
theorem set_set {e e' : am_E} : am_set (am_set s p e) p e' = am_set s p e' := by
  unfold am_set
  refine Prod.ext (funext fun q => ?_) rfl
  dsimp only
  split <;> rfl
theorem set_ne {q : Nat} {e : am_E} (h : q ≠ p) : (am_set s p e).1 q = s.1 q := if_neg h
theorem shlA_self : shlA A i i = A := by
  funext j
  unfold shlA
  rw [if_neg (by omega)]
theorem shlA_up {l : Nat} (h : i ≤ l) : va_up (shlA A i l) l (A (l + 1)) = shlA A i (l + 1) := by
  funext j
  unfold va_up shlA
  by_cases h1 : j = l
  · rw [if_pos h1, if_pos (by omega), h1]
  · rw [if_neg h1]
    by_cases h2 : i ≤ j ∧ j < l
    · rw [if_pos h2, if_pos (by omega)]
    · rw [if_neg h2, if_neg (by omega)]
theorem shlA_end {l n : Nat} (hl : l + 1 = n) (h : i ≤ l) : va_up (shlA A i l) l (A i) = remA A i n := by
  funext j
  unfold va_up shlA remA
  by_cases h1 : j = l
  · rw [if_pos h1, if_pos (by omega)]
  · rw [if_neg h1, if_neg (show ¬ j + 1 = n by omega)]
    by_cases h2 : i ≤ j ∧ j < l
    · rw [if_pos h2, if_pos (by omega)]
    · rw [if_neg h2, if_neg (by omega)]
end Ar
def so3 (s s' : am_S) (b x lo hi : Nat) : Prop := (∀ q, q ≠ b → q ≠ x → (q < lo ∨ hi ≤ q) → s'.1 q = s.1 q) ∧ s'.2 = s.2
theorem so3_rfl {s : am_S} {b x lo hi : Nat} : so3 s s b x lo hi := ⟨fun _ _ _ _ => rfl, rfl⟩
theorem so3_tr {s s' s'' : am_S} {b x lo hi : Nat} (h : so3 s s' b x lo hi) (h' : so3 s' s'' b x lo hi) : so3 s s'' b x lo hi := ⟨fun q h1 h2 h3 => (h'.1 q h1 h2 h3).trans (h.1 q h1 h2 h3), h'.2.trans h.2⟩
theorem so3_of {s s' : am_S} {b x lo hi : Nat} (h : so s s' lo hi) : so3 s s' b x lo hi := ⟨fun q _ _ h3 => h.1 q h3, h.2⟩
theorem so3_b {s : am_S} {b x lo hi : Nat} {e : am_E} : so3 s (am_set s b e) b x lo hi := ⟨fun q h1 _ _ => if_neg h1, rfl⟩
theorem so3_x {s : am_S} {b x lo hi : Nat} {e : am_E} : so3 s (am_set s x e) b x lo hi := ⟨fun q _ h2 _ => if_neg h2, rfl⟩
theorem so3_so {s s' : am_S} {b x lo hi l h : Nat} (o : so3 s s' b x lo hi) (h1 : l ≤ b) (h2 : b < h) (h3 : l ≤ x) (h4 : x < h) (h5 : l ≤ lo) (h6 : hi ≤ h) : so s s' l h := ⟨fun q hq => o.1 q (by omega) (by omega) (by omega), o.2⟩
section Wl
variable {s s' : am_S} {B b r n i a : Nat} {Z Z' : nmT} {G : rwT} {M : am_M}
theorem SR.setW {r' : Nat} {W' : rowT} (h : SR s b r Z G) (hs : so3 s s' b (b + 179) (b + 194) (b + 210)) (hZ : Z' 3 = Z 3 ∧ Z' 6 = Z 6 ∧ Z' 4 = Z 4 ∧ Z' 9 = Z 9 ∧ Z' 10 = Z 10 ∧ Z' 11 = Z 11) (ho : SO s' b (sv r' Z')) (hw : WW s' b (Z' 5) (Z' 7) (Z' 7 + Z' 6) W') : SR s' b r' Z' (va_up G 4 W') := by
  obtain ⟨h1, h2, h3, h4, h5, h6, h7, h8⟩ := h
  obtain ⟨e3, e6, e4, e9, e10, e11⟩ := hZ
  refine ⟨ho, ?_, ?_, hw, ?_, ?_, ?_, ?_⟩
  · rw [e3]; exact h2.at fun q _ _ => hs.1 q (by omega) (by omega) (by omega)
  · rw [e6]; exact h3.at fun q _ _ => hs.1 q (by omega) (by omega) (by omega)
  · rw [e4]; exact h5.at (hs.1 _ (by omega) (by omega) (by omega)) fun q _ _ => hs.1 q (by omega) (by omega) (by omega)
  · rw [e9]; exact h6.at fun q _ _ => hs.1 q (by omega) (by omega) (by omega)
  · rw [e10]; exact h7.at fun q _ _ => hs.1 q (by omega) (by omega) (by omega)
  · rw [e11]; exact h8.at fun q _ _ => hs.1 q (by omega) (by omega) (by omega)
theorem SR.setL {r' : Nat} {L' : rowT} (h : SR s b r Z G) (hs : so3 s s' b (b + 180) (b + 210) (b + 218)) (hZ : Z' 3 = Z 3 ∧ Z' 6 = Z 6 ∧ Z' 5 = Z 5 ∧ Z' 7 = Z 7 ∧ Z' 9 = Z 9 ∧ Z' 10 = Z 10 ∧ Z' 11 = Z 11) (ho : SO s' b (sv r' Z')) (hl : LW s' b (Z' 4) L') : SR s' b r' Z' (va_up G 3 L') := by
  obtain ⟨h1, h2, h3, h4, h5, h6, h7, h8⟩ := h
  obtain ⟨e3, e6, e5, e7, e9, e10, e11⟩ := hZ
  refine ⟨ho, ?_, ?_, ?_, hl, ?_, ?_, ?_⟩
  · rw [e3]; exact h2.at fun q _ _ => hs.1 q (by omega) (by omega) (by omega)
  · rw [e6]; exact h3.at fun q _ _ => hs.1 q (by omega) (by omega) (by omega)
  · rw [e5, e7, e6]; exact h4.at (hs.1 _ (by omega) (by omega) (by omega)) fun q _ _ => hs.1 q (by omega) (by omega) (by omega)
  · rw [e9]; exact h6.at fun q _ _ => hs.1 q (by omega) (by omega) (by omega)
  · rw [e10]; exact h7.at fun q _ _ => hs.1 q (by omega) (by omega) (by omega)
  · rw [e11]; exact h8.at fun q _ _ => hs.1 q (by omega) (by omega) (by omega)
/-- a watch's object, and what becomes of the row when it is written -/
theorem st_watchAt (h : SR s b r Z G) (hi : i < Z 5) : ∃ a k l, cl_ tb_ct tb_mt B K_X8_watchAt [.ref b, .int (nI i)] s = some (.inl (some (.ref a)), s) ∧ W1 s a k l ∧ WL (Z 7) (Z 7 + Z 6) k l (G 4 i) ∧ b + 194 ≤ a ∧ a + 2 ≤ b + 210 ∧ ∀ k' l' w', WL (Z 7) (Z 7 + Z 6) k' l' w' → SR (wS s a k' l') b r Z (va_up G 4 (va_up (G 4) i w')) := by
  obtain ⟨hn, A, C, L, a1, a2, a3, a4⟩ := h.ww
  have hAi := a2.1 i (by omega)
  have g1 : b + 194 ≤ b + 194 + 2 * A i := by omega
  have g2 : b + 194 + 2 * A i + 2 ≤ b + 210 := by omega
  have ar : s.1 (b + 179) = some (arE "WatchedKeys$Watch" (fun j => b + 194 + 2 * j) A) := a1
  refine ⟨b + 194 + 2 * A i, _, _, ?_, a3 _ hAi, a4 i hi, g1, g2, fun k' l' w' hw => ?_⟩
  · rw [in_X8_watchAt, dc_X8_watchAt_0, if_neg (nI_pos (by omega))]
    simp only [sr_8 h, eI_s, if_neg (nI_ge hi (by omega)), if_neg (show ¬ (8 : Int32) ≤ nI i from nI_ge (b := 8) (by omega) (by omega)), sr_w h, eA_s, ar_at ar (show i < 8 by omega)]
  · refine h.setW (so3_of (so_up so_ov (by omega) (by omega))) ⟨rfl, rfl, rfl, rfl, rfl, rfl⟩ ((ov_o (by omega)).trans h.o) ⟨hn, A, va_up C (A i) k', va_up L (A i) l', (ov_o (by omega)).trans a1, a2, fun j hj => ?_, fun j hj => ?_⟩
    · by_cases hj2 : j = A i
      · subst hj2
        rw [va_us, va_us]
        exact OV.of
      · rw [va_un hj2, va_un hj2]
        exact (a3 j hj).at fun q _ _ => ov_o (by omega)
    · by_cases hj2 : j = i
      · subst hj2
        rw [va_us, va_us, va_us]
        exact hw
      · rw [va_un hj2, va_un (fun e => hj2 (a2.2 j (by omega) i (by omega) e)), va_un (fun e => hj2 (a2.2 j (by omega) i (by omega) e))]
        exact a4 j hj
theorem st_watchAt_no {x : Int32} (h : SR s b r Z G) (hx : x < 0 ∨ nI (Z 5) ≤ x) : cl_ tb_ct tb_mt B K_X8_watchAt [.ref b, .int x] s = some (.inl (some .null), s) := by
  rw [in_X8_watchAt, dc_X8_watchAt_0]
  by_cases h1 : x < 0
  · rw [if_pos h1]
  · rw [if_neg h1]
    simp only [sr_8 h, eI_s, if_pos (hx.resolve_left h1)]
theorem st_tooLate (h : SR s b r Z G) (x : Int32) : cl_ tb_ct tb_mt B K_X8_startsTooLate [.ref b, .int x] s = some (.inl (some (.int (if x ≤ nI (r + 1) then 0 else 1))), s) := by
  rw [in_X8_startsTooLate, dc_X8_startsTooLate_0]
  simp only [sr_5 h, eI_s, nI_1]
  split <;> rfl
/-- the index of the first event that a watch sees which begins so -/
def p_first (E : rowT) (n : Nat) (x : Int32) : Nat := if x = 0 then n else fi (fun i => !decide (E i 0 ≤ x - 1)) 0 n
theorem p_first_le {E : rowT} {n : Nat} {x : Int32} : p_first E n x ≤ n := by
  unfold p_first
  split
  · exact Nat.le_refl _
  · exact fi_le0 _ _
theorem st_firstFor (h : SR s b r Z G) (x : Int32) : cl_ tb_ct tb_mt B K_X8_firstEventFor [.ref b, .int x] s = some (.inl (some (.int (nI (p_first (G 2) (Z 6) x)))), s) := by
  rw [in_X8_firstEventFor, dc_X8_firstEventFor_0]
  unfold p_first
  by_cases hx : x = 0
  · simp only [if_pos hx, sr_e h, eA_s, sr_en h, eI_s]
  · simp only [if_neg hx, sr_e h, eA_s, sr_ec h, eC_s, ew_countTo h.ew, cI_s]
def w12 (f t k nx : Int32) : Nat → Int32
  | 0 => f
  | 1 => t
  | 2 => k
  | 3 => nx
  | _ => 0
theorem st_addWatch (h : SR s b r Z G) (hB : B ≤ b) (ht : Z 7 + Z 6 < 2 ^ 31) (f t x k : Int32) : (Z 5 = 8 → cl_ tb_ct tb_mt B K_X8_addWatch [.ref b, .int f, .int t, .int x, .int k] s = some (.inl (some (.int (-2))), s)) ∧ (Z 5 < 8 → ¬ x ≤ nI (r + 1) → cl_ tb_ct tb_mt B K_X8_addWatch [.ref b, .int f, .int t, .int x, .int k] s = some (.inl (some (.int (-2000000002))), s)) ∧ (Z 5 < 8 → x ≤ nI (r + 1) → ∃ s', cl_ tb_ct tb_mt B K_X8_addWatch [.ref b, .int f, .int t, .int x, .int k] s = some (.inl (some (.int (nI (Z 5)))), s') ∧ so s s' b (b + 218) ∧ SR s' b r (va_up Z 5 (Z 5 + 1)) (va_up G 4 (va_up (G 4) (Z 5) (w12 f t k (nI (Z 7 + p_first (G 2) (Z 6) x)))))) := by
  obtain ⟨hn, A, C, L, a1, a2, a3, a4⟩ := h.ww
  have ar : s.1 (b + 179) = some (arE "WatchedKeys$Watch" (fun j => b + 194 + 2 * j) A) := a1
  have hlt : Z 5 < 8 → nI (Z 5) < (8 : Int32) := fun h8 => nI_lt (b := 8) h8 (by omega)
  refine ⟨fun h8 => ?_, fun h8 hx => ?_, fun h8 hx => ?_⟩
  · rw [in_X8_addWatch, dc_X8_addWatch_0]
    simp only [sr_8 h, eI_s, if_neg (nI_pos (show Z 5 < 2 ^ 31 by omega)), h8, if_neg (show ¬ nI 8 < (8 : Int32) by decide), ite_self]
  · rw [in_X8_addWatch, dc_X8_addWatch_0]
    simp only [sr_8 h, eI_s, if_neg (nI_pos (show Z 5 < 2 ^ 31 by omega)), if_pos (hlt h8), sr_cls h, eC_s, st_tooLate h, if_neg hx, cI_s, if_neg (show ¬ ((1 : Int32) = 0) by decide)]
  · have hA5 := a2.1 _ h8
    have w0 := a3 _ hA5
    have hBa : B ≤ b + 194 + 2 * A (Z 5) := by omega
    have hr : ∀ k l, SR (wS s (b + 194 + 2 * A (Z 5)) k l) b r Z G := fun k l => h.setW (W' := G 4) (so3_of (so_up so_ov (by omega) (by omega))) ⟨rfl, rfl, rfl, rfl, rfl, rfl⟩ ((ov_o (by omega)).trans h.o) ⟨hn, A, va_up C (A (Z 5)) k, va_up L (A (Z 5)) l, (ov_o (by omega)).trans a1, a2, fun j hj => by
        by_cases hj2 : j = A (Z 5)
        · subst hj2
          rw [va_us, va_us]
          exact OV.of
        · rw [va_un hj2, va_un hj2]
          exact (a3 j hj).at fun q _ _ => ov_o (by omega), fun j hj => by
        rw [va_un (fun e => absurd (a2.2 j (by omega) _ h8 e) (by omega)), va_un (fun e => absurd (a2.2 j (by omega) _ h8 e) (by omega))]
        exact a4 j hj⟩ |>.cg (fun _ _ _ => rfl) (fun _ _ _ _ => rfl) (fun _ _ _ _ => rfl) (fun g h1 h2 => by
          unfold va_up
          split
          · rename_i e
            rw [e]
          · rfl)
    refine ⟨am_set (wS s (b + 194 + 2 * A (Z 5)) (upd (upd (upd (upd (upd (upd (C (A (Z 5))) 0 f) 1 t) 2 k) 4 0) 3 (nI (p_first (G 2) (Z 6) x))) 5 0) (L (A (Z 5)))) b (.inr (7, stO (upd (sv r Z) 8 (nI (Z 5 + 1))) b)), ?_, so_tr (so_up so_ov (by omega) (by omega)) (so_up so_set (by omega) (by omega)), ?_⟩
    · have h8b : gI tb_ct (am_set (wS s (b + 194 + 2 * A (Z 5)) (upd (upd (upd (upd (upd (upd (C (A (Z 5))) 0 f) 1 t) 2 k) 4 0) 3 (nI (p_first (G 2) (Z 6) x))) 5 0) (L (A (Z 5)))) b (.inr (7, stO (upd (sv r Z) 8 (nI (Z 5 + 1))) b))) b 7 8 = some (nI (Z 5 + 1)) := gI_o set_at rfl rfl rfl
      rw [in_X8_addWatch, dc_X8_addWatch_0]
      simp only [sr_8 h, eI_s, if_neg (nI_pos (show Z 5 < 2 ^ 31 by omega)), if_pos (hlt h8), sr_cls h, eC_s, st_tooLate h, if_pos hx, cI_s, if_true, sr_w h, eA_s, ar_at ar h8, w_p0 w0 hBa, eS_s, w_p1 OV.of hBa, w_p2 OV.of hBa, w_p4 OV.of hBa, ov_idem, sr_cls (hr _ _), st_firstFor (hr _ _), w_cls OV.of, w_begin OV.of hBa, cV_s, sr_8 (hr _ _), nI_1, so_p (hr _ _).o hB (show 5 ≤ 8 ∧ 8 ≤ 10 by omega), h8b, nI_sub1 (show 0 < Z 5 + 1 by omega), Nat.add_sub_cancel]
    · refine h.setW ⟨fun q q1 q2 q3 => (set_ne q1).trans (ov_o (by omega)), rfl⟩ ⟨rfl, rfl, rfl, rfl, rfl, rfl⟩ (SO.cg set_at fun k k1 k2 => ?_) ⟨?_, A, va_up C (A (Z 5)) (upd (upd (upd (upd (upd (upd (C (A (Z 5))) 0 f) 1 t) 2 k) 4 0) 3 (nI (p_first (G 2) (Z 6) x))) 5 0), L, (set_ne (by omega)).trans ((ov_o (by omega)).trans a1), a2, fun j hj => ?_, fun j hj => ?_⟩
      · match k, k1, k2 with
        | 5, _, _ => rfl
        | 6, _, _ => rfl
        | 7, _, _ => rfl
        | 8, _, _ => rfl
        | 9, _, _ => rfl
        | 10, _, _ => rfl
        | k + 11, _, k2 => omega
      · change Z 5 + 1 ≤ 8
        omega
      · by_cases hj2 : j = A (Z 5)
        · subst hj2
          rw [va_us]
          exact OV.at OV.of fun q _ _ => set_ne (by omega)
        · rw [va_un hj2]
          exact (a3 j hj).at fun q _ _ => (set_ne (by omega)).trans (ov_o (by omega))
      · change j < Z 5 + 1 at hj
        change WL (Z 7) (Z 7 + Z 6) _ _ _
        by_cases hj2 : j = Z 5
        · subst hj2
          rw [va_us, va_us]
          refine ⟨rfl, rfl, rfl, ⟨Z 7 + p_first (G 2) (Z 6) x, rfl, Nat.add_le_add_left p_first_le _, ?_⟩, rfl, rfl, fun e => absurd rfl e⟩
          rw [Nat.add_sub_cancel_left]
          rfl
        · rw [va_un hj2, va_un (fun e => hj2 (a2.2 j (by omega) _ h8 e))]
          exact a4 j (by omega)
/-! removeWatch -/
theorem st_remWatch_lp {A : Nat → Nat} {C L : rowT} {n : Nat} (hB : B ≤ b) (hn : n ≤ 8) (hA : okA 8 A) (hi : i < n) : ∀ k l w s, l + 1 + k = n → i ≤ l → SO s b (sv r Z) → Z 5 = n → s.1 (b + 179) = some (arE "WatchedKeys$Watch" (fun j => b + 194 + 2 * j) (shlA A i l)) → (∀ j, j < 8 → W1 s (b + 194 + 2 * j) (C j) (L j)) → rn_ tb_ct tb_mt B mm_X8_removeWatch 13 [.ref b, w, .ref (b + 194 + 2 * A i), .int (nI l)] [] s = some (.inl none, am_set (am_set s (b + 179) (arE "WatchedKeys$Watch" (fun j => b + 194 + 2 * j) (remA A i n))) b (.inr (7, stO (upd (sv r Z) 8 (nI (n - 1))) b))) := by
  intro k
  induction k with
  | zero =>
    intro l w s hl hil ho h5 ar hw
    have hAi := hA.1 i (by omega)
    have g8 : gI tb_ct s b 7 8 = some (nI n) := h5 ▸ gI_o ho rfl rfl rfl
    have gw : gA tb_ct s b 7 2 = some (some (b + 179)) := gA_o ho rfl rfl rfl
    have ho2 : ∀ e, SO (am_set s (b + 179) e) b (sv r Z) := fun e => (set_ne (by omega)).trans ho
    have g82 : ∀ e, gI tb_ct (am_set s (b + 179) e) b 7 8 = some (nI n) := fun e => h5 ▸ gI_o (ho2 e) rfl rfl rfl
    have hwr := ar_w (B := B) (i := l) ar (w_cls (hw _ hAi)) rfl (by omega) (by omega)
    rw [shlA_end hl hil] at hwr
    rw [dc_X8_removeWatch_13]
    simp only [g8, eI_s, nI_1, if_pos (nI_le (show n ≤ l + 1 by omega) (by omega))]
    rw [dc_X8_removeWatch_51]
    simp only [gw, eA_s, hwr, eS_s, g82, eI_s, nI_sub1 (show 0 < n by omega), so_p (ho2 _) hB (show 5 ≤ 8 ∧ 8 ≤ 10 by omega)]
  | succ k ih =>
    intro l w s hl hil ho h5 ar hw
    have hAl := hA.1 (l + 1) (by omega)
    have g8 : gI tb_ct s b 7 8 = some (nI n) := h5 ▸ gI_o ho rfl rfl rfl
    have gw : gA tb_ct s b 7 2 = some (some (b + 179)) := gA_o ho rfl rfl rfl
    have ra := ar_at (i := l + 1) ar (by omega)
    rw [show shlA A i l (l + 1) = A (l + 1) from if_neg (by omega)] at ra
    have hwr := ar_w (B := B) (i := l) ar (w_cls (hw _ hAl)) rfl (by omega) (by omega)
    rw [shlA_up hil] at hwr
    rw [dc_X8_removeWatch_13]
    simp only [g8, eI_s, nI_1, if_neg (nI_ge (show l + 1 < n by omega) (by omega)), if_neg (show ¬ (8 : Int32) ≤ nI (l + 1) from nI_ge (b := 8) (by omega) (by omega)), gw, eA_s, ra, hwr, eS_s]
    rw [ih (l + 1) _ _ (by omega) (by omega) ((set_ne (by omega)).trans ho) h5 set_at (fun j hj => (hw j hj).at fun q _ _ => set_ne (by omega))]
    simp only [set_set]
theorem st_removeWatch (h : SR s b r Z G) (hB : B ≤ b) (hi : i < Z 5) : ∃ s', cl_ tb_ct tb_mt B K_X8_removeWatch [.ref b, .int (nI i)] s = some (.inl none, s') ∧ so s s' b (b + 218) ∧ SR s' b r (va_up Z 5 (Z 5 - 1)) (va_up G 4 (delR (G 4) i (Z 5))) := by
  obtain ⟨hn, A, C, L, a1, a2, a3, a4⟩ := h.ww
  have hAi := a2.1 i (by omega)
  have ar : s.1 (b + 179) = some (arE "WatchedKeys$Watch" (fun j => b + 194 + 2 * j) A) := a1
  have hat : cl_ tb_ct tb_mt B K_X8_watchAt [.ref b, .int (nI i)] s = some (.inl (some (.ref (b + 194 + 2 * A i))), s) := by
    rw [in_X8_watchAt, dc_X8_watchAt_0, if_neg (nI_pos (by omega))]
    simp only [sr_8 h, eI_s, if_neg (nI_ge hi (by omega)), if_neg (show ¬ (8 : Int32) ≤ nI i from nI_ge (b := 8) (by omega) (by omega)), sr_w h, eA_s, ar_at ar (show i < 8 by omega)]
  refine ⟨am_set (am_set s (b + 179) (arE "WatchedKeys$Watch" (fun j => b + 194 + 2 * j) (remA A i (Z 5)))) b (.inr (7, stO (upd (sv r Z) 8 (nI (Z 5 - 1))) b)), ?_, so_tr (so_set2 (by omega) (by omega)) (so_up so_set (by omega) (by omega)), ?_⟩
  · rw [in_X8_removeWatch, dc_X8_removeWatch_0]
    simp only [sr_cls h, eC_s, hat, cA_s]
    exact st_remWatch_lp hB hn a2 hi (Z 5 - i - 1) i _ s (by omega) (Nat.le_refl _) h.o rfl (by rw [shlA_self]; exact ar) a3
  · refine h.setW (so3_tr so3_x so3_b) ⟨rfl, rfl, rfl, rfl, rfl, rfl⟩ (SO.cg set_at fun k k1 k2 => ?_) ⟨?_, remA A i (Z 5), C, L, (set_ne (by omega)).trans set_at, okA_rem a2 (by omega) hi, fun j hj => ?_, fun j hj => ?_⟩
    · match k, k1, k2 with
      | 5, _, _ => rfl
      | 6, _, _ => rfl
      | 7, _, _ => rfl
      | 8, _, _ => rfl
      | 9, _, _ => rfl
      | 10, _, _ => rfl
      | k + 11, _, k2 => omega
    · change Z 5 - 1 ≤ 8
      omega
    · exact (a3 j hj).at fun q _ _ => (set_ne (by omega)).trans (set_ne (by omega))
    · change j < Z 5 - 1 at hj
      change WL (Z 7) (Z 7 + Z 6) _ _ _
      unfold remA delR
      rw [if_neg (by omega)]
      by_cases hc : i ≤ j ∧ j + 1 < Z 5
      · rw [if_pos hc, if_pos hc]
        exact a4 _ (by omega)
      · rw [if_neg hc, if_neg hc]
        exact a4 _ (by omega)
end Wl
