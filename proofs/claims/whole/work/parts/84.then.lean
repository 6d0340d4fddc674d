/-! ===== the model: the keys that there were then ===== -/
def PR (v : Nat → Int32) (F : mrT) (P : Nat × rowT) : Prop := v 7 = nI P.1 ∧ ∀ i, i < P.1 → F 5 i = P.2 i 0 ∧ F 6 i = P.2 i 1
def TK (v v' : Nat → Int32) (F F' : mrT) : Prop := (∀ i, i ≠ 5 → i ≠ 6 → F' i = F i) ∧ ∀ k, k ≠ 7 → v' k = v k
def m56 (F : mrT) (g5 g6 : Nat → Int32) : mrT := fun a => if a = 5 then g5 else if a = 6 then g6 else F a
section Mt
variable {s s' : am_S} {B m i j n e w : Nat} {v v' v'' : Nat → Int32} {F F' F'' : mrT} {g5 g6 : Nat → Int32} {x y key : Int32} {σ σ' : stT} {P : Nat × rowT}
theorem mo_self (h : MO s m v F) : moS s m v F = s := OV.eq h
theorem TK.rf : TK v v F F := ⟨fun _ _ _ => rfl, fun _ _ => rfl⟩
theorem TK.tr (h : TK v v' F F') (h' : TK v' v'' F' F'') : TK v v'' F F'' := ⟨fun i a b => (h'.1 i a b).trans (h.1 i a b), fun k a => (h'.2 k a).trans (h.2 k a)⟩
theorem TK.km (h : TK v v' F F') : KM v v' F F' := ⟨fun i hi => h.1 i (by omega) (by omega), fun k _ h7 => h.2 k h7⟩
theorem TK.of {x : Int32} : TK v (upd v 7 x) F (m56 F g5 g6) := ⟨fun i h5 h6 => (if_neg h5).trans (if_neg h6), fun k hk => upd_n hk⟩
theorem TK.mm (h : MM B s m v F σ) (t : TK v v' F F') : MM B (moS s m v' F') m v' F' σ := ⟨OV.of, by rw [t.1 1 (by omega) (by omega)]; exact h.2.1, h.2.2⟩
theorem m56_id (h5 : g5 = F 5) (h6 : g6 = F 6) : m56 F g5 g6 = F := by
  funext a
  unfold m56
  by_cases c : a = 5
  · rw [if_pos c, h5, c]
  · rw [if_neg c]
    by_cases d : a = 6
    · rw [if_pos d, h6, d]
    · rw [if_neg d]
theorem m56_5 : mup (m56 F g5 g6) 5 j x = m56 F (upd g5 j x) g6 := by
  funext a
  unfold mup m56
  by_cases c : a = 5
  · rw [if_pos c, if_pos c]
    rfl
  · rw [if_neg c, if_neg c, if_neg c]
theorem m56_6 : mup (m56 F g5 g6) 6 j x = m56 F g5 (upd g6 j x) := by
  funext a
  unfold mup m56
  by_cases c : a = 5
  · rw [if_neg (by omega), if_pos c, if_pos c]
  · by_cases d : a = 6
    · rw [if_pos d, if_neg c, if_pos d]
      rfl
    · rw [if_neg d, if_neg c, if_neg d, if_neg c, if_neg d]
theorem mo_5s : gA tb_ct (moS s m v F) m 11 5 = some (some (m + 5)) := mo_5 OV.of
theorem mo_6s : gA tb_ct (moS s m v F) m 11 6 = some (some (m + 6)) := mo_6 OV.of
theorem mo_7s : gI tb_ct (moS s m v F) m 11 7 = some (v 7) := mo_7 OV.of
theorem w5s (hB : B ≤ m) (hj : j < 28) : wI B (moS s m v (m56 F g5 g6)) (m + 5) (nI j) x = some (moS s m v (m56 F (upd g5 j x) g6)) := by
  rw [mw_tk (OV.of : MO (moS s m v (m56 F g5 g6)) m v (m56 F g5 g6)) hB hj, mo_idem, m56_5]
theorem w6s (hB : B ≤ m) (hj : j < 28) : wI B (moS s m v (m56 F g5 g6)) (m + 6) (nI j) x = some (moS s m v (m56 F g5 (upd g6 j x))) := by
  rw [mw_tv (OV.of : MO (moS s m v (m56 F g5 g6)) m v (m56 F g5 g6)) hB hj, mo_idem, m56_6]
theorem r5s (hj : j < 28) : aI (moS s m v (m56 F g5 g6)) (m + 5) (nI j) = some (g5 j) := mr_tk (OV.of : MO (moS s m v (m56 F g5 g6)) m v (m56 F g5 g6)) hj
theorem r6s (hj : j < 28) : aI (moS s m v (m56 F g5 g6)) (m + 6) (nI j) = some (g6 j) := mr_tv (OV.of : MO (moS s m v (m56 F g5 g6)) m v (m56 F g5 g6)) hj
theorem mk_valueThen_lp (h : MO s m v F) (hP : PR v F P) (hn : P.1 ≤ 28) : ∀ k i, i + k = P.1 → rn_ tb_ct tb_mt B mm_X13_valueThen 2 [.ref m, .int key, .int (nI i)] [] s = some (.inl (some (.int (if fi (fun j => decide (P.2 j 0 = key)) i k < P.1 then P.2 (fi (fun j => decide (P.2 j 0 = key)) i k) 1 else NOV))), s) := by
  intro k
  induction k with
  | zero =>
    intro i hi
    rw [dc_X13_valueThen_2, mo_7 h, eI_s, hP.1, if_pos (nI_le (by omega) (by omega)), fi_0, if_neg (by omega)]
    rfl
  | succ k ih =>
    intro i hi
    obtain ⟨p5, p6⟩ := hP.2 i (by omega)
    rw [dc_X13_valueThen_2, mo_7 h, eI_s, hP.1, if_neg (nI_ge (by omega) (by omega)), mo_5 h, eA_s, mr_tk h (by omega), eI_s, p5, fi_s]
    by_cases c : P.2 i 0 = key
    · rw [if_pos c, mo_6 h, eA_s, mr_tv h (by omega), eI_s, p6, if_pos (decide_eq_true c), if_pos (by omega)]
    · rw [if_neg c, if_neg (show ¬ decide (P.2 i 0 = key) = true by rw [decide_eq_true_eq]; exact c), nI_1]
      exact ih (i + 1) (by omega)
theorem mk_valueThen (h : MO s m v F) (hP : PR v F P) (hn : P.1 ≤ 28) : cl_ tb_ct tb_mt B K_X13_valueThen [.ref m, .int key] s = some (.inl (some (.int (q_then P key))), s) := by
  rw [in_X13_valueThen, dc_X13_valueThen_0]
  exact mk_valueThen_lp h hP hn P.1 0 (by omega)
theorem mk_firstThen_lp (h : MO s m v F) (hP : PR v F P) (hn : P.1 ≤ 28) : ∀ k i, i + k = P.1 → rn_ tb_ct tb_mt B mm_X13_firstThen 2 [.ref m, .int key, .int (nI i)] [] s = some (.inl (some (.int (nI (fi (fun j => !decide (P.2 j 0 < key)) i k)))), s) := by
  intro k
  induction k with
  | zero =>
    intro i hi
    rw [dc_X13_firstThen_2, mo_7 h, eI_s, hP.1, if_pos (nI_le (by omega) (by omega)), fi_0]
  | succ k ih =>
    intro i hi
    obtain ⟨p5, p6⟩ := hP.2 i (by omega)
    rw [dc_X13_firstThen_2, mo_7 h, eI_s, hP.1, if_neg (nI_ge (by omega) (by omega)), mo_5 h, eA_s, mr_tk h (by omega), eI_s, p5, fi_s]
    by_cases c : P.2 i 0 < key
    · rw [if_neg (Int32.not_le.mpr c), decide_eq_true c, nI_1]
      exact ih (i + 1) (by omega)
    · rw [if_pos (Int32.not_lt.mp c), decide_eq_false c]
      rfl
theorem mk_firstThen (h : MO s m v F) (hP : PR v F P) (hn : P.1 ≤ 28) : cl_ tb_ct tb_mt B K_X13_firstThen [.ref m, .int key] s = some (.inl (some (.int (nI (pI P.2 P.1 key)))), s) := by
  rw [in_X13_firstThen, dc_X13_firstThen_0]
  exact mk_firstThen_lp h hP hn P.1 0 (by omega)
/-! an event is gone through -/
theorem go_find (h : MO s m v F) (hP : PR v F P) (hn : P.1 ≤ 28) {ee : Int32} : ∀ k i, i + k = P.1 → rn_ tb_ct tb_mt B mm_X13_goesOn 9 [.ref m, .int ee, .int key, .int (nI i), am_un, am_un] [] s = rn_ tb_ct tb_mt B mm_X13_goesOn 33 [.ref m, .int ee, .int key, .int (nI (fi (fun j => !decide (P.2 j 0 < key)) i k)), am_un, am_un] [] s := by
  intro k
  induction k with
  | zero =>
    intro i hi
    rw [dc_X13_goesOn_9, mo_7 h, eI_s, hP.1, if_pos (nI_le (by omega) (by omega)), fi_0]
  | succ k ih =>
    intro i hi
    obtain ⟨p5, p6⟩ := hP.2 i (by omega)
    rw [dc_X13_goesOn_9, mo_7 h, eI_s, hP.1, if_neg (nI_ge (by omega) (by omega)), mo_5 h, eA_s, mr_tk h (by omega), eI_s, p5, fi_s]
    by_cases c : P.2 i 0 < key
    · rw [if_neg (Int32.not_le.mpr c), decide_eq_true c, nI_1]
      exact ih (i + 1) (by omega)
    · rw [if_pos (Int32.not_lt.mp c), decide_eq_false c]
      rfl
theorem go_dn (hB : B ≤ m) (hn : 0 < n) (h28 : n ≤ 28) (h7 : v 7 = nI n) : ∀ k j g5 g6, j + k = n - 1 → rn_ tb_ct tb_mt B mm_X13_goesOn 71 [.ref m, am_un, am_un, am_un, .int 1, .int (nI j)] [] (moS s m v (m56 F g5 g6)) = rn_ tb_ct tb_mt B mm_X13_goesOn 125 [.ref m, am_un, am_un, am_un, .int 1, .int (nI (n - 1))] [] (moS s m v (m56 F (shD g5 0 1 j (n - 1)) (shD g6 0 1 j (n - 1)))) := by
  have e0 : ∀ (g : Nat → Int32), shD g 0 1 (n - 1) (n - 1) = g := fun g => funext fun q => if_neg (by omega)
  have e1 : ∀ (g : Nat → Int32) j, j < n - 1 → shD (upd g j (g (j + 1))) 0 1 (j + 1) (n - 1) = shD g 0 1 j (n - 1) := fun g j hj => by
    funext q
    unfold shD upd
    by_cases c1 : 0 + (j + 1) ≤ q ∧ q < 0 + (n - 1)
    · rw [if_pos c1, if_neg (show ¬ q + 1 = j by omega), if_pos (show 0 + j ≤ q ∧ q < 0 + (n - 1) by omega)]
    · rw [if_neg c1]
      by_cases c2 : q = j
      · rw [if_pos c2, if_pos (show 0 + j ≤ q ∧ q < 0 + (n - 1) by omega), c2]
      · rw [if_neg c2, if_neg (show ¬ (0 + j ≤ q ∧ q < 0 + (n - 1)) by omega)]
  intro k
  induction k with
  | zero =>
    intro j g5 g6 hj
    obtain rfl : j = n - 1 := by omega
    rw [dc_X13_goesOn_71, if_neg (by decide), mo_7s, eI_s, h7, nI_sub1 hn, if_pos (nI_le (by omega) (by omega)), e0, e0]
  | succ k ih =>
    intro j g5 g6 hj
    rw [dc_X13_goesOn_71, if_neg (by decide), mo_7s, eI_s, h7, nI_sub1 hn, if_neg (nI_ge (by omega) (by omega)), mo_5s, eA_s, eA_s, nI_1, r5s (by omega), eI_s, w5s hB (by omega), eS_s, mo_6s, eA_s, eA_s, r6s (by omega), eI_s, w6s hB (by omega), eS_s, ih (j + 1) _ _ (by omega), e1 _ _ (by omega), e1 _ _ (by omega)]
theorem go_up (hB : B ≤ m) {ee : Int32} : ∀ k g5 g6, i + k ≤ 27 → rn_ tb_ct tb_mt B mm_X13_goesOn 151 [.ref m, .int ee, .int key, .int (nI i), .int 0, .int (nI (i + k))] [] (moS s m v (m56 F g5 g6)) = rn_ tb_ct tb_mt B mm_X13_goesOn 200 [.ref m, .int ee, .int key, .int (nI i), .int 0, .int (nI i)] [] (moS s m v (m56 F (shU g5 0 1 i (i + k)) (shU g6 0 1 i (i + k)))) := by
  have e1 : ∀ (g : Nat → Int32) k, shU (upd g (i + k + 1) (g (i + k))) 0 1 i (i + k) = shU g 0 1 i (i + (k + 1)) := fun g k => by
    funext q
    unfold shU upd
    by_cases c1 : 0 + 1 + i ≤ q ∧ q < 0 + 1 + (i + k)
    · rw [if_pos c1, if_neg (show ¬ q - 1 = i + k + 1 by omega), if_pos (show 0 + 1 + i ≤ q ∧ q < 0 + 1 + (i + (k + 1)) by omega)]
    · rw [if_neg c1]
      by_cases c2 : q = i + k + 1
      · rw [if_pos c2, if_pos (show 0 + 1 + i ≤ q ∧ q < 0 + 1 + (i + (k + 1)) by omega), c2, Nat.add_sub_cancel]
      · rw [if_neg c2, if_neg (show ¬ (0 + 1 + i ≤ q ∧ q < 0 + 1 + (i + (k + 1))) by omega)]
  intro k
  induction k with
  | zero =>
    intro g5 g6 hj
    rw [Nat.add_zero, dc_X13_goesOn_151, if_pos rfl, if_pos (nI_le (by omega) (by omega)), show shU g5 0 1 i i = g5 from funext fun q => if_neg (by omega), show shU g6 0 1 i i = g6 from funext fun q => if_neg (by omega)]
  | succ k ih =>
    intro g5 g6 hj
    have es : nI (i + (k + 1)) - (1 : Int32) = nI (i + k) := nI_sub1 (n := i + (k + 1)) (by omega)
    rw [dc_X13_goesOn_151, if_pos rfl, if_neg (nI_ge (by omega) (by omega)), mo_5s, eA_s, eA_s, es, r5s (by omega), eI_s, w5s hB (by omega), eS_s, mo_6s, eA_s, eA_s, r6s (by omega), eI_s, w6s hB (by omega), eS_s, nI_neg1 (by omega), show i + (k + 1) - 1 = i + k by omega, ih _ _ (by omega), show i + (k + 1) = i + k + 1 from rfl, e1, e1]
    rfl
theorem mk_goesOn (h : MM B s m v F σ) (hP : PR v F P) (hs : srt P.2 P.1) (hn : P.1 ≤ 27) (he : e < σ.1 6) : ∃ v' F', cl_ tb_ct tb_mt B K_X13_goesOn [.ref m, .int (nI e)] s = some (.inl none, moS s m v' F') ∧ PR v' F' (goOn P (σ.2 2 e)) ∧ TK v v' F F' := by
  obtain ⟨hM, hf, hz, hB⟩ := id h
  have hp : pI P.2 P.1 (σ.2 2 e 2) ≤ P.1 := pI_le
  have iff := pI_there (key := σ.2 2 e 2) hs
  have st : cl_ tb_ct tb_mt B K_X13_goesOn [.ref m, .int (nI e)] s = rn_ tb_ct tb_mt B mm_X13_goesOn 33 [.ref m, .int (nI e), .int (σ.2 2 e 2), .int (nI (pI P.2 P.1 (σ.2 2 e 2))), am_un, am_un] [] s := by
    rw [in_X13_goesOn, dc_X13_goesOn_0, mo_cls hM, eC_s, show (2 : Int32) = nI 2 from rfl, mk_event h he (by omega), cI_s]
    exact go_find hM hP (by omega) P.1 0 (by omega)
  have ek : cl_ tb_ct tb_mt B K_X13_eventAt [.ref m, .int (nI e), .int (1 : Int32)] s = some (.inl (some (.int (σ.2 2 e 1))), s) := mk_event (w := 1) h he (by omega)
  have ev : ∀ {v' F'}, TK v v' F F' → cl_ tb_ct tb_mt B K_X13_eventAt [.ref m, .int (nI e), .int (3 : Int32)] (moS s m v' F') = some (.inl (some (.int (σ.2 2 e 3))), moS s m v' F') := fun {v' F'} t => mk_event (w := 3) (TK.mm h t) he (by omega)
  have hid : moS s m v (m56 F (F 5) (F 6)) = s := by
    rw [m56_id rfl rfl]
    exact OV.eq hM
  rw [st]
  unfold goOn
  generalize hkey : σ.2 2 e 2 = key at *
  by_cases c : pF P.2 P.1 key < P.1
  · obtain ⟨c1, c2⟩ := iff.mp c
    have e2 : pF P.2 P.1 key = pI P.2 P.1 key := pF_of hs c1 c2
    have st2 : rn_ tb_ct tb_mt B mm_X13_goesOn 33 [.ref m, .int (nI e), .int key, .int (nI (pI P.2 P.1 key)), am_un, am_un] [] s = rn_ tb_ct tb_mt B mm_X13_goesOn 56 [.ref m, .int (nI e), .int key, .int (nI (pI P.2 P.1 key)), am_un, am_un] [.int 1] s := by
      rw [dc_X13_goesOn_33, mo_7 hM, eI_s, hP.1, if_neg (nI_ge c1 (by omega)), mo_5 hM, eA_s, mr_tk hM (by omega), eI_s, (hP.2 _ c1).1, if_pos c2]
    rw [st2, dc_X13_goesOn_56, mo_cls hM, eC_s, ek, cI_s]
    by_cases d : σ.2 2 e 1 = 1
    · rw [if_pos d, if_pos d, if_pos c, e2]
      have gd := go_dn (s := s) (v := v) (F := F) (n := P.1) hB (by omega) (by omega) hP.1 (P.1 - 1 - pI P.2 P.1 key) (pI P.2 P.1 key) (F 5) (F 6) (by omega)
      rw [hid] at gd
      have hst : rn_ tb_ct tb_mt B mm_X13_goesOn 71 [.ref m, .int (nI e), .int key, .int (nI (pI P.2 P.1 key)), .int 1, .int (nI (pI P.2 P.1 key))] [] s = rn_ tb_ct tb_mt B mm_X13_goesOn 71 [.ref m, am_un, am_un, am_un, .int 1, .int (nI (pI P.2 P.1 key))] [] s := by
        rw [dc_X13_goesOn_71, dc_X13_goesOn_71]
      rw [hst, gd, dc_X13_goesOn_125, mo_7s, eI_s, if_neg (by decide), dc_X13_goesOn_140, mp_7 OV.of hB, eS_s, mo_idem, hP.1, nI_sub1 (by omega)]
      refine ⟨_, _, rfl, ⟨upd_k, fun q hq => ?_⟩, TK.of⟩
      show shD (F 5) 0 1 (pI P.2 P.1 key) (P.1 - 1) q = delR P.2 (pI P.2 P.1 key) P.1 q 0 ∧ shD (F 6) 0 1 (pI P.2 P.1 key) (P.1 - 1) q = delR P.2 (pI P.2 P.1 key) P.1 q 1
      have hq : q < P.1 - 1 := hq
      unfold shD delR
      by_cases c4 : pI P.2 P.1 key ≤ q ∧ q + 1 < P.1
      · rw [if_pos c4, if_pos (by omega), if_pos (by omega)]
        exact hP.2 (q + 1) c4.2
      · rw [if_neg c4, if_neg (by omega), if_neg (by omega)]
        exact hP.2 q (by omega)
    · rw [if_neg d, if_neg d, if_pos c, e2, mo_7 hM, eI_s, hP.1]
      rw [dc_X13_goesOn_151, if_neg (by decide), dc_X13_goesOn_200, mo_7 hM, eI_s, if_neg (by decide), dc_X13_goesOn_215, mp_7 hM hB, eS_s, mo_5s, eA_s, Int32.add_zero]
      rw [show moS s m (upd v 7 (v 7)) F = moS s m (upd v 7 (v 7)) (m56 F (F 5) (F 6)) by rw [m56_id rfl rfl], w5s hB (by omega), eS_s, mo_6s, eA_s, mo_cs, eC_s, ev TK.of, cI_s, w6s hB (by omega), eS_s]
      refine ⟨_, _, rfl, ⟨upd_k.trans hP.1, fun q hq => ?_⟩, TK.of⟩
      show upd (F 5) (pI P.2 P.1 key) key q = va_up P.2 (pI P.2 P.1 key) (k2 key (σ.2 2 e 3)) q 0 ∧ upd (F 6) (pI P.2 P.1 key) (σ.2 2 e 3) q = va_up P.2 (pI P.2 P.1 key) (k2 key (σ.2 2 e 3)) q 1
      by_cases c4 : q = pI P.2 P.1 key
      · rw [c4, upd_k, upd_k, va_us]
        exact ⟨rfl, rfl⟩
      · rw [upd_n c4, upd_n c4, va_un c4]
        exact hP.2 q hq
  · have st2 : rn_ tb_ct tb_mt B mm_X13_goesOn 33 [.ref m, .int (nI e), .int key, .int (nI (pI P.2 P.1 key)), am_un, am_un] [] s = rn_ tb_ct tb_mt B mm_X13_goesOn 56 [.ref m, .int (nI e), .int key, .int (nI (pI P.2 P.1 key)), am_un, am_un] [.int 0] s := by
      rw [dc_X13_goesOn_33, mo_7 hM, eI_s, hP.1]
      by_cases c1 : pI P.2 P.1 key < P.1
      · rw [if_neg (nI_ge c1 (by omega)), mo_5 hM, eA_s, mr_tk hM (by omega), eI_s, (hP.2 _ c1).1, if_neg (fun hc => c (iff.mpr ⟨c1, hc⟩)), dc_X13_goesOn_55]
      · rw [if_pos (nI_le (by omega) (by omega)), dc_X13_goesOn_55]
    rw [st2, dc_X13_goesOn_56, mo_cls hM, eC_s, ek, cI_s, if_neg c, if_neg c]
    by_cases d : σ.2 2 e 1 = 1
    · rw [if_pos d, if_pos d, dc_X13_goesOn_71, if_pos rfl, dc_X13_goesOn_125, mo_7 hM, eI_s, if_pos rfl, dc_X13_goesOn_140, mp_7 hM hB, eS_s, Int32.sub_zero]
      exact ⟨_, _, rfl, ⟨upd_k.trans hP.1, hP.2⟩, fun _ _ _ => rfl, fun k hk => upd_n hk⟩
    · rw [if_neg d, if_neg d, mo_7 hM, eI_s, hP.1]
      have gu := go_up (s := s) (v := v) (F := F) (B := B) (key := key) (i := pI P.2 P.1 key) (ee := nI e) hB (P.1 - pI P.2 P.1 key) (F 5) (F 6) (by omega)
      rw [hid, show pI P.2 P.1 key + (P.1 - pI P.2 P.1 key) = P.1 by omega] at gu
      rw [gu, dc_X13_goesOn_200, mo_7s, eI_s, if_pos rfl, dc_X13_goesOn_215, mp_7 OV.of hB, eS_s, mo_idem, hP.1, nI_1, mo_5s, eA_s, w5s hB (by omega), eS_s, mo_6s, eA_s, mo_cs, eC_s, ev TK.of, cI_s, w6s hB (by omega), eS_s]
      refine ⟨_, _, rfl, ⟨upd_k, fun q hq => ?_⟩, TK.of⟩
      show upd (shU (F 5) 0 1 (pI P.2 P.1 key) P.1) (pI P.2 P.1 key) key q = insR P.2 (pI P.2 P.1 key) P.1 (k2 key (σ.2 2 e 3)) q 0 ∧ upd (shU (F 6) 0 1 (pI P.2 P.1 key) P.1) (pI P.2 P.1 key) (σ.2 2 e 3) q = insR P.2 (pI P.2 P.1 key) P.1 (k2 key (σ.2 2 e 3)) q 1
      have hq : q < P.1 + 1 := hq
      unfold insR
      by_cases c4 : q = pI P.2 P.1 key
      · rw [if_pos c4, c4, upd_k, upd_k]
        exact ⟨rfl, rfl⟩
      · rw [if_neg c4, upd_n c4, upd_n c4]
        unfold shU
        by_cases c5 : pI P.2 P.1 key < q ∧ q ≤ P.1
        · rw [if_pos c5, if_pos (by omega), if_pos (by omega)]
          exact hP.2 (q - 1) (by omega)
        · rw [if_neg c5, if_neg (by omega), if_neg (by omega)]
          exact hP.2 q (by omega)
theorem lays_base (hB : B ≤ m) (hf : FR (F 1) σ) (h12 : σ.1 12 ≤ 16) (h7 : v 7 = nI (σ.1 12)) : ∀ k i g5 g6, i + k = σ.1 12 → (∀ q, q < i → g5 q = σ.2 1 q 0 ∧ g6 q = σ.2 1 q 1) → ∃ g5' g6', rn_ tb_ct tb_mt B mm_X13_laysThen 13 [.ref m, .int x, .int (nI i)] [] (moS s m v (m56 F g5 g6)) = rn_ tb_ct tb_mt B mm_X13_laysThen 67 [.ref m, .int x, .int (nI 0)] [] (moS s m v (m56 F g5' g6')) ∧ ∀ q, q < σ.1 12 → g5' q = σ.2 1 q 0 ∧ g6' q = σ.2 1 q 1 := by
  intro k
  induction k with
  | zero =>
    intro i g5 g6 hi hg
    refine ⟨g5, g6, ?_, fun q hq => hg q (by omega)⟩
    rw [dc_X13_laysThen_13, mo_7s, eI_s, h7, if_pos (nI_le (by omega) (by omega))]
    rfl
  | succ k ih =>
    intro i g5 g6 hi hg
    have r0 : ∀ {g5 g6 j}, j < 1329 → aI (moS s m v (m56 F g5 g6)) (m + 1) (nI j) = some (F 1 j) := fun {g5 g6 j} hj => mr_n (v := v) (F := m56 F g5 g6) OV.of hj
    have b0 : F 1 (157 + 2 * i) = σ.2 1 i 0 := hf.2.2.1 i 0 (by omega) (by omega)
    have b1 : F 1 (157 + 2 * i + 1) = σ.2 1 i 1 := hf.2.2.1 i 1 (by omega) (by omega)
    obtain ⟨g5', g6', e, r⟩ := ih (i + 1) (upd g5 i (σ.2 1 i 0)) (upd g6 i (σ.2 1 i 1)) (by omega) (fun q hq => by
      by_cases c : q = i
      · rw [c, upd_k, upd_k]
        exact ⟨rfl, rfl⟩
      · rw [upd_n c, upd_n c]
        exact hg q (by omega))
    refine ⟨g5', g6', ?_, r⟩
    rw [dc_X13_laysThen_13, mo_7s, eI_s, h7, if_neg (nI_ge (by omega) (by omega)), mo_5s, eA_s, mo_0s, eA_s, show (157 : Int32) + (2 : Int32) * nI i = nI (157 + 2 * i) by rw [show (157 : Int32) = nI 157 from rfl, show (2 : Int32) = nI 2 from rfl, nI_mul, nI_add], r0 (by omega), eI_s, b0, w5s hB (by omega), eS_s, mo_6s, eA_s, mo_0s, eA_s, nI_1, r0 (by omega), eI_s, b1, w6s hB (by omega), eS_s, nI_1]
    exact e
theorem lays_ev (hok : ∀ k, k ≤ σ.1 6 → srt (p_row σ.1 σ.2 k).2 (p_row σ.1 σ.2 k).1 ∧ (p_row σ.1 σ.2 k).1 ≤ 27) : ∀ k i s v F, i + k = σ.1 6 → MM B s m v F σ → PR v F (p_row σ.1 σ.2 i) → ∃ v' F', rn_ tb_ct tb_mt B mm_X13_laysThen 67 [.ref m, .int x, .int (nI i)] [] s = some (.inl (some (.int (nI (fi (fun j => !decide (σ.2 2 j 0 ≤ x)) i k)))), moS s m v' F') ∧ PR v' F' (p_row σ.1 σ.2 (fi (fun j => !decide (σ.2 2 j 0 ≤ x)) i k)) ∧ TK v v' F F' := by
  intro k
  induction k with
  | zero =>
    intro i s v F hi h hP
    have h6 := h.2.2.1.2.2.1
    refine ⟨v, F, ?_, hP, TK.rf⟩
    rw [dc_X13_laysThen_67, mo_0 h.1, eA_s, show (6 : Int32) = nI 6 from rfl, h.gz (by omega), eI_s, if_pos (nI_le (by omega) (by omega)), fi_0, mo_self h.1]
  | succ k ih =>
    intro i s v F hi h hP
    have h6 := h.2.2.1.2.2.1
    rw [dc_X13_laysThen_67, mo_0 h.1, eA_s, show (6 : Int32) = nI 6 from rfl, h.gz (by omega), eI_s, if_neg (nI_ge (by omega) (by omega)), mo_cls h.1, eC_s, show (0 : Int32) = nI 0 from rfl, mk_event h (by omega) (by omega), cI_s, fi_s]
    by_cases c : σ.2 2 i 0 ≤ x
    · obtain ⟨o1, o2⟩ := hok i (by omega)
      obtain ⟨v1, F1, e1, p1, t1⟩ := mk_goesOn h hP o1 o2 (e := i) (by omega)
      obtain ⟨v2, F2, e2, p2, t2⟩ := ih (i + 1) (moS s m v1 F1) v1 F1 (by omega) (TK.mm h t1) p1
      rw [if_neg (Int32.not_lt.mpr c), mo_cls h.1, eC_s, e1, cV_s, nI_1, e2, mo_idem, decide_eq_true c]
      exact ⟨v2, F2, rfl, p2, t1.tr t2⟩
    · rw [if_pos (Int32.not_le.mp c), decide_eq_false c]
      exact ⟨v, F, by rw [mo_self h.1]; rfl, hP, TK.rf⟩
theorem mk_lays (h : MM B s m v F σ) (hok : ∀ k, k ≤ σ.1 6 → srt (p_row σ.1 σ.2 k).2 (p_row σ.1 σ.2 k).1 ∧ (p_row σ.1 σ.2 k).1 ≤ 27) : ∃ v' F', cl_ tb_ct tb_mt B K_X13_laysThen [.ref m, .int x] s = some (.inl (some (.int (nI (p_many σ.1 σ.2 x)))), moS s m v' F') ∧ PR v' F' (p_then σ x) ∧ TK v v' F F' := by
  obtain ⟨hM, hf, hz, hB⟩ := id h
  obtain ⟨g5, g6, e1, r1⟩ := lays_base (s := s) (v := upd v 7 (nI (σ.1 12))) (F := F) (x := x) hB hf hz.2.1 upd_k (σ.1 12) 0 (F 5) (F 6) (by omega) (fun q hq => absurd hq (Nat.not_lt_zero _))
  rw [m56_id rfl rfl] at e1
  have t1 : TK v (upd v 7 (nI (σ.1 12))) F (m56 F g5 g6) := TK.of
  obtain ⟨v2, F2, e2, p2, t2⟩ := lays_ev (B := B) (x := x) hok (σ.1 6) 0 (moS s m (upd v 7 (nI (σ.1 12))) (m56 F g5 g6)) _ _ (by omega) (TK.mm h t1) ⟨upd_k, r1⟩
  refine ⟨v2, F2, ?_, p2, t1.tr t2⟩
  rw [in_X13_laysThen, dc_X13_laysThen_0, mo_0 hM, eA_s, show (12 : Int32) = nI 12 from rfl, h.gz (by omega), eI_s, mp_7 hM hB, eS_s]
  refine Eq.trans e1 ?_
  rw [e2, mo_idem]
  rfl
end Mt
