/-! ===== Store: SR s b r Z G: the Store at b holds the numbers Z and the rows G (as the model has them: Z 0 revision, 1 compacted, 2 time, 3 keys, 4 leases, 5 watches, 6 events, 7 lost, 8 granted, 9 conditions, 10 and 11 steps, 12 base; G 0 keys, 1 base, 2 events with the version behind, 3 leases, 4 watches, 5 conditions, 6 and 7 steps); r is the revision that the class has: Z 0, or one less within a change ===== -/
def lf (k : Nat → Int32) : List Value := [.int (k 0), .int (k 1), .int (k 2)]
def stO (v : Nat → Int32) (b : Nat) : List Value := [.ref (b + 1), .ref (b + 25), .ref (b + 179), .ref (b + 180), .ref (b + 181), .int (v 5), .int (v 6), .int (v 7), .int (v 8), .int (v 9), .int (v 10)]
abbrev SO (s : am_S) (b : Nat) (v : Nat → Int32) : Prop := s.1 b = some (.inr (7, stO v b))
def sv (r : Nat) (Z : Nat → Nat) : Nat → Int32
  | 5 => nI r
  | 6 => nI (Z 1)
  | 7 => nI (Z 2)
  | 8 => nI (Z 5)
  | 9 => nI (Z 4)
  | 10 => nI (Z 8)
  | _ => 0
def WL (lost top : Nat) (k l w : Nat → Int32) : Prop := k 0 = w 0 ∧ k 1 = w 1 ∧ k 2 = w 2 ∧ (∃ x, w 3 = nI x ∧ x ≤ top ∧ k 3 = nI (x - lost)) ∧ k 4 = w 5 ∧ k 5 = w 4 ∧ (w 5 ≠ 0 → ∀ v, v < 6 → l v = w (6 + v))
def WW (s : am_S) (b n lost top : Nat) (W : rowT) : Prop := n ≤ 8 ∧ ∃ (A : Nat → Nat) (C L : rowT), s.1 (b + 179) = some (.inl (.object "WatchedKeys$Watch", 8, .inr (.inr (.inr (.inr fun i => if i < 8 then some (b + 194 + 2 * A i) else none))))) ∧ okA 8 A ∧ (∀ j, j < 8 → W1 s (b + 194 + 2 * j) (C j) (L j)) ∧ ∀ i, i < n → WL lost top (C (A i)) (L (A i)) (W i)
def LW (s : am_S) (b n : Nat) (L : rowT) : Prop := n ≤ 8 ∧ ∃ (A : Nat → Nat) (C : rowT), s.1 (b + 180) = some (.inl (.object "WatchedKeys$Lease", 8, .inr (.inr (.inr (.inr fun i => if i < 8 then some (b + 210 + A i) else none))))) ∧ okA 8 A ∧ (∀ j, j < 8 → s.1 (b + 210 + j) = some (.inr (4, lf (C j)))) ∧ ∀ i, i < n → ∀ w, w < 3 → C (A i) w = L i w
def TW (s : am_S) (t n : Nat) (T : rowT) : Prop := n ≤ 6 ∧ ∃ U, TR s t n U ∧ ∀ i, i < n → ∀ w, w < 4 → U i w = T i w
def PW (s : am_S) (t n : Nat) (T : rowT) : Prop := n ≤ 6 ∧ ∃ U, SP s t n U ∧ ∀ i, i < n → ∀ w, w < 3 → U i w = T i w
abbrev nmT : Type := Nat → Nat
abbrev rwT : Type := Nat → rowT
def SR (s : am_S) (b r : Nat) (Z : nmT) (G : rwT) : Prop := SO s b (sv r Z) ∧ KW s (b + 1) (Z 3) (G 0) ∧ EW s (b + 25) (Z 6) (G 2) ∧ WW s b (Z 5) (Z 7) (Z 7 + Z 6) (G 4) ∧ LW s b (Z 4) (G 3) ∧ TW s (b + 181) (Z 9) (G 5) ∧ PW s (b + 186) (Z 10) (G 6) ∧ PW s (b + 190) (Z 11) (G 7)
section Sr
variable {s s' : am_S} {B b r n : Nat} {Z : nmT} {G : rwT} {M : am_M}
theorem WW.at {lost top : Nat} {W : rowT} (h : WW s b n lost top W) (h1 : s'.1 (b + 179) = s.1 (b + 179)) (h2 : ∀ q, b + 194 ≤ q → q < b + 210 → s'.1 q = s.1 q) : WW s' b n lost top W := by
  obtain ⟨hn, A, C, L, a1, a2, a3, a4⟩ := h
  exact ⟨hn, A, C, L, by rw [h1, a1], a2, fun j hj => (a3 j hj).at fun q q1 q2 => h2 q (by omega) (by omega), a4⟩
theorem WW.up {lost top top' : Nat} {W : rowT} (h : WW s b n lost top W) (ht : top ≤ top') : WW s b n lost top' W := by
  obtain ⟨hn, A, C, L, a1, a2, a3, a4⟩ := h
  refine ⟨hn, A, C, L, a1, a2, a3, fun i hi => ?_⟩
  obtain ⟨b1, b2, b3, ⟨x, x1, x2, x3⟩, b4⟩ := a4 i hi
  exact ⟨b1, b2, b3, ⟨x, x1, by omega, x3⟩, b4⟩
theorem LW.at {L : rowT} (h : LW s b n L) (h1 : s'.1 (b + 180) = s.1 (b + 180)) (h2 : ∀ q, b + 210 ≤ q → q < b + 218 → s'.1 q = s.1 q) : LW s' b n L := by
  obtain ⟨hn, A, C, a1, a2, a3, a4⟩ := h
  exact ⟨hn, A, C, by rw [h1, a1], a2, fun j hj => by rw [h2 _ (by omega) (by omega), a3 j hj], a4⟩
theorem TW.at {t : Nat} {T : rowT} (h : TW s t n T) (h2 : ∀ q, t ≤ q → q < t + 5 → s'.1 q = s.1 q) : TW s' t n T := by
  obtain ⟨hn, U, a1, a2⟩ := h
  exact ⟨hn, U, OV.at a1 h2, a2⟩
theorem PW.at {t : Nat} {T : rowT} (h : PW s t n T) (h2 : ∀ q, t ≤ q → q < t + 4 → s'.1 q = s.1 q) : PW s' t n T := by
  obtain ⟨hn, U, a1, a2⟩ := h
  exact ⟨hn, U, OV.at a1 h2, a2⟩
theorem SR.at (h : SR s b r Z G) (hs : ∀ q, b ≤ q → q < b + 218 → s'.1 q = s.1 q) : SR s' b r Z G := by
  obtain ⟨h1, h2, h3, h4, h5, h6, h7, h8⟩ := h
  exact ⟨(hs b (by omega) (by omega)).trans h1, h2.at fun q _ _ => hs q (by omega) (by omega), h3.at fun q _ _ => hs q (by omega) (by omega), h4.at (hs _ (by omega) (by omega)) fun q _ _ => hs q (by omega) (by omega), h5.at (hs _ (by omega) (by omega)) fun q _ _ => hs q (by omega) (by omega), h6.at fun q _ _ => hs q (by omega) (by omega), h7.at fun q _ _ => hs q (by omega) (by omega), h8.at fun q _ _ => hs q (by omega) (by omega)⟩
/-! its parts -/
theorem SR.o (h : SR s b r Z G) : SO s b (sv r Z) := h.1
theorem SR.kw (h : SR s b r Z G) : KW s (b + 1) (Z 3) (G 0) := h.2.1
theorem SR.ew (h : SR s b r Z G) : EW s (b + 25) (Z 6) (G 2) := h.2.2.1
theorem SR.ww (h : SR s b r Z G) : WW s b (Z 5) (Z 7) (Z 7 + Z 6) (G 4) := h.2.2.2.1
theorem SR.lw (h : SR s b r Z G) : LW s b (Z 4) (G 3) := h.2.2.2.2.1
theorem SR.tw (h : SR s b r Z G) : TW s (b + 181) (Z 9) (G 5) := h.2.2.2.2.2.1
theorem SR.p1 (h : SR s b r Z G) : PW s (b + 186) (Z 10) (G 6) := h.2.2.2.2.2.2.1
theorem SR.p2 (h : SR s b r Z G) : PW s (b + 190) (Z 11) (G 7) := h.2.2.2.2.2.2.2
theorem sr_cls (h : SR s b r Z G) : am_cls s b = some 7 := cls_o h.o
theorem sr_k (h : SR s b r Z G) : gA tb_ct s b 7 0 = some (some (b + 1)) := gA_o h.o rfl rfl rfl
theorem sr_e (h : SR s b r Z G) : gA tb_ct s b 7 1 = some (some (b + 25)) := gA_o h.o rfl rfl rfl
theorem sr_w (h : SR s b r Z G) : gA tb_ct s b 7 2 = some (some (b + 179)) := gA_o h.o rfl rfl rfl
theorem sr_l (h : SR s b r Z G) : gA tb_ct s b 7 3 = some (some (b + 180)) := gA_o h.o rfl rfl rfl
theorem sr_t (h : SR s b r Z G) : gA tb_ct s b 7 4 = some (some (b + 181)) := gA_o h.o rfl rfl rfl
theorem sr_5 (h : SR s b r Z G) : gI tb_ct s b 7 5 = some (nI r) := gI_o h.o rfl rfl rfl
theorem sr_6 (h : SR s b r Z G) : gI tb_ct s b 7 6 = some (nI (Z 1)) := gI_o h.o rfl rfl rfl
theorem sr_7 (h : SR s b r Z G) : gI tb_ct s b 7 7 = some (nI (Z 2)) := gI_o h.o rfl rfl rfl
theorem sr_8 (h : SR s b r Z G) : gI tb_ct s b 7 8 = some (nI (Z 5)) := gI_o h.o rfl rfl rfl
theorem sr_9 (h : SR s b r Z G) : gI tb_ct s b 7 9 = some (nI (Z 4)) := gI_o h.o rfl rfl rfl
theorem sr_10 (h : SR s b r Z G) : gI tb_ct s b 7 10 = some (nI (Z 8)) := gI_o h.o rfl rfl rfl
theorem sr_kn (h : SR s b r Z G) : gI tb_ct s (b + 1) 3 1 = some (nI (Z 3)) := kw_n h.kw
theorem sr_kc (h : SR s b r Z G) : am_cls s (b + 1) = some 3 := kw_cls h.kw
theorem sr_en (h : SR s b r Z G) : gI tb_ct s (b + 25) 1 1 = some (nI (Z 6)) := ew_n h.ew
theorem sr_ec (h : SR s b r Z G) : am_cls s (b + 25) = some 1 := ew_cls h.ew
/-! a part changed -/
theorem SR.setO {r' : Nat} {Z' : nmT} (h : SR s b r Z G) (hZ : Z' 3 = Z 3 ∧ Z' 6 = Z 6 ∧ Z' 5 = Z 5 ∧ Z' 7 = Z 7 ∧ Z' 4 = Z 4 ∧ Z' 9 = Z 9 ∧ Z' 10 = Z 10 ∧ Z' 11 = Z 11) (hs : so s s' b (b + 1)) (ho : SO s' b (sv r' Z')) : SR s' b r' Z' G := by
  obtain ⟨h1, h2, h3, h4, h5, h6, h7, h8⟩ := h
  obtain ⟨e3, e6, e5, e7, e4, e9, e10, e11⟩ := hZ
  refine ⟨ho, ?_, ?_, ?_, ?_, ?_, ?_, ?_⟩
  · rw [e3]; exact h2.at fun q _ _ => hs.1 q (by omega)
  · rw [e6]; exact h3.at fun q _ _ => hs.1 q (by omega)
  · rw [e5, e7, e6]; exact h4.at (hs.1 _ (by omega)) fun q _ _ => hs.1 q (by omega)
  · rw [e4]; exact h5.at (hs.1 _ (by omega)) fun q _ _ => hs.1 q (by omega)
  · rw [e9]; exact h6.at fun q _ _ => hs.1 q (by omega)
  · rw [e10]; exact h7.at fun q _ _ => hs.1 q (by omega)
  · rw [e11]; exact h8.at fun q _ _ => hs.1 q (by omega)
theorem SR.setK {K' : rowT} (h : SR s b r Z G) (hs : so s s' (b + 1) (b + 25)) (hk : KW s' (b + 1) n K') : SR s' b r (va_up Z 3 n) (va_up G 0 K') := by
  obtain ⟨h1, h2, h3, h4, h5, h6, h7, h8⟩ := h
  exact ⟨(hs.1 b (by omega)).trans h1, hk, h3.at fun q _ _ => hs.1 q (by omega), h4.at (hs.1 _ (by omega)) fun q _ _ => hs.1 q (by omega), h5.at (hs.1 _ (by omega)) fun q _ _ => hs.1 q (by omega), h6.at fun q _ _ => hs.1 q (by omega), h7.at fun q _ _ => hs.1 q (by omega), h8.at fun q _ _ => hs.1 q (by omega)⟩
theorem SR.setE {E' : rowT} (h : SR s b r Z G) (hs : so s s' (b + 25) (b + 179)) (he : EW s' (b + 25) n E') (hn : Z 6 ≤ n) : SR s' b r (va_up Z 6 n) (va_up G 2 E') := by
  obtain ⟨h1, h2, h3, h4, h5, h6, h7, h8⟩ := h
  exact ⟨(hs.1 b (by omega)).trans h1, h2.at fun q _ _ => hs.1 q (by omega), he, (h4.at (hs.1 _ (by omega)) fun q _ _ => hs.1 q (by omega)).up (Nat.add_le_add_left hn _), h5.at (hs.1 _ (by omega)) fun q _ _ => hs.1 q (by omega), h6.at fun q _ _ => hs.1 q (by omega), h7.at fun q _ _ => hs.1 q (by omega), h8.at fun q _ _ => hs.1 q (by omega)⟩
theorem SR.setT {T' : rowT} (h : SR s b r Z G) (hs : so s s' (b + 181) (b + 186)) (ht : TW s' (b + 181) n T') : SR s' b r (va_up Z 9 n) (va_up G 5 T') := by
  obtain ⟨h1, h2, h3, h4, h5, h6, h7, h8⟩ := h
  exact ⟨(hs.1 b (by omega)).trans h1, h2.at fun q _ _ => hs.1 q (by omega), h3.at fun q _ _ => hs.1 q (by omega), h4.at (hs.1 _ (by omega)) fun q _ _ => hs.1 q (by omega), h5.at (hs.1 _ (by omega)) fun q _ _ => hs.1 q (by omega), ht, h7.at fun q _ _ => hs.1 q (by omega), h8.at fun q _ _ => hs.1 q (by omega)⟩
theorem SR.setP1 {T' : rowT} (h : SR s b r Z G) (hs : so s s' (b + 186) (b + 190)) (ht : PW s' (b + 186) n T') : SR s' b r (va_up Z 10 n) (va_up G 6 T') := by
  obtain ⟨h1, h2, h3, h4, h5, h6, h7, h8⟩ := h
  exact ⟨(hs.1 b (by omega)).trans h1, h2.at fun q _ _ => hs.1 q (by omega), h3.at fun q _ _ => hs.1 q (by omega), h4.at (hs.1 _ (by omega)) fun q _ _ => hs.1 q (by omega), h5.at (hs.1 _ (by omega)) fun q _ _ => hs.1 q (by omega), h6.at fun q _ _ => hs.1 q (by omega), ht, h8.at fun q _ _ => hs.1 q (by omega)⟩
theorem SR.setP2 {T' : rowT} (h : SR s b r Z G) (hs : so s s' (b + 190) (b + 194)) (ht : PW s' (b + 190) n T') : SR s' b r (va_up Z 11 n) (va_up G 7 T') := by
  obtain ⟨h1, h2, h3, h4, h5, h6, h7, h8⟩ := h
  exact ⟨(hs.1 b (by omega)).trans h1, h2.at fun q _ _ => hs.1 q (by omega), h3.at fun q _ _ => hs.1 q (by omega), h4.at (hs.1 _ (by omega)) fun q _ _ => hs.1 q (by omega), h5.at (hs.1 _ (by omega)) fun q _ _ => hs.1 q (by omega), h6.at fun q _ _ => hs.1 q (by omega), h7.at fun q _ _ => hs.1 q (by omega), ht⟩
/-- the store's own numbers written -/
theorem so_set {e : am_E} : so s (am_set s b e) b (b + 1) := ⟨fun q hq => if_neg (by omega), rfl⟩
theorem so_set2 {a lo hi : Nat} {e : am_E} (h1 : lo ≤ a) (h2 : a < hi) : so s (am_set s a e) lo hi := ⟨fun q hq => if_neg (by omega), rfl⟩
theorem set_at {a : Nat} {e : am_E} : (am_set s a e).1 a = some e := if_pos rfl
theorem so_p {v : Nat → Int32} {k : Nat} {x : Int32} (h : SO s b v) (hB : B ≤ b) (hk : 5 ≤ k ∧ k ≤ 10) : am_put tb_ct M B s (.int x) b 7 k = some (am_set s b (.inr (7, stO (upd v k x) b))) := by
  match k, hk with
  | 5, _ => rw [pF_o h (Nat.le_of_ble_eq_true rfl) rfl rfl hB (Or.inl rfl)]; rfl
  | 6, _ => rw [pF_o h (Nat.le_of_ble_eq_true rfl) rfl rfl hB (Or.inl rfl)]; rfl
  | 7, _ => rw [pF_o h (Nat.le_of_ble_eq_true rfl) rfl rfl hB (Or.inl rfl)]; rfl
  | 8, _ => rw [pF_o h (Nat.le_of_ble_eq_true rfl) rfl rfl hB (Or.inl rfl)]; rfl
  | 9, _ => rw [pF_o h (Nat.le_of_ble_eq_true rfl) rfl rfl hB (Or.inl rfl)]; rfl
  | 10, _ => rw [pF_o h (Nat.le_of_ble_eq_true rfl) rfl rfl hB (Or.inl rfl)]; rfl
  | k + 11, hk => omega
theorem stO_cg {v v' : Nat → Int32} (h : ∀ k, 5 ≤ k → k ≤ 10 → v k = v' k) : stO v b = stO v' b := by
  unfold stO
  rw [h 5 (by omega) (by omega), h 6 (by omega) (by omega), h 7 (by omega) (by omega), h 8 (by omega) (by omega), h 9 (by omega) (by omega), h 10 (by omega) (by omega)]
theorem SO.cg {v v' : Nat → Int32} (h : SO s b v) (hv : ∀ k, 5 ≤ k → k ≤ 10 → v k = v' k) : SO s b v' := by
  unfold SO at h ⊢
  rw [h, stO_cg hv]
/-- what no part says may be otherwise -/
theorem SR.cg {Z' : nmT} {G' : rwT} (h : SR s b r Z G) (hZ : ∀ i, 1 ≤ i → i ≤ 11 → Z' i = Z i) (h0 : ∀ i, i < Z 3 → ∀ w, w < 6 → G 0 i w = G' 0 i w) (h2 : ∀ i, i < Z 6 → ∀ w, w < 7 → G 2 i w = G' 2 i w) (hG : ∀ g, 3 ≤ g → g ≤ 7 → G' g = G g) : SR s b r Z' G' := by
  obtain ⟨a1, a2, a3, a4, a5, a6, a7, a8⟩ := h
  have e : sv r Z' = sv r Z := by
    funext k
    unfold sv
    rw [hZ 1 (by omega) (by omega), hZ 2 (by omega) (by omega), hZ 5 (by omega) (by omega), hZ 4 (by omega) (by omega), hZ 8 (by omega) (by omega)]
  unfold SR
  rw [e, hZ 3 (by omega) (by omega), hZ 6 (by omega) (by omega), hZ 5 (by omega) (by omega), hZ 7 (by omega) (by omega), hZ 4 (by omega) (by omega), hZ 9 (by omega) (by omega), hZ 10 (by omega) (by omega), hZ 11 (by omega) (by omega), hG 3 (by omega) (by omega), hG 4 (by omega) (by omega), hG 5 (by omega) (by omega), hG 6 (by omega) (by omega), hG 7 (by omega) (by omega)]
  exact ⟨a1, a2.cg h0, a3.cg h2, a4, a5, a6, a7, a8⟩
/-! events and keys written -/
def ev7 (a0 a1 a2 a3 a4 a5 a6 : Int32) : Nat → Int32
  | 0 => a0
  | 1 => a1
  | 2 => a2
  | 3 => a3
  | 4 => a4
  | 5 => a5
  | _ => a6
theorem KC.at {a : Nat} {k : Nat → Int32} (h : KC s a k) (hs : s'.1 a = s.1 a) : KC s' a k := by
  obtain ⟨q, h1, h2⟩ := h
  exact ⟨q, hs.trans h1, h2⟩
theorem EC.at {a : Nat} {k : Nat → Int32} (h : EC s a k) (hs : s'.1 a = s.1 a) : EC s' a k := by
  obtain ⟨q, h1, h2⟩ := h
  exact ⟨q, hs.trans h1, h2⟩
theorem st_addEvent {a : Nat} {k : Nat → Int32} {kd bf : Int32} (h : SR s b r Z G) (hK : KC s a k) (ha : a < b + 25 ∨ b + 179 ≤ a) (hn : Z 6 < 152) (hB : B ≤ b) : ∃ s', cl_ tb_ct tb_mt B K_X8_addEvent [.ref b, .int kd, .ref a, .int bf] s = some (.inl none, s') ∧ so s s' (b + 25) (b + 179) ∧ SR s' b r (va_up Z 6 (Z 6 + 1)) (va_up G 2 (va_up (G 2) (Z 6) (ev7 (nI (r + 1)) kd (k 0) (if kd = 0 then k 1 else 0) bf (k 5) (k 4)))) := by
  obtain ⟨-, A, C, hE, hA, hl⟩ := h.ew
  have hAn := hA.1 (Z 6) hn
  have hB2 : B ≤ b + 25 := by omega
  have hk : ∀ n C, KC (erS s (b + 25) n A C) a k := fun n C => hK.at (rw_o (by omega))
  have ho : ∀ n C, SO (erS s (b + 25) n A C) b (sv r Z) := fun n C => (rw_o (by omega)).trans h.o
  have h5 : ∀ n C, gI tb_ct (erS s (b + 25) n A C) b 7 5 = some (nI r) := fun n C => gI_o (ho n C) rfl rfl rfl
  have fin : ∀ x, (cl_ tb_ct tb_mt B K_X8_addEvent [.ref b, .int kd, .ref a, .int bf] s = some (.inl none, erS s (b + 25) (Z 6 + 1) A (va_up C (A (Z 6)) (upd (upd (upd (upd (upd (upd (upd (C (A (Z 6))) 0 (nI (r + 1))) 1 kd) 2 (k 0)) 3 x) 4 bf) 5 (k 5)) 6 (k 4))))) → x = (if kd = 0 then k 1 else 0) → ∃ s', cl_ tb_ct tb_mt B K_X8_addEvent [.ref b, .int kd, .ref a, .int bf] s = some (.inl none, s') ∧ so s s' (b + 25) (b + 179) ∧ SR s' b r (va_up Z 6 (Z 6 + 1)) (va_up G 2 (va_up (G 2) (Z 6) (ev7 (nI (r + 1)) kd (k 0) (if kd = 0 then k 1 else 0) bf (k 5) (k 4)))) := by
    intro x e ex
    refine ⟨_, e, so_rw, h.setE so_rw ⟨by omega, A, _, RW.of, hA, fun i hi w hw => ?_⟩ (by omega)⟩
    by_cases hi2 : i = Z 6
    · subst hi2
      rw [va_us, va_us, ← ex]
      match w with
      | 0 => rfl
      | 1 => rfl
      | 2 => rfl
      | 3 => rfl
      | 4 => rfl
      | 5 => rfl
      | 6 => rfl
      | w + 7 => omega
    · rw [va_un hi2, va_un (fun e => hi2 (hA.2 i (by omega) _ hn e))]
      exact hl i (by omega) w hw
  have sm : ∀ (x0 x1 x2 x3 x4 x5 x6 : Int32) , va_up (va_up (va_up (va_up (va_up (va_up (va_up C (A (Z 6)) (upd (C (A (Z 6))) 0 x0)) (A (Z 6)) (upd (upd (C (A (Z 6))) 0 x0) 1 x1)) (A (Z 6)) (upd (upd (upd (C (A (Z 6))) 0 x0) 1 x1) 2 x2)) (A (Z 6)) (upd (upd (upd (upd (C (A (Z 6))) 0 x0) 1 x1) 2 x2) 3 x3)) (A (Z 6)) (upd (upd (upd (upd (upd (C (A (Z 6))) 0 x0) 1 x1) 2 x2) 3 x3) 4 x4)) (A (Z 6)) (upd (upd (upd (upd (upd (upd (C (A (Z 6))) 0 x0) 1 x1) 2 x2) 3 x3) 4 x4) 5 x5)) (A (Z 6)) (upd (upd (upd (upd (upd (upd (upd (C (A (Z 6))) 0 x0) 1 x1) 2 x2) 3 x3) 4 x4) 5 x5) 6 x6) = va_up C (A (Z 6)) (upd (upd (upd (upd (upd (upd (upd (C (A (Z 6))) 0 x0) 1 x1) 2 x2) 3 x3) 4 x4) 5 x5) 6 x6) := by
    intro x0 x1 x2 x3 x4 x5 x6
    funext j
    by_cases hj : j = A (Z 6)
    · subst hj
      simp only [va_us]
    · simp only [va_un hj]
  by_cases hkd : kd = 0
  · refine fin (k 1) ?_ (if_pos hkd).symm
    rw [in_X8_addEvent, dc_X8_addEvent_0]
    simp only [sr_e h, eA_s, er_cls hE, eC_s, er_add hE hn hB2, cA_s, h5, eI_s, nI_1, er_p0 RW.of hAn hB2, eS_s, rw_idem, er_p1 RW.of hAn hB2, kc_0 (hk _ _), er_p2 RW.of hAn hB2, if_pos hkd, kc_1 (hk _ _)]
    rw [dc_X8_addEvent_54]
    simp only [er_p3 RW.of hAn hB2, eS_s, rw_idem, er_p4 RW.of hAn hB2, kc_5 (hk _ _), eI_s, er_p5 RW.of hAn hB2, kc_4 (hk _ _), er_p6 RW.of hAn hB2, va_us, sm]
  · refine fin 0 ?_ (if_neg hkd).symm
    rw [in_X8_addEvent, dc_X8_addEvent_0]
    simp only [sr_e h, eA_s, er_cls hE, eC_s, er_add hE hn hB2, cA_s, h5, eI_s, nI_1, er_p0 RW.of hAn hB2, eS_s, rw_idem, er_p1 RW.of hAn hB2, kc_0 (hk _ _), er_p2 RW.of hAn hB2, if_neg hkd]
    rw [dc_X8_addEvent_54]
    simp only [er_p3 RW.of hAn hB2, eS_s, rw_idem, er_p4 RW.of hAn hB2, kc_5 (hk _ _), eI_s, er_p5 RW.of hAn hB2, kc_4 (hk _ _), er_p6 RW.of hAn hB2, va_us, sm]
end Sr
