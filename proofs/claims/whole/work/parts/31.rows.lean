/-! ===== rows of objects: KeyRow, EventRow =====
object b: the row's array b + 1, the count; the array's places hold the slots b + 2 + A i; slot j holds the numbers C j -/
def kf (k : Nat → Int32) : List Value := [.int (k 0), .int (k 1), .int (k 2), .int (k 3), .int (k 4), .int (k 5)]
def ef (k : Nat → Int32) : List Value := [.int (k 0), .int (k 1), .int (k 2), .int (k 3), .int (k 4), .int (k 5), .int (k 6)]
def rwS (c : Nat) (nm : String) (N ce : Nat) (F : (Nat → Int32) → List Value) (s : am_S) (b n : Nat) (A : Nat → Nat) (C : Nat → Nat → Int32) : am_S :=
  (fun q => if q = b then some (.inr (c, [.ref (b + 1), .int (nI n)])) else if q = b + 1 then some (.inl (.object nm, N, .inr (.inr (.inr (.inr fun i => if i < N then some (b + 2 + A i) else none))))) else if b + 2 ≤ q ∧ q < b + 2 + N then some (.inr (ce, F (C (q - (b + 2))))) else s.1 q, s.2)
abbrev krS := rwS 3 "WatchedKeys$Key" 22 2 kf
abbrev erS := rwS 1 "WatchedKeys$Event" 152 0 ef
section Row
variable {c N ce : Nat} {nm : String} {F : (Nat → Int32) → List Value} {s : am_S} {b n i j q : Nat} {A A' : Nat → Nat} {C C' : Nat → Nat → Int32}
theorem rw_b : (rwS c nm N ce F s b n A C).1 b = some (.inr (c, [.ref (b + 1), .int (nI n)])) := if_pos rfl
theorem rw_r : (rwS c nm N ce F s b n A C).1 (b + 1) = some (.inl (.object nm, N, .inr (.inr (.inr (.inr fun i => if i < N then some (b + 2 + A i) else none))))) := by
  unfold rwS
  dsimp only
  rw [if_neg (by omega), if_pos rfl]
theorem rw_k (hj : j < N) : (rwS c nm N ce F s b n A C).1 (b + 2 + j) = some (.inr (ce, F (C j))) := by
  unfold rwS
  dsimp only
  rw [if_neg (by omega), if_neg (by omega), if_pos (by omega), show b + 2 + j - (b + 2) = j by omega]
theorem rw_o (h : q < b ∨ b + 2 + N ≤ q) : (rwS c nm N ce F s b n A C).1 q = s.1 q := by
  unfold rwS
  dsimp only
  rw [if_neg (by omega), if_neg (by omega), if_neg (by omega)]
theorem rw_idem {n' : Nat} : rwS c nm N ce F (rwS c nm N ce F s b n A C) b n' A' C' = rwS c nm N ce F s b n' A' C' := by
  unfold rwS
  refine Prod.ext (funext fun q => ?_) rfl
  dsimp only
  repeat' split
  all_goals rfl
/-- the count written -/
theorem rw_cnt {n' : Nat} : am_set (rwS c nm N ce F s b n A C) b (.inr (c, [.ref (b + 1), .int (nI n')])) = rwS c nm N ce F s b n' A C := by
  unfold am_set rwS
  refine Prod.ext (funext fun q => ?_) rfl
  dsimp only
  by_cases h : q = b
  · rw [if_pos h, if_pos h]
  · rw [if_neg h, if_neg h, if_neg h]
/-- a place of the array written -/
theorem rw_put (hj : j < N) (hi : i < N) : am_set (rwS c nm N ce F s b n A C) (b + 1) (.inl (.object nm, N, .inr (.inr (.inr (.inr (va_up (fun i => if i < N then some (b + 2 + A i) else none) i (some (b + 2 + j)))))))) = rwS c nm N ce F s b n (va_up A i j) C := by
  unfold am_set rwS
  refine Prod.ext (funext fun q => ?_) rfl
  dsimp only
  by_cases h : q = b + 1
  · rw [if_pos h, if_neg (by omega), if_pos h]
    congr 8
    funext k
    unfold va_up
    by_cases hk : k = i
    · subst hk
      rw [if_pos rfl, if_pos hi, if_pos rfl]
    · rw [if_neg hk, if_neg hk]
  · rw [if_neg h, if_neg h, if_neg h]
/-- a slot's numbers written -/
theorem rw_slot (hj : j < N) {k : Nat → Int32} : am_set (rwS c nm N ce F s b n A C) (b + 2 + j) (.inr (ce, F k)) = rwS c nm N ce F s b n A (va_up C j k) := by
  unfold am_set rwS
  refine Prod.ext (funext fun q => ?_) rfl
  dsimp only
  by_cases h : q = b + 2 + j
  · rw [if_pos h, if_neg (by omega), if_neg (by omega), if_pos (by omega)]
    unfold va_up
    rw [if_pos (by omega)]
  · rw [if_neg h]
    by_cases h1 : q = b
    · rw [if_pos h1, if_pos h1]
    · rw [if_neg h1, if_neg h1]
      by_cases h2 : q = b + 1
      · rw [if_pos h2, if_pos h2]
      · rw [if_neg h2, if_neg h2]
        by_cases h3 : b + 2 ≤ q ∧ q < b + 2 + N
        · rw [if_pos h3, if_pos h3]
          unfold va_up
          rw [if_neg (by omega)]
        · rw [if_neg h3, if_neg h3]
/-- the row stands there -/
def RW (c : Nat) (nm : String) (N ce : Nat) (F : (Nat → Int32) → List Value) (s : am_S) (b n : Nat) (A : Nat → Nat) (C : Nat → Nat → Int32) : Prop := rwS c nm N ce F s b n A C = s
theorem RW.ob (h : RW c nm N ce F s b n A C) : s.1 b = some (.inr (c, [.ref (b + 1), .int (nI n)])) := by
  have := rw_b (c := c) (nm := nm) (N := N) (ce := ce) (F := F) (s := s) (b := b) (n := n) (A := A) (C := C)
  rw [h] at this
  exact this
theorem RW.ra (h : RW c nm N ce F s b n A C) : s.1 (b + 1) = some (.inl (.object nm, N, .inr (.inr (.inr (.inr fun i => if i < N then some (b + 2 + A i) else none))))) := by
  have := rw_r (c := c) (nm := nm) (N := N) (ce := ce) (F := F) (s := s) (b := b) (n := n) (A := A) (C := C)
  rw [h] at this
  exact this
theorem RW.ek (h : RW c nm N ce F s b n A C) (hj : j < N) : s.1 (b + 2 + j) = some (.inr (ce, F (C j))) := by
  have := rw_k (c := c) (nm := nm) (ce := ce) (F := F) (s := s) (b := b) (n := n) (A := A) (C := C) hj
  rw [h] at this
  exact this
theorem RW.mk (h1 : s.1 b = some (.inr (c, [.ref (b + 1), .int (nI n)]))) (h2 : s.1 (b + 1) = some (.inl (.object nm, N, .inr (.inr (.inr (.inr fun i => if i < N then some (b + 2 + A i) else none)))))) (h3 : ∀ j, j < N → s.1 (b + 2 + j) = some (.inr (ce, F (C j)))) : RW c nm N ce F s b n A C := by
  unfold RW rwS
  refine Prod.ext (funext fun q => ?_) rfl
  dsimp only
  by_cases q1 : q = b
  · rw [if_pos q1, q1, h1]
  · rw [if_neg q1]
    by_cases q2 : q = b + 1
    · rw [if_pos q2, q2, h2]
    · rw [if_neg q2]
      by_cases q3 : b + 2 ≤ q ∧ q < b + 2 + N
      · rw [if_pos q3]
        have := h3 (q - (b + 2)) (by omega)
        rw [show b + 2 + (q - (b + 2)) = q by omega] at this
        exact this.symm
      · rw [if_neg q3]
theorem RW.at (h : RW c nm N ce F s b n A C) {s' : am_S} (hs : ∀ q, b ≤ q → q < b + 2 + N → s'.1 q = s.1 q) (hN : 0 < N) : RW c nm N ce F s' b n A C :=
  RW.mk (by rw [hs b (by omega) (by omega), h.ob]) (by rw [hs (b + 1) (by omega) (by omega), h.ra]) fun j hj => by rw [hs (b + 2 + j) (by omega) (by omega), h.ek hj]
theorem RW.of : RW c nm N ce F (rwS c nm N ce F s b n A C) b n A C := rw_idem
theorem RW.cnt {n' : Nat} (h : RW c nm N ce F s b n A C) : am_set s b (.inr (c, [.ref (b + 1), .int (nI n')])) = rwS c nm N ce F s b n' A C := by
  have := rw_cnt (c := c) (nm := nm) (N := N) (ce := ce) (F := F) (s := s) (b := b) (n := n) (A := A) (C := C) (n' := n')
  rw [h] at this
  exact this
theorem RW.put (h : RW c nm N ce F s b n A C) (hj : j < N) (hi : i < N) : am_set s (b + 1) (.inl (.object nm, N, .inr (.inr (.inr (.inr (va_up (fun i => if i < N then some (b + 2 + A i) else none) i (some (b + 2 + j)))))))) = rwS c nm N ce F s b n (va_up A i j) C := by
  have := rw_put (c := c) (nm := nm) (N := N) (ce := ce) (F := F) (s := s) (b := b) (n := n) (A := A) (C := C) hj hi
  rw [h] at this
  exact this
theorem RW.slot (h : RW c nm N ce F s b n A C) (hj : j < N) {k : Nat → Int32} : am_set s (b + 2 + j) (.inr (ce, F k)) = rwS c nm N ce F s b n A (va_up C j k) := by
  have := rw_slot (c := c) (nm := nm) (ce := ce) (F := F) (s := s) (b := b) (n := n) (A := A) (C := C) hj (k := k)
  rw [h] at this
  exact this
end Row
/-- a row's arrangement: the slots of its places, each once -/
def okA (N : Nat) (A : Nat → Nat) : Prop := (∀ i, i < N → A i < N) ∧ ∀ i, i < N → ∀ j, j < N → A i = A j → i = j
abbrev KR := RW 3 "WatchedKeys$Key" 22 2 kf
abbrev ER := RW 1 "WatchedKeys$Event" 152 0 ef
section KRr
variable {s : am_S} {B b n i j : Nat} {A : Nat → Nat} {C : Nat → Nat → Int32} {x : Int32}
theorem kr_cls (h : KR s b n A C) : am_cls s b = some 3 := cls_o h.ob
theorem kr_clsk (h : KR s b n A C) (hj : j < 22) : am_cls s (b + 2 + j) = some 2 := cls_o (h.ek hj)
theorem kr_n (h : KR s b n A C) : gI tb_ct s b 3 1 = some (nI n) := gI_o h.ob rfl rfl rfl
theorem kr_r (h : KR s b n A C) : gA tb_ct s b 3 0 = some (some (b + 1)) := gA_o h.ob rfl rfl rfl
theorem kr_at (h : KR s b n A C) (hi : i < 22) : aA s (b + 1) (nI i) = some (some (b + 2 + A i)) := by
  rw [aA_o h.ra hi (by omega), if_pos hi]
theorem kr_0 (h : KR s b n A C) (hj : j < 22) : gI tb_ct s (b + 2 + j) 2 0 = some (C j 0) := gI_o (h.ek hj) rfl rfl rfl
theorem kr_1 (h : KR s b n A C) (hj : j < 22) : gI tb_ct s (b + 2 + j) 2 1 = some (C j 1) := gI_o (h.ek hj) rfl rfl rfl
theorem kr_2 (h : KR s b n A C) (hj : j < 22) : gI tb_ct s (b + 2 + j) 2 2 = some (C j 2) := gI_o (h.ek hj) rfl rfl rfl
theorem kr_3 (h : KR s b n A C) (hj : j < 22) : gI tb_ct s (b + 2 + j) 2 3 = some (C j 3) := gI_o (h.ek hj) rfl rfl rfl
theorem kr_4 (h : KR s b n A C) (hj : j < 22) : gI tb_ct s (b + 2 + j) 2 4 = some (C j 4) := gI_o (h.ek hj) rfl rfl rfl
theorem kr_5 (h : KR s b n A C) (hj : j < 22) : gI tb_ct s (b + 2 + j) 2 5 = some (C j 5) := gI_o (h.ek hj) rfl rfl rfl
theorem kr_p0 (h : KR s b n A C) {M : am_M} (hj : j < 22) (hB : B ≤ b) : am_put tb_ct M B s (.int x) (b + 2 + j) 2 0 = some (rwS 3 "WatchedKeys$Key" 22 2 kf s b n A (va_up C j (upd (C j) 0 x))) := by
  rw [pF_o (h.ek hj) (Nat.le_of_ble_eq_true rfl) rfl rfl (by omega) (Or.inl rfl), ← h.slot hj]
  rfl
theorem kr_p1 (h : KR s b n A C) {M : am_M} (hj : j < 22) (hB : B ≤ b) : am_put tb_ct M B s (.int x) (b + 2 + j) 2 1 = some (rwS 3 "WatchedKeys$Key" 22 2 kf s b n A (va_up C j (upd (C j) 1 x))) := by
  rw [pF_o (h.ek hj) (Nat.le_of_ble_eq_true rfl) rfl rfl (by omega) (Or.inl rfl), ← h.slot hj]
  rfl
theorem kr_p2 (h : KR s b n A C) {M : am_M} (hj : j < 22) (hB : B ≤ b) : am_put tb_ct M B s (.int x) (b + 2 + j) 2 2 = some (rwS 3 "WatchedKeys$Key" 22 2 kf s b n A (va_up C j (upd (C j) 2 x))) := by
  rw [pF_o (h.ek hj) (Nat.le_of_ble_eq_true rfl) rfl rfl (by omega) (Or.inl rfl), ← h.slot hj]
  rfl
theorem kr_p3 (h : KR s b n A C) {M : am_M} (hj : j < 22) (hB : B ≤ b) : am_put tb_ct M B s (.int x) (b + 2 + j) 2 3 = some (rwS 3 "WatchedKeys$Key" 22 2 kf s b n A (va_up C j (upd (C j) 3 x))) := by
  rw [pF_o (h.ek hj) (Nat.le_of_ble_eq_true rfl) rfl rfl (by omega) (Or.inl rfl), ← h.slot hj]
  rfl
theorem kr_p4 (h : KR s b n A C) {M : am_M} (hj : j < 22) (hB : B ≤ b) : am_put tb_ct M B s (.int x) (b + 2 + j) 2 4 = some (rwS 3 "WatchedKeys$Key" 22 2 kf s b n A (va_up C j (upd (C j) 4 x))) := by
  rw [pF_o (h.ek hj) (Nat.le_of_ble_eq_true rfl) rfl rfl (by omega) (Or.inl rfl), ← h.slot hj]
  rfl
theorem kr_p5 (h : KR s b n A C) {M : am_M} (hj : j < 22) (hB : B ≤ b) : am_put tb_ct M B s (.int x) (b + 2 + j) 2 5 = some (rwS 3 "WatchedKeys$Key" 22 2 kf s b n A (va_up C j (upd (C j) 5 x))) := by
  rw [pF_o (h.ek hj) (Nat.le_of_ble_eq_true rfl) rfl rfl (by omega) (Or.inl rfl), ← h.slot hj]
  rfl
theorem kr_pn (h : KR s b n A C) {M : am_M} {n' : Nat} (hB : B ≤ b) : am_put tb_ct M B s (.int (nI n')) b 3 1 = some (rwS 3 "WatchedKeys$Key" 22 2 kf s b n' A C) := by
  rw [pF_o h.ob (Nat.le_of_ble_eq_true rfl) rfl rfl hB (Or.inl rfl), ← h.cnt]
  rfl
theorem kr_w (h : KR s b n A C) (hi : i < 22) (hj : j < 22) (hB : B ≤ b) : wA tb_ct B s (b + 1) (nI i) (b + 2 + j) = some (rwS 3 "WatchedKeys$Key" 22 2 kf s b n (va_up A i j) C) := by
  rw [wA_o h.ra (kr_clsk h hj) rfl hi (by omega) (by omega), ← h.put hj hi]
end KRr
section ERr
variable {s : am_S} {B b n i j : Nat} {A : Nat → Nat} {C : Nat → Nat → Int32} {x : Int32}
theorem er_cls (h : ER s b n A C) : am_cls s b = some 1 := cls_o h.ob
theorem er_clsk (h : ER s b n A C) (hj : j < 152) : am_cls s (b + 2 + j) = some 0 := cls_o (h.ek hj)
theorem er_n (h : ER s b n A C) : gI tb_ct s b 1 1 = some (nI n) := gI_o h.ob rfl rfl rfl
theorem er_r (h : ER s b n A C) : gA tb_ct s b 1 0 = some (some (b + 1)) := gA_o h.ob rfl rfl rfl
theorem er_at (h : ER s b n A C) (hi : i < 152) : aA s (b + 1) (nI i) = some (some (b + 2 + A i)) := by
  rw [aA_o h.ra hi (by omega), if_pos hi]
theorem er_0 (h : ER s b n A C) (hj : j < 152) : gI tb_ct s (b + 2 + j) 0 0 = some (C j 0) := gI_o (h.ek hj) rfl rfl rfl
theorem er_1 (h : ER s b n A C) (hj : j < 152) : gI tb_ct s (b + 2 + j) 0 1 = some (C j 1) := gI_o (h.ek hj) rfl rfl rfl
theorem er_2 (h : ER s b n A C) (hj : j < 152) : gI tb_ct s (b + 2 + j) 0 2 = some (C j 2) := gI_o (h.ek hj) rfl rfl rfl
theorem er_3 (h : ER s b n A C) (hj : j < 152) : gI tb_ct s (b + 2 + j) 0 3 = some (C j 3) := gI_o (h.ek hj) rfl rfl rfl
theorem er_4 (h : ER s b n A C) (hj : j < 152) : gI tb_ct s (b + 2 + j) 0 4 = some (C j 4) := gI_o (h.ek hj) rfl rfl rfl
theorem er_5 (h : ER s b n A C) (hj : j < 152) : gI tb_ct s (b + 2 + j) 0 5 = some (C j 5) := gI_o (h.ek hj) rfl rfl rfl
theorem er_6 (h : ER s b n A C) (hj : j < 152) : gI tb_ct s (b + 2 + j) 0 6 = some (C j 6) := gI_o (h.ek hj) rfl rfl rfl
theorem er_p0 (h : ER s b n A C) {M : am_M} (hj : j < 152) (hB : B ≤ b) : am_put tb_ct M B s (.int x) (b + 2 + j) 0 0 = some (rwS 1 "WatchedKeys$Event" 152 0 ef s b n A (va_up C j (upd (C j) 0 x))) := by
  rw [pF_o (h.ek hj) (Nat.le_of_ble_eq_true rfl) rfl rfl (by omega) (Or.inl rfl), ← h.slot hj]
  rfl
theorem er_p1 (h : ER s b n A C) {M : am_M} (hj : j < 152) (hB : B ≤ b) : am_put tb_ct M B s (.int x) (b + 2 + j) 0 1 = some (rwS 1 "WatchedKeys$Event" 152 0 ef s b n A (va_up C j (upd (C j) 1 x))) := by
  rw [pF_o (h.ek hj) (Nat.le_of_ble_eq_true rfl) rfl rfl (by omega) (Or.inl rfl), ← h.slot hj]
  rfl
theorem er_p2 (h : ER s b n A C) {M : am_M} (hj : j < 152) (hB : B ≤ b) : am_put tb_ct M B s (.int x) (b + 2 + j) 0 2 = some (rwS 1 "WatchedKeys$Event" 152 0 ef s b n A (va_up C j (upd (C j) 2 x))) := by
  rw [pF_o (h.ek hj) (Nat.le_of_ble_eq_true rfl) rfl rfl (by omega) (Or.inl rfl), ← h.slot hj]
  rfl
theorem er_p3 (h : ER s b n A C) {M : am_M} (hj : j < 152) (hB : B ≤ b) : am_put tb_ct M B s (.int x) (b + 2 + j) 0 3 = some (rwS 1 "WatchedKeys$Event" 152 0 ef s b n A (va_up C j (upd (C j) 3 x))) := by
  rw [pF_o (h.ek hj) (Nat.le_of_ble_eq_true rfl) rfl rfl (by omega) (Or.inl rfl), ← h.slot hj]
  rfl
theorem er_p4 (h : ER s b n A C) {M : am_M} (hj : j < 152) (hB : B ≤ b) : am_put tb_ct M B s (.int x) (b + 2 + j) 0 4 = some (rwS 1 "WatchedKeys$Event" 152 0 ef s b n A (va_up C j (upd (C j) 4 x))) := by
  rw [pF_o (h.ek hj) (Nat.le_of_ble_eq_true rfl) rfl rfl (by omega) (Or.inl rfl), ← h.slot hj]
  rfl
theorem er_p5 (h : ER s b n A C) {M : am_M} (hj : j < 152) (hB : B ≤ b) : am_put tb_ct M B s (.int x) (b + 2 + j) 0 5 = some (rwS 1 "WatchedKeys$Event" 152 0 ef s b n A (va_up C j (upd (C j) 5 x))) := by
  rw [pF_o (h.ek hj) (Nat.le_of_ble_eq_true rfl) rfl rfl (by omega) (Or.inl rfl), ← h.slot hj]
  rfl
theorem er_p6 (h : ER s b n A C) {M : am_M} (hj : j < 152) (hB : B ≤ b) : am_put tb_ct M B s (.int x) (b + 2 + j) 0 6 = some (rwS 1 "WatchedKeys$Event" 152 0 ef s b n A (va_up C j (upd (C j) 6 x))) := by
  rw [pF_o (h.ek hj) (Nat.le_of_ble_eq_true rfl) rfl rfl (by omega) (Or.inl rfl), ← h.slot hj]
  rfl
theorem er_pn (h : ER s b n A C) {M : am_M} {n' : Nat} (hB : B ≤ b) : am_put tb_ct M B s (.int (nI n')) b 1 1 = some (rwS 1 "WatchedKeys$Event" 152 0 ef s b n' A C) := by
  rw [pF_o h.ob (Nat.le_of_ble_eq_true rfl) rfl rfl hB (Or.inl rfl), ← h.cnt]
  rfl
theorem er_w (h : ER s b n A C) (hi : i < 152) (hj : j < 152) (hB : B ≤ b) : wA tb_ct B s (b + 1) (nI i) (b + 2 + j) = some (rwS 1 "WatchedKeys$Event" 152 0 ef s b n (va_up A i j) C) := by
  rw [wA_o h.ra (er_clsk h hj) rfl hi (by omega) (by omega), ← h.put hj hi]
end ERr
section KRm
variable {s : am_S} {B b n i j : Nat} {A : Nat → Nat} {C : Nat → Nat → Int32} {x : Int32}
theorem kr_at_in (h : KR s b n A C) (hn : n ≤ 22) (hi : i < n) : cl_ tb_ct tb_mt B K_X4_at [.ref b, .int (nI i)] s = some (.inl (some (.ref (b + 2 + A i))), s) := by
  rw [in_X4_at, dc_X4_at_0]
  simp only [kr_n h, kr_r h, kr_at h (show i < 22 by omega), eI_s, eA_s, if_neg (nI_pos (show i < 2 ^ 31 by omega)), if_neg (nI_ge hi (by omega)), if_neg (show ¬ (22 : Int32) ≤ nI i from nI_ge (b := 22) (by omega) (by omega))]
theorem kr_at_out (h : KR s b n A C) (hx : x < 0 ∨ nI n ≤ x) : cl_ tb_ct tb_mt B K_X4_at [.ref b, .int x] s = some (.inl (some .null), s) := by
  rw [in_X4_at, dc_X4_at_0]
  by_cases h1 : x < 0
  · rw [if_pos h1]
  · rw [if_neg h1]
    simp only [kr_n h, eI_s, if_pos (hx.resolve_left h1)]
theorem kr_find_lp (h : KR s b n A C) (hA : okA 22 A) (hn : n ≤ 22) (key : Int32) : ∀ k i, i + k = n → rn_ tb_ct tb_mt B mm_X4_find 2 [.ref b, .int key, .int (nI i), am_un] [] s = some (.inl (some (va_rf (if fi (fun i => decide (C (A i) 0 = key)) i k < n then some (b + 2 + A (fi (fun i => decide (C (A i) 0 = key)) i k)) else none))), s) := by
  intro k
  induction k with
  | zero =>
    intro i hi
    rw [dc_X4_find_2]
    simp only [kr_n h, eI_s, if_pos (nI_le (show n ≤ i by omega) (by omega))]
    rw [fi_0]
    rw [if_neg (show ¬ i < n by omega)]
    rfl
  | succ k ih =>
    intro i hi
    have hAi := hA.1 i (by omega)
    rw [dc_X4_find_2]
    simp only [kr_n h, eI_s, if_neg (nI_ge (show i < n by omega) (by omega)), kr_cls h, eC_s, kr_at_in h hn (show i < n by omega), cA_s, kr_0 h hAi]
    rw [fi_s]
    by_cases hk : C (A i) 0 = key
    · rw [if_pos hk]
      simp only [hk, decide_true, if_true, if_pos (show i < n by omega)]
      rfl
    · rw [if_neg hk, dc_X4_find_30, nI_1, ih (i + 1) (by omega)]
      simp only [hk, decide_false, Bool.false_eq_true, if_false]
theorem kr_find (h : KR s b n A C) (hA : okA 22 A) (hn : n ≤ 22) (key : Int32) : cl_ tb_ct tb_mt B K_X4_find [.ref b, .int key] s = some (.inl (some (va_rf (if fi (fun i => decide (C (A i) 0 = key)) 0 n < n then some (b + 2 + A (fi (fun i => decide (C (A i) 0 = key)) 0 n)) else none))), s) := by
  rw [in_X4_find, dc_X4_find_0, ← nI_0, kr_find_lp h hA hn key n 0 (by omega)]
end KRm
