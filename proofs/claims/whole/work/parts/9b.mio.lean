/-! ===== the model: the output, the copies, the buffer ===== -/
def oT (s : am_S) (m : Nat) (v : Nat → Int32) (F : mrT) (l : List Int32) : am_S := oS s m v l.length F (wr (F 11) 0 l)
def cpR (f : Nat → Int32) (x : Nat) (g : Nat → Int32) (y : Nat) : Nat → Int32 := fun q => if 1329 * y ≤ q ∧ q < 1329 * y + 1329 then f (1329 * x + (q - 1329 * y)) else g q
def cpJ (f : Nat → Int32) (x : Nat) (g : Nat → Int32) (y i : Nat) : Nat → Int32 := fun q => if 1329 * y + i ≤ q ∧ q < 1329 * y + 1329 then f (1329 * x + (q - 1329 * y)) else g q
def sb (x : Int32) : Int32 := vp_nar .byte x.toInt8.toInt32
/-- the buffer, as the class has it, as bytes -/
def BR (f T : Nat → Int32) (n : Nat) : Prop := ∀ i, i < n → f i = sb (T i)
section Mz
variable {s s' : am_S} {B m i j n w a b p q : Nat} {v v' : Nat → Int32} {F F' : mrT} {f g g' T : Nat → Int32} {x y c key : Int32} {σ σ' : stT} {M : am_M} {l : List Int32}
theorem oT_cs : am_cls (oT s m v F l) m = some 11 := mo_cs
theorem oT_M (h : MM B s m v F σ) : MM B (oT s m v' F l) m (upd v' 21 (nI l.length)) (mB F 11 (wr (F 11) 0 l)) σ := ⟨OV.of, h.2⟩
theorem oT_0 : moS s m (upd v 21 0) F = oT s m v F [] := by
  show _ = moS s m (upd v 21 (nI 0)) (mB F 11 (wr (F 11) 0 []))
  rw [wr_nil, mB_id]
  rfl
theorem says_T (hB : B ≤ m) (hl : l.length < 60) (hc : bOk c) : cl_ tb_ct tb_mt B K_X13_says [.ref m, .int c] (oT s m v F l) = some (.inl none, oT s m v F (l ++ [c])) := by
  have e := wr_end (g := F 11) (p := 0) (c := c) (l := l)
  rw [Nat.zero_add] at e
  unfold oT
  rw [mk_says hB hl hc, e, List.length_append, List.length_singleton]
theorem tx_T (hB : B ≤ m) (hy : y < 0 → vOk y) (hl : l.length + (tx y).length ≤ 60) : cl_ tb_ct tb_mt B K_X13_saysNumber_0 [.ref m, .int y] (oT s m v F l) = some (.inl none, oT s m v F (l ++ tx y)) := by
  have e := wr_app (g := F 11) (p := 0) (l := l) (l' := tx y)
  rw [Nat.zero_add] at e
  unfold oT
  rw [mk_tx hB hy hl, e, List.length_append]
theorem m_writeKey_no (h : MM B s m v F σ) (hk : bKey key = false) : cl_ tb_ct tb_mt B K_X13_writeKey [.ref m, .int key] s = some (.inl (some (.int 0)), moS s m (upd v 4 1) F) := by
  rw [in_X13_writeKey, dc_X13_writeKey_0, mi_isKey, cI_s, mo_cls h.1, eC_s, mi_go h, hk]
  rfl
theorem wk_end (hn : l.length ≤ 60) {w1 w2 : Value} : rn_ tb_ct tb_mt B mm_X13_writeKey 109 [.ref m, w1, w2] [] (oT s m v F l) = some (.inl (some (.int (nI l.length))), oT s m v F l) := by
  rw [dc_X13_writeKey_109, show gI tb_ct (oT s m v F l) m 11 21 = some (nI l.length) from mo_21s.trans (congrArg some upd_k), eI_s]
theorem m_writeKey (h : MM B s m v F σ) (hI : IK σ.1 σ.2) (ht : σ.1 7 + σ.1 6 < 2 ^ 31) (hk : bKey key = true) : cl_ tb_ct tb_mt B K_X13_writeKey [.ref m, .int key] s = some (.inl (some (.int (nI (q_txt σ key).length))), oT s m (upd v 4 0) F (q_txt σ key)) ∧ (q_txt σ key).length ≤ 60 := by
  have hB := h.2.2.2
  have hs := hI.isS
  have hk' := bKeyN hk
  have hT : ∀ l, MM B (oT s m (upd v 4 0) F l) m (upd (upd v 4 0) 21 (nI l.length)) (mB F 11 (wr (F 11) 0 l)) σ := fun l => oT_M h
  rw [in_X13_writeKey, dc_X13_writeKey_0, mi_isKey, cI_s, mo_cls h.1, eC_s, mi_go h, hk, if_pos rfl, mp_21s hB, eS_s, oT_0, oT_cs, eC_s, mk_there (hT _) hs, cI_s, if_p]
  unfold q_txt
  by_cases d : isK σ key
  · obtain ⟨c1, c2⟩ := (pI_there (key := key) hs).mp d
    have ep : pF (σ.2 0) (σ.1 3) key = pI (σ.2 0) (σ.1 3) key := pF_of hs c1 c2
    obtain ⟨k0, k1, k5, vv, cc, w1, w2, w3, w4, w5, w6⟩ := hI.2.1 (pI (σ.2 0) (σ.1 3) key) c1
    have e1 : ∀ l, cl_ tb_ct tb_mt B K_X13_keyAt [.ref m, .int (nI (pI (σ.2 0) (σ.1 3) key)), .int 1] (oT s m (upd v 4 0) F l) = some (.inl (some (.int (σ.2 0 (pI (σ.2 0) (σ.1 3) key) 1))), oT s m (upd v 4 0) F l) := fun l => mk_keyAt (w := 1) (hT l) c1 (by omega)
    have e4 : ∀ l, cl_ tb_ct tb_mt B K_X13_keyAt [.ref m, .int (nI (pI (σ.2 0) (σ.1 3) key)), .int 4] (oT s m (upd v 4 0) F l) = some (.inl (some (.int (σ.2 0 (pI (σ.2 0) (σ.1 3) key) 4))), oT s m (upd v 4 0) F l) := fun l => mk_keyAt (w := 4) (hT l) c1 (by omega)
    have e5 : ∀ l, cl_ tb_ct tb_mt B K_X13_keyAt [.ref m, .int (nI (pI (σ.2 0) (σ.1 3) key)), .int 5] (oT s m (upd v 4 0) F l) = some (.inl (some (.int (σ.2 0 (pI (σ.2 0) (σ.1 3) key) 5))), oT s m (upd v 4 0) F l) := fun l => mk_keyAt (w := 5) (hT l) c1 (by omega)
    have n4 : ¬ σ.2 0 (pI (σ.2 0) (σ.1 3) key) 4 < 0 := by
      rw [w1]
      exact nI_pos (by omega)
    have t0 := tx_len hk'.1
    have t1 := tx_le k1
    have t4 := tx_len n4
    have t5 := tx_len k5
    have b58 : bOk (58 : Int32) := ⟨58, by omega, rfl⟩
    have b32 : bOk (32 : Int32) := ⟨32, by omega, rfl⟩
    have b118 : bOk (118 : Int32) := ⟨118, by omega, rfl⟩
    have b108 : bOk (108 : Int32) := ⟨108, by omega, rfl⟩
    rw [if_pos d, if_pos d, ep, oT_cs, eC_s, mk_place (hT _), cI_s, oT_cs, eC_s, tx_T hB (fun hc => absurd hc hk'.1) (by simp only [List.length_nil]; omega), cV_s, oT_cs, eC_s, says_T hB (by simp only [List.length_append, List.length_nil]; omega) b58, cV_s, oT_cs, eC_s, e1, cI_s, oT_cs, eC_s, tx_T hB (fun _ => k1) (by simp only [List.length_append, List.length_cons, List.length_nil]; omega), cV_s, oT_cs, eC_s, says_T hB (by simp only [List.length_append, List.length_cons, List.length_nil]; omega) b32, cV_s, oT_cs, eC_s, says_T hB (by simp only [List.length_append, List.length_cons, List.length_nil]; omega) b118, cV_s, oT_cs, eC_s, e4, cI_s, oT_cs, eC_s, tx_T hB (fun hc => absurd hc n4) (by simp only [List.length_append, List.length_cons, List.length_nil]; omega), cV_s, oT_cs, eC_s, e5, cI_s]
    unfold q_txK
    rw [c2]
    by_cases z : σ.2 0 (pI (σ.2 0) (σ.1 3) key) 5 = 0
    · have el : [] ++ tx key ++ [58] ++ tx (σ.2 0 (pI (σ.2 0) (σ.1 3) key) 1) ++ [32] ++ [118] ++ tx (σ.2 0 (pI (σ.2 0) (σ.1 3) key) 4) = (((tx key ++ [58]) ++ tx (σ.2 0 (pI (σ.2 0) (σ.1 3) key) 1)) ++ [32, 118]) ++ tx (σ.2 0 (pI (σ.2 0) (σ.1 3) key) 4) := by simp only [List.nil_append, List.append_assoc, List.cons_append]
      have hn : (tx key ++ [58] ++ tx (σ.2 0 (pI (σ.2 0) (σ.1 3) key) 1) ++ [32, 118] ++ tx (σ.2 0 (pI (σ.2 0) (σ.1 3) key) 4)).length ≤ 60 := by
        simp only [List.length_append, List.length_cons, List.length_nil]
        omega
      rw [if_pos (show σ.2 0 (pI (σ.2 0) (σ.1 3) key) 5 ≤ 0 by rw [z]; exact Int32.le_refl _), if_pos z, el, wk_end hn]
      exact ⟨rfl, hn⟩
    · have z' : ¬ σ.2 0 (pI (σ.2 0) (σ.1 3) key) 5 ≤ 0 := fun hc => z (Int32.le_antisymm hc (Int32.not_lt.mp k5))
      have el : [] ++ tx key ++ [58] ++ tx (σ.2 0 (pI (σ.2 0) (σ.1 3) key) 1) ++ [32] ++ [118] ++ tx (σ.2 0 (pI (σ.2 0) (σ.1 3) key) 4) ++ [32] ++ [108] ++ tx (σ.2 0 (pI (σ.2 0) (σ.1 3) key) 5) = (((((tx key ++ [58]) ++ tx (σ.2 0 (pI (σ.2 0) (σ.1 3) key) 1)) ++ [32, 118]) ++ tx (σ.2 0 (pI (σ.2 0) (σ.1 3) key) 4)) ++ [32, 108]) ++ tx (σ.2 0 (pI (σ.2 0) (σ.1 3) key) 5) := by simp only [List.nil_append, List.append_assoc, List.cons_append]
      have hn : (tx key ++ [58] ++ tx (σ.2 0 (pI (σ.2 0) (σ.1 3) key) 1) ++ [32, 118] ++ tx (σ.2 0 (pI (σ.2 0) (σ.1 3) key) 4) ++ [32, 108] ++ tx (σ.2 0 (pI (σ.2 0) (σ.1 3) key) 5)).length ≤ 60 := by
        simp only [List.length_append, List.length_cons, List.length_nil]
        omega
      rw [if_neg z', if_neg z, oT_cs, eC_s, says_T hB (by simp only [List.length_append, List.length_cons, List.length_nil]; omega) b32, cV_s, oT_cs, eC_s, says_T hB (by simp only [List.length_append, List.length_cons, List.length_nil]; omega) b108, cV_s, oT_cs, eC_s, e5, cI_s, oT_cs, eC_s, tx_T hB (fun hc => absurd hc k5) (by simp only [List.length_append, List.length_cons, List.length_nil]; omega), cV_s, el, wk_end hn]
      exact ⟨rfl, hn⟩
  · rw [if_neg d, if_neg d]
    exact ⟨rfl, Nat.zero_le _⟩
theorem m_outputByte (h : MO s m v F) (hB : B ≤ m) (hv : v 21 = nI l.length) (hl : l.length ≤ 60) (hF : ∀ i, i < l.length → F 11 i = l.getD i 0) : cl_ tb_ct tb_mt B K_X13_outputByte [.ref m, .int key] s = some (.inl (some (.int (if key < 0 then -1 else if nI l.length ≤ key then -1 else l.getD (nN key) 0))), moS s m (upd v 4 0) F) := by
  rw [in_X13_outputByte, dc_X13_outputByte_0, mp_4 h hB, eS_s, mo_21s, eI_s, upd_n (by omega), hv, mi_in key 0 (nI l.length - 1) (j2 := 0) rfl rfl, cI_s, bIn_ix (by omega), if_b, mo_20s, eA_s]
  by_cases d : key < 0
  · have eb : bIx key l.length = false := by
      unfold bIx
      rw [decide_eq_true d]
      rfl
    rw [eb, if_neg Bool.false_ne_true, if_pos d]
  · obtain ⟨k, hk, rfl⟩ := nI_of d
    by_cases e : k < l.length
    · have eb : bIx (nI k) l.length = true := by
        unfold bIx
        rw [decide_eq_false d, decide_eq_true (nI_lt e (by omega))]
        rfl
      rw [eb, if_pos rfl, if_neg d, if_neg (nI_ge e (by omega)), show aB (moS s m (upd v 4 0) F) (m + 11) (nI k) = some (F 11 k) from mr_o (v := upd v 4 0) (F := F) OV.of (by omega), eI_s, hF k e, nN_nI hk]
    · have eb : bIx (nI k) l.length = false := by
        unfold bIx
        rw [decide_eq_false d, decide_eq_false (nI_nlt (by omega) hk)]
        rfl
      rw [eb, if_neg Bool.false_ne_true, if_neg d, if_pos (nI_le (by omega) hk)]
/-! rows copied -/
theorem mk_copies (hB : B ≤ m) (ha : 0 < a ∧ a < 12 ∧ mty a = .int) (hb : 0 < b ∧ b < 12 ∧ mty b = .int) (hab : a ≠ b) (hp : 1329 * p + 1329 ≤ mln a) (hq : 1329 * q + 1329 ≤ mln b) (na : mln a < 2 ^ 31) (nb : mln b < 2 ^ 31) : cl_ tb_ct tb_mt B K_X13_copies [.ref (m + a), .int (nI p), .ref (m + b), .int (nI q)] (moS s m v F) = some (.inl none, moS s m v (mB F b (cpR (F a) p (F b) q))) := by
  have lp : ∀ k i g, i + k = 1329 → rn_ tb_ct tb_mt B mm_X13_copies 3 [.ref (m + a), .int (nI p), .ref (m + b), .int (nI q), .int (nI i)] [] (moS s m v (mB F b g)) = some (.inl none, moS s m v (mB F b (cpJ (F a) p g q i))) := by
    intro k
    induction k with
    | zero =>
      intro i g hi
      obtain rfl : i = 1329 := by omega
      rw [dc_X13_copies_3, if_pos (show (1329 : Int32) ≤ nI 1329 from Int32.le_refl _)]
      rw [show cpJ (F a) p g q 1329 = g from funext fun r => if_neg (by omega)]
    | succ k ih =>
      intro i g hi
      have ip : (1329 : Int32) * nI p + nI i = nI (1329 * p + i) := by
        rw [show (1329 : Int32) = nI 1329 from rfl, nI_mul, nI_add]
      have iq : (1329 : Int32) * nI q + nI i = nI (1329 * q + i) := by
        rw [show (1329 : Int32) = nI 1329 from rfl, nI_mul, nI_add]
      have er : aI (moS s m v (mB F b g)) (m + a) (nI (1329 * p + i)) = some (F a (1329 * p + i)) := by
        rw [mr_i (OV.of : MO (moS s m v (mB F b g)) m v (mB F b g)) a ha (by omega) na]
        unfold mB
        rw [if_neg hab]
      have ew : wI B (moS s m v (mB F b g)) (m + b) (nI (1329 * q + i)) (F a (1329 * p + i)) = some (moS s m v (mB F b (upd g (1329 * q + i) (F a (1329 * p + i))))) := by
        rw [mw_i (OV.of : MO (moS s m v (mB F b g)) m v (mB F b g)) hB b hb (by omega) nb, mo_idem, mB_up]
      rw [dc_X13_copies_3, if_neg (show ¬ (1329 : Int32) ≤ nI i from nI_ge (b := 1329) (by omega) (by omega)), ip, er, eI_s, iq, ew, eS_s, nI_1, ih (i + 1) _ (by omega)]
      have : cpJ (F a) p (upd g (1329 * q + i) (F a (1329 * p + i))) q (i + 1) = cpJ (F a) p g q i := by
        funext r
        unfold cpJ
        by_cases c1 : r = 1329 * q + i
        · subst c1
          rw [if_neg (by omega), if_pos (by omega), upd_k, show 1329 * q + i - 1329 * q = i by omega]
        · rw [upd_n c1]
          by_cases c2 : 1329 * q + i ≤ r ∧ r < 1329 * q + 1329
          · rw [if_pos c2, if_pos (by omega)]
          · rw [if_neg c2, if_neg (by omega)]
      rw [this]
  have e := lp 1329 0 (F b) (by omega)
  rw [mB_id, nI_0] at e
  rw [in_X13_copies, dc_X13_copies_0]
  exact e
theorem bIn_1 (hg : j < 2) : bIn (nI j) 0 1 = true := by
  have : j = 0 ∨ j = 1 := by omega
  rcases this with rfl | rfl
  · rfl
  · rfl
theorem m_save_no (h : MM B s m v F σ) (hy : bIn y 0 1 = false) : cl_ tb_ct tb_mt B K_X13_saveSnapshot [.ref m, .int y] s = some (.inl (some (.int 0)), moS s m (upd v 4 1) F) := by
  rw [in_X13_saveSnapshot, dc_X13_saveSnapshot_0, mi_in y 0 1 (j2 := 0) (j4 := 1) rfl rfl, cI_s, mo_cls h.1, eC_s, mi_go h, hy]
  rfl
theorem m_save (h : MM B s m v F σ) (hg : j < 2) : cl_ tb_ct tb_mt B K_X13_saveSnapshot [.ref m, .int (nI j)] s = some (.inl (some (.int (nI (σ.1 0)))), moS s m (upd v 4 0) (mB (mB F 3 (cpR (F 1) 0 (F 3) j)) 4 (upd (F 4) j 1))) := by
  have hB := h.2.2.2
  have ec : cl_ tb_ct tb_mt B K_X13_copies [.ref (m + 1), .int 0, .ref (m + 3), .int (nI j)] (moS s m (upd v 4 0) F) = some (.inl none, moS s m (upd v 4 0) (mB F 3 (cpR (F 1) 0 (F 3) j))) := mk_copies (p := 0) (q := j) (a := 1) (b := 3) hB ⟨by omega, by omega, rfl⟩ ⟨by omega, by omega, rfl⟩ (by omega) (show 1329 * 0 + 1329 ≤ 1329 by omega) (show 1329 * j + 1329 ≤ 2658 by omega) (by decide) (by decide)
  have ew : wB B (moS s m (upd v 4 0) (mB F 3 (cpR (F 1) 0 (F 3) j))) (m + 4) (nI j) 1 = some (moS s m (upd v 4 0) (mB (mB F 3 (cpR (F 1) 0 (F 3) j)) 4 (upd (F 4) j 1))) := by
    rw [mw_z (OV.of : MO (moS s m (upd v 4 0) (mB F 3 (cpR (F 1) 0 (F 3) j))) m (upd v 4 0) (mB F 3 (cpR (F 1) 0 (F 3) j))) hB hg, mo_idem]
    have : mup (mB F 3 (cpR (F 1) 0 (F 3) j)) 4 j (vp_nar .boolean 1) = mB (mB F 3 (cpR (F 1) 0 (F 3) j)) 4 (upd (F 4) j 1) := rfl
    rw [this]
  rw [in_X13_saveSnapshot, dc_X13_saveSnapshot_0, mi_in (nI j) 0 1 (j2 := 0) (j4 := 1) rfl rfl, cI_s, mo_cls h.1, eC_s, mi_go h, bIn_1 hg, if_pos rfl, mo_0s, eA_s, show gA tb_ct (moS s m (upd v 4 0) F) m 11 2 = some (some (m + 3)) from mo_2 OV.of, eA_s, ec, cV_s, show gA tb_ct (moS s m (upd v 4 0) (mB F 3 (cpR (F 1) 0 (F 3) j))) m 11 3 = some (some (m + 4)) from mo_3 OV.of, eA_s, ew, eS_s, mo_0s, eA_s, show aI (moS s m (upd v 4 0) (mB (mB F 3 (cpR (F 1) 0 (F 3) j)) 4 (upd (F 4) j 1))) (m + 1) 0 = some (F 1 0) from mr_n (j := 0) (v := upd v 4 0) (F := mB (mB F 3 (cpR (F 1) 0 (F 3) j)) 4 (upd (F 4) j 1)) OV.of (by omega), eI_s, h.2.1.1 0 (by omega)]
theorem m_restore_no (h : MM B s m v F σ) (hy : bIn y 0 1 = false) : cl_ tb_ct tb_mt B K_X13_restoreSnapshot [.ref m, .int y] s = some (.inl (some (.int 0)), moS s m (upd v 4 1) F) := by
  rw [in_X13_restoreSnapshot, dc_X13_restoreSnapshot_0, mi_in y 0 1 (j2 := 0) (j4 := 1) rfl rfl, cI_s, mo_cls h.1, eC_s, mi_go h, hy]
  rfl
theorem m_restore (h : MM B s m v F σ) (hg : j < 2) : cl_ tb_ct tb_mt B K_X13_restoreSnapshot [.ref m, .int (nI j)] s = if F 4 j = 0 then some (.inl (some (.int (-1))), moS s m (upd v 4 0) F) else some (.inl (some (.int (F 3 (1329 * j)))), moS s m (upd v 4 0) (mB F 1 (cpR (F 3) j (F 1) 0))) := by
  have hB := h.2.2.2
  have ec : cl_ tb_ct tb_mt B K_X13_copies [.ref (m + 3), .int (nI j), .ref (m + 1), .int 0] (moS s m (upd v 4 0) F) = some (.inl none, moS s m (upd v 4 0) (mB F 1 (cpR (F 3) j (F 1) 0))) := mk_copies (p := j) (q := 0) (a := 3) (b := 1) hB ⟨by omega, by omega, rfl⟩ ⟨by omega, by omega, rfl⟩ (by omega) (show 1329 * j + 1329 ≤ 2658 by omega) (show 1329 * 0 + 1329 ≤ 1329 by omega) (by decide) (by decide)
  rw [in_X13_restoreSnapshot, dc_X13_restoreSnapshot_0, mi_in (nI j) 0 1 (j2 := 0) (j4 := 1) rfl rfl, cI_s, mo_cls h.1, eC_s, mi_go h, bIn_1 hg, if_pos rfl, show gA tb_ct (moS s m (upd v 4 0) F) m 11 3 = some (some (m + 4)) from mo_3 OV.of, eA_s, show aB (moS s m (upd v 4 0) F) (m + 4) (nI j) = some (F 4 j) from mr_z (v := upd v 4 0) (F := F) OV.of hg, eI_s]
  by_cases d : F 4 j = 0
  · rw [if_pos d, if_pos d]
  · rw [if_neg d, if_neg d, show gA tb_ct (moS s m (upd v 4 0) F) m 11 2 = some (some (m + 3)) from mo_2 OV.of, eA_s, mo_0s, eA_s, ec, cV_s, mo_0s, eA_s, show aI (moS s m (upd v 4 0) (mB F 1 (cpR (F 3) j (F 1) 0))) (m + 1) 0 = some (F 3 (1329 * j)) from mr_n (j := 0) (v := upd v 4 0) (F := mB F 1 (cpR (F 3) j (F 1) 0)) OV.of (by omega), eI_s]
theorem m_loadError (h : MO s m v F) (hB : B ≤ m) : cl_ tb_ct tb_mt B K_X13_loadError [.ref m] s = some (.inl (some (.int (v 15))), moS s m (upd v 4 0) F) := by
  rw [in_X13_loadError, dc_X13_loadError_0, mp_4 h hB, eS_s, show gI tb_ct (moS s m (upd v 4 0) F) m 11 15 = some (upd v 4 0 15) from mo_15 OV.of, eI_s, upd_n (by omega)]
theorem m_loadStatement (h : MO s m v F) (hB : B ≤ m) : cl_ tb_ct tb_mt B K_X13_loadStatement [.ref m] s = some (.inl (some (.int (v 16))), moS s m (upd v 4 0) F) := by
  rw [in_X13_loadStatement, dc_X13_loadStatement_0, mp_4 h hB, eS_s, show gI tb_ct (moS s m (upd v 4 0) F) m 11 16 = some (upd v 4 0 16) from mo_16 OV.of, eI_s, upd_n (by omega)]
/-! the buffer -/
theorem mi_byteOf {J : Int64} {k : Nat} (hk : k < 8) : cl_ tb_ct tb_mt B K_X13_byteOf [.long J, .int (nI (7 - k))] s = some (.inl (some (.int (nI (lbN J k)))), s) := by
  rw [in_X13_byteOf, dc_X13_byteOf_0, lb_m hk, lb_32 _ lbN_lt]
theorem q_ct_s {J : Int64} {k : Nat} : q_ct J (k + 1) = (if lbN J k = 0 then 0 else 1) + q_ct J k := rfl
theorem q_ap_s {J : Int64} {k : Nat} : q_ap J (k + 1) T n = if lbN J k = 0 then q_ap J k T n else q_ap J k (upd T n (nI (lbN J k))) (n + 1) := rfl
theorem m_app_lp {J : Int64} (hB : B ≤ m) : ∀ k i n T s v F w3, MO s m v F → i + k = 8 → v 9 = nI n → BR (F 7) T n → n + q_ct J k ≤ 500 → ∃ s' v' F', rn_ tb_ct tb_mt B mm_X13_append 58 [.ref m, .long J, am_un, w3, .int (nI i)] [] s = some (.inl (some (.int (nI (n + q_ct J k)))), s') ∧ so s s' m (m + 12) ∧ MO s' m v' F' ∧ v' 9 = nI (n + q_ct J k) ∧ BR (F' 7) (q_ap J k T n).1 (n + q_ct J k) ∧ (∀ a, a ≠ 7 → F' a = F a) ∧ ∀ a, a ≠ 9 → v' a = v a := by
  intro k
  induction k with
  | zero =>
    intro i n T s v F w3 h hi h9 hT hn
    obtain rfl : i = 8 := by omega
    refine ⟨s, v, F, ?_, so_rfl, h, h9, hT, fun _ _ => rfl, fun _ _ => rfl⟩
    rw [dc_X13_append_58, if_pos (show (8 : Int32) ≤ nI 8 from Int32.le_refl _), mo_9 h, eI_s, h9]
    rfl
  | succ k ih =>
    intro i n T s v F w3 h hi h9 hT hn
    obtain rfl : i = 7 - k := by omega
    rw [q_ct_s] at hn ⊢
    rw [q_ap_s]
    have hlt : lbN J k < 256 := lbN_lt
    rw [dc_X13_append_58, if_neg (show ¬ (8 : Int32) ≤ nI (7 - k) from nI_ge (b := 8) (by omega) (by omega)), mi_byteOf (by omega), cI_s]
    by_cases d : lbN J k = 0
    · rw [if_pos d] at hn ⊢
      rw [if_pos d, if_pos (show nI (lbN J k) = 0 by rw [d]; rfl), dc_X13_append_100, nI_1, Nat.zero_add]
      exact ih (7 - k + 1) n T s v F am_un h (by omega) h9 hT (by omega)
    · rw [if_neg d] at hn ⊢
      have hb : wB B s (m + 7) (nI n) (nI (lbN J k)).toInt8.toInt32 = some (moS s m v (mup F 7 n (sb (nI (lbN J k))))) := mw_b h hB (by omega)
      have hp : am_put tb_ct mm_X13_append B (moS s m v (mup F 7 n (sb (nI (lbN J k))))) (.int (nI (n + 1))) m 11 9 = some (moS s m (upd v 9 (nI (n + 1))) (mup F 7 n (sb (nI (lbN J k))))) := by
        rw [mp_9 (OV.of : MO (moS s m v (mup F 7 n (sb (nI (lbN J k))))) m v (mup F 7 n (sb (nI (lbN J k))))) hB, mo_idem]
      rw [if_neg d, if_neg (show ¬ nI (lbN J k) = 0 from fun hc => d ((nI_eq (b := 0) (by omega) (by omega)).mp hc)), mo_8 h, eA_s, mo_9 h, eI_s, h9, mi_byteOf (by omega), cI_s, hb, eS_s, show gI tb_ct (moS s m v (mup F 7 n (sb (nI (lbN J k))))) m 11 9 = some (v 9) from mo_9 OV.of, eI_s, h9, nI_1, hp, eS_s, dc_X13_append_100, nI_1]
      obtain ⟨s', v', F', r1, r2, r3, r4, r5, r6, r7⟩ := ih (7 - k + 1) (n + 1) (upd T n (nI (lbN J k))) (moS s m (upd v 9 (nI (n + 1))) (mup F 7 n (sb (nI (lbN J k))))) (upd v 9 (nI (n + 1))) (mup F 7 n (sb (nI (lbN J k)))) am_un OV.of (by omega) upd_k (fun a ha => by
        rw [mup_s]
        by_cases e : a = n
        · subst e
          rw [upd_k, upd_k]
        · rw [upd_n e, upd_n e]
          exact hT a (by omega)) (by omega)
      rw [show n + 1 + q_ct J k = n + (1 + q_ct J k) by omega] at r1 r4 r5
      exact ⟨s', v', F', r1, so_tr so_ov r2, r3, r4, r5, fun a ha => (r6 a ha).trans (mup_n ha), fun a ha => (r7 a ha).trans (upd_n ha)⟩
theorem m_append {J : Int64} (h : MO s m v F) (hB : B ≤ m) (h9 : v 9 = nI n) (hn : n ≤ 500) (hT : BR (F 7) T n) : (n + q_ct J 8 ≤ 500 → ∃ s' v' F', cl_ tb_ct tb_mt B K_X13_append [.ref m, .long J] s = some (.inl (some (.int (nI (n + q_ct J 8)))), s') ∧ so s s' m (m + 12) ∧ MO s' m v' F' ∧ v' 9 = nI (n + q_ct J 8) ∧ BR (F' 7) (q_ap J 8 T n).1 (n + q_ct J 8) ∧ (∀ a, a ≠ 7 → F' a = F a) ∧ v' 4 = 0 ∧ ∀ a, a ≠ 9 → a ≠ 4 → v' a = v a) ∧ (¬ n + q_ct J 8 ≤ 500 → cl_ tb_ct tb_mt B K_X13_append [.ref m, .long J] s = some (.inl (some (.int (-2))), moS s m (upd v 4 0) F)) := by
  have hq := q_ct_le (j := J) 8
  have lp : ∀ k i c, i + k = 8 → rn_ tb_ct tb_mt B mm_X13_append 10 [.ref m, .long J, am_un, .int (nI c), .int (nI i)] [] (moS s m (upd v 4 0) F) = rn_ tb_ct tb_mt B mm_X13_append 10 [.ref m, .long J, am_un, .int (nI (c + q_ct J k)), .int (nI 8)] [] (moS s m (upd v 4 0) F) := by
    intro k
    induction k with
    | zero =>
      intro i c hi
      obtain rfl : i = 8 := by omega
      rfl
    | succ k ih =>
      intro i c hi
      obtain rfl : i = 7 - k := by omega
      have hlt : lbN J k < 256 := lbN_lt
      rw [q_ct_s, dc_X13_append_10, if_neg (show ¬ (8 : Int32) ≤ nI (7 - k) from nI_ge (b := 8) (by omega) (by omega)), mi_byteOf (by omega), cI_s]
      by_cases d : lbN J k = 0
      · rw [if_pos d, if_pos (show nI (lbN J k) = 0 by rw [d]; rfl), dc_X13_append_32, Int32.add_zero, nI_1, ih (7 - k + 1) c (by omega), Nat.zero_add]
      · rw [if_neg d, if_neg (show ¬ nI (lbN J k) = 0 from fun hc => d ((nI_eq (b := 0) (by omega) (by omega)).mp hc)), dc_X13_append_32, nI_1, nI_1, ih (7 - k + 1) (c + 1) (by omega), Nat.add_assoc]
  have l0 := lp 8 0 0 (by omega)
  rw [nI_0, Nat.zero_add] at l0
  have e9 : gI tb_ct (moS s m (upd v 4 0) F) m 11 9 = some (nI n) := by
    rw [show gI tb_ct (moS s m (upd v 4 0) F) m 11 9 = some (upd v 4 0 9) from mo_9 OV.of, upd_n (by omega), h9]
  rw [in_X13_append, dc_X13_append_0, mp_4 h hB, eS_s, l0, dc_X13_append_10, if_pos (show (8 : Int32) ≤ nI 8 from Int32.le_refl _), e9, eI_s, nI_add]
  constructor
  · intro c
    obtain ⟨s', v', F', r1, r2, r3, r4, r5, r6, r7⟩ := m_app_lp (J := J) (B := B) hB 8 0 n T (moS s m (upd v 4 0) F) (upd v 4 0) F (.int (nI (q_ct J 8))) OV.of (by omega) ((upd_n (by omega)).trans h9) hT c
    rw [nI_0] at r1
    rw [if_pos (show nI (n + q_ct J 8) ≤ (500 : Int32) from nI_le (b := 500) c (by omega))]
    exact ⟨s', v', F', r1, so_tr so_ov r2, r3, r4, r5, r6, (r7 4 (by omega)).trans upd_k, fun a h9 h4 => (r7 a h9).trans (upd_n h4)⟩
  · intro c
    rw [if_neg (show ¬ nI (n + q_ct J 8) ≤ (500 : Int32) from fun hc => c ((nI_leI (b := 500) (by omega) (by omega)).mp hc))]
end Mz
