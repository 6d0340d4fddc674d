/-! ===== the model: a script, read ===== -/
def CT (F : mrT) (T : Nat → Int32) (n : Nat) : Prop := n ≤ 500 ∧ BR (F 7) T n ∧ ∀ i, i < n → ∃ b : Nat, b < 256 ∧ T i = nI b
def VK (v v' : Nat → Int32) : Prop := ∀ k, (k < 10 ∨ 14 ≤ k) → v' k = v k
theorem sb_and : ∀ b, b < 256 → sb (nI b) &&& 255 = nI b := by decide +kernel
theorem sb_lo : ∀ b, b < 128 → sb (nI b) = nI b := by decide +kernel
theorem sb_hi : ∀ b, b < 256 → 128 ≤ b → sb (nI b) < 0 := by decide +kernel
theorem sb_eq {c d : Nat} (hc : c < 256) (hd : d < 128) : sb (nI c) = nI d ↔ nI c = nI d := by
  by_cases h : c < 128
  · rw [sb_lo c h]
  · constructor
    · intro e
      have := sb_hi c hc (by omega)
      rw [e] at this
      exact absurd this (nI_pos (by omega))
    · intro e
      have := (nI_eq (by omega) (by omega)).mp e
      omega
theorem VK.rf {v : Nat → Int32} : VK v v := fun _ _ => rfl
theorem VK.tr {v v' v'' : Nat → Int32} (h : VK v v') (h' : VK v' v'') : VK v v'' := fun k hk => (h' k hk).trans (h k hk)
section Pa
variable {s s' : am_S} {B m i j n p q e b c : Nat} {v v' : Nat → Int32} {F F' : mrT} {T : Nat → Int32} {x y lo hi : Int32} {M : am_M} {l : List Int32}
theorem mo_8s : gA tb_ct (moS s m v F) m 11 8 = some (some (m + 7)) := mo_8 OV.of
theorem mo_9s : gI tb_ct (moS s m v F) m 11 9 = some (v 9) := mo_9 OV.of
theorem mo_10s : gI tb_ct (moS s m v F) m 11 10 = some (v 10) := mo_10 OV.of
theorem mo_11s : gI tb_ct (moS s m v F) m 11 11 = some (v 11) := mo_11 OV.of
theorem mo_12s : gI tb_ct (moS s m v F) m 11 12 = some (v 12) := mo_12 OV.of
theorem mo_13s : gI tb_ct (moS s m v F) m 11 13 = some (v 13) := mo_13 OV.of
theorem mo_14s : gI tb_ct (moS s m v F) m 11 14 = some (v 14) := mo_14 OV.of
theorem mp_4s (hB : B ≤ m) : am_put tb_ct M B (moS s m v F) (.int x) m 11 4 = some (moS s m (upd v 4 x) F) := by
  rw [mp_4 (OV.of : MO (moS s m v F) m v F) hB, mo_idem]
theorem mp_9s (hB : B ≤ m) : am_put tb_ct M B (moS s m v F) (.int x) m 11 9 = some (moS s m (upd v 9 x) F) := by
  rw [mp_9 (OV.of : MO (moS s m v F) m v F) hB, mo_idem]
theorem mp_10s (hB : B ≤ m) : am_put tb_ct M B (moS s m v F) (.int x) m 11 10 = some (moS s m (upd v 10 x) F) := by
  rw [mp_10 (OV.of : MO (moS s m v F) m v F) hB, mo_idem]
theorem mp_11s (hB : B ≤ m) : am_put tb_ct M B (moS s m v F) (.int x) m 11 11 = some (moS s m (upd v 11 x) F) := by
  rw [mp_11 (OV.of : MO (moS s m v F) m v F) hB, mo_idem]
theorem mp_12s (hB : B ≤ m) : am_put tb_ct M B (moS s m v F) (.int x) m 11 12 = some (moS s m (upd v 12 x) F) := by
  rw [mp_12 (OV.of : MO (moS s m v F) m v F) hB, mo_idem]
theorem mp_13s (hB : B ≤ m) : am_put tb_ct M B (moS s m v F) (.int x) m 11 13 = some (moS s m (upd v 13 x) F) := by
  rw [mp_13 (OV.of : MO (moS s m v F) m v F) hB, mo_idem]
theorem mp_14s (hB : B ≤ m) : am_put tb_ct M B (moS s m v F) (.int x) m 11 14 = some (moS s m (upd v 14 x) F) := by
  rw [mp_14 (OV.of : MO (moS s m v F) m v F) hB, mo_idem]
theorem mp_15s (hB : B ≤ m) : am_put tb_ct M B (moS s m v F) (.int x) m 11 15 = some (moS s m (upd v 15 x) F) := by
  rw [mp_15 (OV.of : MO (moS s m v F) m v F) hB, mo_idem]
theorem mp_16s (hB : B ≤ m) : am_put tb_ct M B (moS s m v F) (.int x) m 11 16 = some (moS s m (upd v 16 x) F) := by
  rw [mp_16 (OV.of : MO (moS s m v F) m v F) hB, mo_idem]
theorem mk_here (hC : CT F T n) (h9 : v 9 = nI n) (h10 : v 10 = nI p) (hp : p < 2 ^ 30) : cl_ tb_ct tb_mt B K_X13_here [.ref m] (moS s m v F) = some (.inl (some (.int (byt T n p))), moS s m v F) := by
  have hn := hC.1
  rw [in_X13_here, dc_X13_here_0, mo_10s, eI_s, mo_9s, eI_s, h10, h9]
  unfold byt
  by_cases d : p < n
  · obtain ⟨b, hb, eb⟩ := hC.2.2 p d
    rw [if_neg (nI_ge d (by omega)), if_pos d, mo_8s, eA_s, eI_s, show aB (moS s m v F) (m + 7) (nI p) = some (F 7 p) from mr_b (v := v) (F := F) OV.of (by omega), eI_s, hC.2.1 p d, eb, sb_and b hb]
  · rw [if_pos (nI_le (by omega) (by omega)), if_neg d]
theorem mk_next_lp (hC : CT F T n) (hB : B ≤ m) : ∀ k p v, p + k = n → v 9 = nI n → v 10 = nI p → ∃ v', rn_ tb_ct tb_mt B mm_X13_next 0 [.ref m] [] (moS s m v F) = some (.inl (some (.int (byt T n (fi (fun j => !decide (T j = 32)) p k)))), moS s m v' F) ∧ v' 10 = nI (fi (fun j => !decide (T j = 32)) p k) ∧ v' 11 = nI (fi (fun j => !decide (T j = 32)) p k) ∧ ∀ a, a ≠ 10 → a ≠ 11 → v' a = v a := by
  have hn := hC.1
  have stop : ∀ p v, p ≤ n → v 9 = nI n → v 10 = nI p → byt T n p ≠ 32 → ∃ v', rn_ tb_ct tb_mt B mm_X13_next 0 [.ref m] [] (moS s m v F) = some (.inl (some (.int (byt T n p))), moS s m v' F) ∧ v' 10 = nI p ∧ v' 11 = nI p ∧ ∀ a, a ≠ 10 → a ≠ 11 → v' a = v a := by
    intro p v hp h9 h10 hne
    refine ⟨upd v 11 (nI p), ?_, (upd_n (by omega)).trans h10, upd_k, fun a _ h11 => upd_n h11⟩
    rw [dc_X13_next_0, mo_cs, eC_s, mk_here hC h9 h10 (by omega), cI_s, if_neg hne, mo_10s, eI_s, h10, mp_11s hB, eS_s, mo_cs, eC_s, mk_here hC ((upd_n (by omega)).trans h9) ((upd_n (by omega)).trans h10) (by omega), cI_s]
  intro k
  induction k with
  | zero =>
    intro p v hp h9 h10
    exact stop p v (by omega) h9 h10 (by unfold byt; rw [if_neg (by omega)]; decide)
  | succ k ih =>
    intro p v hp h9 h10
    rw [fi_s]
    have eb : byt T n p = T p := if_pos (by omega)
    by_cases d : T p = 32
    · obtain ⟨v', r1, r2, r3, r4⟩ := ih (p + 1) (upd v 10 (nI (p + 1))) (by omega) ((upd_n (by omega)).trans h9) upd_k
      rw [decide_eq_true d]
      refine ⟨v', ?_, r2, r3, fun a h10 h11 => (r4 a h10 h11).trans (upd_n h10)⟩
      rw [dc_X13_next_0, mo_cs, eC_s, mk_here hC h9 h10 (by omega), cI_s, eb, if_pos d, mo_10s, eI_s, h10, nI_1, mp_10s hB, eS_s, r1]
      rfl
    · rw [decide_eq_false d]
      exact stop p v (by omega) h9 h10 (by rw [eb]; exact d)
theorem mk_next (hC : CT F T n) (hB : B ≤ m) (h9 : v 9 = nI n) (h10 : v 10 = nI p) (hp : p ≤ n) : ∃ v', cl_ tb_ct tb_mt B K_X13_next [.ref m] (moS s m v F) = some (.inl (some (.int (byt T n (q_sp T n p)))), moS s m v' F) ∧ v' 10 = nI (q_sp T n p) ∧ v' 11 = nI (q_sp T n p) ∧ ∀ a, a ≠ 10 → a ≠ 11 → v' a = v a := by
  rw [in_X13_next]
  exact mk_next_lp hC hB (n - p) p v (by omega) h9 h10
theorem mk_reads (hC : CT F T n) (hB : B ≤ m) (h9 : v 9 = nI n) (h10 : v 10 = nI p) (hp : p ≤ n) : ∃ v', cl_ tb_ct tb_mt B K_X13_reads [.ref m] (moS s m v F) = some (.inl none, moS s m v' F) ∧ v' 10 = nI (q_le T n (q_sp T n p)) ∧ v' 11 = nI (q_sp T n p) ∧ ∀ a, a ≠ 10 → a ≠ 11 → v' a = v a := by
  have hn := hC.1
  have lp : ∀ k p v, p + k = n → v 9 = nI n → v 10 = nI p → ∃ v', rn_ tb_ct tb_mt B mm_X13_reads 5 [.ref m] [] (moS s m v F) = some (.inl none, moS s m v' F) ∧ v' 10 = nI (fi (fun j => !ltB (T j)) p k) ∧ ∀ a, a ≠ 10 → v' a = v a := by
    intro k
    induction k with
    | zero =>
      intro p v hp h9 h10
      refine ⟨v, ?_, h10, fun _ _ => rfl⟩
      rw [dc_X13_reads_5, mo_cs, eC_s, mk_here hC h9 h10 (by omega), cI_s, mi_in (byt T n p) 97 122 (j2 := 97) (j4 := 122) rfl rfl, cI_s, show byt T n p = -1 from if_neg (by omega)]
      rfl
    | succ k ih =>
      intro p v hp h9 h10
      have eb : byt T n p = T p := if_pos (by omega)
      have el : bIn (T p) 97 122 = ltB (T p) := rfl
      rw [fi_s, dc_X13_reads_5, mo_cs, eC_s, mk_here hC h9 h10 (by omega), cI_s, mi_in (byt T n p) 97 122 (j2 := 97) (j4 := 122) rfl rfl, cI_s, eb, el, if_b]
      cases ltB (T p) with
      | true =>
        obtain ⟨v', r1, r2, r3⟩ := ih (p + 1) (upd v 10 (nI (p + 1))) (by omega) ((upd_n (by omega)).trans h9) upd_k
        refine ⟨v', ?_, r2, fun a h10 => (r3 a h10).trans (upd_n h10)⟩
        rw [if_pos rfl, mo_10s, eI_s, h10, nI_1, mp_10s hB, eS_s, r1]
      | false => exact ⟨v, rfl, h10, fun _ _ => rfl⟩
  obtain ⟨v1, a1, a2, a3, a4⟩ := mk_next (s := s) hC hB h9 h10 hp
  have hq := q_sp_le (T := T) hp
  obtain ⟨v2, b1, b2, b3⟩ := lp (n - q_sp T n p) (q_sp T n p) v1 (by omega) ((a4 9 (by omega) (by omega)).trans h9) a2
  refine ⟨v2, ?_, b2, (b3 11 (by omega)).trans a3, fun a h10 h11 => (b3 a h10).trans (a4 a h10 h11)⟩
  rw [in_X13_reads, dc_X13_reads_0, mo_cs, eC_s, a1, cI_s, b1]
theorem mk_isWord (hC : CT F T n) (hE : EVd B s) (hB : B ≤ m) (h10 : v 10 = nI e) (h11 : v 11 = nI b) (hq : STR B s q l) (hb : b ≤ e) (he : e ≤ n) : cl_ tb_ct tb_mt B K_X13_isWord [.ref m, .ref q] (moS s m v F) = some (.inl (some (.int (if q_wd T b e l = true then 1 else 0))), moS s m v F) := by
  have hn := hC.1
  have hl := hq.2.2.2
  have hE' : EVd B (moS s m v F) := hE.at (fun r hr => ov_o (by omega)) rfl
  have hq' : STR B (moS s m v F) q l := hq.at (fun r hr => ov_o (by omega))
  have r1 : rtI .boolean 1 (moS s m v F) = some (.inl (some (.int 1)), moS s m v F) := rt_b (b := true)
  have r0 : rtI .boolean 0 (moS s m v F) = some (.inl (some (.int 0)), moS s m v F) := rt_b (b := false)
  have stp : ∀ i, i < l.length → b + l.length ≤ n → rn_ tb_ct tb_mt B mm_X13_isWord 24 [.ref m, .ref q, .int 1, .int (nI i)] [] (moS s m v F) = if T (b + i) = l.getD i 0 then rn_ tb_ct tb_mt B mm_X13_isWord 24 [.ref m, .ref q, .int 1, .int (nI (i + 1))] [] (moS s m v F) else some (.inl (some (.int 0)), moS s m v F) := by
    intro i hi hbn
    obtain ⟨c, hc, ec⟩ := hC.2.2 (b + i) (by omega)
    obtain ⟨d, hd, ed⟩ := hq.2.2.1 _ (gD_mem hi)
    have eb : aB (moS s m v F) (m + 7) (nI (b + i)) = some (F 7 (b + i)) := mr_b (v := v) (F := F) OV.of (by omega)
    rw [dc_X13_isWord_24, if_neg (by decide), str_cls hq', eC_s, str_len hE'.1 hq', cI_s, if_neg (nI_ge hi (by omega)), mo_8s, eA_s, mo_11s, eI_s, h11, nI_add, eb, eI_s, hC.2.1 _ (by omega), str_cls hq', eC_s, str_at hE'.1 hE'.2.2.2 hq' hi, cI_s, ec, ed]
    by_cases z : nI c = nI d
    · rw [if_pos ((sb_eq hc hd).mpr z), if_pos z, dc_X13_isWord_60, nI_1]
    · rw [if_neg (fun h => z ((sb_eq hc hd).mp h)), if_neg z, dc_X13_isWord_60, dc_X13_isWord_24, if_pos rfl, r0]
  have yes : ∀ k i, i + k = l.length → b + l.length ≤ n → (∀ j, i ≤ j → j < l.length → T (b + j) = l.getD j 0) → rn_ tb_ct tb_mt B mm_X13_isWord 24 [.ref m, .ref q, .int 1, .int (nI i)] [] (moS s m v F) = some (.inl (some (.int 1)), moS s m v F) := by
    intro k
    induction k with
    | zero =>
      intro i hi hbn hm
      rw [dc_X13_isWord_24, if_neg (by decide), str_cls hq', eC_s, str_len hE'.1 hq', cI_s, if_pos (nI_le (by omega) (by omega)), r1]
    | succ k ih =>
      intro i hi hbn hm
      rw [stp i (by omega) hbn, if_pos (hm i (Nat.le_refl _) (by omega))]
      exact ih (i + 1) (by omega) hbn fun j h4 h5 => hm j (by omega) h5
  have no : ∀ k i, i + k = l.length → b + l.length ≤ n → (∃ j, i ≤ j ∧ j < l.length ∧ T (b + j) ≠ l.getD j 0) → rn_ tb_ct tb_mt B mm_X13_isWord 24 [.ref m, .ref q, .int 1, .int (nI i)] [] (moS s m v F) = some (.inl (some (.int 0)), moS s m v F) := by
    intro k
    induction k with
    | zero =>
      intro i hi hbn hm
      obtain ⟨j, h4, h5, -⟩ := hm
      omega
    | succ k ih =>
      intro i hi hbn hm
      rw [stp i (by omega) hbn]
      by_cases z : T (b + i) = l.getD i 0
      · rw [if_pos z]
        obtain ⟨j, h4, h5, h6⟩ := hm
        refine ih (i + 1) (by omega) hbn ⟨j, ?_, h5, h6⟩
        by_cases hj : j = i
        · subst hj
          exact absurd z h6
        · omega
      · rw [if_neg z]
  have iff : q_wd T b e l = true ↔ e = b + l.length ∧ ∀ j, j < l.length → T (b + j) = l.getD j 0 := by
    unfold q_wd
    rw [Bool.and_eq_true, decide_eq_true_iff, decide_eq_true_iff]
  rw [in_X13_isWord, dc_X13_isWord_0, mo_10s, eI_s, mo_11s, eI_s, h10, h11, str_cls hq', eC_s, str_len hE'.1 hq', cI_s, nI_2 hb]
  by_cases z : e = b + l.length
  · rw [if_pos (show nI (e - b) = nI l.length by rw [show e - b = l.length by omega]), dc_X13_isWord_21, ← nI_0]
    by_cases d : ∀ j, j < l.length → T (b + j) = l.getD j 0
    · have := yes l.length 0 (by omega) (by omega) fun j _ hj => d j hj
      rw [nI_0] at this ⊢
      rw [this, if_pos (iff.mpr ⟨z, d⟩)]
    · have := no l.length 0 (by omega) (by omega) (by
        apply Classical.byContradiction
        intro hc
        exact d fun j hj => Classical.byContradiction fun hne => hc ⟨j, Nat.zero_le _, hj, hne⟩)
      rw [nI_0] at this ⊢
      rw [this, if_neg (fun hc => d (iff.mp hc).2)]
  · rw [if_neg (fun hc => z (by have := (nI_eq (by omega) (by omega)).mp hc; omega)), if_neg (fun hc => z (iff.mp hc).1), dc_X13_isWord_21, dc_X13_isWord_24, if_pos rfl, r0]
theorem mk_fails (hB : B ≤ m) (h12 : v 12 = 0) : cl_ tb_ct tb_mt B K_X13_fails [.ref m, .int x] (moS s m v F) = some (.inl none, moS s m (upd (upd v 12 x) 13 (v 11)) F) := by
  rw [in_X13_fails, dc_X13_fails_0, mo_12s, eI_s, h12, if_pos rfl, mp_12s hB, eS_s, mo_11s, eI_s, upd_n (by omega), mp_13s hB, eS_s]
end Pa
