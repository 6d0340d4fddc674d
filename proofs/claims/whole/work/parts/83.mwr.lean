/-! ===== the model: a key is written, a key is deleted ===== -/
section Mv
variable {s s' : am_S} {B m i j n p : Nat} {v : Nat → Int32} {F : mrT} {g g' : Nat → Int32} {x y key val l : Int32} {σ σ' : stT} {R : Nat → Int32}
theorem MM.so (hB : B ≤ m) (hf : FR g σ) (hz : SZ σ) : MM B (moS s m v (m1 F g)) m v (m1 F g) σ := MM.st hB hf hz
/-- the row of a key behind a write -/
def kyF (g : Nat → Int32) (p : Nat) (val rv l : Int32) : Nat → Int32 := upd (upd (upd (upd g (13 + 6 * p + 1) val) (13 + 6 * p + 3) rv) (13 + 6 * p + 4) (g (13 + 6 * p + 4) + 1)) (13 + 6 * p + 5) l
theorem kyF_o {rv : Int32} {q : Nat} (h : q < 13 + 6 * p + 1 ∨ q = 13 + 6 * p + 2 ∨ 13 + 6 * p + 6 ≤ q) : kyF g p val rv l q = g q := by
  unfold kyF
  rw [upd_n (by omega), upd_n (by omega), upd_n (by omega), upd_n (by omega)]
theorem kyF_row {rv : Int32} {w : Nat} (hw : w < 6) : kyF g p val rv l (13 + 6 * p + w) = k6 (g (13 + 6 * p)) val (g (13 + 6 * p + 2)) rv (g (13 + 6 * p + 4) + 1) l w := by
  unfold kyF
  match w, hw with
  | 0, _ =>
    rw [upd_n (by omega), upd_n (by omega), upd_n (by omega)]
    exact upd_n (by omega)
  | 1, _ => rw [upd_n (by omega), upd_n (by omega), upd_n (by omega), upd_k]; rfl
  | 2, _ => rw [upd_n (by omega), upd_n (by omega), upd_n (by omega), upd_n (by omega)]; rfl
  | 3, _ => rw [upd_n (by omega), upd_n (by omega), upd_k]; rfl
  | 4, _ => rw [upd_n (by omega), upd_k]; rfl
  | 5, _ => rw [upd_k]; rfl
theorem mk_w109 (hB : B ≤ m) (hp : p < 23) (h0 : g 0 = nI n) (hf : FR (kyF g p val (nI n) l) σ') (hn : nI n = nI (σ'.1 0)) (h6 : σ'.1 6 < 152) {ver : Int32} {before : Int32} : rn_ tb_ct tb_mt B mm_X13_writes 109 [.ref m, .int key, .int val, .int l, .int (nI p), .int before] [] (moS s m v (m1 F g)) = some (.inl none, moS s m v (m1 F (evF (kyF g p val (nI n) l) (σ'.1 6) (ev7 (nI n) 0 key val before l ver)))) := by
  rw [dc_X13_writes_109, mo_0s, eA_s]
  simp only [nn0, nn1, nn2, nn3, nn4, nn5, nn6, nn7, nn8, nn9, nn10, nn11, nn12, nn13, nn15, nn16, nn18, nn28, nn45, nn48, nn57, nn58, nn59, nn97, nn120, nn122, nn157, nn189, nn500, nn999, nn1000, nn1149, nn1173, nn1269, nn1293, nn1311, nn1329, nn9999, nI_add, nI_mul]
  rw [mw2 hB (by omega), eS_s, mo_0s, eA_s, eA_s, mr2 (by omega), eI_s, mw2 hB (by omega), eS_s, mo_0s, eA_s, mr2 (by omega), eI_s, mw2 hB (by omega), eS_s, mo_0s, eA_s, mw2 hB (by omega), eS_s, mo_cs, eC_s]
  rw [show upd (upd (upd (upd g (13 + 6 * p + 1) val) (13 + 6 * p + 3) (upd g (13 + 6 * p + 1) val 0)) (13 + 6 * p + 4) (upd (upd g (13 + 6 * p + 1) val) (13 + 6 * p + 3) (upd g (13 + 6 * p + 1) val 0) (13 + 6 * p + 4) + nI 1)) (13 + 6 * p + 5) l = kyF g p val (nI n) l from by
    unfold kyF
    rw [show upd g (13 + 6 * p + 1) val 0 = nI n from (upd_n (by omega)).trans h0, show upd (upd g (13 + 6 * p + 1) val) (13 + 6 * p + 3) (nI n) (13 + 6 * p + 4) = g (13 + 6 * p + 4) from (upd_n (by omega)).trans (upd_n (by omega))]
    rfl]
  have e : cl_ tb_ct tb_mt B K_X13_happens [.ref m, .int (nI 0), .int key, .int val, .int before, .int l] (moS s m v (m1 F (kyF g p val (nI n) l))) = some (.inl none, moS s m v (m1 F (evF (kyF g p val (nI n) l) (σ'.1 6) (ev7 (nI n) 0 key val before l ver)))) := mk_happens (s := s) (v := v) (F := F) (R := ev7 (nI n) 0 key val before l ver) hB hf h6 hn
  rw [e, cV_s]
  rfl
theorem FR.wr_old (h : FR g σ) (hz : SZ σ) (hp : p < σ.1 3) {rv : Int32} (hk : σ.2 0 p 0 = key) : FR (kyF g p val rv l) (σ.1, va_up σ.2 0 (va_up (σ.2 0) p (k6 key val (σ.2 0 p 2) rv (σ.2 0 p 4 + 1) l))) := by
  have hc := h.1 3 (by omega)
  have h3 := hz.1
  have := h.t0 (f' := kyF g p val rv l) (n' := σ.1 3) (R' := va_up (σ.2 0) p (k6 key val (σ.2 0 p 2) rv (σ.2 0 p 4 + 1) l)) hz (fun k k3 kr => kyF_o (by omega)) ((kyF_o (by omega)).trans hc) (fun i w hi hw => by
    by_cases c : i = p
    · subst c
      rw [va_us, kyF_row hw, show g (13 + 6 * i) = key from (h.2.1 i 0 hi (by omega)).trans hk, h.2.1 i 2 hi (by omega), h.2.1 i 4 hi (by omega)]
    · rw [va_un c, kyF_o (by omega)]
      exact h.2.1 i w hi hw)
  rw [va_id] at this
  exact this
/-- the rows with one more -/
def inF (g : Nat → Int32) (p n : Nat) (key rv : Int32) : Nat → Int32 := upd (upd (upd (upd (shU g 13 6 (6 * p) (6 * n)) 3 (nI (n + 1))) (13 + 6 * p) key) (13 + 6 * p + 2) rv) (13 + 6 * p + 4) 0
theorem FR.wr_new (h : FR g σ) (hz : SZ σ) (h3 : σ.1 3 < 22) (hp : p ≤ σ.1 3) {rv : Int32} : FR (kyF (inF g p (σ.1 3) key rv) p val rv l) (va_up σ.1 3 (σ.1 3 + 1), va_up σ.2 0 (insR (σ.2 0) p (σ.1 3) (k6 key val rv rv 1 l))) := by
  refine h.t0 hz (fun k k3 kr => ?_) ?_ (fun i w hi hw => ?_)
  · rw [kyF_o (by omega)]
    unfold inF
    rw [upd_n (by omega), upd_n (by omega), upd_n (by omega), upd_n (by omega)]
    exact if_neg (by omega)
  · rw [kyF_o (by omega)]
    unfold inF
    rw [upd_n (by omega), upd_n (by omega), upd_n (by omega), upd_k]
  · unfold insR
    by_cases c : i = p
    · subst c
      rw [if_pos rfl, kyF_row hw]
      unfold inF
      rw [show upd (upd (upd (upd (shU g 13 6 (6 * i) (6 * σ.1 3)) 3 (nI (σ.1 3 + 1))) (13 + 6 * i) key) (13 + 6 * i + 2) rv) (13 + 6 * i + 4) 0 (13 + 6 * i) = key from (upd_n (by omega)).trans ((upd_n (by omega)).trans upd_k), show upd (upd (upd (upd (shU g 13 6 (6 * i) (6 * σ.1 3)) 3 (nI (σ.1 3 + 1))) (13 + 6 * i) key) (13 + 6 * i + 2) rv) (13 + 6 * i + 4) 0 (13 + 6 * i + 2) = rv from (upd_n (by omega)).trans upd_k, show upd (upd (upd (upd (shU g 13 6 (6 * i) (6 * σ.1 3)) 3 (nI (σ.1 3 + 1))) (13 + 6 * i) key) (13 + 6 * i + 2) rv) (13 + 6 * i + 4) 0 (13 + 6 * i + 4) = 0 from upd_k]
      rfl
    · rw [if_neg c, kyF_o (by omega)]
      unfold inF
      rw [upd_n (by omega), upd_n (by omega), upd_n (by omega), upd_n (by omega)]
      unfold shU
      by_cases c2 : p < i ∧ i ≤ σ.1 3
      · rw [if_pos c2, if_pos (by omega), show 13 + 6 * i + w - 6 = 13 + 6 * (i - 1) + w by omega]
        exact h.2.1 (i - 1) w (by omega) hw
      · rw [if_neg c2, if_neg (by omega)]
        exact h.2.1 i w (by omega) hw
theorem mk_writes (hB : B ≤ m) (hf : FR g σ) (hz : SZ σ) (hs : srt (σ.2 0) (σ.1 3)) (h6 : σ.1 6 < 152) (h3 : ¬ isK σ key → σ.1 3 < 22) : ∃ g', cl_ tb_ct tb_mt B K_X13_writes [.ref m, .int key, .int val, .int l] (moS s m v (m1 F g)) = some (.inl none, moS s m v (m1 F g')) ∧ FR g' (p_wr σ.1 σ.2 (nI (σ.1 0)) key val l) := by
  have hM : MM B (moS s m v (m1 F g)) m v (m1 F g) σ := MM.st hB hf hz
  have hz3 := hz.1
  have hp : pI (σ.2 0) (σ.1 3) key ≤ σ.1 3 := pI_le
  have g0 : g 0 = nI (σ.1 0) := hf.1 0 (by omega)
  rw [in_X13_writes, dc_X13_writes_0, mo_cs, eC_s, mk_place hM, cI_s, mo_cs, eC_s, mk_there hM hs, cI_s, if_p]
  unfold p_wr
  by_cases c : isK σ key
  · obtain ⟨c1, c2⟩ := (pI_there (key := key) hs).mp c
    have e2 : pF (σ.2 0) (σ.1 3) key = pI (σ.2 0) (σ.1 3) key := pF_of hs c1 c2
    rw [if_pos c, if_pos c, mo_cs, eC_s, show (1 : Int32) = nI 1 from rfl, mk_keyAt hM c1 (by omega), cI_s, e2]
    have f2 := hf.wr_old (p := pI (σ.2 0) (σ.1 3) key) (val := val) (l := l) (rv := nI (σ.1 0)) hz c1 c2
    rw [mk_w109 (σ' := (σ.1, va_up σ.2 0 (va_up (σ.2 0) (pI (σ.2 0) (σ.1 3) key) (k6 key val (σ.2 0 (pI (σ.2 0) (σ.1 3) key) 2) (nI (σ.1 0)) (σ.2 0 (pI (σ.2 0) (σ.1 3) key) 4 + 1) l)))) (ver := σ.2 0 (pI (σ.2 0) (σ.1 3) key) 4 + 1) hB (by omega) g0 f2 rfl h6]
    exact ⟨_, rfl, f2.ev hz h6⟩
  · have h22 := h3 c
    rw [if_neg c, if_neg c, mo_0s, eA_s, show (3 : Int32) = nI 3 from rfl, hM.gz (by omega), eI_s, mo_cs, eC_s, show (13 : Int32) = nI 13 from rfl, show (6 : Int32) = nI 6 from rfl, show (1 : Int32) = nI 1 from rfl, mv_up hB (by omega) (by omega), cV_s, mo_0s, eA_s, mr2 (by omega), eI_s]
    rw [show shU g 13 6 (6 * pI (σ.2 0) (σ.1 3) key) (6 * σ.1 3) 3 = nI (σ.1 3) from (if_neg (by omega)).trans (hf.1 3 (by omega)), nI_add, mw2 hB (by omega), eS_s, mo_0s, eA_s]
    simp only [nn0, nn1, nn2, nn3, nn4, nn5, nn6, nn7, nn8, nn9, nn10, nn11, nn12, nn13, nn15, nn16, nn18, nn28, nn45, nn48, nn57, nn58, nn59, nn97, nn120, nn122, nn157, nn189, nn500, nn999, nn1000, nn1149, nn1173, nn1269, nn1293, nn1311, nn1329, nn9999, nI_add, nI_mul]
    rw [mw2 hB (by omega), eS_s, mo_0s, eA_s, eA_s, mr2 (by omega), eI_s, mw2 hB (by omega), eS_s, mo_0s, eA_s, mw2 hB (by omega), eS_s]
    rw [show upd (upd (shU g 13 6 (6 * pI (σ.2 0) (σ.1 3) key) (6 * σ.1 3)) 3 (nI (σ.1 3 + 1))) (13 + 6 * pI (σ.2 0) (σ.1 3) key) key 0 = nI (σ.1 0) from (upd_n (by omega)).trans ((upd_n (by omega)).trans ((if_neg (by omega)).trans g0))]
    have f2 := hf.wr_new (p := pI (σ.2 0) (σ.1 3) key) (key := key) (val := val) (l := l) (rv := nI (σ.1 0)) hz h22 hp
    have hz2 : SZ (va_up σ.1 3 (σ.1 3 + 1), va_up σ.2 0 (insR (σ.2 0) (pI (σ.2 0) (σ.1 3) key) (σ.1 3) (k6 key val (nI (σ.1 0)) (nI (σ.1 0)) 1 l))) := ⟨h22, hz.2⟩
    have e9 := mk_w109 (s := s) (v := v) (F := F) (key := key) (g := inF g (pI (σ.2 0) (σ.1 3) key) (σ.1 3) key (nI (σ.1 0))) (n := σ.1 0) (σ' := (va_up σ.1 3 (σ.1 3 + 1), va_up σ.2 0 (insR (σ.2 0) (pI (σ.2 0) (σ.1 3) key) (σ.1 3) (k6 key val (nI (σ.1 0)) (nI (σ.1 0)) 1 l)))) (ver := 1) (before := NOV) hB (by omega) (by
      unfold inF
      rw [upd_n (by omega), upd_n (by omega), upd_n (by omega), upd_n (by omega)]
      exact (if_neg (by omega)).trans g0) f2 rfl h6
    exact ⟨_, e9, f2.ev hz2 h6⟩
theorem mk_deletes (hB : B ≤ m) (hf : FR g σ) (hz : SZ σ) (hs : srt (σ.2 0) (σ.1 3)) (h6 : σ.1 6 < 152) (hp : p < σ.1 3) (hk : σ.2 0 p 0 = key) : ∃ g', cl_ tb_ct tb_mt B K_X13_deletes [.ref m, .int key] (moS s m v (m1 F g)) = some (.inl none, moS s m v (m1 F g')) ∧ FR g' (p_de σ.1 σ.2 (nI (σ.1 0)) p) := by
  have hM : MM B (moS s m v (m1 F g)) m v (m1 F g) σ := MM.st hB hf hz
  have hz3 := hz.1
  have ep : pI (σ.2 0) (σ.1 3) key = p := pI_of hs hp hk
  have eh := mk_happens (s := s) (v := v) (F := F) (R := ev7 (nI (σ.1 0)) 1 key 0 (σ.2 0 p 1) (σ.2 0 p 5) (σ.2 0 p 4)) hB hf h6 rfl
  have f2 := hf.ev (R := ev7 (nI (σ.1 0)) 1 key 0 (σ.2 0 p 1) (σ.2 0 p 5) (σ.2 0 p 4)) hz h6
  have hz2 : SZ (va_up σ.1 6 (σ.1 6 + 1), va_up σ.2 2 (va_up (σ.2 2) (σ.1 6) (ev7 (nI (σ.1 0)) 1 key 0 (σ.2 0 p 1) (σ.2 0 p 5) (σ.2 0 p 4)))) := ⟨hz.1, hz.2.1, h6, hz.2.2.2⟩
  have c3 : evF g (σ.1 6) (ev7 (nI (σ.1 0)) 1 key 0 (σ.2 0 p 1) (σ.2 0 p 5) (σ.2 0 p 4)) 3 = nI (σ.1 3) := f2.1 3 (by omega)
  rw [in_X13_deletes, dc_X13_deletes_0, mo_cs, eC_s, mk_place hM, cI_s, ep, mo_cs, eC_s, show (1 : Int32) = nI 1 from rfl, mk_keyAt hM hp (by omega), cI_s, mo_cs, eC_s, show (5 : Int32) = nI 5 from rfl, mk_keyAt hM hp (by omega), cI_s, mo_cs, eC_s, show cl_ tb_ct tb_mt B K_X13_happens [.ref m, .int (nI 1), .int key, .int (0 : Int32), .int (σ.2 0 p 1), .int (σ.2 0 p 5)] (moS s m v (m1 F g)) = _ from eh, cV_s, mo_0s, eA_s, show (3 : Int32) = nI 3 from rfl, mr2 (by omega), eI_s, c3, mo_cs, eC_s, show (13 : Int32) = nI 13 from rfl, show (6 : Int32) = nI 6 from rfl]
  have ed := mv_dn (s := s) (v := v) (F := F) (g := evF g (σ.1 6) (ev7 (nI (σ.1 0)) 1 key 0 (σ.2 0 p 1) (σ.2 0 p 5) (σ.2 0 p 4))) (b := 13) (w := 6) (p := p) (n := σ.1 3) hB (by omega) (by omega) (by omega)
  rw [show -(nI 1) = -(1 : Int32) from rfl, ed, cV_s, mo_0s, eA_s, mr2 (by omega), eI_s, show shD (evF g (σ.1 6) (ev7 (nI (σ.1 0)) 1 key 0 (σ.2 0 p 1) (σ.2 0 p 5) (σ.2 0 p 4))) 13 6 (6 * p) (6 * (σ.1 3 - 1)) 3 = nI (σ.1 3) from (if_neg (by omega)).trans c3, nI_2 (by omega), mw2 hB (by omega), eS_s]
  refine ⟨_, rfl, ?_⟩
  unfold p_de
  rw [hk]
  refine f2.t0 hz2 (fun k k3 kr => ?_) upd_k (fun i w hi hw => ?_)
  · rw [upd_n k3]
    exact if_neg (by omega)
  · rw [upd_n (by omega)]
    unfold shD delR
    by_cases c : p ≤ i ∧ i + 1 < σ.1 3
    · rw [if_pos c, if_pos (by omega), show 13 + 6 * i + w + 6 = 13 + 6 * (i + 1) + w by omega]
      exact f2.2.1 (i + 1) w c.2 hw
    · rw [if_neg c, if_neg (by omega)]
      exact f2.2.1 i w (show i < σ.1 3 by omega) hw
end Mv
