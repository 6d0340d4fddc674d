/-! ===== the model: a script, numbers ===== -/
/-- the value so far, told up to a hundred million -/
def mx8 (c : Nat) : Nat := if c < 100000000 then c else 100000000
theorem mx8_le (c : Nat) : mx8 c ≤ 100000000 := by
  unfold mx8
  split <;> omega
theorem mx8_nv (c : Nat) : nvI (mx8 c) c := by
  unfold nvI mx8
  refine ⟨fun h => if_pos h, fun h => ?_, ?_⟩
  · rw [if_neg (by omega)]
    exact Nat.le_refl _
  · split <;> omega
theorem mx8_s (c d : Nat) : mx8 (10 * mx8 c + d) = mx8 (10 * c + d) := by
  unfold mx8
  by_cases h : c < 100000000
  · rw [if_pos h]
  · rw [if_neg h, if_neg (by omega), if_neg (by omega)]
theorem mx8_i {c : Nat} (h : c < 2 ^ 31) : (if nI c < (100000000 : Int32) then nI c else 100000000) = nI (mx8 c) := by
  unfold mx8
  by_cases d : c < 100000000
  · rw [if_pos (show nI c < (100000000 : Int32) from nI_lt (b := 100000000) d (by omega)), if_pos d]
  · rw [if_neg (show ¬ nI c < (100000000 : Int32) from nI_nlt (b := 100000000) (by omega) h), if_neg d]
    rfl
section Pn
variable {s s' : am_S} {B m i j n p q e b c : Nat} {v v' : Nat → Int32} {F F' : mrT} {T : Nat → Int32} {x y lo hi : Int32} {l : List Int32} {ng : Bool}
theorem byt_no (h : ¬ p < n) : byt T n p = -1 := if_neg h
theorem mk_dig (hC : CT F T n) (hB : B ≤ m) : ∀ k i c v xb, i + k = n → v 9 = nI n → v 10 = nI i → ∃ v', rn_ tb_ct tb_mt B mm_X13_number 73 [.ref m, .int lo, .int hi, .int (if xb = true then 1 else 0), .int (nI (mx8 c))] [] (moS s m v F) = rn_ tb_ct tb_mt B mm_X13_number 135 [.ref m, .int lo, .int hi, .int (if xb = true then 1 else 0), .int (nI (mx8 (q_va T (fi (fun j => !dgB (T j)) i k - i) i c)))] [.int (if xb = true then -(nI (mx8 (q_va T (fi (fun j => !dgB (T j)) i k - i) i c))) else nI (mx8 (q_va T (fi (fun j => !dgB (T j)) i k - i) i c)))] (moS s m v' F) ∧ v' 10 = nI (fi (fun j => !dgB (T j)) i k) ∧ ∀ a, a ≠ 10 → v' a = v a := by
  have hn := hC.1
  have stop : ∀ i c v (xb : Bool), i ≤ n → v 9 = nI n → v 10 = nI i → dgB (byt T n i) = false → rn_ tb_ct tb_mt B mm_X13_number 73 [.ref m, .int lo, .int hi, .int (if xb = true then 1 else 0), .int (nI (mx8 c))] [] (moS s m v F) = rn_ tb_ct tb_mt B mm_X13_number 135 [.ref m, .int lo, .int hi, .int (if xb = true then 1 else 0), .int (nI (mx8 c))] [.int (if xb = true then -(nI (mx8 c)) else nI (mx8 c))] (moS s m v F) := by
    intro i c v xb hi h9 h10 hd
    rw [dc_X13_number_73, mo_cs, eC_s, mk_here hC h9 h10 (by omega), cI_s, mi_in (byt T n i) 48 57 (j2 := 48) (j4 := 57) rfl rfl, cI_s, show bIn (byt T n i) 48 57 = false from hd, if_b, if_neg Bool.false_ne_true]
    cases xb <;> rfl
  intro k
  induction k with
  | zero =>
    intro i c v xb hi h9 h10
    refine ⟨v, ?_, h10, fun _ _ => rfl⟩
    rw [stop i c v xb (by omega) h9 h10 (by rw [byt_no (by omega)]; rfl), fi_0, Nat.sub_self]
    rfl
  | succ k ih =>
    intro i c v xb hi h9 h10
    have eb : byt T n i = T i := if_pos (by omega)
    rw [fi_s]
    cases hd : dgB (T i) with
    | false =>
      refine ⟨v, ?_, h10, fun _ _ => rfl⟩
      rw [stop i c v xb (by omega) h9 h10 (by rw [eb]; exact hd)]
      simp only [Bool.not_false, if_true]
      rw [Nat.sub_self]
      rfl
    | true =>
      obtain ⟨d, d9, ed⟩ := dgB_of hd
      obtain ⟨v', r1, r2, r3⟩ := ih (i + 1) (10 * c + d) (upd v 10 (nI (i + 1))) xb (by omega) ((upd_n (by omega)).trans h9) upd_k
      have le := (fi_le (fun j => !dgB (T j)) k (i + 1)).1
      have ev : q_va T (fi (fun j => !dgB (T j)) (i + 1) k - i) i c = q_va T (fi (fun j => !dgB (T j)) (i + 1) k - (i + 1)) (i + 1) (10 * c + d) := by
        rw [show fi (fun j => !dgB (T j)) (i + 1) k - i = (fi (fun j => !dgB (T j)) (i + 1) k - (i + 1)) + 1 by omega]
        show q_va T _ (i + 1) (10 * c + nN (T i - 48)) = _
        rw [ed, dgB_v d9]
      have l8 := mx8_le c
      have ex : (((10 : Int32) * nI (mx8 c)) + nI (48 + d)) - 48 = nI (10 * mx8 c + d) := by
        rw [show (10 : Int32) = nI 10 from rfl, show (48 : Int32) = nI 48 from rfl, nI_mul, nI_add, nI_2 (by omega), show 10 * mx8 c + (48 + d) - 48 = 10 * mx8 c + d by omega]
      have ei : (if (((10 : Int32) * nI (mx8 c)) + nI (48 + d)) - 48 < (100000000 : Int32) then (((10 : Int32) * nI (mx8 c)) + nI (48 + d)) - 48 else 100000000) = nI (mx8 (10 * c + d)) := by
        rw [ex, mx8_i (by omega), mx8_s]
      simp only [Bool.not_true, Bool.false_eq_true, if_false]
      rw [ev]
      refine ⟨v', ?_, r2, fun a h10 => (r3 a h10).trans (upd_n h10)⟩
      rw [dc_X13_number_73, mo_cs, eC_s, mk_here hC h9 h10 (by omega), cI_s, mi_in (byt T n i) 48 57 (j2 := 48) (j4 := 57) rfl rfl, cI_s, eb, show bIn (T i) 48 57 = true from hd, if_b, if_pos rfl, mo_cs, eC_s, mk_here hC h9 h10 (by omega), cI_s, eb, mo_10s, eI_s, h10, nI_1, mp_10s hB, eS_s, ed, ei, r1]
theorem mk_number_err (h12 : v 12 ≠ 0) : cl_ tb_ct tb_mt B K_X13_number [.ref m, .int lo, .int hi] (moS s m v F) = some (.inl (some (.int lo)), moS s m v F) := by
  rw [in_X13_number, dc_X13_number_0, mo_12s, eI_s, if_neg h12]
theorem mk_number (hC : CT F T n) (hB : B ≤ m) (h9 : v 9 = nI n) (h10 : v 10 = nI p) (hp : p ≤ n) (h12 : v 12 = 0) (l1 : -1000000 ≤ lo.toInt) (l2 : lo.toInt ≤ 1000000) (l3 : -1000000 ≤ hi.toInt) (l4 : hi.toInt ≤ 1000000) (hng : ng = decide (lo < 0)) : ∃ v' x, cl_ tb_ct tb_mt B K_X13_number [.ref m, .int lo, .int hi] (moS s m v F) = some (.inl (some (.int x)), moS s m v' F) ∧ VK v v' ∧ (¬ q_nu T n ng (q_sp T n p) = true → v' 12 = nI 1 ∧ v' 13 = nI (q_sp T n p)) ∧ (q_nu T n ng (q_sp T n p) = true → (q_v T n (q_sp T n p) < lo.toInt ∨ hi.toInt < q_v T n (q_sp T n p)) → v' 12 = nI 2 ∧ v' 13 = nI (q_sp T n p)) ∧ (q_nu T n ng (q_sp T n p) = true → ¬ (q_v T n (q_sp T n p) < lo.toInt ∨ hi.toInt < q_v T n (q_sp T n p)) → x = Int32.ofInt (q_v T n (q_sp T n p)) ∧ v' 12 = 0 ∧ v' 10 = nI (q_e T n (q_sp T n p))) := by
  have hn := hC.1
  obtain ⟨v1, a1, a2, a3, a4⟩ := mk_next (s := s) hC hB h9 h10 hp
  have hq := q_sp_le (T := T) hp
  have b9 : v1 9 = nI n := (a4 9 (by omega) (by omega)).trans h9
  have b12 : v1 12 = 0 := (a4 12 (by omega) (by omega)).trans h12
  have vk1 : VK v v1 := fun k hk => a4 k (by omega) (by omega)
  generalize q_sp T n p = P at *
  have e27 : cl_ tb_ct tb_mt B K_X13_number [.ref m, .int lo, .int hi] (moS s m v F) = rn_ tb_ct tb_mt B mm_X13_number 42 [.ref m, .int lo, .int hi, .int (if (ng && q_ng T n P) = true then 1 else 0), am_un] [.int (if (ng && q_ng T n P) = true then 1 else 0), .int (nI P), .ref m] (moS s m v1 F) := by
    rw [in_X13_number, dc_X13_number_0, mo_12s, eI_s, if_pos h12, mo_cs, eC_s, a1, cI_s]
    unfold q_ng
    by_cases c : byt T n P = 45
    · rw [if_pos c, decide_eq_true c]
      by_cases d : lo < 0
      · rw [if_neg (Int32.not_le.mpr d), hng, decide_eq_true d, dc_X13_number_27, mo_10s, eI_s, a2]
        rfl
      · rw [if_pos (Int32.not_lt.mp d), hng, decide_eq_false d, dc_X13_number_26, dc_X13_number_27, mo_10s, eI_s, a2]
        rfl
    · rw [if_neg c, decide_eq_false c, Bool.and_false, dc_X13_number_26, dc_X13_number_27, mo_10s, eI_s, a2]
      rfl
  have hP0 : (if (ng && q_ng T n P) = true then P + 1 else P) ≤ n ∧ q_nu T n ng P = dgB (byt T n (if (ng && q_ng T n P) = true then P + 1 else P)) ∧ (q_nu T n ng P = true → (ng && q_ng T n P) = q_ng T n P ∧ q_i0 T n P = if (ng && q_ng T n P) = true then P + 1 else P) := by
    unfold q_nu q_i0
    by_cases c : byt T n P = 45
    · have hlt : P < n := by
        apply Nat.lt_of_not_le
        intro hc
        rw [byt_no (by omega)] at c
        exact absurd c (by decide)
      have hg : q_ng T n P = true := decide_eq_true c
      rw [hg, c]
      cases ng with
      | true => exact ⟨hlt, rfl, fun _ => ⟨rfl, rfl⟩⟩
      | false =>
        refine ⟨hq.2, ?_, fun h => absurd h ?_⟩
        · show dgB 45 = dgB (byt T n P)
          rw [c]
        · show ¬ dgB 45 = true
          decide
    · have hg : q_ng T n P = false := decide_eq_false c
      rw [hg, Bool.and_false, Bool.false_and, Bool.and_false, Bool.or_false]
      exact ⟨hq.2, rfl, fun _ => ⟨rfl, rfl⟩⟩
  obtain ⟨p1, p2, p3⟩ := hP0
  have e42 : cl_ tb_ct tb_mt B K_X13_number [.ref m, .int lo, .int hi] (moS s m v F) = if q_nu T n ng P = true then rn_ tb_ct tb_mt B mm_X13_number 73 [.ref m, .int lo, .int hi, .int (if (ng && q_ng T n P) = true then 1 else 0), .int 0] [] (moS s m (upd v1 10 (nI (if (ng && q_ng T n P) = true then P + 1 else P))) F) else some (.inl (some (.int lo)), moS s m (upd (upd (upd v1 10 (nI (if (ng && q_ng T n P) = true then P + 1 else P))) 12 1) 13 (nI P)) F) := by
    have ep : nI P + (if (ng && q_ng T n P) = true then (1 : Int32) else 0) = nI (if (ng && q_ng T n P) = true then P + 1 else P) := by
      cases (ng && q_ng T n P) with
      | true => exact nI_1 _
      | false => exact Int32.add_zero _
    have c9 : upd v1 10 (nI (if (ng && q_ng T n P) = true then P + 1 else P)) 9 = nI n := (upd_n (by omega)).trans b9
    have c12 : upd v1 10 (nI (if (ng && q_ng T n P) = true then P + 1 else P)) 12 = 0 := (upd_n (by omega)).trans b12
    rw [e27, dc_X13_number_42, ep, mp_10s hB, eS_s, mo_cs, eC_s, mk_here hC c9 upd_k (by omega), cI_s, mi_in (byt T n (if (ng && q_ng T n P) = true then P + 1 else P)) 48 57 (j2 := 48) (j4 := 57) rfl rfl, cI_s, if_b, p2, show bIn (byt T n (if (ng && q_ng T n P) = true then P + 1 else P)) 48 57 = dgB (byt T n (if (ng && q_ng T n P) = true then P + 1 else P)) from rfl]
    cases dgB (byt T n (if (ng && q_ng T n P) = true then P + 1 else P)) with
    | true => rw [if_pos rfl, if_pos rfl]
    | false => rw [if_neg Bool.false_ne_true, if_neg Bool.false_ne_true, mo_cs, eC_s, mk_fails hB c12, cV_s, show upd v1 10 (nI (if (ng && q_ng T n P) = true then P + 1 else P)) 11 = nI P from (upd_n (by omega)).trans a3]
  rw [e42]
  by_cases c : q_nu T n ng P = true
  · rw [if_pos c]
    obtain ⟨p4, p5⟩ := p3 c
    rw [← p5] at p1 ⊢
    obtain ⟨v2, r1, r2, r3⟩ := mk_dig (s := s) (lo := lo) (hi := hi) hC hB (n - q_i0 T n P) (q_i0 T n P) 0 (upd v1 10 (nI (q_i0 T n P))) (ng && q_ng T n P) (by omega) ((upd_n (by omega)).trans b9) upd_k
    have ee : fi (fun j => !dgB (T j)) (q_i0 T n P) (n - q_i0 T n P) = q_e T n P := rfl
    have e0 : nI (mx8 0) = 0 := rfl
    rw [e0] at r1
    rw [ee] at r1 r2
    have ev : q_va T (q_e T n P - q_i0 T n P) (q_i0 T n P) 0 = q_va0 T n P := rfl
    rw [ev, p4] at r1
    rw [p4, r1, dc_X13_number_135]
    have vk2 : VK v v2 := fun k hk => (r3 k (by omega)).trans ((upd_n (by omega)).trans (vk1 k hk))
    have k12 : v2 12 = 0 := (r3 12 (by omega)).trans ((upd_n (by omega)).trans b12)
    have k11 : v2 11 = nI P := (r3 11 (by omega)).trans ((upd_n (by omega)).trans a3)
    obtain ⟨n1, n2⟩ := nv_cmp (ng := q_ng T n P) (L := lo) (M := hi) (mx8_nv (q_va0 T n P)) rfl rfl l1 l2 l3 l4
    have qv : (if q_ng T n P = true then -(q_va0 T n P : Int) else (q_va0 T n P : Int)) = q_v T n P := rfl
    rw [qv] at n1 n2
    rw [mi_in _ lo hi rfl rfl, cI_s, if_b]
    by_cases d : q_v T n P < lo.toInt ∨ hi.toInt < q_v T n P
    · have bn : bIn (if q_ng T n P = true then -(nI (mx8 (q_va0 T n P))) else nI (mx8 (q_va0 T n P))) lo hi = false := by
        unfold bIn
        rcases n1.mpr d with h | h
        · rw [decide_eq_true h]
          rfl
        · rw [decide_eq_true (Int32.not_le.mp h), Bool.and_comm]
          rfl
      rw [bn, if_neg Bool.false_ne_true, mo_cs, eC_s, mk_fails hB k12, cV_s, k11]
      refine ⟨_, _, rfl, fun k hk => ?_, fun h => absurd c h, fun _ _ => ⟨?_, upd_k⟩, fun _ h => absurd d h⟩
      · rw [upd_n (by omega), upd_n (by omega)]
        exact vk2 k hk
      · rw [upd_n (by omega)]
        exact upd_k
    · have bn : bIn (if q_ng T n P = true then -(nI (mx8 (q_va0 T n P))) else nI (mx8 (q_va0 T n P))) lo hi = true := by
        unfold bIn
        rw [decide_eq_false (fun h => d (n1.mp (Or.inl h))), decide_eq_false (fun h => d (n1.mp (Or.inr (Int32.not_le.mpr h))))]
        rfl
      rw [bn, if_pos rfl]
      exact ⟨_, _, rfl, vk2, fun h => absurd c h, fun _ h => absurd h d, fun _ _ => ⟨n2 d, k12, r2⟩⟩
  · rw [if_neg c]
    refine ⟨_, _, rfl, fun k hk => ?_, fun _ => ⟨?_, upd_k⟩, fun h => absurd h c, fun h => absurd h c⟩
    · rw [upd_n (by omega), upd_n (by omega), upd_n (by omega)]
      exact vk1 k hk
    · rw [upd_n (by omega)]
      exact upd_k
/-- whether a number comes -/
theorem mk_isNumber (hC : CT F T n) (hB : B ≤ m) (h9 : v 9 = nI n) (h10 : v 10 = nI p) (hp : p ≤ n) (h12 : v 12 = 0) : ∃ v', cl_ tb_ct tb_mt B K_X13_isNumber [.ref m] (moS s m v F) = some (.inl (some (.int (if dgB (byt T n (q_sp T n p)) = true then 1 else 0))), moS s m v' F) ∧ v' 10 = nI (q_sp T n p) ∧ v' 12 = 0 ∧ VK v v' := by
  obtain ⟨v1, a1, a2, a3, a4⟩ := mk_next (s := s) hC hB h9 h10 hp
  refine ⟨v1, ?_, a2, (a4 12 (by omega) (by omega)).trans h12, fun k hk => a4 k (by omega) (by omega)⟩
  rw [in_X13_isNumber, dc_X13_isNumber_0, mo_12s, eI_s, if_pos h12, mo_cs, eC_s, a1, cI_s, mi_in (byt T n (q_sp T n p)) 48 57 (j2 := 48) (j4 := 57) rfl rfl, cI_s, if_b, show bIn (byt T n (q_sp T n p)) 48 57 = dgB (byt T n (q_sp T n p)) from rfl]
  cases dgB (byt T n (q_sp T n p)) <;> rfl
theorem mk_isNumber_err (h12 : v 12 ≠ 0) : cl_ tb_ct tb_mt B K_X13_isNumber [.ref m] (moS s m v F) = some (.inl (some (.int 0)), moS s m v F) := by
  rw [in_X13_isNumber, dc_X13_isNumber_0, mo_12s, eI_s, if_neg h12]
theorem mk_told_err (h12 : v 12 ≠ 0) : cl_ tb_ct tb_mt B K_X13_told [.ref m, .int x, .int y] (moS s m v F) = some (.inl (some (.int x)), moS s m v F) := by
  rw [in_X13_told, dc_X13_told_0, mo_cs, eC_s, mk_isNumber_err h12, cI_s, if_pos rfl]
end Pn
