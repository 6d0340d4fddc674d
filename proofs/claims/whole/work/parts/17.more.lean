section Rules3
variable {ct : List am_C} {mt : List am_M} {B : Nat} {M N : am_M} {pc len r1 r2 r3 k : Nat} {km : List Nat} {x : Instr} {L L' st as rest : List Value} {s : am_S}
theorem rn_z (h : (am_code M).lookup pc = some (x, len, r1, r2, r3, km)) (h5 : am_ins ct mt B (cl_ ct mt B) M pc x len r1 r2 (am_kill km L) st s = none) : rn_ ct mt B M pc L st s = none := by
  rw [rn_eq]
  unfold am_step
  rw [h]
  dsimp only
  rw [h5]
theorem rn_nolk (h : (am_code M).lookup pc = none) : rn_ ct mt B M pc L st s = none := by
  rw [rn_eq]
  unfold am_step
  rw [h]
theorem cl_in (h : mt[k]? = some M) (h1 : am_entry as (am_maxL M) = L) (h2 : L.length = am_maxL M) (h3 : (as.all fun v => decide (v ≠ am_un)) = true) : cl_ ct mt B k as s = rn_ ct mt B M 0 L [] s := by
  rw [cl_eq, h]
  dsimp only
  rw [h1, if_pos ⟨h2, h3⟩]
theorem rn_fdiv {y z : UInt32} (h : (am_code M).lookup pc = some (.fdiv, 1, r1, r2, r3, km)) (hk : am_kill km L = L') : rn_ ct mt B M pc L (.float y :: .float z :: st) s = if (FP.fdiv z y) &&& 0x7fffffff ≤ 0x7f800000 then rn_ ct mt B M (pc + 1) L' (.float (FP.fdiv z y) :: st) s else none := by
  split
  · rename_i hc
    refine rn_go 1 ?_
    simp only [am_go, h, hk, am_pure, if_pos hc]
  · rename_i hc
    refine rn_z h ?_
    simp only [am_ins, hk, am_pure, if_neg hc, am_store, am_jump, am_heap, am_ret]
theorem rn_ddiv {y z : UInt64} (h : (am_code M).lookup pc = some (.ddiv, 1, r1, r2, r3, km)) (hk : am_kill km L = L') : rn_ ct mt B M pc L (.double y :: .double z :: st) s = if (FP.ddiv z y) &&& 0x7fffffffffffffff ≤ 0x7ff0000000000000 then rn_ ct mt B M (pc + 1) L' (.double (FP.ddiv z y) :: st) s else none := by
  split
  · rename_i hc
    refine rn_go 1 ?_
    simp only [am_go, h, hk, am_pure, if_pos hc]
  · rename_i hc
    refine rn_z h ?_
    simp only [am_ins, hk, am_pure, if_neg hc, am_store, am_jump, am_heap, am_ret]
theorem rn_f2d {z : UInt32} (h : (am_code M).lookup pc = some (.f2d, 1, r1, r2, r3, km)) (hk : am_kill km L = L') : rn_ ct mt B M pc L (.float z :: st) s = if (FP.f2d z) &&& 0x7fffffffffffffff ≤ 0x7ff0000000000000 then rn_ ct mt B M (pc + 1) L' (.double (FP.f2d z) :: st) s else none := by
  split
  · rename_i hc
    refine rn_go 1 ?_
    simp only [am_go, h, hk, am_pure, if_pos hc]
  · rename_i hc
    refine rn_z h ?_
    simp only [am_ins, hk, am_pure, if_neg hc, am_store, am_jump, am_heap, am_ret]
theorem rn_max {j : Nat} {y z : Int32} (h : (am_code M).lookup pc = some (.invokestatic j, 3, r1, 29, r3, km)) (hk : am_kill km L = L') (hl : am_w st ≤ 8) : rn_ ct mt B M pc L (.int y :: .int z :: st) s = rn_ ct mt B M (pc + 3) L' (.int (if z < y then y else z) :: st) s := by
  rw [rn_eq]
  unfold am_step
  rw [h]
  dsimp only
  rw [hk]
  simp [am_ins, am_pure, am_store, am_jump, am_heap, am_ret, am_math, hl]
theorem rn_min {j : Nat} {y z : Int32} (h : (am_code M).lookup pc = some (.invokestatic j, 3, r1, 39, r3, km)) (hk : am_kill km L = L') (hl : am_w st ≤ 8) : rn_ ct mt B M pc L (.int y :: .int z :: st) s = rn_ ct mt B M (pc + 3) L' (.int (if y < z then y else z) :: st) s := by
  rw [rn_eq]
  unfold am_step
  rw [h]
  dsimp only
  rw [hk]
  simp [am_ins, am_pure, am_store, am_jump, am_heap, am_ret, am_math, hl]
theorem rn_abs {j : Nat} {z : Int32} (h : (am_code M).lookup pc = some (.invokestatic j, 3, r1, 49, r3, km)) (hk : am_kill km L = L') (hl : am_w st ≤ 8) : rn_ ct mt B M pc L (.int z :: st) s = rn_ ct mt B M (pc + 3) L' (.int (if 0 ≤ z then z else 0 - z) :: st) s := by
  rw [rn_eq]
  unfold am_step
  rw [h]
  dsimp only
  rw [hk]
  simp only [am_ins, am_pure, am_store, am_jump, am_heap, am_ret, am_math, hl]
  rfl
end Rules3
theorem eA_n {f : am_R} {g : Nat → am_R} : eA (some none) f g = f := rfl
theorem eA_s {b : Nat} {f : am_R} {g : Nat → am_R} : eA (some (some b)) f g = g b := rfl
