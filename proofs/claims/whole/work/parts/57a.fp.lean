/-! quotients that are no NaN -/
theorem q_dok : ∀ b : Nat, b < 121 → ∀ a : Nat, a < 121 → b = 0 ∨ (FP.ddiv (FP.i2d (nI a)) (FP.i2d (nI b))) &&& 0x7fffffffffffffff ≤ 0x7ff0000000000000 := by decide +kernel
theorem q_fok : ∀ b : Nat, b < 9 → ∀ a : Nat, a < 1217 → b = 0 ∨ ((FP.fdiv (FP.i2f (nI a)) (FP.i2f (nI b))) &&& 0x7fffffff ≤ 0x7f800000 ∧ (FP.f2d (FP.fdiv (FP.i2f (nI a)) (FP.i2f (nI b)))) &&& 0x7fffffffffffffff ≤ 0x7ff0000000000000) := by decide +kernel
