/-! masks of five bits -/
theorem rk_b1 : ∀ m, m < 32 → ∀ t, t < 5 → ((nI m &&& ((1 : Int32) <<< (nI t &&& 31))) = 0 ↔ m.testBit t = false) := by decide +kernel
theorem rk_b2 : ∀ m, m < 32 → ∀ t, t < 5 → (nI m ||| ((1 : Int32) <<< (nI t &&& 31))) = nI (m ||| 2 ^ t) := by decide +kernel
theorem rk_b3 : ∀ m, m < 32 → ∀ t, t < 5 → (((nI m >>> (nI t &&& 31)) &&& 1) = 1 ↔ m.testBit t = true) := by decide +kernel
theorem rk_b4 : ∀ m, m < 32 → ∀ t, t < 5 → m ||| 2 ^ t < 32 := by decide +kernel
theorem rk_m1 : nI 0 + (-1) = (-1 : Int32) := by decide
theorem rk_nm1 {n : Nat} (h : n < 2 ^ 31) : ¬ nI n = -1 := by
  intro e
  have := congrArg Int32.toInt e
  rw [nI_toInt h, show (-1 : Int32).toInt = -1 from by decide] at this
  omega
theorem rk_5 : nI 5 = 5 := by decide +kernel
theorem rk_120 : nI 120 = 120 := by decide +kernel
theorem rk_3125 : nI 3125 = 3125 := by decide +kernel
