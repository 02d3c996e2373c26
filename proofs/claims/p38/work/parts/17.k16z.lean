/-- a sum of charges -/
theorem wd_k {a k m x y : Nat} (h : k ≤ m) : a + k ≤ a + (m + x + y) := by omega
