theorem pcB_1 (b : Bool) (P : Nat → Nat → Nat → Int32) (n : Nat) (G : Nat → Nat → Int32) : pcB b 1 P n G = P := by
  cases b
  · rfl
  · rfl
theorem pnB_1 (b : Bool) (n : Nat) : pnB b 1 n = n := by
  cases b
  · rfl
  · rfl
