theorem sumN_le (f : Nat → Nat) (b : Nat) (h : ∀ k, f k ≤ b) : ∀ n, sumN f n ≤ n * b
  | 0 => Nat.zero_le _
  | n + 1 => by
    have h1 := sumN_le f b h n
    have h2 := h n
    show sumN f n + f n ≤ (n + 1) * b
    rw [Nat.add_mul, Nat.one_mul]
    omega
theorem toldK_lt (G : Nat → Nat → Int32) (k : Nat) : toldK G k < 7 := by
  have h := sumN_le (toldB G k) 1 (fun j => by unfold toldB; split <;> omega) 6
  unfold toldK
  omega
