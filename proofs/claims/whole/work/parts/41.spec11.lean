theorem nd1 {T : Nat → Nat} {n e : Nat} : nd T n e 1 = if dgP (sg T n e) then 1 else 0 := by
  show (if nd T n e 0 = 0 ∧ dgP (sg T n (e + 0)) then 1 else 0) = _
  by_cases h : dgP (sg T n e)
  · rw [if_pos h, if_pos ⟨rfl, h⟩]
  · rw [if_neg h, if_neg (fun q => h q.2)]
theorem nd1_t {T : Nat → Nat} {n e : Nat} (h : 0 < nd T n e 1) : dgP (sg T n e) ∧ nd T n e 1 = 1 ∧ va T n e (nd T n e 1) = sg T n e - 48 := by
  rw [nd1] at h ⊢
  by_cases q : dgP (sg T n e)
  · rw [if_pos q]
    refine ⟨q, rfl, ?_⟩
    show 0 * 10 + (sg T n (e + 0) - 48) = sg T n e - 48
    rw [Nat.zero_mul, Nat.zero_add, Nat.add_zero]
  · rw [if_neg q] at h
    omega
theorem nd1_f {T : Nat → Nat} {n e : Nat} (h : ¬ 0 < nd T n e 1) : ¬ dgP (sg T n e) := by
  intro q
  rw [nd1, if_pos q] at h
  omega
abbrev mchM (q : Cmd) (u : Int32 × Nat × (Nat → Int32)) : Prop := u.1 = nI q.1 ∧ u.2.1 = q.2.2.2.2.2.2 ∧ u.2.2 0 = nI q.2.1 ∧ u.2.2 1 = nI q.2.2.1 ∧ (q.1 = 99 → u.2.2 2 = nI q.2.2.2.1 ∧ u.2.2 3 = nI q.2.2.2.2.1 ∧ u.2.2 4 = nI q.2.2.2.2.2.1) ∧ (q.1 = 109 → u.2.2 2 = nI q.2.2.2.1 ∧ u.2.2 3 = nI q.2.2.2.2.1)
theorem rd_low {T : Nat → Nat} {n s : Nat} (h : ¬ (33 ≤ sg T n s ∧ sg T n s ≤ 126)) : rd T n s = none := rd_k (fun q => h (by omega)) (fun q => h (by omega)) (fun q => h (by omega))
theorem rd_colon {T : Nat → Nat} {n s : Nat} (hd : dgP (sg T n (s + 1)) ∧ dgP (sg T n (s + 2))) (h1 : ¬ sg T n s = 102) (h : ¬ sg T n (s + 3) = 58) : rd T n s = none := by
  by_cases h2 : sg T n s = 99
  · rw [rd_c hd h2, if_neg (fun q => h q.1.1)]
  · by_cases h3 : sg T n s = 109
    · rw [rd_m hd h3, if_neg (fun q => h q.1.1)]
    · exact rd_k h1 h2 h3
