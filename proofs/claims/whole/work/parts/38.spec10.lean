theorem sg_T {T : Nat → Nat} {n t : Nat} (h : 1 ≤ sg T n t) : t < n ∧ sg T n t = T t := by
  unfold sg at h ⊢
  by_cases q : t < n
  · rw [if_pos q]
    exact ⟨q, rfl⟩
  · rw [if_neg q] at h
    omega
def sgE (T : Nat → Nat) (n t c : Nat) : Nat := if sg T n t = c then t + 1 else t
def hxE (T : Nat → Nat) (n t : Nat) : Nat := if hxP (sg T n t) then t + 1 else t
def hxW (T : Nat → Nat) (n t m : Nat) : Nat := if hxP (sg T n t) then m * 16 + hxV (sg T n t) else m
theorem at_nat {lo hi c : Nat} (h1 : lo < 127) (h2 : hi < 127) (h3 : c < 127) : (nI lo ≤ nI c ∧ nI c ≤ nI hi) ↔ (lo ≤ c ∧ c ≤ hi) := by
  rw [nI_leI (by omega) (by omega), nI_leI (by omega) (by omega)]
theorem sg_in {T : Nat → Nat} {n t : Nat} (h : t < n) : sg T n t = T t := by
  unfold sg
  rw [if_pos h]
theorem sg_out {T : Nat → Nat} {n t : Nat} (h : n ≤ t) : sg T n t = 0 := by
  unfold sg
  rw [if_neg (by omega)]
theorem upd_upd (N : Nat → Int32) (k : Nat) (x y : Int32) (q : Nat) : upd (upd N k x) k y q = upd N k y q := by
  unfold upd
  by_cases h : q = k
  · rw [if_pos h, if_pos h]
  · rw [if_neg h, if_neg h, if_neg h]
