/-- the sum of a packed colour's parts -/
def smI (x : Int32) : Int32 := x / nI 65536 + (x / nI 256 - x / nI 256 / nI 256 * nI 256) + (x - x / nI 256 * nI 256)
theorem smI_nat {a b c : Nat} (ha : a ≤ 255) (hb : b ≤ 255) (hc : c ≤ 255) : smI (pk3 (nI a) (nI b) (nI c)) = nI (a + b + c) := by
  unfold smI pk3
  rw [pk_mul, pk_mul, nI_add, nI_add, pk_div (by omega) (by decide) (by decide), pk_div (by omega) (by decide) (by decide), pk_rem (by omega) (by decide) (by decide), pk_mul, pk_sub (by omega), nI_add, nI_add]
  congr 1
  omega
theorem palC_lk (G : Nat → Nat → Int32) (p k : Nat) : palC G p 3 k = lkF G p k := by
  obtain ⟨a, ha, ea⟩ := inR_nat (M := 255) (col_in G p (k % 9) (k / 9) 0)
  obtain ⟨b, hb, eb⟩ := inR_nat (M := 255) (col_in G p (k % 9) (k / 9) 1)
  obtain ⟨c, hc, ec⟩ := inR_nat (M := 255) (col_in G p (k % 9) (k / 9) 2)
  show (((nI 0 <<< (nI 8 &&& 31)) ||| colG G p (k % 9) (k / 9) 0) <<< (nI 8 &&& 31) ||| colG G p (k % 9) (k / 9) 1) <<< (nI 8 &&& 31) ||| colG G p (k % 9) (k / 9) 2 = pk3 (colG G p (k % 9) (k / 9) 0) (colG G p (k % 9) (k / 9) 1) (colG G p (k % 9) (k / 9) 2)
  rw [ea, eb, ec]
  rw [pk_shlN (nI 8 &&& 31) 8 (by decide) (by omega), nI_or (by omega) (by omega), or_low (k := 8) (by omega)]
  rw [pk_shlN (nI 8 &&& 31) 8 (by decide) (by omega), nI_or (by omega) (by omega), or_low (k := 8) (by omega)]
  rw [pk_shlN (nI 8 &&& 31) 8 (by decide) (by omega), nI_or (by omega) (by omega), or_low (k := 8) (by omega)]
  unfold pk3
  rw [pk_mul, pk_mul, nI_add, nI_add]
  congr 1
  omega
theorem palS_lk (G : Nat → Nat → Int32) (p k : Nat) : smI (lkF G p k) = palS G p 3 k ∧ ¬ palS G p 3 k < 0 := by
  obtain ⟨a, ha, ea⟩ := inR_nat (M := 255) (col_in G p (k % 9) (k / 9) 0)
  obtain ⟨b, hb, eb⟩ := inR_nat (M := 255) (col_in G p (k % 9) (k / 9) 1)
  obtain ⟨c, hc, ec⟩ := inR_nat (M := 255) (col_in G p (k % 9) (k / 9) 2)
  have e1 : palS G p 3 k = nI (a + b + c) := by
    show nI 0 + colG G p (k % 9) (k / 9) 0 + colG G p (k % 9) (k / 9) 1 + colG G p (k % 9) (k / 9) 2 = nI (a + b + c)
    rw [ea, eb, ec, nI_add, nI_add, nI_add, Nat.zero_add]
  refine ⟨?_, ?_⟩
  · rw [e1]
    unfold lkF
    rw [ea, eb, ec]
    exact smI_nat ha hb hc
  · rw [e1]
    exact nI_pos (by omega)
theorem maxI_pos {g : Nat → Int32} (h : ∀ k, ¬ g k < 0) : ∀ n, ¬ maxI g n < 0
  | 0 => h 0
  | n + 1 => by
    show ¬ (if maxI g n < g n then g n else maxI g n) < 0
    split
    · exact h n
    · exact maxI_pos h n
theorem minI_pos {g : Nat → Int32} (h : ∀ k, ¬ g k < 0) : ∀ n, ¬ minI g n < 0
  | 0 => h 0
  | n + 1 => by
    show ¬ (if g n < minI g n then g n else minI g n) < 0
    split
    · exact h n
    · exact minI_pos h n
abbrev smInv (m : (Nat → Int32) → Nat → Int32) (g : Nat → Int32) (k : Nat) (x : Int32) : Prop := (k = 0 ∧ x = (-1004)) ∨ (0 < k ∧ x = m g k)
theorem sm_first {g : Nat → Int32} {k : Nat} {x v : Int32} (hg : ∀ k, ¬ g k < 0) (h : smInv maxI g k x) (hv : v = g k) (c : x < 0) : smInv maxI g (k + 1) v := by
  refine Or.inr ⟨by omega, ?_⟩
  rcases h with ⟨h1, h2⟩ | ⟨h1, h2⟩
  · subst h1
    show v = (if g 0 < g 0 then g 0 else g 0)
    rw [hv]
    split <;> rfl
  · rw [h2] at c
    exact absurd c (maxI_pos hg k)
theorem sm_firstm {g : Nat → Int32} {k : Nat} {x v : Int32} (hg : ∀ k, ¬ g k < 0) (h : smInv minI g k x) (hv : v = g k) (c : x < 0) : smInv minI g (k + 1) v := by
  refine Or.inr ⟨by omega, ?_⟩
  rcases h with ⟨h1, h2⟩ | ⟨h1, h2⟩
  · subst h1
    show v = (if g 0 < g 0 then g 0 else g 0)
    rw [hv]
    split <;> rfl
  · rw [h2] at c
    exact absurd c (minI_pos hg k)
theorem sm_up {g : Nat → Int32} {k : Nat} {x v : Int32} (h : smInv maxI g k x) (hv : v = g k) (c : ¬ x < 0) (d : ¬ v ≤ x) : smInv maxI g (k + 1) v := by
  rcases h with ⟨h1, h2⟩ | ⟨h1, h2⟩
  · rw [h2] at c
    exact absurd (by decide) c
  · refine Or.inr ⟨by omega, ?_⟩
    show v = (if maxI g k < g k then g k else maxI g k)
    rw [← hv, ← h2, if_pos (Int32.not_le.mp d)]
theorem sm_keep {g : Nat → Int32} {k : Nat} {x v : Int32} (h : smInv maxI g k x) (hv : v = g k) (c : ¬ x < 0) (d : v ≤ x) : smInv maxI g (k + 1) x := by
  rcases h with ⟨h1, h2⟩ | ⟨h1, h2⟩
  · rw [h2] at c
    exact absurd (by decide) c
  · refine Or.inr ⟨by omega, ?_⟩
    show x = (if maxI g k < g k then g k else maxI g k)
    rw [← hv, ← h2, if_neg (Int32.not_lt.mpr d)]
theorem sm_upm {g : Nat → Int32} {k : Nat} {x v : Int32} (h : smInv minI g k x) (hv : v = g k) (c : ¬ x < 0) (d : ¬ x ≤ v) : smInv minI g (k + 1) v := by
  rcases h with ⟨h1, h2⟩ | ⟨h1, h2⟩
  · rw [h2] at c
    exact absurd (by decide) c
  · refine Or.inr ⟨by omega, ?_⟩
    show v = (if g k < minI g k then g k else minI g k)
    rw [← hv, ← h2, if_pos (Int32.not_le.mp d)]
theorem sm_keepm {g : Nat → Int32} {k : Nat} {x v : Int32} (h : smInv minI g k x) (hv : v = g k) (c : ¬ x < 0) (d : x ≤ v) : smInv minI g (k + 1) x := by
  rcases h with ⟨h1, h2⟩ | ⟨h1, h2⟩
  · rw [h2] at c
    exact absurd (by decide) c
  · refine Or.inr ⟨by omega, ?_⟩
    show x = (if g k < minI g k then g k else minI g k)
    rw [← hv, ← h2, if_neg (Int32.not_lt.mpr d)]
theorem sw4 (z a b c d : Int32) : z + a + b + d + c = z + a + b + c + d := by
  rw [Int32.add_assoc (z + a + b), Int32.add_comm d c, ← Int32.add_assoc]
theorem held_eq (G : Nat → Nat → Int32) (p : Nat) : sumI (fun k => HA G (ca p k)) 4 = sumI (fun k => HA G (cp p k)) 4 := by
  show nI 0 + HA G (ca p 0) + HA G (ca p 1) + HA G (ca p 2) + HA G (ca p 3) = nI 0 + HA G (cp p 0) + HA G (cp p 1) + HA G (cp p 2) + HA G (cp p 3)
  rw [show ca p 0 = cp p 0 from rfl, show ca p 1 = cp p 1 from rfl, show ca p 2 = cp p 3 from rfl, show ca p 3 = cp p 2 from rfl]
  exact sw4 _ _ _ _ _
abbrev neInv (D : Nat → Int32) (k : Nat) (b l : Int32) : Prop := (k = 0 ∧ b = (-1004)) ∨ (0 < k ∧ b = nI (nrB D k).1 ∧ l = (nrB D k).2)
theorem ne_first {D : Nat → Int32} {k : Nat} {b l : Int32} (hk : k < 972) (h0 : D 0 < nI 2000000) (h : neInv D k b l) (c : b < 0) : neInv D (k + 1) (nI k) (D k) := by
  rcases h with ⟨h1, h2⟩ | ⟨h1, h2, h3⟩
  · subst h1
    refine Or.inr ⟨by omega, ?_⟩
    have e : nrB D 1 = (0, D 0) := by
      show (if D 0 < nI 2000000 then (0, D 0) else (0, nI 2000000)) = (0, D 0)
      rw [if_pos h0]
    rw [e]
    exact ⟨rfl, rfl⟩
  · rw [h2] at c
    have := nrB_lt D k
    exact absurd c (nI_pos (by omega))
theorem ne_up {D : Nat → Int32} {k : Nat} {b l : Int32} (h : neInv D k b l) (c : ¬ b < 0) (d : ¬ l ≤ D k) : neInv D (k + 1) (nI k) (D k) := by
  rcases h with ⟨h1, h2⟩ | ⟨h1, h2, h3⟩
  · rw [h2] at c
    exact absurd (by decide) c
  · refine Or.inr ⟨by omega, ?_⟩
    rw [nrB_t rfl h3 (Int32.not_le.mp d)]
    exact ⟨rfl, rfl⟩
theorem ne_keep {D : Nat → Int32} {k : Nat} {b l : Int32} (h : neInv D k b l) (c : ¬ b < 0) (d : l ≤ D k) : neInv D (k + 1) b l := by
  rcases h with ⟨h1, h2⟩ | ⟨h1, h2, h3⟩
  · rw [h2] at c
    exact absurd (by decide) c
  · refine Or.inr ⟨by omega, ?_⟩
    rw [nrB_f rfl h3 (Int32.not_lt.mpr d)]
    exact ⟨h2, h3⟩
theorem sm_end {m : (Nat → Int32) → Nat → Int32} {g : Nat → Int32} {k : Nat} {x : Int32} (h : smInv m g k x) (hk : k = 81) : x = m g 81 := by
  subst hk
  rcases h with ⟨q1, q2⟩ | ⟨q1, q2⟩
  · omega
  · exact q2
