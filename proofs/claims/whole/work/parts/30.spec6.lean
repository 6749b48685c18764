theorem MA_at (G : Nat → Nat → Int32) (e k w : Nat) (h : e = 12 * k + w) (hw : w < 12) : MA G e = G k w := by
  subst h
  unfold MA
  rw [show (12 * k + w) / 12 = k by omega, show (12 * k + w) % 12 = w by omega]
def flI (x y : Int32) : Int32 := if x < 0 then -((y - nI 1 - x) / y) else x / y
theorem atk_0 {c r : Nat} (hc : c < 5) : atk (r * 5 + c) 0 = c := by
  show (r * 5 + c) % 5 = c
  omega
theorem atk_1 {c r : Nat} (hc : c < 5) : atk (r * 5 + c) 1 = r := by
  show (r * 5 + c) / 5 = r
  omega
def bes (G : Nat → Nat → Int32) (c r : Int32) (i : Nat) : Int32 := if CN c r then G (cn c r) (2 + i) else nI 0
def mny (c r : Nat) : Nat := (if 0 < c then 1 else 0) + (if c < 4 then 1 else 0) + (if 0 < r then 1 else 0) + (if r < 3 then 1 else 0)
theorem mny_in {c r : Nat} (hc : c < 5) (hr : r < 4) : 0 < mny c r ∧ mny c r < 5 := by
  unfold mny
  split <;> split <;> split <;> split <;> omega
def cbI (k : Nat) (t : Int32) : Int32 := if k < 2 then wP t k else wS t (k - 2)
theorem cbI_lo {k : Nat} (t : Int32) (h : k < 2) : cbI k t = wP t k := by
  unfold cbI
  rw [if_pos h]
theorem cbI_hi {k : Nat} {t : Int32} : cbI (2 + k) t = wS t k := by
  unfold cbI
  rw [if_neg (by omega), show 2 + k - 2 = k by omega]
theorem add4 (s a b c : Int32) : s + a + b + c = s + (a + b + c) := by
  rw [Int32.add_assoc, Int32.add_assoc, Int32.add_assoc]
theorem clp_lo {q x : Int32} (h : x < 0) (e : x = q) : clp q = nI 0 := by
  subst e
  have h1 : x < nI 255 := Int32.lt_trans h (by decide)
  unfold clp
  rw [if_pos h1, if_neg (show ¬ nI 0 < x from Int32.not_lt.mpr (Int32.le_of_lt h))]
theorem clp_hi {q x : Int32} (h : nI 255 < x) (e : x = q) : clp q = nI 255 := by
  subst e
  unfold clp
  rw [if_neg (Int32.not_lt.mpr (Int32.le_of_lt h)), if_pos (by decide)]
theorem clp_mid {q x : Int32} (h : 0 ≤ x ∧ x ≤ nI 255) (e : x = q) : clp q = x := by
  subst e
  have hm : (if x < nI 255 then x else nI 255) = x := by
    by_cases q : x < nI 255
    · rw [if_pos q]
    · rw [if_neg q]
      exact Int32.le_antisymm (Int32.not_lt.mp q) h.2
  unfold clp
  rw [hm]
  by_cases q : nI 0 < x
  · rw [if_pos q]
  · rw [if_neg q]
    exact Int32.le_antisymm h.1 (Int32.not_lt.mp q)
theorem fo_old {G : Nat → Nat → Int32} {p j : Nat} {x : Int32} (h : BB (∃ t, t < j ∧ turnI G p t ≤ 0) x) (c : ¬ x = 0) : BB (∃ t, t < j + 1 ∧ turnI G p t ≤ 0) (nI 1) := by
  rcases h with ⟨⟨t, h1, h2⟩, h3⟩ | ⟨h1, h2⟩
  · exact Or.inl ⟨⟨t, by omega, h2⟩, rfl⟩
  · exact absurd h2 c
theorem fo_yes {G : Nat → Nat → Int32} {p j : Nat} (c : turnI G p j ≤ 0) : BB (∃ t, t < j + 1 ∧ turnI G p t ≤ 0) (nI 1) := Or.inl ⟨⟨j, by omega, c⟩, rfl⟩
theorem fo_no {G : Nat → Nat → Int32} {p j : Nat} {x : Int32} (h : BB (∃ t, t < j ∧ turnI G p t ≤ 0) x) (c : x = 0) (d : 0 < turnI G p j) : BB (∃ t, t < j + 1 ∧ turnI G p t ≤ 0) (nI 0) := by
  rcases h with ⟨⟨t, h1, h2⟩, h3⟩ | ⟨h1, h2⟩
  · rw [h3] at c
    exact absurd c (by decide)
  · refine Or.inr ⟨fun ⟨t, h3, h4⟩ => ?_, rfl⟩
    rcases Nat.lt_or_ge t j with q | q
    · exact h1 ⟨t, q, h4⟩
    · rw [show t = j by omega] at h4
      exact absurd d (Int32.not_lt.mpr h4)
theorem fo_fin {G : Nat → Nat → Int32} {p : Nat} {x : Int32} (h : BB (∃ t, t < 4 ∧ turnI G p t ≤ 0) x) : BB (foldB G p = true) x := by
  rcases h with ⟨⟨t, h1, h2⟩, h3⟩ | ⟨h1, h2⟩
  · exact Or.inl ⟨foldB_t h1 h2, h3⟩
  · exact Or.inr ⟨foldB_f (fun t ht q => h1 ⟨t, ht, q⟩), h2⟩
theorem flI_2 {G : Nat → Nat → Int32} (hG : OKG G) {k j i : Nat} (hk : k < 20) (hj : j < 20) (hi : i < 3) : flI (G k (2 + i) - G j (2 + i)) (nI 2) = fdv (G k (2 + i) - G j (2 + i)) (nI 2) := by
  unfold flI
  exact fl_fd (Or.inl rfl) (bd_le (bd_df (M := 255) (by decide) (pr_in hG hk hi) (pr_in hG hj hi)) (by decide))
theorem flI_col {G : Nat → Nat → Int32} (hG : OKG G) {p u v i : Nat} (hp : p < 12) (hu : u < 9) (hv : v < 9) (hi : i < 3) {m : Int32} (hm : m = sumI (blT (bP G p i) (bR G p i) (bC G p i) u v) 4) : flI m (nI 262144) = fdv (sumI (blT (bP G p i) (bR G p i) (bC G p i) u v) 4) (nI 262144) := by
  subst hm
  unfold flI
  exact fl_fd (Or.inr rfl) (bd_le (sum_bd (fun k hk => blT_bd hG hp hu hv hi hk) (by decide)) (by decide))
