theorem nI_inj {a b : Nat} (ha : a < 2147483648) (hb : b < 2147483648) (h : nI a = nI b) : a = b := (nI_eq ha hb).mp h
theorem isC_lt {c r : Nat} (h : CN (nI c) (nI r)) (hc : c < 10) (hr : r < 10) : c < 5 ∧ r < 4 := by
  obtain ⟨i, j, hi, hj, e1, e2⟩ := isC_nat h
  have := nI_inj (by omega) (by omega) e1
  have := nI_inj (by omega) (by omega) e2
  omega
theorem rfz_c {G : Nat → Nat → Int32} {c r : Nat} (h : rfz G (nI c) (nI r) = 0) (hc : c < 10) (hr : r < 10) : c < 5 ∧ r < 4 := by
  obtain ⟨i, j, hi, hj, e1, e2⟩ := rfz_0 h
  have := nI_inj (by omega) (by omega) e1
  have := nI_inj (by omega) (by omega) e2
  omega
abbrev runInv (T : Nat → Nat) (n : Nat) (G : Nat → Nat → Int32) (it pos cnt rs : Nat) (cz_ : Int32) (K : Nat → Nat → Int32) : Prop := (rs = 0 ∧ cz_ = 0 ∧ 4 * it ≤ pos ∧ runS T n (61 - it) pos cnt K = rnA T n G) ∨ (¬ rs = 0 ∧ (rs, pos, cnt, cz_, K) = rnA T n G)
theorem inv_l {T : Nat → Nat} {n : Nat} {G : Nat → Nat → Int32} {it pos cnt rs : Nat} {cz_ : Int32} {K : Nat → Nat → Int32} (h : runInv T n G it pos cnt rs cz_ K) (hr : rs = 0) : cz_ = 0 ∧ 4 * it ≤ pos ∧ runS T n (61 - it) pos cnt K = rnA T n G := by
  rcases h with h | h
  · exact h.2
  · exact absurd hr h.1
theorem inv_none {T : Nat → Nat} {n : Nat} {G : Nat → Nat → Int32} {it pos cnt : Nat} {cz_ : Int32} {K : Nat → Nat → Int32} (hz : cz_ = 0) (h : runS T n (61 - it) pos cnt K = rnA T n G) (hi : it < 60) (hp : pos < n) (hr : ¬ ¬ rd T n pos = none) : runInv T n G (it + 1) pos cnt 1 cz_ K := by
  refine Or.inr ⟨by decide, ?_⟩
  rw [← h, show 61 - it = (60 - it) + 1 by omega, runS_none hp (Classical.not_not.mp hr), hz]
theorem inv_bad {T : Nat → Nat} {n : Nat} {G : Nat → Nat → Int32} {it pos cnt : Nat} {K : Nat → Nat → Int32} {q : Cmd} (h : runS T n (61 - it) pos cnt K = rnA T n G) (hi : it < 60) (hp : pos < n) (hr : rd T n pos = some q) (hz : ¬ exZ q K = 0) : runInv T n G (it + 1) pos cnt 2 (exZ q K) (exG q K) := by
  refine Or.inr ⟨by decide, ?_⟩
  rw [← h, show 61 - it = (60 - it) + 1 by omega, runS_bad hp hr hz]
theorem inv_go {T : Nat → Nat} {n : Nat} {G : Nat → Nat → Int32} {it pos cnt : Nat} {K : Nat → Nat → Int32} {q : Cmd} (h : runS T n (61 - it) pos cnt K = rnA T n G) (hl : 4 * it ≤ pos) (hi : it < 60) (hp : pos < n) (hr : rd T n pos = some q) (hz : exZ q K = 0) : runInv T n G (it + 1) q.2.2.2.2.2.2 (cnt + 1) 0 (exZ q K) (exG q K) := by
  refine Or.inl ⟨rfl, hz, ?_, ?_⟩
  · have := rd_ok hr
    omega
  · rw [← h, show 61 - it = (61 - (it + 1)) + 1 by omega, runS_go hp hr hz]
theorem inv_end {T : Nat → Nat} {n : Nat} {G : Nat → Nat → Int32} {it pos cnt rs : Nat} {cz_ : Int32} {K : Nat → Nat → Int32} (h : runInv T n G it pos cnt rs cz_ K) (hn : n ≤ 60) (he : 60 ≤ it ∨ n ≤ pos ∨ ¬ rs = 0) : rnA T n G = (rs, pos, cnt, cz_, K) := by
  rcases h with ⟨h1, h2, h3, h4⟩ | h
  · rw [← h4, runS_end (by omega), h1, h2]
  · exact h.2.symm
theorem inv_0 (T : Nat → Nat) (n : Nat) (G : Nat → Nat → Int32) : runInv T n G 0 0 0 0 (nI 0) G := Or.inl ⟨rfl, rfl, by decide, rfl⟩
def zB (n : Nat) : Bool := decide (n = 0)
theorem runS_le (T : Nat → Nat) (n : Nat) : ∀ f pos cnt G, (runS T n f pos cnt G).1 ≤ 2
  | 0, _, _, _ => Nat.zero_le 2
  | f + 1, pos, cnt, G => by
    by_cases h : pos < n
    · rcases hr : rd T n pos with _ | q
      · rw [runS_none h hr]
        show 1 ≤ 2
        decide
      · by_cases hz : exZ q G = 0
        · rw [runS_go h hr hz]
          exact runS_le T n f _ _ _
        · rw [runS_bad h hr hz]
          exact Nat.le_refl 2
    · rw [runS_end (by omega)]
      exact Nat.zero_le 2
theorem rnR_le (T : Nat → Nat) (n : Nat) (G : Nat → Nat → Int32) : rnR T n G ≤ 2 := runS_le T n 61 0 0 G
