theorem pcB_1 (b : Bool) (P : Nat → Nat → Nat → Int32) (n : Nat) (G : Nat → Nat → Int32) : pcB b 1 P n G = P := by
  cases b
  · rfl
  · rfl
theorem pnB_1 (b : Bool) (n : Nat) : pnB b 1 n = n := by
  cases b
  · rfl
  · rfl
theorem OK_hold {G : Nat → Nat → Int32} (hG : OKG G) (k : Nat) {x y v : Int32} (hx : inR 0 255 x) (hy : inR 0 255 y) (hv : inR 0 255 v) : OKG (holdG G k x y v) := by
  intro j hj
  obtain ⟨h1, h2, h3, h4, h5⟩ := hG j hj
  refine ⟨h1, h2, fun i hi => ?_, ?_, fun q hq => ?_⟩
  · unfold holdG
    rcases (show i = 0 ∨ i = 1 ∨ i = 2 by omega) with rfl | rfl | rfl
    · by_cases c : j = k
      · rw [if_pos rfl, if_pos c]
        exact hx
      · rw [if_pos rfl, if_neg c]
        exact h3 0 hi
    · by_cases c : j = k
      · rw [if_neg (by decide), if_pos rfl, if_pos c]
        exact hy
      · rw [if_neg (by decide), if_pos rfl, if_neg c]
        exact h3 1 hi
    · by_cases c : j = k
      · rw [if_neg (by decide), if_neg (by decide), if_pos rfl, if_pos c]
        exact hv
      · rw [if_neg (by decide), if_neg (by decide), if_pos rfl, if_neg c]
        exact h3 2 hi
  · unfold holdG
    rw [if_neg (by decide), if_neg (by decide), if_neg (by decide), if_pos rfl]
    by_cases c : j = k
    · rw [if_pos c]
      exact Or.inr rfl
    · rw [if_neg c]
      exact h4
  · unfold holdG
    rw [if_neg (by omega), if_neg (by omega), if_neg (by omega), if_neg (by omega)]
    exact h5 q hq
theorem OK_free {G : Nat → Nat → Int32} (hG : OKG G) (k : Nat) : OKG (freeG G k) := by
  intro j hj
  obtain ⟨h1, h2, h3, h4, h5⟩ := hG j hj
  refine ⟨h1, h2, fun i hi => ?_, ?_, fun q hq => ?_⟩
  · unfold freeG
    rw [if_neg (by omega)]
    exact h3 i hi
  · unfold freeG
    rw [if_pos rfl]
    by_cases c : j = k
    · rw [if_pos c]
      exact Or.inl rfl
    · rw [if_neg c]
      exact h4
  · unfold freeG
    rw [if_neg (by omega)]
    exact h5 q hq
theorem OK_move {G : Nat → Nat → Int32} (hG : OKG G) (k : Nat) {x y : Int32} (hx : inR 0 999 x) (hy : inR 0 999 y) : OKG (moveG G k x y) := by
  intro j hj
  obtain ⟨h1, h2, h3, h4, h5⟩ := hG j hj
  refine ⟨?_, ?_, fun i hi => ?_, h4, fun q hq => ?_⟩
  · unfold moveG
    rw [if_pos rfl]
    by_cases c : j = k
    · rw [if_pos c]
      exact hx
    · rw [if_neg c]
      exact h1
  · unfold moveG
    rw [if_neg (by decide), if_pos rfl]
    by_cases c : j = k
    · rw [if_pos c]
      exact hy
    · rw [if_neg c]
      exact h2
  · unfold moveG
    rw [if_neg (by omega), if_neg (by omega)]
    exact h3 i hi
  · unfold moveG
    rw [if_neg (by omega), if_neg (by omega)]
    exact h5 q hq
theorem OK_cG {G' G : Nat → Nat → Int32} (b : Bool) (h : b = true → OKG G') (hG : OKG G) : OKG (cG b G' G) := by
  cases b
  · exact hG
  · exact h rfl
theorem OK_ex {T : Nat → Nat} {n s : Nat} {q : Cmd} {G : Nat → Nat → Int32} (hq : cmdOK T n s q) (hG : OKG G) : OKG (exG q G) := by
  obtain ⟨-, hk, hc, hr, hx, hy, hv, -, -⟩ := hq
  unfold exG
  rcases hk with h | h | h
  · rw [if_pos h]
    exact OK_cG _ (fun _ => OK_free hG _) hG
  · rw [if_neg (by omega), if_pos h]
    obtain ⟨a, b, c⟩ := hv h
    exact OK_cG _ (fun _ => OK_hold hG _ (inR_nI (M := 255) (by omega) (by decide)) (inR_nI (M := 255) (by omega) (by decide)) (inR_nI (M := 255) (by omega) (by decide))) hG
  · rw [if_neg (by omega), if_neg (by omega)]
    exact OK_cG _ (fun _ => OK_move hG _ (inR_nI (M := 999) (by omega) (by decide)) (inR_nI (M := 999) (by omega) (by decide))) hG
abbrev zOK (z : Int32) (q : Cmd) (K : Nat → Nat → Int32) : Prop := (exZ q K = 0 ∧ ¬ z < 0) ∨ (¬ exZ q K = 0 ∧ z = exZ q K ∧ z < 0)
