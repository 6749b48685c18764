theorem pcB_1 (b : Bool) (P : Nat → Nat → Nat → Int32) (n : Nat) (G : Nat → Nat → Int32) : pcB b 1 P n G = P := by
  cases b
  · rfl
  · rfl
theorem pnB_1 (b : Bool) (n : Nat) : pnB b 1 n = n := by
  cases b
  · rfl
  · rfl
theorem OK_hold {G : Nat → Nat → Int32} (hG : OKG G) (k : Nat) {x y v : Int32} (hx : inR 0 255 x) (hy : inR 0 255 y) (hv : inR 0 255 v) : OKG (holdG G k x y v) := by
  intro j hj
  obtain ⟨h1, h2, h3, h4, h5⟩ := hG j hj
  refine ⟨h1, h2, fun i hi => ?_, ?_, fun q hq => ?_⟩
  · unfold holdG
    rcases (show i = 0 ∨ i = 1 ∨ i = 2 by omega) with rfl | rfl | rfl
    · by_cases c : j = k
      · rw [if_pos rfl, if_pos c]
        exact hx
      · rw [if_pos rfl, if_neg c]
        exact h3 0 hi
    · by_cases c : j = k
      · rw [if_neg (by decide), if_pos rfl, if_pos c]
        exact hy
      · rw [if_neg (by decide), if_pos rfl, if_neg c]
        exact h3 1 hi
    · by_cases c : j = k
      · rw [if_neg (by decide), if_neg (by decide), if_pos rfl, if_pos c]
        exact hv
      · rw [if_neg (by decide), if_neg (by decide), if_pos rfl, if_neg c]
        exact h3 2 hi
  · unfold holdG
    rw [if_neg (by decide), if_neg (by decide), if_neg (by decide), if_pos rfl]
    by_cases c : j = k
    · rw [if_pos c]
      exact Or.inr rfl
    · rw [if_neg c]
      exact h4
  · unfold holdG
    rw [if_neg (by omega), if_neg (by omega), if_neg (by omega), if_neg (by omega)]
    exact h5 q hq
theorem OK_free {G : Nat → Nat → Int32} (hG : OKG G) (k : Nat) : OKG (freeG G k) := by
  intro j hj
  obtain ⟨h1, h2, h3, h4, h5⟩ := hG j hj
  refine ⟨h1, h2, fun i hi => ?_, ?_, fun q hq => ?_⟩
  · unfold freeG
    rw [if_neg (by omega)]
    exact h3 i hi
  · unfold freeG
    rw [if_pos rfl]
    by_cases c : j = k
    · rw [if_pos c]
      exact Or.inl rfl
    · rw [if_neg c]
      exact h4
  · unfold freeG
    rw [if_neg (by omega)]
    exact h5 q hq
theorem OK_move {G : Nat → Nat → Int32} (hG : OKG G) (k : Nat) {x y : Int32} (hx : inR 0 999 x) (hy : inR 0 999 y) : OKG (moveG G k x y) := by
  intro j hj
  obtain ⟨h1, h2, h3, h4, h5⟩ := hG j hj
  refine ⟨?_, ?_, fun i hi => ?_, h4, fun q hq => ?_⟩
  · unfold moveG
    rw [if_pos rfl]
    by_cases c : j = k
    · rw [if_pos c]
      exact hx
    · rw [if_neg c]
      exact h1
  · unfold moveG
    rw [if_neg (by decide), if_pos rfl]
    by_cases c : j = k
    · rw [if_pos c]
      exact hy
    · rw [if_neg c]
      exact h2
  · unfold moveG
    rw [if_neg (by omega), if_neg (by omega)]
    exact h3 i hi
  · unfold moveG
    rw [if_neg (by omega), if_neg (by omega)]
    exact h5 q hq
theorem OK_cG {G' G : Nat → Nat → Int32} (b : Bool) (h : b = true → OKG G') (hG : OKG G) : OKG (cG b G' G) := by
  cases b
  · exact hG
  · exact h rfl
theorem OK_ex {T : Nat → Nat} {n s : Nat} {q : Cmd} {G : Nat → Nat → Int32} (hq : cmdOK T n s q) (hG : OKG G) : OKG (exG q G) := by
  obtain ⟨-, hk, hc, hr, hx, hy, hv, -, -⟩ := hq
  unfold exG
  rcases hk with h | h | h
  · rw [if_pos h]
    exact OK_cG _ (fun _ => OK_free hG _) hG
  · rw [if_neg (by omega), if_pos h]
    obtain ⟨a, b, c⟩ := hv h
    exact OK_cG _ (fun _ => OK_hold hG _ (inR_nI (M := 255) (by omega) (by decide)) (inR_nI (M := 255) (by omega) (by decide)) (inR_nI (M := 255) (by omega) (by decide))) hG
  · rw [if_neg (by omega), if_neg (by omega)]
    exact OK_cG _ (fun _ => OK_move hG _ (inR_nI (M := 999) (by omega) (by decide)) (inR_nI (M := 999) (by omega) (by decide))) hG
abbrev zOK (z : Int32) (q : Cmd) (K : Nat → Nat → Int32) : Prop := (exZ q K = 0 ∧ ¬ z < 0) ∨ (¬ exZ q K = 0 ∧ z = exZ q K ∧ z < 0)
theorem nI_n0 {n : Nat} (h : n < 2147483648) : ¬ nI n < 0 := by
  rw [Int32.lt_iff_toInt_lt, nI_toIntS h]
  show ¬ (n : Int) < 0
  omega
theorem sumH {G : Nat → Nat → Int32} (hG : OKG G) : ∀ m, m ≤ 20 → ∃ s : Nat, s ≤ m ∧ sumI (HA G) m = nI s
  | 0, _ => ⟨0, Nat.le_refl 0, rfl⟩
  | m + 1, h => by
    obtain ⟨s, h1, h2⟩ := sumH hG m (by omega)
    have h3 : sumI (HA G) (m + 1) = sumI (HA G) m + G m 5 := rfl
    rcases (hG m (by omega)).2.2.2.1 with q | q
    · exact ⟨s, by omega, by rw [h3, h2, q, nI_add]; rfl⟩
    · exact ⟨s + 1, by omega, by rw [h3, h2, q, nI_add]⟩
theorem pl_f {c r x y v e : Nat} {N : Nat → Int32} {K : Nat → Nat → Int32} {z : Int32} (hK : OKG K) (h0 : N 0 = nI c) (h1 : N 1 = nI r) (hz : z = if rfB K (N 0) (N 1) = true then sumI (HA (freeG K (cn (N 0) (N 1)))) 20 else rfz K (N 0) (N 1)) :
    cG (rfB K (N 0) (N 1)) (freeG K (cn (N 0) (N 1))) K = exG (102, c, r, x, y, v, e) K ∧ zOK z (102, c, r, x, y, v, e) K := by
  rw [h0, h1] at hz ⊢
  have e1 : exZ (102, c, r, x, y, v, e) K = rfz K (nI c) (nI r) := rfl
  refine ⟨rfl, ?_⟩
  rw [zOK, e1]
  by_cases h : rfz K (nI c) (nI r) = 0
  · rw [if_pos (show rfB K (nI c) (nI r) = true from decide_eq_true h)] at hz
    obtain ⟨s, q1, q2⟩ := sumH (OK_free hK (cn (nI c) (nI r))) 20 (by decide)
    exact Or.inl ⟨h, by rw [hz, q2]; exact nI_n0 (by omega)⟩
  · rw [if_neg (show ¬ rfB K (nI c) (nI r) = true from fun q => h (of_decide_eq_true q))] at hz
    refine Or.inr ⟨h, hz, ?_⟩
    rw [hz]
    unfold rfz at h ⊢
    split
    · rename_i h2
      rw [if_pos h2] at h
      split
      · rename_i h3
        exact absurd (if_pos h3) h
      · decide
    · decide
theorem hold_at (G : Nat → Nat → Int32) (k : Nat) (x y v : Int32) : HA (holdG G k x y v) k = nI 1 := by
  unfold HA holdG
  rw [if_neg (by decide), if_neg (by decide), if_neg (by decide), if_pos rfl, if_pos rfl]
theorem pl_cz {b : Bool} {z w : Int32} (hw : ¬ w < 0) (hz : z = cz b w) : (cz b (nI 0) = 0 ∧ ¬ z < 0) ∨ (¬ cz b (nI 0) = 0 ∧ z = cz b (nI 0) ∧ z < 0) := by
  cases b
  · exact Or.inr ⟨by decide, hz, by rw [hz]; show (-1001 : Int32) < 0; decide⟩
  · exact Or.inl ⟨rfl, by rw [hz]; exact hw⟩
theorem pl_cz2 {b : Bool} {z w : Int32} (hw : b = true → ¬ w < 0) (hz : z = cz b w) : (cz b (nI 0) = 0 ∧ ¬ z < 0) ∨ (¬ cz b (nI 0) = 0 ∧ z = cz b (nI 0) ∧ z < 0) := by
  cases b
  · exact Or.inr ⟨by decide, hz, by rw [hz]; show (-1001 : Int32) < 0; decide⟩
  · exact Or.inl ⟨rfl, by rw [hz]; exact hw rfl⟩
theorem pl_c {c r x y v e : Nat} {N : Nat → Int32} {K : Nat → Nat → Int32} {z : Int32} (hK : OKG K) (hx : x < 256) (hy : y < 256) (hv : v < 256) (h0 : N 0 = nI c) (h1 : N 1 = nI r) (h2 : N 2 = nI x) (h3 : N 3 = nI y) (h4 : N 4 = nI v) (hz : z = cz (okH (N 0) (N 1) (N 2) (N 3) (N 4)) (HA K (cn (N 0) (N 1)))) :
    cG (okH (N 0) (N 1) (N 2) (N 3) (N 4)) (holdG K (cn (N 0) (N 1)) (N 2) (N 3) (N 4)) K = exG (99, c, r, x, y, v, e) K ∧ zOK z (99, c, r, x, y, v, e) K := by
  rw [h0, h1, h2, h3, h4] at hz ⊢
  have hb : okH (nI c) (nI r) (nI x) (nI y) (nI v) = okC (nI c) (nI r) := by
    unfold okH okC
    refine decide_eq_decide.mpr ⟨fun q => q.1.1.1, fun q => ⟨⟨⟨q, nat_in (by decide) (by omega)⟩, nat_in (by decide) (by omega)⟩, nat_in (by decide) (by omega)⟩⟩
  rw [hb] at hz ⊢
  refine ⟨rfl, pl_cz2 (fun hk => ?_) hz⟩
  obtain ⟨i, j, hi, hj, e1, e2⟩ := isC_nat (of_decide_eq_true hk)
  rw [e1, e2, cn_nI hi hj]
  unfold HA
  rcases (hK (j * 5 + i) (by omega)).2.2.2.1 with q | q
  · rw [q]
    decide
  · rw [q]
    decide
theorem pl_le {spv : Int32} {sp len : Nat} (h : spv = nI sp ∧ sp ≤ 200) (hl : len ≤ 60) (c : nI len ≤ spv) : len ≤ sp := by
  rw [h.1] at c
  exact (nI_leI (by omega) (by omega)).mp c
theorem pl_m {c r x y v e : Nat} {N : Nat → Int32} {K : Nat → Nat → Int32} {z : Int32} (hx : x < 1000) (hy : y < 1000) (h0 : N 0 = nI c) (h1 : N 1 = nI r) (h2 : N 2 = nI x) (h3 : N 3 = nI y) (hz : z = cz (okM (N 0) (N 1) (N 2) (N 3)) (nI (sumN (foldN (moveG K (cn (N 0) (N 1)) (N 2) (N 3))) 12))) :
    cG (okM (N 0) (N 1) (N 2) (N 3)) (moveG K (cn (N 0) (N 1)) (N 2) (N 3)) K = exG (109, c, r, x, y, v, e) K ∧ zOK z (109, c, r, x, y, v, e) K := by
  rw [h0, h1, h2, h3] at hz ⊢
  have hb : okM (nI c) (nI r) (nI x) (nI y) = okC (nI c) (nI r) := by
    unfold okM okC
    refine decide_eq_decide.mpr ⟨fun q => q.1, fun q => ⟨q, nat_in (by decide) (by omega), nat_in (by decide) (by omega)⟩⟩
  rw [hb] at hz ⊢
  have hs := sumN_le (foldN (moveG K (cn (nI c) (nI r)) (nI x) (nI y))) 1 (fun k => by unfold foldN; split <;> omega) 12
  exact ⟨rfl, pl_cz (nI_n0 (by omega)) hz⟩
abbrev plA (T : Nat → Nat) (n : Nat) (G : Nat → Nat → Int32) (fr re ca : Int32) : Prop := fr = nI (rnP T n G) ∧ re = nI (rnR T n G) ∧ ca = (if rnR T n G = 1 then (-1004) else rnZ T n G)
def plInv (T : Nat → Nat) (n : Nat) (G : Nat → Nat → Int32) (it pos cnt i : Nat) (fr re ca : Int32) (K : Nat → Nat → Int32) : Prop := (i = 1 ∧ 4 * it ≤ pos ∧ runS T n (61 - it) pos cnt K = rnA T n G) ∨ (i = 0 ∧ ¬ rnR T n G = 0 ∧ K = rnG T n G ∧ plA T n G fr re ca)
theorem plI_0 (T : Nat → Nat) (n : Nat) (G : Nat → Nat → Int32) (fr re ca : Int32) : plInv T n G 0 0 0 1 fr re ca G := Or.inl ⟨rfl, by decide, rfl⟩
theorem plI_l {T : Nat → Nat} {n : Nat} {G : Nat → Nat → Int32} {it pos cnt i : Nat} {fr re ca : Int32} {K : Nat → Nat → Int32} (h : plInv T n G it pos cnt i fr re ca K) (hi : ¬ i = 0) : 4 * it ≤ pos ∧ runS T n (61 - it) pos cnt K = rnA T n G := by
  rcases h with h | h
  · exact h.2
  · exact absurd h.1 hi
theorem plI_none {T : Nat → Nat} {n : Nat} {G : Nat → Nat → Int32} {it pos cnt pos2 cnt2 : Nat} {K : Nat → Nat → Int32} (h : runS T n (61 - it) pos cnt K = rnA T n G) (hi : it < 60) (hp : pos < n) (hr : rd T n pos = none) : plInv T n G (it + 1) pos2 cnt2 0 (nI pos) (nI 1) (-1004) K := by
  have e : rnA T n G = (1, pos, cnt, 0, K) := by rw [← h, show 61 - it = (60 - it) + 1 by omega, runS_none hp hr]
  unfold plInv plA rnR rnG rnP rnZ
  rw [e]
  exact Or.inr ⟨rfl, Nat.one_ne_zero, rfl, rfl, rfl, rfl⟩
theorem plI_bad {T : Nat → Nat} {n : Nat} {G : Nat → Nat → Int32} {it pos cnt pos2 cnt2 : Nat} {K : Nat → Nat → Int32} {q : Cmd} {z : Int32} (h : runS T n (61 - it) pos cnt K = rnA T n G) (hi : it < 60) (hp : pos < n) (hr : rd T n pos = some q) (hz : zOK z q K) (c : z < 0) : plInv T n G (it + 1) pos2 cnt2 0 (nI pos) (nI 2) z (exG q K) := by
  rcases hz with hz | hz
  · exact absurd c hz.2
  · have e : rnA T n G = (2, pos, cnt, exZ q K, exG q K) := by rw [← h, show 61 - it = (60 - it) + 1 by omega, runS_bad hp hr hz.1]
    unfold plInv plA rnR rnG rnP rnZ
    rw [e]
    exact Or.inr ⟨rfl, Nat.succ_ne_zero 1, rfl, rfl, rfl, hz.2.1⟩
theorem plI_go {T : Nat → Nat} {n : Nat} {G : Nat → Nat → Int32} {it pos cnt : Nat} {K : Nat → Nat → Int32} {q : Cmd} {z fr re ca : Int32} (h : runS T n (61 - it) pos cnt K = rnA T n G) (hl : 4 * it ≤ pos) (hi : it < 60) (hp : pos < n) (hr : rd T n pos = some q) (hz : zOK z q K) (c : ¬ z < 0) : plInv T n G (it + 1) q.2.2.2.2.2.2 (cnt + 1) 1 fr re ca (exG q K) := by
  rcases hz with hz | hz
  · refine Or.inl ⟨rfl, ?_, ?_⟩
    · have := rd_ok hr
      omega
    · rw [← h, show 61 - it = (61 - (it + 1)) + 1 by omega, runS_go hp hr hz.1]
  · exact absurd hz.2.2 c
/-- how it ended -/
theorem plI_end {T : Nat → Nat} {n : Nat} {G : Nat → Nat → Int32} {it pos cnt i : Nat} {fr re ca : Int32} {K : Nat → Nat → Int32} (h : plInv T n G it pos cnt i fr re ca K) (he : n ≤ pos ∨ i = 0) : BB (rnR T n G = 0) (nI i) ∧ K = rnG T n G ∧ (rnR T n G = 0 → nI cnt = nI (rnC T n G)) ∧ (¬ rnR T n G = 0 → plA T n G fr re ca) := by
  rcases h with ⟨h1, h2, h3⟩ | ⟨h1, h2, h3, h4⟩
  · have e : rnA T n G = (0, pos, cnt, 0, K) := by rw [← h3, runS_end (by omega)]
    rw [h1]
    unfold rnR rnG rnC
    rw [e]
    exact ⟨Or.inl ⟨rfl, rfl⟩, rfl, fun _ => rfl, fun q => absurd rfl q⟩
  · rw [h1]
    exact ⟨Or.inr ⟨h2, rfl⟩, h3, fun q => absurd q h2, fun _ => h4⟩
theorem pN_4 {n : Nat} (h : n ≤ 4) : pN 0 n ≤ 4 := by
  unfold pN rcN
  rw [if_pos rfl]
  split <;> omega
