/-! what the reference keeps of the past: P i the i-th state, oldest first -/
def QA (P : Nat → Nat → Nat → Int32) : Nat → Int32 := fun q => MA (P (q / 240)) (q % 240)
def pcP (P : Nat → Nat → Nat → Int32) (n : Nat) (G : Nat → Nat → Int32) : Nat → Nat → Nat → Int32 := fun i => if n = 4 then (if i = 3 then G else P (i + 1)) else (if i = n then G else P i)
def pC (rb : Nat) (P : Nat → Nat → Nat → Int32) (n : Nat) (G : Nat → Nat → Int32) : Nat → Nat → Nat → Int32 := if rb = 0 then pcP P n G else P
def pN (rb n : Nat) : Nat := if rb = 0 then rcN n else n
def shP (P : Nat → Nat → Nat → Int32) : Nat → Nat → Nat → Int32 := fun i => P (i + 1)
theorem sh_eq (P : Nat → Nat → Nat → Int32) (k : Nat) : mixF (QA (shP P)) (QA P) k (k + 240) = QA (shP P) k := by
  unfold mixF QA shP
  rw [if_neg (by omega), show (k + 240) / 240 = k / 240 + 1 by omega, show (k + 240) % 240 = k % 240 by omega]
def updW (f : Nat → Int32) (m : Nat) (g : Nat → Int32) (k : Nat) : Nat → Int32 := fun q => if 240 * m ≤ q ∧ q < 240 * m + k then g (q - 240 * m) else f q
theorem updW_0 (f : Nat → Int32) (m : Nat) (g : Nat → Int32) (q : Nat) : f q = updW f m g 0 q := by
  unfold updW
  rw [if_neg (by omega)]
theorem updW_s (f : Nat → Int32) (m : Nat) (g : Nat → Int32) (k q : Nat) : upd (updW f m g k) (240 * m + k) (g k) q = updW f m g (k + 1) q := by
  unfold upd updW
  by_cases h : q = 240 * m + k
  · rw [if_pos h, if_pos (by omega), show q - 240 * m = k by omega]
  · rw [if_neg h]
    by_cases h2 : 240 * m ≤ q ∧ q < 240 * m + k
    · rw [if_pos h2, if_pos (by omega)]
    · rw [if_neg h2, if_neg (by omega)]
abbrev chI (P : Nat → Nat → Nat → Int32) (n m : Nat) (f : Nat → Int32) : Prop := (n = 4 ∧ m = 3 ∧ ∀ q, q < 720 → f q = QA (shP P) q) ∨ (n < 4 ∧ m = n ∧ f = QA P)
theorem ch_fin {P : Nat → Nat → Nat → Int32} {n m : Nat} {f : Nat → Int32} {G : Nat → Nat → Int32} (h : chI P n m f) {q : Nat} (hq : q < 960) : updW f m (MA G) 240 q = QA (pcP P n G) q := by
  unfold updW
  rcases h with ⟨h1, h2, h3⟩ | ⟨h1, h2, h3⟩
  · by_cases c : 240 * m ≤ q ∧ q < 240 * m + 240
    · rw [if_pos c]
      unfold QA pcP
      rw [if_pos h1, if_pos (by omega), show q - 240 * m = q % 240 by omega]
    · rw [if_neg c, h3 q (by omega)]
      unfold QA pcP shP
      rw [if_pos h1, if_neg (by omega)]
  · by_cases c : 240 * m ≤ q ∧ q < 240 * m + 240
    · rw [if_pos c]
      unfold QA pcP
      rw [if_neg (by omega), if_pos (by omega), show q - 240 * m = q % 240 by omega]
    · rw [if_neg c, h3]
      unfold QA pcP
      rw [if_neg (by omega), if_neg (by omega)]
theorem ch_n {P : Nat → Nat → Nat → Int32} {n m : Nat} {f : Nat → Int32} (h : chI P n m f) : rcN n = m + 1 ∧ m ≤ 3 := by
  unfold rcN
  rcases h with ⟨h1, h2, -⟩ | ⟨h1, h2, -⟩
  · rw [if_neg (by omega)]
    omega
  · rw [if_pos (by omega)]
    omega
def pcB (b : Bool) (rb : Nat) (P : Nat → Nat → Nat → Int32) (n : Nat) (G : Nat → Nat → Int32) : Nat → Nat → Nat → Int32 := if b = true then pC rb P n G else P
def pnB (b : Bool) (rb n : Nat) : Nat := if b = true then pN rb n else n
theorem pcB_t {b : Bool} {rb : Nat} {P : Nat → Nat → Nat → Int32} {n : Nat} {G : Nat → Nat → Int32} (h : b = true) : pcB b rb P n G = pC rb P n G := by rw [h]; rfl
theorem pcB_f {b : Bool} {rb : Nat} {P : Nat → Nat → Nat → Int32} {n : Nat} {G : Nat → Nat → Int32} (h : b = false) : pcB b rb P n G = P := by rw [h]; rfl
theorem pnB_t {b : Bool} {rb n : Nat} (h : b = true) : pnB b rb n = pN rb n := by rw [h]; rfl
theorem pnB_f {b : Bool} {rb n : Nat} (h : b = false) : pnB b rb n = n := by rw [h]; rfl
/-- what a row of the reference says, its words being the same but at one number of each corner -/
theorem MA_upd (F F' : Nat → Nat → Int32) (e k w : Nat) (v : Int32) (he : e = 12 * k + w) (hw : w < 12) (h1 : F' k w = v) (h2 : ∀ j u, ¬ (j = k ∧ u = w) → F' j u = F j u) (q : Nat) : upd (MA F) e v q = MA F' q := by
  unfold upd MA
  by_cases h : q = e
  · rw [if_pos h, show q / 12 = k by omega, show q % 12 = w by omega, h1]
  · rw [if_neg h, h2 _ _ (by omega)]
def set1 (F : Nat → Nat → Int32) (k w : Nat) (v : Int32) : Nat → Nat → Int32 := fun j u => if j = k ∧ u = w then v else F j u
theorem MA_set (F : Nat → Nat → Int32) (e k w : Nat) (v : Int32) (he : e = 12 * k + w) (hw : w < 12) : upd (MA F) e v = MA (set1 F k w v) := by
  funext q
  refine MA_upd F (set1 F k w v) e k w v he hw ?_ ?_ q
  · unfold set1
    rw [if_pos ⟨rfl, rfl⟩]
  · intro j u h
    unfold set1
    rw [if_neg h]
theorem set_hold (G : Nat → Nat → Int32) (k : Nat) (x y v : Int32) : set1 (set1 (set1 (set1 G k 2 x) k 3 y) k 4 v) k 5 (nI 1) = holdG G k x y v := by
  funext j w
  unfold set1 holdG
  by_cases hj : j = k
  · by_cases h5 : w = 5
    · simp [hj, h5]
    · by_cases h4 : w = 4
      · simp [hj, h4]
      · by_cases h3 : w = 3
        · simp [hj, h3]
        · by_cases h2 : w = 2
          · simp [hj, h2]
          · simp [h2, h3, h4, h5]
  · simp [hj]
theorem set_free (G : Nat → Nat → Int32) (k : Nat) : set1 G k 5 (nI 0) = freeG G k := by
  funext j w
  unfold set1 freeG
  by_cases hj : j = k
  · by_cases h5 : w = 5
    · simp [hj, h5]
    · simp [h5]
  · simp [hj]
theorem set_move (G : Nat → Nat → Int32) (k : Nat) (x y : Int32) : set1 (set1 G k 0 x) k 1 y = moveG G k x y := by
  funext j w
  unfold set1 moveG
  by_cases hj : j = k
  · by_cases h1 : w = 1
    · simp [hj, h1]
    · by_cases h0 : w = 0
      · simp [hj, h0]
      · simp [h0, h1]
  · simp [hj]
theorem set_slope (G : Nat → Nat → Int32) (k a : Nat) (v : Int32) : set1 G k (6 + a) v = slopeG G k a v := by
  funext j w
  unfold set1 slopeG
  by_cases hj : j = k
  · by_cases h1 : w = 6 + a
    · simp [hj, h1]
    · simp [h1]
  · simp [hj]
def looS (G : Nat → Nat → Int32) (k i : Nat) : Nat → Nat → Int32 := fun j w => if j = k ∧ 6 ≤ w ∧ w < 6 + i then nI 999 else G j w
theorem looS_0 (G : Nat → Nat → Int32) (k : Nat) : looS G k 0 = G := by
  funext j w
  unfold looS
  rw [if_neg (by omega)]
theorem looS_s (G : Nat → Nat → Int32) (k i : Nat) : set1 (looS G k i) k (6 + i) (nI 999) = looS G k (i + 1) := by
  funext j w
  unfold set1 looS
  by_cases h : j = k ∧ w = 6 + i
  · rw [if_pos h, if_pos (by omega)]
  · rw [if_neg h]
    by_cases h2 : j = k ∧ 6 ≤ w ∧ w < 6 + i
    · rw [if_pos h2, if_pos (by omega)]
    · rw [if_neg h2, if_neg (by omega)]
theorem looS_6 (G : Nat → Nat → Int32) (k q : Nat) : MA (looS G k 6) q = MA (looseG G k) q := by
  unfold MA looS looseG
  by_cases h : 6 ≤ q % 12
  · rw [if_pos h]
    by_cases h2 : q / 12 = k
    · rw [if_pos (by omega), if_pos h2]
    · rw [if_neg (by omega), if_neg h2]
  · rw [if_neg h, if_neg (by omega)]
theorem rfz_no {G : Nat → Nat → Int32} {c r : Int32} (h : ¬ CN c r) : ¬ rfz G c r = 0 := by
  intro q
  unfold rfz at q
  rw [if_neg h] at q
  exact absurd q (by decide)
theorem rfz_n0 {G : Nat → Nat → Int32} {i j : Nat} (hi : i < 5) (hj : j < 4) (h : G (j * 5 + i) 5 = 0) : ¬ rfz G (nI i) (nI j) = 0 := by
  intro q
  rw [rfz_in G hi hj, if_neg (show ¬ HA G (j * 5 + i) = nI 1 from fun z => absurd (h.symm.trans z) (by decide))] at q
  exact absurd q (by decide)
theorem rfz_y {G : Nat → Nat → Int32} (hG : OKG G) {i j : Nat} (hi : i < 5) (hj : j < 4) (h : ¬ G (j * 5 + i) 5 = 0) : rfz G (nI i) (nI j) = 0 := by
  rw [rfz_in G hi hj]
  rcases (hG (j * 5 + i) (by omega)).2.2.2.1 with q | q
  · exact absurd q h
  · rw [if_pos (show HA G (j * 5 + i) = nI 1 from q)]
    rfl
