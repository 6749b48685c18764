/-! what a mesh is: G k w, the w-th number of corner k (0 x, 1 y, 2 to 4 the parts, 5 held, 6 to 11 the slopes, 999 where one is not told) -/
def cp (p k : Nat) : Nat := (p / 4 + k / 2) * 5 + (p % 4 + k % 2)
theorem cp_lt {p k : Nat} (hp : p < 12) (hk : k < 4) : cp p k < 20 := by unfold cp; omega
def ca (p t : Nat) : Nat := if t % 4 = 2 then cp p 3 else if t % 4 = 3 then cp p 2 else cp p (t % 4)
theorem ca_lt {p t : Nat} (hp : p < 12) : ca p t < 20 := by
  unfold ca cp
  split
  · omega
  · split
    · omega
    · omega
def hbs (p t : Nat) : Prop := if t = 0 then p % 4 < 3 else p / 4 < 2
def inR (lo hi : Int) (x : Int32) : Prop := lo ≤ x.toInt ∧ x.toInt ≤ hi
def XA (G : Nat → Nat → Int32) : Nat → Int32 := fun k => G k 0
def YA (G : Nat → Nat → Int32) : Nat → Int32 := fun k => G k 1
def PA (G : Nat → Nat → Int32) : Nat → Int32 := fun j => G (j / 3) (2 + j % 3)
def HA (G : Nat → Nat → Int32) : Nat → Int32 := fun k => G k 5
/-- a slope as the class keeps it: 1000 where it is not told -/
def cvS (v : Int32) : Int32 := if v = nI 999 then nI 1000 else v
def SA (G : Nat → Nat → Int32) : Nat → Int32 := fun j => cvS (G (j / 6) (6 + j % 6))
def MA (G : Nat → Nat → Int32) : Nat → Int32 := fun j => G (j / 12) (j % 12)
/-- the numbers of a mesh are in their ranges -/
def OKG (G : Nat → Nat → Int32) : Prop := ∀ k, k < 20 → inR 0 999 (G k 0) ∧ inR 0 999 (G k 1) ∧ (∀ i, i < 3 → inR 0 255 (G k (2 + i))) ∧ (G k 5 = nI 0 ∨ G k 5 = nI 1) ∧ (∀ j, j < 6 → G k (6 + j) = nI 999 ∨ inR (-255) 255 (G k (6 + j)))
theorem PA_eq (G : Nat → Nat → Int32) (k i : Nat) (h : i < 3) : PA G (k * 3 + i) = G k (2 + i) := by
  unfold PA
  rw [show (k * 3 + i) / 3 = k by omega, show (k * 3 + i) % 3 = i by omega]
theorem SA_eq (G : Nat → Nat → Int32) (k j : Nat) (h : j < 6) : SA G (k * 6 + j) = cvS (G k (6 + j)) := by
  unfold SA
  rw [show (k * 6 + j) / 6 = k by omega, show (k * 6 + j) % 6 = j by omega]
theorem MA_eq (G : Nat → Nat → Int32) (k w : Nat) (h : w < 12) : MA G (k * 12 + w) = G k w := by
  unfold MA
  rw [show (k * 12 + w) / 12 = k by omega, show (k * 12 + w) % 12 = w by omega]
theorem nI_toIntS {n : Nat} (h : n < 2147483648) : (nI n).toInt = (n : Int) := nI_toInt h
/-- 1000 is the class's own mark: it stands where 999 does, and nowhere else -/
theorem cvS_told {G : Nat → Nat → Int32} (hG : OKG G) {k j : Nat} (hk : k < 20) (hj : j < 6) : cvS (G k (6 + j)) = nI 1000 ↔ G k (6 + j) = nI 999 := by
  unfold cvS
  constructor
  · intro h
    by_cases hq : G k (6 + j) = nI 999
    · exact hq
    · rw [if_neg hq] at h
      rcases (hG k hk).2.2.2.2 j hj with h1 | h1
      · exact h1
      · rw [h] at h1
        have := h1.2
        rw [nI_toIntS (by decide)] at this
        omega
  · intro h
    rw [if_pos h]
theorem cvS_val {v : Int32} (h : ¬ cvS v = nI 1000) : cvS v = v := by
  unfold cvS at h ⊢
  split
  · rename_i h1
    rw [if_pos h1] at h
    exact absurd rfl h
  · rfl
def sumI (f : Nat → Int32) : Nat → Int32
  | 0 => nI 0
  | n + 1 => sumI f n + f n
def sumN (f : Nat → Nat) : Nat → Nat
  | 0 => 0
  | n + 1 => sumN f n + f n
def fdv (x y : Int32) : Int32 := if 0 ≤ x ^^^ y then x / y else if x / y * y = x then x / y else x / y - nI 1
def atk (k a : Nat) : Nat := if a = 0 then k % 5 else k / 5
def lastk (a : Nat) : Nat := if a = 0 then 4 else 3
def stepk (a : Nat) : Nat := if a = 0 then 1 else 5
/-- a slope that is not told, from beside -/
def sbk (G : Nat → Nat → Int32) (k a i : Nat) : Int32 := if atk k a = 0 then G (k + stepk a) (2 + i) - G k (2 + i) else if atk k a = lastk a then G k (2 + i) - G (k - stepk a) (2 + i) else fdv (G (k + stepk a) (2 + i) - G (k - stepk a) (2 + i)) (nI 2)
def slk (G : Nat → Nat → Int32) (k a i : Nat) : Int32 := if G k (6 + (a * 3 + i)) = nI 999 then sbk G k a i else G k (6 + (a * 3 + i))
def toldB (G : Nat → Nat → Int32) (k j : Nat) : Nat := if G k (6 + j) = nI 999 then 0 else 1
def toldK (G : Nat → Nat → Int32) (k : Nat) : Nat := sumN (toldB G k) 6
def turnI (G : Nat → Nat → Int32) (p t : Nat) : Int32 := (G (ca p (t + 1)) 0 - G (ca p t) 0) * (G (ca p (t + 2)) 1 - G (ca p (t + 1)) 1) - (G (ca p (t + 1)) 1 - G (ca p t) 1) * (G (ca p (t + 2)) 0 - G (ca p (t + 1)) 0)
def foldB (G : Nat → Nat → Int32) (p : Nat) : Bool := (List.range 4).any (fun t => decide (turnI G p t ≤ 0))
theorem foldB_t {G : Nat → Nat → Int32} {p t : Nat} (ht : t < 4) (h : turnI G p t ≤ 0) : foldB G p = true := by
  unfold foldB
  rw [List.any_eq_true]
  exact ⟨t, List.mem_range.mpr ht, decide_eq_true h⟩
theorem foldB_f {G : Nat → Nat → Int32} {p : Nat} (h : ∀ t, t < 4 → ¬ turnI G p t ≤ 0) : ¬ foldB G p = true := by
  unfold foldB
  rw [List.any_eq_true]
  rintro ⟨t, h1, h2⟩
  exact h t (List.mem_range.mp h1) (of_decide_eq_true h2)
def foldN (G : Nat → Nat → Int32) (p : Nat) : Nat := if foldB G p = true then 1 else 0
def areaT (G : Nat → Nat → Int32) (p t : Nat) : Int32 := G (ca p t) 0 * G (ca p (t + 1)) 1 - G (ca p (t + 1)) 0 * G (ca p t) 1
def absI (x : Int32) : Int32 := if 0 ≤ x then x else 0 - x
def wx (b u : Nat) : Int32 := if b = 0 then nI (8 - u) else nI u
/-- the place of a point, out of its corners' -/
def plc (f : Nat → Int32) (p u v : Nat) : Int32 := sumI (fun k => f (cp p k) * wx (k % 2) u * wx (k / 2) v) 4 / nI 64
def nwB (f : Nat → Int32) (t : Nat) : Bool := (List.range t).all (fun j => decide (f j ≠ f t))
theorem nwB_t {f : Nat → Int32} {t : Nat} (h : ∀ j, j < t → f j ≠ f t) : nwB f t = true := by
  unfold nwB
  rw [List.all_eq_true]
  exact fun j hj => decide_eq_true (h j (List.mem_range.mp hj))
theorem nwB_f {f : Nat → Int32} {t j : Nat} (hj : j < t) (h : f j = f t) : nwB f t = false := by
  cases hq : nwB f t with
  | false => rfl
  | true =>
    unfold nwB at hq
    rw [List.all_eq_true] at hq
    exact absurd h (of_decide_eq_true (hq j (List.mem_range.mpr hj)))
def nwN (f : Nat → Int32) (t : Nat) : Nat := if nwB f t = true then 1 else 0
def wP (t : Int32) (f : Nat) : Int32 := if f = 0 then nI 2 * t * t * t - nI 24 * t * t + nI 512 else nI 24 * t * t - nI 2 * t * t * t
def wS (t : Int32) (f : Nat) : Int32 := if f = 0 then t * t * t - nI 16 * t * t + nI 64 * t else t * t * t - nI 8 * t * t
def clp (q : Int32) : Int32 := if nI 0 < (if q < nI 255 then q else nI 255) then (if q < nI 255 then q else nI 255) else nI 0
def blT (x y w : Nat → Int32) (u v k : Nat) : Int32 := x k * wP (nI u) (k % 2) * wP (nI v) (k / 2) + y k * wS (nI u) (k % 2) * wP (nI v) (k / 2) + w k * wP (nI u) (k % 2) * wS (nI v) (k / 2)
def bl (x y w : Nat → Int32) (u v : Nat) : Int32 := clp (fdv (sumI (blT x y w u v) 4) (nI 262144))
theorem in_nat {x : Int32} {M : Nat} (hM : M < 2147483648) (h : nI 0 ≤ x ∧ x ≤ nI M) : ∃ j : Nat, j ≤ M ∧ x = nI j := by
  refine nI_of2 (M := nI M) (n := M) (nI_toIntS hM) ?_ h.2
  exact Int32.not_lt.mpr h.1
theorem inR_nat {M : Nat} {x : Int32} (h : inR 0 M x) : ∃ n : Nat, n ≤ M ∧ x = nI n := by
  obtain ⟨j, hj, rfl⟩ := nI_of (x := x) (fun q => by
    have := Int32.lt_iff_toInt_lt.mp q
    have h1 := h.1
    rw [show (0 : Int32).toInt = 0 from rfl] at this
    omega)
  refine ⟨j, ?_, rfl⟩
  have h2 := h.2
  rw [nI_toInt hj] at h2
  omega
def pk3 (a b c : Int32) : Int32 := nI 65536 * a + nI 256 * b + c
theorem nI_or {x y : Nat} (hx : x < 4294967296) (hy : y < 4294967296) : nI x ||| nI y = nI (x ||| y) := by
  apply Int32.toBitVec_inj.mp
  apply BitVec.eq_of_toNat_eq
  rw [Int32.toBitVec_or, BitVec.toNat_or, pk_tn hx, pk_tn hy, pk_tn (Nat.or_lt_two_pow (n := 32) hx hy)]
theorem or_low {a b k : Nat} (h : b < 2 ^ k) : a * 2 ^ k ||| b = a * 2 ^ k + b := by
  have := Nat.shiftLeft_add_eq_or_of_lt (i := k) (b := b) h a
  rw [Nat.shiftLeft_eq] at this
  exact this.symm
theorem pk3_bits {x y z : Int32} (hx : inR 0 255 x) (hy : inR 0 255 y) (hz : inR 0 255 z) : (x <<< (nI 16 &&& 31)) ||| (y <<< (nI 8 &&& 31)) ||| z = pk3 x y z := by
  obtain ⟨a, ha, rfl⟩ := inR_nat (M := 255) hx
  obtain ⟨b, hb, rfl⟩ := inR_nat (M := 255) hy
  obtain ⟨c, hc, rfl⟩ := inR_nat (M := 255) hz
  rw [pk_shlN (nI 16 &&& 31) 16 (by decide) (by omega), pk_shlN (nI 8 &&& 31) 8 (by decide) (by omega)]
  rw [nI_or (by omega) (by omega), or_low (k := 16) (b := b * 2 ^ 8) (by omega)]
  rw [nI_or (by omega) (by omega), show a * 2 ^ 16 + b * 2 ^ 8 = (a * 2 ^ 8 + b) * 2 ^ 8 by omega, or_low (k := 8) (by omega)]
  unfold pk3
  rw [pk_mul, pk_mul, nI_add, nI_add]
  congr 1
  omega
def holdG (G : Nat → Nat → Int32) (k : Nat) (x y v : Int32) : Nat → Nat → Int32 := fun j w => if w = 2 then (if j = k then x else G j w) else if w = 3 then (if j = k then y else G j w) else if w = 4 then (if j = k then v else G j w) else if w = 5 then (if j = k then nI 1 else G j w) else G j w
def moveG (G : Nat → Nat → Int32) (k : Nat) (x y : Int32) : Nat → Nat → Int32 := fun j w => if w = 0 then (if j = k then x else G j w) else if w = 1 then (if j = k then y else G j w) else G j w
def freeG (G : Nat → Nat → Int32) (k : Nat) : Nat → Nat → Int32 := fun j w => if w = 5 then (if j = k then nI 0 else G j w) else G j w
def slopeG (G : Nat → Nat → Int32) (k a : Nat) (v : Int32) : Nat → Nat → Int32 := fun j w => if w = 6 + a then (if j = k then v else G j w) else G j w
def looseG (G : Nat → Nat → Int32) (k : Nat) : Nat → Nat → Int32 := fun j w => if 6 ≤ w then (if j = k then nI 999 else G j w) else G j w
theorem hold_H (G : Nat → Nat → Int32) (k : Nat) (x y v : Int32) (j : Nat) : upd (HA G) k (nI 1) j = HA (holdG G k x y v) j := by
  simp [upd, HA, holdG]
theorem hold_S (G : Nat → Nat → Int32) (k : Nat) (x y v : Int32) (j : Nat) : SA G j = SA (holdG G k x y v) j := by
  unfold SA holdG
  rw [if_neg (by omega), if_neg (by omega), if_neg (by omega), if_neg (by omega)]
theorem hold_P (G : Nat → Nat → Int32) (k : Nat) (x y v : Int32) (j : Nat) : upd (upd (upd (PA G) (k * 3) x) (k * 3 + 1) y) (k * 3 + 2) v j = PA (holdG G k x y v) j := by
  show (if j = k * 3 + 2 then v else if j = k * 3 + 1 then y else if j = k * 3 then x else G (j / 3) (2 + j % 3)) = (if 2 + j % 3 = 2 then (if j / 3 = k then x else G (j / 3) (2 + j % 3)) else if 2 + j % 3 = 3 then (if j / 3 = k then y else G (j / 3) (2 + j % 3)) else if 2 + j % 3 = 4 then (if j / 3 = k then v else G (j / 3) (2 + j % 3)) else if 2 + j % 3 = 5 then (if j / 3 = k then nI 1 else G (j / 3) (2 + j % 3)) else G (j / 3) (2 + j % 3))
  rcases (show j % 3 = 0 ∨ j % 3 = 1 ∨ j % 3 = 2 by omega) with h | h | h
  · by_cases hj : j / 3 = k
    · rw [if_neg (by omega), if_neg (by omega), if_pos (by omega), if_pos (by omega), if_pos hj]
    · rw [if_neg (by omega), if_neg (by omega), if_neg (by omega), if_pos (by omega), if_neg hj]
  · by_cases hj : j / 3 = k
    · rw [if_neg (by omega), if_pos (by omega), if_neg (by omega), if_pos (by omega), if_pos hj]
    · rw [if_neg (by omega), if_neg (by omega), if_neg (by omega), if_neg (by omega), if_pos (by omega), if_neg hj]
  · by_cases hj : j / 3 = k
    · rw [if_pos (by omega), if_neg (by omega), if_neg (by omega), if_pos (by omega), if_pos hj]
    · rw [if_neg (by omega), if_neg (by omega), if_neg (by omega), if_neg (by omega), if_neg (by omega), if_pos (by omega), if_neg hj]
theorem move_X (G : Nat → Nat → Int32) (k : Nat) (x y : Int32) (j : Nat) : upd (XA G) k x j = XA (moveG G k x y) j := by simp [upd, XA, moveG]
theorem move_Y (G : Nat → Nat → Int32) (k : Nat) (x y : Int32) (j : Nat) : upd (YA G) k y j = YA (moveG G k x y) j := by simp [upd, YA, moveG]
theorem move_P (G : Nat → Nat → Int32) (k : Nat) (x y : Int32) (j : Nat) : PA G j = PA (moveG G k x y) j := by
  unfold PA moveG
  rw [if_neg (by omega), if_neg (by omega)]
theorem move_S (G : Nat → Nat → Int32) (k : Nat) (x y : Int32) (j : Nat) : SA G j = SA (moveG G k x y) j := by
  unfold SA moveG
  rw [if_neg (by omega), if_neg (by omega)]
def updP6 (f : Nat → Int32) (k n : Nat) : Nat → Int32 := fun q => if q / 6 = k ∧ q % 6 < n then nI 1000 else f q
theorem updP6_0 (f : Nat → Int32) (k q : Nat) : f q = updP6 f k 0 q := by simp [updP6]
theorem updP6_s (f : Nat → Int32) (k j : Nat) (hj : j < 6) (q : Nat) : upd (updP6 f k j) (k * 6 + j) (nI 1000) q = updP6 f k (j + 1) q := by
  unfold upd updP6
  by_cases h : q = k * 6 + j
  · rw [if_pos h, if_pos (by omega)]
  · rw [if_neg h]
    by_cases h2 : q / 6 = k ∧ q % 6 < j
    · rw [if_pos h2, if_pos (by omega)]
    · rw [if_neg h2, if_neg (by omega)]
theorem loose_X (G : Nat → Nat → Int32) (k j : Nat) : XA G j = XA (looseG G k) j := by simp [XA, looseG]
theorem loose_Y (G : Nat → Nat → Int32) (k j : Nat) : YA G j = YA (looseG G k) j := by simp [YA, looseG]
theorem loose_H (G : Nat → Nat → Int32) (k j : Nat) : HA G j = HA (looseG G k) j := by simp [HA, looseG]
theorem loose_P (G : Nat → Nat → Int32) (k j : Nat) : PA G j = PA (looseG G k) j := by
  unfold PA looseG
  rw [if_neg (by omega)]
theorem loose_S (G : Nat → Nat → Int32) (k q : Nat) : updP6 (SA G) k 6 q = SA (looseG G k) q := by
  unfold updP6 SA looseG
  rw [if_pos (show 6 ≤ 6 + q % 6 by omega)]
  by_cases h : q / 6 = k
  · rw [if_pos ⟨h, by omega⟩, if_pos h]
    simp [cvS]
  · rw [if_neg (fun z => h z.1), if_neg h]
theorem pk_cpy_all {f g : Nat → Int32} {n j : Nat} (h : j < n) (hn : n < 2147483648) : va_cpy f g (nI 0).toNatClampNeg (nI 0).toNatClampNeg (nI n).toNatClampNeg j = f j := by
  rw [nI_clamp hn]
  exact sb_cpy0 h
def bsL (G : Nat → Nat → Int32) (k i : Nat) : Int32 := if k % 5 = 0 then nI 0 else G (k - 1) (2 + i)
def bsR (G : Nat → Nat → Int32) (k i : Nat) : Int32 := if 4 ≤ k % 5 then nI 0 else G (k + 1) (2 + i)
def bsU (G : Nat → Nat → Int32) (k i : Nat) : Int32 := if k / 5 = 0 then nI 0 else G (k - 5) (2 + i)
def bsD (G : Nat → Nat → Int32) (k i : Nat) : Int32 := if 3 ≤ k / 5 then nI 0 else G (k + 5) (2 + i)
def bnL (k : Nat) : Nat := if k % 5 = 0 then 0 else 1
def bnR (k : Nat) : Nat := if 4 ≤ k % 5 then 0 else 1
def bnU (k : Nat) : Nat := if k / 5 = 0 then 0 else 1
def bnD (k : Nat) : Nat := if 3 ≤ k / 5 then 0 else 1
theorem bn_in {k : Nat} (hk : k < 20) : 0 < bnL k + bnR k + bnU k + bnD k ∧ bnL k + bnR k + bnU k + bnD k < 5 := by
  have h1 : bnL k ≤ 1 := by unfold bnL; split <;> omega
  have h2 : bnR k ≤ 1 := by unfold bnR; split <;> omega
  have h3 : bnU k ≤ 1 := by unfold bnU; split <;> omega
  have h4 : bnD k ≤ 1 := by unfold bnD; split <;> omega
  have h5 : 1 ≤ bnL k + bnR k := by unfold bnL bnR; split <;> split <;> omega
  omega
/-- a part's mean of the corners beside, as a round gives it -/
def meanG (G : Nat → Nat → Int32) (k i : Nat) : Int32 := (bsL G k i + bsR G k i + bsU G k i + bsD G k i) / nI (bnL k + bnR k + bnU k + bnD k)
def roundG (G : Nat → Nat → Int32) : Nat → Nat → Int32 := fun k w => if (2 ≤ w ∧ w < 5) ∧ HA G k = 0 then meanG G k (w - 2) else G k w
def chB (G : Nat → Nat → Int32) (k : Nat) : Bool := (List.range 3).any (fun i => decide (meanG G k i ≠ G k (2 + i)))
def chN (G : Nat → Nat → Int32) (k : Nat) : Nat := if HA G k = 0 then (if chB G k = true then 1 else 0) else 0
theorem chB_eq {G : Nat → Nat → Int32} {k j : Nat} {x : Int32} (h : BB (∃ i, i < j ∧ meanG G k i ≠ G k (2 + i)) x) (c : meanG G k j = G k (2 + j)) : BB (∃ i, i < j + 1 ∧ meanG G k i ≠ G k (2 + i)) x := by
  rcases h with ⟨⟨i, h1, h2⟩, h3⟩ | ⟨h1, h2⟩
  · exact Or.inl ⟨⟨i, by omega, h2⟩, h3⟩
  · refine Or.inr ⟨fun ⟨i, h3, h4⟩ => ?_, h2⟩
    rcases Nat.lt_or_ge i j with q | q
    · exact h1 ⟨i, q, h4⟩
    · rw [show i = j by omega] at h4
      exact h4 c
theorem chB_ne {G : Nat → Nat → Int32} {k j : Nat} (c : ¬ meanG G k j = G k (2 + j)) : BB (∃ i, i < j + 1 ∧ meanG G k i ≠ G k (2 + i)) (nI 1) := Or.inl ⟨⟨j, by omega, c⟩, rfl⟩
theorem chB_iff {G : Nat → Nat → Int32} {k : Nat} : chB G k = true ↔ ∃ i, i < 3 ∧ meanG G k i ≠ G k (2 + i) := by
  unfold chB
  rw [List.any_eq_true]
  constructor
  · rintro ⟨i, h1, h2⟩
    exact ⟨i, List.mem_range.mp h1, of_decide_eq_true h2⟩
  · rintro ⟨i, h1, h2⟩
    exact ⟨i, List.mem_range.mpr h1, decide_eq_true h2⟩
theorem chB_fin {G : Nat → Nat → Int32} {k : Nat} {x : Int32} (h : BB (∃ i, i < 3 ∧ meanG G k i ≠ G k (2 + i)) x) : BB (chB G k = true) x := by
  rcases h with ⟨h1, h2⟩ | ⟨h1, h2⟩
  · exact Or.inl ⟨chB_iff.mpr h1, h2⟩
  · exact Or.inr ⟨fun q => h1 (chB_iff.mp q), h2⟩
def updP (f : Nat → Int32) (k : Nat) (m : Nat → Int32) (n : Nat) : Nat → Int32 := fun q => if q / 3 = k ∧ q % 3 < n then m (q % 3) else f q
theorem updP_0 (f : Nat → Int32) (k : Nat) (m : Nat → Int32) (q : Nat) : f q = updP f k m 0 q := by simp [updP]
theorem updP_s (f : Nat → Int32) (k : Nat) (m : Nat → Int32) (j : Nat) (hj : j < 3) (q : Nat) : upd (updP f k m j) (k * 3 + j) (m j) q = updP f k m (j + 1) q := by
  unfold upd updP
  by_cases h : q = k * 3 + j
  · rw [if_pos h, if_pos (by omega), show q % 3 = j by omega]
  · rw [if_neg h]
    by_cases h2 : q / 3 = k ∧ q % 3 < j
    · rw [if_pos h2, if_pos (by omega)]
    · rw [if_neg h2, if_neg (by omega)]
def rdP (G : Nat → Nat → Int32) (n : Nat) : Nat → Int32 := fun q => if q / 3 < n then PA (roundG G) q else PA G q
theorem rdP_0 (G : Nat → Nat → Int32) (q : Nat) : PA G q = rdP G 0 q := by simp [rdP]
theorem rdP_no (G : Nat → Nat → Int32) (j : Nat) (c : ¬ HA G j = 0) (q : Nat) : rdP G j q = rdP G (j + 1) q := by
  unfold rdP
  by_cases h : q / 3 < j
  · rw [if_pos h, if_pos (by omega)]
  · rw [if_neg h]
    by_cases h2 : q / 3 < j + 1
    · rw [if_pos h2]
      unfold PA roundG
      rw [show q / 3 = j by omega, if_neg (fun z => c z.2)]
    · rw [if_neg h2]
theorem rdP_s (G : Nat → Nat → Int32) (j : Nat) (c : HA G j = 0) (q : Nat) : updP (rdP G j) j (meanG G j) 3 q = rdP G (j + 1) q := by
  unfold updP rdP
  by_cases h : q / 3 = j
  · rw [if_pos ⟨h, by omega⟩, if_pos (by omega)]
    unfold PA roundG
    rw [h, if_pos ⟨by omega, c⟩, show 2 + q % 3 - 2 = q % 3 by omega]
  · rw [if_neg (fun z => h z.1)]
    by_cases h2 : q / 3 < j
    · rw [if_pos h2, if_pos (by omega)]
    · rw [if_neg h2, if_neg (by omega)]
theorem rdP_20 (G : Nat → Nat → Int32) {q : Nat} (hq : q < 60) : rdP G 20 q = PA (roundG G) q := by
  unfold rdP
  rw [if_pos (by omega)]
theorem round_X (G : Nat → Nat → Int32) (q : Nat) : XA G q = XA (roundG G) q := by simp [XA, roundG]
theorem round_Y (G : Nat → Nat → Int32) (q : Nat) : YA G q = YA (roundG G) q := by simp [YA, roundG]
theorem round_H (G : Nat → Nat → Int32) (q : Nat) : HA G q = HA (roundG G) q := by simp [HA, roundG]
theorem round_S (G : Nat → Nat → Int32) (q : Nat) : SA G q = SA (roundG G) q := by
  unfold SA roundG
  rw [if_neg (fun z => by omega)]
def mixF (f g : Nat → Int32) (n : Nat) : Nat → Int32 := fun q => if q < n then f q else g q
theorem mixF_0 (f g : Nat → Int32) (q : Nat) : g q = mixF f g 0 q := by simp [mixF]
theorem mixF_n (f g : Nat → Int32) {n q : Nat} (h : q < n) : mixF f g n q = f q := by simp [mixF, h]
theorem mixF_s (f g : Nat → Int32) (j : Nat) {v : Int32} (h : v = f j) (q : Nat) : upd (mixF f g j) j v q = mixF f g (j + 1) q := by
  unfold upd mixF
  by_cases h1 : q = j
  · rw [if_pos h1, if_pos (by omega), h, h1]
  · rw [if_neg h1]
    by_cases h2 : q < j
    · rw [if_pos h2, if_pos (by omega)]
    · rw [if_neg h2, if_neg (by omega)]
def kcG (G : Nat → Nat → Int32) : Nat → Int32 := fun k => pk3 (G k (2 + 0)) (G k (2 + 1)) (G k (2 + 2))
theorem okP {G : Nat → Nat → Int32} (hG : OKG G) {k i : Nat} (hk : k < 20) (hi : i < 3) : inR 0 255 (G k (2 + i)) := (hG k hk).2.2.1 i hi
def bP (G : Nat → Nat → Int32) (p i : Nat) : Nat → Int32 := fun k => G (cp p k) (2 + i)
def bR (G : Nat → Nat → Int32) (p i : Nat) : Nat → Int32 := fun k => slk G (cp p k) 0 i
def bC (G : Nat → Nat → Int32) (p i : Nat) : Nat → Int32 := fun k => slk G (cp p k) 1 i
def colG (G : Nat → Nat → Int32) (p u v i : Nat) : Int32 := bl (bP G p i) (bR G p i) (bC G p i) u v
def palC (G : Nat → Nat → Int32) (p : Nat) : Nat → Nat → Int32
  | 0 => fun _ => nI 0
  | i + 1 => fun t => (palC G p i t <<< (nI 8 &&& 31)) ||| colG G p (t % 9) (t / 9) i
def palS (G : Nat → Nat → Int32) (p : Nat) : Nat → Nat → Int32
  | 0 => fun _ => nI 0
  | i + 1 => fun t => palS G p i t + colG G p (t % 9) (t / 9) i
theorem mixF_at (f g : Nat → Int32) (n : Nat) : mixF f g n n = g n := by simp [mixF]
def maxI (g : Nat → Int32) : Nat → Int32
  | 0 => g 0
  | n + 1 => if maxI g n < g n then g n else maxI g n
def minI (g : Nat → Int32) : Nat → Int32
  | 0 => g 0
  | n + 1 => if g n < minI g n then g n else minI g n
def sq (m0 m1 m2 m3 : Nat) : Nat → Option Nat := fun i => if i = 0 then some m0 else if i = 1 then some m1 else if i = 2 then some m2 else some m3
/-- the history's ring behind a record: o the oldest's place, n how many, Hs what the places hold -/
def rcH (Hs : Nat → Nat → Nat → Int32) (o n : Nat) (G : Nat → Nat → Int32) : Nat → Nat → Nat → Int32 := fun i => if i = (o + n) % 4 then G else Hs i
def rcO (o n : Nat) : Nat := if n < 4 then o else (o + 1) % 4
def rcN (n : Nat) : Nat := if n < 4 then n + 1 else n
def TA (T : Nat → Nat) : Nat → Int32 := fun k => nI (T k)
def sg (T : Nat → Nat) (n t : Nat) : Nat := if t < n then T t else 0
theorem sg_lt {T : Nat → Nat} (hT : ∀ k, T k < 127) (n t : Nat) : sg T n t < 127 := by
  unfold sg
  split
  · exact hT t
  · omega
def updT (T : Nat → Nat) (n c : Nat) : Nat → Nat := fun k => if k = n then c else T k
theorem updT_s (T : Nat → Nat) (n c j : Nat) : upd (TA T) n (nI c) j = TA (updT T n c) j := by
  unfold upd TA updT
  by_cases h : j = n
  · rw [if_pos h, if_pos h]
  · rw [if_neg h, if_neg h]
theorem nar_char {q : Nat} (h : q < 65536) : vp_nar .char (nI q) = nI q := by
  unfold vp_nar
  rw [(pk_charN h).1]
def nb (p t : Nat) : Nat := if t = 0 then p + 1 else p + 4
abbrev CN (a b : Int32) : Prop := (nI 0 ≤ a ∧ a ≤ nI 4) ∧ (nI 0 ≤ b ∧ b ≤ nI 3)
theorem isC_nat {a b : Int32} (h : (nI 0 ≤ a ∧ a ≤ nI 4) ∧ (nI 0 ≤ b ∧ b ≤ nI 3)) : ∃ i j : Nat, i < 5 ∧ j < 4 ∧ a = nI i ∧ b = nI j := by
  obtain ⟨i, hi, rfl⟩ := in_nat (by decide) h.1
  obtain ⟨j, hj, rfl⟩ := in_nat (by decide) h.2
  exact ⟨i, j, by omega, by omega, rfl, rfl⟩
theorem nat_in {j M : Nat} (hM : M < 2147483648) (h : j ≤ M) : nI 0 ≤ nI j ∧ nI j ≤ nI M := ⟨nI_le (Nat.zero_le j) (Nat.lt_of_le_of_lt h hM), nI_le h hM⟩
theorem CN_in {i j : Nat} (hi : i < 5) (hj : j < 4) : CN (nI i) (nI j) := ⟨nat_in (by decide) (by omega), nat_in (by decide) (by omega)⟩
def tn (x : Int32) : Nat := x.toNatClampNeg
theorem tn_nI {n : Nat} (h : n < 2147483648) : tn (nI n) = n := nI_clamp h
def cn (a b : Int32) : Nat := tn b * 5 + tn a
theorem cn_nI {i j : Nat} (hi : i < 5) (hj : j < 4) : cn (nI i) (nI j) = j * 5 + i := by
  unfold cn
  rw [tn_nI (by omega), tn_nI (by omega)]
/-- what a freeing is refused with, 0 if it isn't -/
def rfz (G : Nat → Nat → Int32) (a b : Int32) : Int32 := if (nI 0 ≤ a ∧ a ≤ nI 4) ∧ (nI 0 ≤ b ∧ b ≤ nI 3) then (if G (cn a b) 5 = nI 1 then nI 0 else -1002) else -1001
theorem rfz_in (G : Nat → Nat → Int32) {i j : Nat} (hi : i < 5) (hj : j < 4) : rfz G (nI i) (nI j) = if HA G (j * 5 + i) = nI 1 then nI 0 else -1002 := by
  unfold rfz
  rw [if_pos (CN_in hi hj), cn_nI hi hj]
  rfl
abbrev IV (x : Int32) : Prop := nI 0 ≤ x ∧ x ≤ nI 255
abbrev IP (x y : Int32) : Prop := (nI 0 ≤ x ∧ x ≤ nI 999) ∧ (nI 0 ≤ y ∧ y ≤ nI 999)
abbrev INN (lo hi : Int32) (x : Int32) : Prop := lo ≤ x ∧ x ≤ hi
/-- b tells whether a call is allowed: what it then answers, and leaves -/
def cz (b : Bool) (x : Int32) : Int32 := if b = true then x else (-1001)
def cz2 (b b2 : Bool) (y x : Int32) : Int32 := if b = true then (if b2 = true then x else y) else (-1001)
def cG (b : Bool) (G' G : Nat → Nat → Int32) : Nat → Nat → Int32 := if b = true then G' else G
def cH (b : Bool) (Hs : Nat → Nat → Nat → Int32) (o n : Nat) (G : Nat → Nat → Int32) : Nat → Nat → Nat → Int32 := if b = true then rcH Hs o n G else Hs
def cO (b : Bool) (o n : Nat) : Nat := if b = true then rcO o n else o
def cN (b : Bool) (n : Nat) : Nat := if b = true then rcN n else n
theorem cz_t {b : Bool} {x : Int32} (h : b = true) : cz b x = x := by rw [h]; rfl
theorem cz_f {b : Bool} {x : Int32} (h : b = false) : cz b x = -1001 := by rw [h]; rfl
theorem cz2_t {b b2 : Bool} {x y : Int32} (h : b = true) (h2 : b2 = true) : cz2 b b2 y x = x := by rw [h, h2]; rfl
theorem cz2_n {b b2 : Bool} {x y : Int32} (h : b = true) (h2 : b2 = false) : cz2 b b2 y x = y := by rw [h, h2]; rfl
theorem cz2_f {b b2 : Bool} {x y : Int32} (h : b = false) : cz2 b b2 y x = -1001 := by rw [h]; rfl
theorem cG_t {b : Bool} {G' G : Nat → Nat → Int32} (h : b = true) : cG b G' G = G' := by rw [h]; rfl
theorem cG_f {b : Bool} {G' G : Nat → Nat → Int32} (h : b = false) : cG b G' G = G := by rw [h]; rfl
theorem cH_t {b : Bool} {Hs : Nat → Nat → Nat → Int32} {o n : Nat} {G : Nat → Nat → Int32} (h : b = true) : cH b Hs o n G = rcH Hs o n G := by rw [h]; rfl
theorem cH_f {b : Bool} {Hs : Nat → Nat → Nat → Int32} {o n : Nat} {G : Nat → Nat → Int32} (h : b = false) : cH b Hs o n G = Hs := by rw [h]; rfl
theorem cO_t {b : Bool} {o n : Nat} (h : b = true) : cO b o n = rcO o n := by rw [h]; rfl
theorem cO_f {b : Bool} {o n : Nat} (h : b = false) : cO b o n = o := by rw [h]; rfl
theorem cN_t {b : Bool} {n : Nat} (h : b = true) : cN b n = rcN n := by rw [h]; rfl
theorem cN_f {b : Bool} {n : Nat} (h : b = false) : cN b n = n := by rw [h]; rfl
def okH (c r x y v : Int32) : Bool := decide (((CN c r ∧ IV x) ∧ IV y) ∧ IV v)
def okC (c r : Int32) : Bool := decide (CN c r)
def okM (c r x y : Int32) : Bool := decide (CN c r ∧ IP x y)
def okS (c r a i v : Int32) : Bool := decide (((CN c r ∧ INN (nI 0) (nI 1) a) ∧ INN (nI 0) (nI 2) i) ∧ INN (-255) (nI 255) v)
def okR (n : Int32) : Bool := decide (INN (nI 1) (nI 20) n)
def okQ (c r w : Int32) : Bool := decide (CN c r ∧ INN (nI 0) (nI 12) w)
def okPt (p u v w : Int32) : Bool := decide (((INN (nI 0) (nI 11) p ∧ INN (nI 0) (nI 8) u) ∧ INN (nI 0) (nI 8) v) ∧ INN (nI 0) (nI 4) w)
def okPo (p w : Int32) : Bool := decide (INN (nI 0) (nI 11) p ∧ INN (nI 0) (nI 5) w)
def okAg (p t : Int32) : Bool := decide (INN (nI 0) (nI 11) p ∧ INN (nI 0) (nI 1) t)
def okCr (p t u i : Int32) : Bool := decide (((INN (nI 0) (nI 11) p ∧ INN (nI 0) (nI 1) t) ∧ INN (nI 0) (nI 8) u) ∧ INN (nI 0) (nI 2) i)
def okLv (p i : Int32) : Bool := decide (INN (nI 0) (nI 11) p ∧ INN (nI 0) (nI 2) i)
def okNe (x y w : Int32) : Bool := decide (IP x y ∧ INN (nI 0) (nI 3) w)
def okTy (x : Int32) : Bool := decide (INN (nI 32) (nI 126) x)
def okFa (w : Int32) : Bool := decide (INN (nI 0) (nI 2) w)
def rfB (G : Nat → Nat → Int32) (a b : Int32) : Bool := decide (rfz G a b = 0)
def tdB (G : Nat → Nat → Int32) (k : Nat) : Bool := decide (toldK G k ≠ 0)
def itG (G : Nat → Nat → Int32) : Nat → Nat → Nat → Int32
  | 0 => G
  | n + 1 => roundG (itG G n)
def itN (G : Nat → Nat → Int32) : Nat → Nat
  | 0 => 0
  | n + 1 => sumN (chN (itG G n)) 20
/-- what cornerOf answers of corner k -/
def cof (G : Nat → Nat → Int32) (k w : Nat) : Int32 := if w = 12 then nI (toldK G k) else if 6 ≤ w then slk G k ((w - 6) / 3) ((w - 6) % 3) else G k w
def ptof (G : Nat → Nat → Int32) (p u v w : Nat) : Int32 := if w = 3 then plc (XA G) p u v else if w = 4 then plc (YA G) p u v else colG G p u v w
def b2i (b : Bool) : Int32 := if b = true then nI 1 else nI 0
def poof (G : Nat → Nat → Int32) (p w : Nat) : Int32 := if w = 0 then b2i (foldB G p) else if w = 4 then sumI (fun k => HA G (cp p k)) 4 else if w = 5 then absI (sumI (areaT G p) 4) else if w = 1 then nI (sumN (nwN (palC G p 3)) 81) else if w = 2 then maxI (palS G p 3) 81 else minI (palS G p 3) 81
theorem free_H (G : Nat → Nat → Int32) (k q : Nat) : upd (HA G) k (nI 0) q = HA (freeG G k) q := by simp [upd, HA, freeG]
theorem free_P (G : Nat → Nat → Int32) (k q : Nat) : PA G q = PA (freeG G k) q := by
  unfold PA freeG
  rw [if_neg (by omega)]
theorem free_S (G : Nat → Nat → Int32) (k q : Nat) : SA G q = SA (freeG G k) q := by
  unfold SA freeG
  rw [if_neg (by omega)]
theorem slope_X (G : Nat → Nat → Int32) (k a : Nat) (v : Int32) (q : Nat) : XA G q = XA (slopeG G k a v) q := by
  unfold XA slopeG
  rw [if_neg (by omega)]
theorem slope_Y (G : Nat → Nat → Int32) (k a : Nat) (v : Int32) (q : Nat) : YA G q = YA (slopeG G k a v) q := by
  unfold YA slopeG
  rw [if_neg (by omega)]
theorem slope_P (G : Nat → Nat → Int32) (k a : Nat) (v : Int32) (q : Nat) : PA G q = PA (slopeG G k a v) q := by
  unfold PA slopeG
  rw [if_neg (by omega)]
theorem slope_H (G : Nat → Nat → Int32) (k a : Nat) (v : Int32) (q : Nat) : HA G q = HA (slopeG G k a v) q := by
  unfold HA slopeG
  rw [if_neg (by omega)]
theorem slope_S (G : Nat → Nat → Int32) (k a i : Nat) (v : Int32) (h : a * 3 + i < 6) (hv : INN (-255) (nI 255) v) (q : Nat) : upd (SA G) (k * 6 + a * 3 + i) v q = SA (slopeG G k (a * 3 + i) v) q := by
  have hc : cvS v = v := by
    unfold cvS
    rw [if_neg]
    intro e
    have := hv.2
    rw [e] at this
    exact absurd this (by decide)
  show (if q = k * 6 + a * 3 + i then v else cvS (G (q / 6) (6 + q % 6))) = cvS (if 6 + q % 6 = 6 + (a * 3 + i) then (if q / 6 = k then v else G (q / 6) (6 + q % 6)) else G (q / 6) (6 + q % 6))
  by_cases hq : q = k * 6 + a * 3 + i
  · rw [if_pos hq, if_pos (by omega), if_pos (by omega), hc]
  · rw [if_neg hq]
    by_cases h1 : q % 6 = a * 3 + i
    · rw [if_pos (by omega), if_neg (by omega)]
    · rw [if_neg (by omega)]
theorem rfz_0 {G : Nat → Nat → Int32} {c r : Int32} (h : rfz G c r = 0) : ∃ i j : Nat, i < 5 ∧ j < 4 ∧ c = nI i ∧ r = nI j := by
  unfold rfz at h
  by_cases hq : CN c r
  · exact isC_nat hq
  · rw [if_neg hq] at h
    exact absurd h (by decide)
theorem inR_nI {n M : Nat} (h : n ≤ M) (hM : M < 2147483648) : inR 0 M (nI n) := by
  unfold inR
  rw [nI_toInt (Nat.lt_of_le_of_lt h hM)]
  omega
theorem bs_nat {x : Int32} {n : Nat} (c : Prop) [Decidable c] {y : Int32} (hy : ¬ c → inR 0 255 y) (hx : x = if c then nI 0 else y) (hn : n = if c then 0 else 1) : ∃ m : Nat, m ≤ 255 * n ∧ x = nI m := by
  by_cases h : c
  · rw [if_pos h] at hx hn
    exact ⟨0, by omega, hx⟩
  · rw [if_neg h] at hx hn
    obtain ⟨m, h1, h2⟩ := inR_nat (M := 255) (hy h)
    exact ⟨m, by omega, hx.trans h2⟩
theorem mean_in {G : Nat → Nat → Int32} (hG : OKG G) {k i : Nat} (hk : k < 20) (hi : i < 3) : inR 0 255 (meanG G k i) := by
  obtain ⟨a, ha, ea⟩ := bs_nat (x := bsL G k i) (n := bnL k) (k % 5 = 0) (fun h => okP hG (k := k - 1) (by omega) hi) rfl rfl
  obtain ⟨b, hb, eb⟩ := bs_nat (x := bsR G k i) (n := bnR k) (4 ≤ k % 5) (fun h => okP hG (k := k + 1) (by omega) hi) rfl rfl
  obtain ⟨c, hc, ec⟩ := bs_nat (x := bsU G k i) (n := bnU k) (k / 5 = 0) (fun h => okP hG (k := k - 5) (by omega) hi) rfl rfl
  obtain ⟨d, hd, ed⟩ := bs_nat (x := bsD G k i) (n := bnD k) (3 ≤ k / 5) (fun h => okP hG (k := k + 5) (by omega) hi) rfl rfl
  have hn := bn_in hk
  unfold meanG
  rw [ea, eb, ec, ed, nI_add, nI_add, nI_add, pk_div (by omega) hn.1 (by omega)]
  refine inR_nI (M := 255) ?_ (by decide)
  refine Nat.div_le_of_le_mul ?_
  rw [Nat.mul_comm]
  omega
theorem OK_round {G : Nat → Nat → Int32} (hG : OKG G) : OKG (roundG G) := by
  intro k hk
  obtain ⟨h1, h2, h3, h4, h5⟩ := hG k hk
  refine ⟨?_, ?_, fun i hi => ?_, ?_, fun j hj => ?_⟩
  · show inR 0 999 (XA (roundG G) k)
    rw [← round_X]
    exact h1
  · show inR 0 999 (YA (roundG G) k)
    rw [← round_Y]
    exact h2
  · unfold roundG
    by_cases c : HA G k = 0
    · rw [if_pos ⟨by omega, c⟩, show 2 + i - 2 = i by omega]
      exact mean_in hG hk hi
    · rw [if_neg (fun z => c z.2)]
      exact h3 i hi
  · show HA (roundG G) k = nI 0 ∨ HA (roundG G) k = nI 1
    rw [← round_H]
    exact h4
  · unfold roundG
    rw [if_neg (fun z => by omega)]
    exact h5 j hj
theorem OK_it {G : Nat → Nat → Int32} (hG : OKG G) : ∀ n, OKG (itG G n)
  | 0 => hG
  | n + 1 => OK_round (OK_it hG n)
