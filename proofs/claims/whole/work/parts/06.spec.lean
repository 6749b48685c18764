/-! what a mesh is: G k w, the w-th number of corner k (0 x, 1 y, 2 to 4 the parts, 5 held, 6 to 11 the slopes, 999 where one is not told) -/
def cp (p k : Nat) : Nat := (p / 4 + k / 2) * 5 + (p % 4 + k % 2)
theorem cp_lt {p k : Nat} (hp : p < 12) (hk : k < 4) : cp p k < 20 := by unfold cp; omega
def ca (p t : Nat) : Nat := if t % 4 = 2 then cp p 3 else if t % 4 = 3 then cp p 2 else cp p (t % 4)
theorem ca_lt {p t : Nat} (hp : p < 12) : ca p t < 20 := by
  unfold ca cp
  split
  · omega
  · split
    · omega
    · omega
def hb (p t : Nat) : Prop := if t = 0 then p % 4 < 3 else p / 4 < 2
def inR (lo hi : Int) (x : Int32) : Prop := lo ≤ x.toInt ∧ x.toInt ≤ hi
def XA (G : Nat → Nat → Int32) : Nat → Int32 := fun k => G k 0
def YA (G : Nat → Nat → Int32) : Nat → Int32 := fun k => G k 1
def PA (G : Nat → Nat → Int32) : Nat → Int32 := fun j => G (j / 3) (2 + j % 3)
def HA (G : Nat → Nat → Int32) : Nat → Int32 := fun k => G k 5
/-- a slope as the class keeps it: 1000 where it is not told -/
def cvS (v : Int32) : Int32 := if v = nI 999 then nI 1000 else v
def SA (G : Nat → Nat → Int32) : Nat → Int32 := fun j => cvS (G (j / 6) (6 + j % 6))
def MA (G : Nat → Nat → Int32) : Nat → Int32 := fun j => G (j / 12) (j % 12)
/-- the numbers of a mesh are in their ranges -/
def OKG (G : Nat → Nat → Int32) : Prop := ∀ k, k < 20 → inR 0 999 (G k 0) ∧ inR 0 999 (G k 1) ∧ (∀ i, i < 3 → inR 0 255 (G k (2 + i))) ∧ (G k 5 = nI 0 ∨ G k 5 = nI 1) ∧ (∀ j, j < 6 → G k (6 + j) = nI 999 ∨ inR (-255) 255 (G k (6 + j)))
theorem PA_eq (G : Nat → Nat → Int32) (k i : Nat) (h : i < 3) : PA G (k * 3 + i) = G k (2 + i) := by
  unfold PA
  rw [show (k * 3 + i) / 3 = k by omega, show (k * 3 + i) % 3 = i by omega]
theorem SA_eq (G : Nat → Nat → Int32) (k j : Nat) (h : j < 6) : SA G (k * 6 + j) = cvS (G k (6 + j)) := by
  unfold SA
  rw [show (k * 6 + j) / 6 = k by omega, show (k * 6 + j) % 6 = j by omega]
theorem MA_eq (G : Nat → Nat → Int32) (k w : Nat) (h : w < 12) : MA G (k * 12 + w) = G k w := by
  unfold MA
  rw [show (k * 12 + w) / 12 = k by omega, show (k * 12 + w) % 12 = w by omega]
theorem nI_toIntS {n : Nat} (h : n < 2147483648) : (nI n).toInt = (n : Int) := nI_toInt h
/-- 1000 is the class's own mark: it stands where 999 does, and nowhere else -/
theorem cvS_told {G : Nat → Nat → Int32} (hG : OKG G) {k j : Nat} (hk : k < 20) (hj : j < 6) : cvS (G k (6 + j)) = nI 1000 ↔ G k (6 + j) = nI 999 := by
  unfold cvS
  constructor
  · intro h
    by_cases hq : G k (6 + j) = nI 999
    · exact hq
    · rw [if_neg hq] at h
      rcases (hG k hk).2.2.2.2 j hj with h1 | h1
      · exact h1
      · rw [h] at h1
        have := h1.2
        rw [nI_toIntS (by decide)] at this
        omega
  · intro h
    rw [if_pos h]
theorem cvS_val {v : Int32} (h : ¬ cvS v = nI 1000) : cvS v = v := by
  unfold cvS at h ⊢
  split
  · rename_i h1
    rw [if_pos h1] at h
    exact absurd rfl h
  · rfl
def sumI (f : Nat → Int32) : Nat → Int32
  | 0 => nI 0
  | n + 1 => sumI f n + f n
def sumN (f : Nat → Nat) : Nat → Nat
  | 0 => 0
  | n + 1 => sumN f n + f n
def fdv (x y : Int32) : Int32 := if 0 ≤ x ^^^ y then x / y else if x / y * y = x then x / y else x / y - nI 1
def atk (k a : Nat) : Nat := if a = 0 then k % 5 else k / 5
def lastk (a : Nat) : Nat := if a = 0 then 4 else 3
def stepk (a : Nat) : Nat := if a = 0 then 1 else 5
/-- a slope that is not told, from beside -/
def sbk (G : Nat → Nat → Int32) (k a i : Nat) : Int32 := if atk k a = 0 then G (k + stepk a) (2 + i) - G k (2 + i) else if atk k a = lastk a then G k (2 + i) - G (k - stepk a) (2 + i) else fdv (G (k + stepk a) (2 + i) - G (k - stepk a) (2 + i)) (nI 2)
def slk (G : Nat → Nat → Int32) (k a i : Nat) : Int32 := if G k (6 + (a * 3 + i)) = nI 999 then sbk G k a i else G k (6 + (a * 3 + i))
def toldB (G : Nat → Nat → Int32) (k j : Nat) : Nat := if G k (6 + j) = nI 999 then 0 else 1
def toldK (G : Nat → Nat → Int32) (k : Nat) : Nat := sumN (toldB G k) 6
def turnI (G : Nat → Nat → Int32) (p t : Nat) : Int32 := (G (ca p (t + 1)) 0 - G (ca p t) 0) * (G (ca p (t + 2)) 1 - G (ca p (t + 1)) 1) - (G (ca p (t + 1)) 1 - G (ca p t) 1) * (G (ca p (t + 2)) 0 - G (ca p (t + 1)) 0)
def foldB (G : Nat → Nat → Int32) (p : Nat) : Bool := (List.range 4).any (fun t => decide (turnI G p t ≤ 0))
theorem foldB_t {G : Nat → Nat → Int32} {p t : Nat} (ht : t < 4) (h : turnI G p t ≤ 0) : foldB G p = true := by
  unfold foldB
  rw [List.any_eq_true]
  exact ⟨t, List.mem_range.mpr ht, decide_eq_true h⟩
theorem foldB_f {G : Nat → Nat → Int32} {p : Nat} (h : ∀ t, t < 4 → ¬ turnI G p t ≤ 0) : ¬ foldB G p = true := by
  unfold foldB
  rw [List.any_eq_true]
  rintro ⟨t, h1, h2⟩
  exact h t (List.mem_range.mp h1) (of_decide_eq_true h2)
def foldN (G : Nat → Nat → Int32) (p : Nat) : Nat := if foldB G p = true then 1 else 0
def areaT (G : Nat → Nat → Int32) (p t : Nat) : Int32 := G (ca p t) 0 * G (ca p (t + 1)) 1 - G (ca p (t + 1)) 0 * G (ca p t) 1
def absI (x : Int32) : Int32 := if 0 ≤ x then x else 0 - x
def wx (b u : Nat) : Int32 := if b = 0 then nI (8 - u) else nI u
/-- the place of a point, out of its corners' -/
def plc (f : Nat → Int32) (p u v : Nat) : Int32 := sumI (fun k => f (cp p k) * wx (k % 2) u * wx (k / 2) v) 4 / nI 64
def nwB (f : Nat → Int32) (t : Nat) : Bool := (List.range t).all (fun j => decide (f j ≠ f t))
theorem nwB_t {f : Nat → Int32} {t : Nat} (h : ∀ j, j < t → f j ≠ f t) : nwB f t = true := by
  unfold nwB
  rw [List.all_eq_true]
  exact fun j hj => decide_eq_true (h j (List.mem_range.mp hj))
theorem nwB_f {f : Nat → Int32} {t j : Nat} (hj : j < t) (h : f j = f t) : nwB f t = false := by
  cases hq : nwB f t with
  | false => rfl
  | true =>
    unfold nwB at hq
    rw [List.all_eq_true] at hq
    exact absurd h (of_decide_eq_true (hq j (List.mem_range.mpr hj)))
def nwN (f : Nat → Int32) (t : Nat) : Nat := if nwB f t = true then 1 else 0
def wP (t : Int32) (f : Nat) : Int32 := if f = 0 then nI 2 * t * t * t - nI 24 * t * t + nI 512 else nI 24 * t * t - nI 2 * t * t * t
def wS (t : Int32) (f : Nat) : Int32 := if f = 0 then t * t * t - nI 16 * t * t + nI 64 * t else t * t * t - nI 8 * t * t
def clp (q : Int32) : Int32 := if nI 0 < (if q < nI 255 then q else nI 255) then (if q < nI 255 then q else nI 255) else nI 0
def blT (x y w : Nat → Int32) (u v k : Nat) : Int32 := x k * wP (nI u) (k % 2) * wP (nI v) (k / 2) + y k * wS (nI u) (k % 2) * wP (nI v) (k / 2) + w k * wP (nI u) (k % 2) * wS (nI v) (k / 2)
def bl (x y w : Nat → Int32) (u v : Nat) : Int32 := clp (fdv (sumI (blT x y w u v) 4) (nI 262144))
theorem in_nat {x : Int32} {M : Nat} (hM : M < 2147483648) (h : nI 0 ≤ x ∧ x ≤ nI M) : ∃ j : Nat, j ≤ M ∧ x = nI j := by
  refine nI_of2 (M := nI M) (n := M) (nI_toIntS hM) ?_ h.2
  exact Int32.not_lt.mpr h.1
theorem pk3_eq {a b c : Nat} (ha : a < 256) (hb : b < 256) (hc : c < 256) : (nI a <<< (nI 16 &&& 31)) ||| (nI b <<< (nI 8 &&& 31)) ||| nI c = nI (65536 * a + 256 * b + c) := by
  rw [pk_shlN (nI 16 &&& 31) 16 (by decide) (by omega), pk_shlN (nI 8 &&& 31) 8 (by decide) (by omega)]
  have h1 : ∀ x y : Nat, x < 4294967296 → y < 4294967296 → nI x ||| nI y = nI (x ||| y) := by
    intro x y hx hy
    apply Int32.toBitVec_inj.mp
    apply BitVec.eq_of_toNat_eq
    rw [Int32.toBitVec_or, BitVec.toNat_or, pk_tn hx, pk_tn hy, pk_tn (Nat.or_lt_two_pow (n := 32) hx hy)]
  have e1 : a * 2 ^ 16 ||| b * 2 ^ 8 = a * 2 ^ 16 + b * 2 ^ 8 := by
    have := Nat.shiftLeft_add_eq_or_of_lt (i := 16) (b := b * 2 ^ 8) (by omega) a
    rw [Nat.shiftLeft_eq] at this
    exact this.symm
  rw [h1 _ _ (by omega) (by omega), e1]
  have e2 : (a * 2 ^ 16 + b * 2 ^ 8) ||| c = (a * 2 ^ 16 + b * 2 ^ 8) + c := by
    have := Nat.shiftLeft_add_eq_or_of_lt (i := 8) (b := c) (by omega) (a * 2 ^ 8 + b)
    rw [Nat.shiftLeft_eq, show (a * 2 ^ 8 + b) * 2 ^ 8 = a * 2 ^ 16 + b * 2 ^ 8 by omega] at this
    exact this.symm
  rw [h1 _ _ (by omega) (by omega), e2]
  congr 1
  omega
