theorem tb_out {x : Int32} {M : Nat} (hM : M < 2147483648) (h : ¬ INN (nI 0) (nI M) x) : x.toInt < 0 ∨ (M : Int) < x.toInt := by
  rcases (show x.toInt < 0 ∨ 0 ≤ x.toInt by omega) with q | q
  · exact Or.inl q
  · rcases (show (M : Int) < x.toInt ∨ x.toInt ≤ M by omega) with q2 | q2
    · exact Or.inr q2
    · refine absurd ⟨Int32.le_iff_toInt_le.mpr ?_, Int32.le_iff_toInt_le.mpr ?_⟩ h
      · rw [nI_toInt (by decide)]
        exact q
      · rw [nI_toInt hM]
        exact q2
def okCt (w : Int32) : Bool := decide (INN (nI 0) (nI 6) w)
def ctof (G : Nat → Nat → Int32) (n len fb w : Nat) : Int32 := if w = 0 then sumI (HA G) 20 else if w = 1 then nI (sumN (foldN G) 12) else if w = 2 then nI (sumN (toldK G) 20) else if w = 3 then nI n else if w = 4 then nI len else if w = 5 then nI fb else nI (sumN (nwN (kcG G)) 20)
def pin (G : Nat → Nat → Int32) (p t d u i : Nat) : Int32 := if t = 0 then colG G p d u i else colG G p u d i
def hbB (p t : Nat) : Bool := if t = 0 then decide (p % 4 < 3) else decide (p / 4 < 2)
theorem hbB_t {p t : Nat} (h : hbs p t) : hbB p t = true := by
  unfold hbs at h
  unfold hbB
  by_cases q : t = 0
  · rw [if_pos q] at h ⊢
    exact decide_eq_true h
  · rw [if_neg q] at h ⊢
    exact decide_eq_true h
theorem hbB_f {p t : Nat} (h : ¬ hbs p t) : hbB p t = false := by
  unfold hbs at h
  unfold hbB
  by_cases q : t = 0
  · rw [if_pos q] at h ⊢
    exact decide_eq_false h
  · rw [if_neg q] at h ⊢
    exact decide_eq_false h
def agB (G : Nat → Nat → Int32) (p t : Nat) : Bool := (List.range 27).all (fun k => decide (pin G p t 8 (k / 3) (k % 3) = pin G (nb p t) t 0 (k / 3) (k % 3)))
theorem agB_iff {G : Nat → Nat → Int32} {p t : Nat} : agB G p t = true ↔ ∀ k, k < 27 → pin G p t 8 (k / 3) (k % 3) = pin G (nb p t) t 0 (k / 3) (k % 3) := by
  unfold agB
  rw [List.all_eq_true]
  exact ⟨fun h k hk => of_decide_eq_true (h k (List.mem_range.mpr hk)), fun h k hk => decide_eq_true (h k (List.mem_range.mp hk))⟩
theorem agB_t {G : Nat → Nat → Int32} {p t : Nat} (h : ∀ i, i < 3 → ∀ u, u < 9 → pin G p t 8 u i = pin G (nb p t) t 0 u i) : b2i (agB G p t) = nI 1 := by
  rw [show agB G p t = true from agB_iff.mpr (fun k hk => h (k % 3) (by omega) (k / 3) (by omega))]
  rfl
theorem agB_f {G : Nat → Nat → Int32} {p t i u : Nat} (hi : i < 3) (hu : u < 9) (h : ¬ pin G p t 8 u i = pin G (nb p t) t 0 u i) : b2i (agB G p t) = nI 0 := by
  rw [show agB G p t = false from Bool.eq_false_iff.mpr (fun q => h (by
    have := agB_iff.mp q (u * 3 + i) (by omega)
    rw [show (u * 3 + i) / 3 = u by omega, show (u * 3 + i) % 3 = i by omega] at this
    exact this))]
  rfl
def crof (G : Nat → Nat → Int32) (p t u i : Nat) : Int32 := absI ((pin G p t 7 u i - pin G p t 8 u i) - (pin G p t 8 u i - pin G (nb p t) t 1 u i))
def lvN (G : Nat → Nat → Int32) (p i : Nat) (lo hi : Int32) (k : Nat) : Nat := if INN lo hi (colG G p (k % 9) (k / 9) i) then 1 else 0
theorem lvN_eq (G : Nat → Nat → Int32) (p i : Nat) (lo hi : Int32) (v u : Nat) (hu : u < 9) : lvN G p i lo hi (9 * v + u) = if INN lo hi (colG G p u v i) then 1 else 0 := by
  unfold lvN
  rw [show (9 * v + u) % 9 = u by omega, show (9 * v + u) / 9 = v by omega]
def dst (G : Nat → Nat → Int32) (x y : Int32) (k : Nat) : Int32 := (plc (XA G) (k / 81) (k % 9) (k / 9 % 9) - x) * (plc (XA G) (k / 81) (k % 9) (k / 9 % 9) - x) + (plc (YA G) (k / 81) (k % 9) (k / 9 % 9) - y) * (plc (YA G) (k / 81) (k % 9) (k / 9 % 9) - y)
theorem dst_eq (G : Nat → Nat → Int32) (x y : Int32) (p v u : Nat) (hv : v < 9) (hu : u < 9) : dst G x y (81 * p + 9 * v + u) = (plc (XA G) p u v - x) * (plc (XA G) p u v - x) + (plc (YA G) p u v - y) * (plc (YA G) p u v - y) := by
  unfold dst
  rw [show (81 * p + 9 * v + u) / 81 = p by omega, show (81 * p + 9 * v + u) % 9 = u by omega, show (81 * p + 9 * v + u) / 9 % 9 = v by omega]
def nrB (D : Nat → Int32) : Nat → Nat × Int32
  | 0 => (0, nI 2000000)
  | n + 1 => if D n < (nrB D n).2 then (n, D n) else nrB D n
theorem nrB_t {D : Nat → Int32} {n : Nat} {d l : Int32} (hd : D n = d) (hl : l = (nrB D n).2) (h : d < l) : nrB D (n + 1) = (n, d) := by
  show (if D n < (nrB D n).2 then (n, D n) else nrB D n) = (n, d)
  rw [if_pos (by rw [hd, ← hl]; exact h), hd]
theorem nrB_f {D : Nat → Int32} {n : Nat} {d l : Int32} (hd : D n = d) (hl : l = (nrB D n).2) (h : ¬ d < l) : nrB D (n + 1) = nrB D n := by
  show (if D n < (nrB D n).2 then (n, D n) else nrB D n) = nrB D n
  rw [if_neg (by rw [hd, ← hl]; exact h)]
theorem nrB_lt (D : Nat → Int32) : ∀ n, (nrB D n).1 ≤ n
  | 0 => Nat.le_refl 0
  | n + 1 => by
    show (if D n < (nrB D n).2 then (n, D n) else nrB D n).1 ≤ n + 1
    split
    · exact Nat.le_succ n
    · exact Nat.le_succ_of_le (nrB_lt D n)
def neof (G : Nat → Nat → Int32) (x y : Int32) (w : Nat) : Int32 := if w = 0 then nI ((nrB (dst G x y) 972).1 / 81) else if w = 1 then nI ((nrB (dst G x y) 972).1 % 9) else if w = 2 then nI ((nrB (dst G x y) 972).1 / 9 % 9) else (nrB (dst G x y) 972).2
def clF (G : Nat → Nat → Int32) : Nat → Nat → Int32
  | 0, _ => -1004
  | f + 1, r => if sumN (chN (itG G r)) 20 = 0 then nI r else clF G f (r + 1)
theorem clF_s (G : Nat → Nat → Int32) (r : Nat) (h : r < 41) : clF G (41 - r) r = if sumN (chN (itG G r)) 20 = 0 then nI r else clF G (41 - (r + 1)) (r + 1) := by
  rw [show 41 - r = (41 - (r + 1)) + 1 by omega]
  rfl
theorem chs_lt (G : Nat → Nat → Int32) : sumN (chN G) 20 < 21 := by
  have := sumN_le (chN G) 1 (fun k => by unfold chN; split <;> (try split) <;> omega) 20
  omega
def nzB (n : Nat) : Bool := decide (n ≠ 0)
def fz (b : Bool) (x : Int32) : Int32 := if b = true then x else (-1002)
def fullB (n : Nat) : Bool := decide (n < 60)
def tyN (b : Bool) (len : Nat) : Nat := if b = true then len + 1 else len
def tyT (b : Bool) (T : Nat → Nat) (len q : Nat) : Nat → Nat := if b = true then updT T len q else T
