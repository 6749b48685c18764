/-! bounds: where the machine's numbers are the integers -/
abbrev bd (a : Int32) (A : Nat) : Prop := a.toInt.natAbs ≤ A
theorem bm {z : Int} (h : z.natAbs < 2147483648) : z.bmod (2 ^ 32) = z := by
  rw [Int.bmod_eq_of_le] <;> omega
theorem bd_le {a : Int32} {A B : Nat} (h : bd a A) (hl : A ≤ B) : bd a B := Nat.le_trans h hl
theorem bd_mul {a b : Int32} {A B : Nat} (ha : bd a A) (hb : bd b B) (h : A * B < 2147483648) : (a * b).toInt = a.toInt * b.toInt ∧ bd (a * b) (A * B) := by
  have h1 : (a.toInt * b.toInt).natAbs ≤ A * B := by
    rw [Int.natAbs_mul]
    exact Nat.mul_le_mul ha hb
  have h2 : (a * b).toInt = a.toInt * b.toInt := by
    rw [Int32.toInt_mul]
    exact bm (Nat.lt_of_le_of_lt h1 h)
  refine ⟨h2, ?_⟩
  show (a * b).toInt.natAbs ≤ A * B
  rw [h2]
  exact h1
theorem bd_add {a b : Int32} {A B : Nat} (ha : bd a A) (hb : bd b B) (h : A + B < 2147483648) : (a + b).toInt = a.toInt + b.toInt ∧ bd (a + b) (A + B) := by
  have h1 : (a.toInt + b.toInt).natAbs ≤ A + B := Nat.le_trans (Int.natAbs_add_le _ _) (Nat.add_le_add ha hb)
  have h2 : (a + b).toInt = a.toInt + b.toInt := by
    rw [Int32.toInt_add]
    exact bm (Nat.lt_of_le_of_lt h1 h)
  refine ⟨h2, ?_⟩
  show (a + b).toInt.natAbs ≤ A + B
  rw [h2]
  exact h1
theorem bd_df {x y : Int32} {M : Nat} (hM : M < 1073741824) (hx : inR 0 M x) (hy : inR 0 M y) : bd (x - y) M := by
  obtain ⟨x1, x2⟩ := hx
  obtain ⟨y1, y2⟩ := hy
  have h2 : (x - y).toInt = x.toInt - y.toInt := by
    rw [Int32.toInt_sub]
    exact bm (by omega)
  show (x - y).toInt.natAbs ≤ M
  rw [h2]
  omega
theorem bd_in {x : Int32} {M : Nat} (hx : inR 0 M x) : bd x M := by
  obtain ⟨x1, x2⟩ := hx
  show x.toInt.natAbs ≤ M
  omega
theorem bd_div {a : Int32} {A c : Nat} (ha : bd a A) (hA : A < 2147483648) (hc2 : c < 2147483648) : (a / nI c).toInt = a.toInt.tdiv (c : Int) ∧ bd (a / nI c) A := by
  have h0 : (nI c).toInt = (c : Int) := nI_toInt hc2
  have h1 : (a.toInt.tdiv (c : Int)).natAbs ≤ A := Nat.le_trans (Int.natAbs_tdiv_le_natAbs _ _) ha
  have h2 : (a / nI c).toInt = a.toInt.tdiv (c : Int) := by
    rw [Int32.toInt_div, h0]
    exact bm (Nat.lt_of_le_of_lt h1 hA)
  refine ⟨h2, ?_⟩
  show (a / nI c).toInt.natAbs ≤ A
  rw [h2]
  exact h1
theorem neg_msb (x : Int32) : x < 0 ↔ x.toBitVec.msb = true := by
  rw [Int32.lt_iff_toInt_lt, BitVec.msb_eq_toInt, decide_eq_true_iff]
  exact Iff.rfl
theorem xor_neg {x y : Int32} (hx : x < 0) (hy : ¬ y < 0) : ¬ 0 ≤ x ^^^ y := by
  have h1 : x ^^^ y < 0 := by
    rw [neg_msb, Int32.toBitVec_xor, BitVec.msb_xor, (neg_msb x).mp hx]
    have h2 : y.toBitVec.msb = false := by
      cases h3 : y.toBitVec.msb with
      | false => rfl
      | true => exact absurd ((neg_msb y).mpr h3) hy
    rw [h2]
    rfl
  exact Int32.not_le.mpr h1
theorem xor_pos {x y : Int32} (hx : ¬ x < 0) (hy : ¬ y < 0) : 0 ≤ x ^^^ y := by
  have h0 : ∀ z : Int32, ¬ z < 0 → z.toBitVec.msb = false := fun z hz => by
    cases h3 : z.toBitVec.msb with
    | false => rfl
    | true => exact absurd ((neg_msb z).mpr h3) hz
  have h1 : ¬ x ^^^ y < 0 := by
    rw [neg_msb, Int32.toBitVec_xor, BitVec.msb_xor, h0 x hx, h0 y hy]
    decide
  exact Int32.not_lt.mp h1
/-- the reference's floor is the library's, where nothing overflows -/
theorem fl_fd {x : Int32} {c : Nat} (hc : c = 2 ∨ c = 262144) (hx : bd x 1073741823) : (if x < 0 then -((nI c - nI 1 - x) / nI c) else x / nI c) = fdv x (nI c) := by
  have hy : (nI c).toInt = (c : Int) := nI_toInt (by omega)
  have h1 : (nI 1).toInt = 1 := by decide
  have hy0 : ¬ nI c < 0 := nI_pos (by omega)
  obtain ⟨d1, d2⟩ := bd_div (c := c) hx (by decide) (by omega)
  unfold fdv
  by_cases h : x < 0
  · have hX : x.toInt < 0 := by
      rw [Int32.lt_iff_toInt_lt] at h
      exact h
    rw [if_pos h, if_neg (xor_neg h hy0)]
    have hx2 : -1073741823 ≤ x.toInt := by
      have h9 : x.toInt.natAbs ≤ 1073741823 := hx
      omega
    clear hx d2
    have e1 : (nI c - nI 1).toInt = (c : Int) - 1 := by
      rw [Int32.toInt_sub, hy, h1]
      exact bm (by omega)
    have e2 : (nI c - nI 1 - x).toInt = (c : Int) - 1 - x.toInt := by
      rw [Int32.toInt_sub, e1]
      exact bm (by omega)
    have e5 : x.toInt.tdiv (c : Int) = -((-x.toInt) / (c : Int)) := by
      rw [← Int.tdiv_eq_ediv_of_nonneg (show 0 ≤ -x.toInt by omega), Int.neg_tdiv, Int.neg_neg]
    rw [e5] at d1
    have e3 : ((nI c - nI 1 - x) / nI c).toInt = ((c : Int) - 1 - x.toInt) / (c : Int) := by
      rw [Int32.toInt_div, e2, hy, Int.tdiv_eq_ediv_of_nonneg (by omega)]
      exact bm (by rcases hc with rfl | rfl <;> omega)
    have e4 : (-((nI c - nI 1 - x) / nI c)).toInt = -(((c : Int) - 1 - x.toInt) / (c : Int)) := by
      rw [Int32.toInt_neg, e3]
      exact bm (by rcases hc with rfl | rfl <;> omega)
    have e6 : (x / nI c * nI c).toInt = -((-x.toInt) / (c : Int)) * (c : Int) := by
      rw [Int32.toInt_mul, d1, hy]
      exact bm (by rcases hc with rfl | rfl <;> omega)
    by_cases g : x / nI c * nI c = x
    · rw [if_pos g]
      apply Int32.toInt.inj
      have g2 := congrArg Int32.toInt g
      rw [e6] at g2
      rw [e4, d1]
      rcases hc with rfl | rfl <;> omega
    · rw [if_neg g]
      apply Int32.toInt.inj
      have e7 : (x / nI c - nI 1).toInt = -((-x.toInt) / (c : Int)) - 1 := by
        rw [Int32.toInt_sub, d1, h1]
        exact bm (by rcases hc with rfl | rfl <;> omega)
      have g2 : ¬ (-((-x.toInt) / (c : Int)) * (c : Int) = x.toInt) := fun q => g (Int32.toInt.inj (by rw [e6]; exact q))
      rw [e4, e7]
      rcases hc with rfl | rfl <;> omega
  · rw [if_neg h, if_pos (xor_pos h hy0)]
theorem wP_bd : ∀ u, u < 9 → ∀ f, f < 2 → bd (wP (nI u) f) 512 := by decide +kernel
theorem wS_bd : ∀ u, u < 9 → ∀ f, f < 2 → bd (wS (nI u) f) 80 := by decide +kernel
theorem pr_in {G : Nat → Nat → Int32} (hG : OKG G) {k i : Nat} (hk : k < 20) (hi : i < 3) : inR 0 255 (G k (2 + i)) := (hG k hk).2.2.1 i hi
theorem fdv_bd {x : Int32} (hx : bd x 255) : bd (fdv x (nI 2)) 256 := by
  obtain ⟨d1, d2⟩ := bd_div (c := 2) hx (by decide) (by decide)
  unfold fdv
  split
  · exact bd_le d2 (by decide)
  · split
    · exact bd_le d2 (by decide)
    · have h1 : (nI 1).toInt = 1 := by decide
      have h9 : (x / nI 2).toInt.natAbs ≤ 255 := d2
      have h2 : (x / nI 2 - nI 1).toInt = (x / nI 2).toInt - 1 := by
        rw [Int32.toInt_sub, h1]
        exact bm (by omega)
      show (x / nI 2 - nI 1).toInt.natAbs ≤ 256
      rw [h2]
      omega
theorem sbk_bd {G : Nat → Nat → Int32} (hG : OKG G) {k a i : Nat} (hk : k < 20) (ha : a < 2) (hi : i < 3) : bd (sbk G k a i) 256 := by
  have df : ∀ k j, k < 20 → j < 20 → bd (G k (2 + i) - G j (2 + i)) 255 := fun k j hk hj => bd_df (M := 255) (by decide) (pr_in hG hk hi) (pr_in hG hj hi)
  unfold sbk
  rcases (show a = 0 ∨ a = 1 by omega) with rfl | rfl
  · rw [show stepk 0 = 1 from rfl, show lastk 0 = 4 from rfl, show atk k 0 = k % 5 from rfl]
    split
    · exact bd_le (df _ _ (by omega) hk) (by decide)
    · split
      · exact bd_le (df _ _ hk (by omega)) (by decide)
      · exact fdv_bd (df _ _ (by omega) (by omega))
  · rw [show stepk 1 = 5 from rfl, show lastk 1 = 3 from rfl, show atk k 1 = k / 5 from rfl]
    split
    · exact bd_le (df _ _ (by omega) hk) (by decide)
    · split
      · exact bd_le (df _ _ hk (by omega)) (by decide)
      · exact fdv_bd (df _ _ (by omega) (by omega))
theorem slk_bd {G : Nat → Nat → Int32} (hG : OKG G) {k a i : Nat} (hk : k < 20) (ha : a < 2) (hi : i < 3) : bd (slk G k a i) 256 := by
  unfold slk
  split
  · exact sbk_bd hG hk ha hi
  · rename_i h9
    rcases (hG k hk).2.2.2.2 (a * 3 + i) (by omega) with q | ⟨q1, q2⟩
    · exact absurd q h9
    · show (G k (6 + (a * 3 + i))).toInt.natAbs ≤ 256
      omega
theorem sum_bd {f : Nat → Int32} {A : Nat} (h : ∀ k, k < 4 → bd (f k) A) (hA : 4 * A < 2147483648) : bd (sumI f 4) (4 * A) := by
  have h0 : bd (nI 0) 0 := by decide
  have a1 := (bd_add h0 (h 0 (by decide)) (by omega)).2
  have a2 := (bd_add a1 (h 1 (by decide)) (by omega)).2
  have a3 := (bd_add a2 (h 2 (by decide)) (by omega)).2
  have a4 := (bd_add a3 (h 3 (by decide)) (by omega)).2
  exact bd_le a4 (by omega)
theorem blT_bd {G : Nat → Nat → Int32} (hG : OKG G) {p u v i k : Nat} (hp : p < 12) (hu : u < 9) (hv : v < 9) (hi : i < 3) (hk : k < 4) : bd (blT (bP G p i) (bR G p i) (bC G p i) u v k) 87818240 := by
  have hc : cp p k < 20 := cp_lt hp hk
  have b1 : bd (bP G p i k) 255 := bd_in (pr_in hG hc hi)
  have b2 : bd (bR G p i k) 256 := slk_bd hG hc (by decide) hi
  have b3 : bd (bC G p i k) 256 := slk_bd hG hc (by decide) hi
  have w1 := wP_bd u hu (k % 2) (by omega)
  have w2 := wP_bd v hv (k / 2) (by omega)
  have s1 := wS_bd u hu (k % 2) (by omega)
  have s2 := wS_bd v hv (k / 2) (by omega)
  have t1 := (bd_mul (bd_mul b1 w1 (by decide)).2 w2 (by decide)).2
  have t2 := (bd_mul (bd_mul b2 s1 (by decide)).2 w2 (by decide)).2
  have t3 := (bd_mul (bd_mul b3 w1 (by decide)).2 s2 (by decide)).2
  have t4 := (bd_add (bd_add t1 t2 (by decide)).2 t3 (by decide)).2
  exact bd_le t4 (by decide)
theorem plc_0 {f : Nat → Int32} (h : ∀ k, k < 20 → inR 0 999 (f k)) : inR 0 999 (plc f 0 0 0) := by
  have hn : ∀ k, k < 20 → ∃ n : Nat, n ≤ 999 ∧ f k = nI n := fun k hk => inR_nat (M := 999) (h k hk)
  obtain ⟨a, ha, ea⟩ := hn (cp 0 0) (by decide)
  obtain ⟨b, hb, eb⟩ := hn (cp 0 1) (by decide)
  obtain ⟨c, hc, ec⟩ := hn (cp 0 2) (by decide)
  obtain ⟨d, hd, ed⟩ := hn (cp 0 3) (by decide)
  have e : plc f 0 0 0 = (nI 0 + f (cp 0 0) * nI 8 * nI 8 + f (cp 0 1) * nI 0 * nI 8 + f (cp 0 2) * nI 8 * nI 0 + f (cp 0 3) * nI 0 * nI 0) / nI 64 := rfl
  rw [e, ea, eb, ec, ed]
  simp only [pk_mul, nI_add]
  rw [pk_div (by omega) (by decide) (by decide)]
  exact inR_nI (M := 999) (by omega) (by decide)
theorem dst_0 {G : Nat → Nat → Int32} (hG : OKG G) {x y : Nat} (hx : x ≤ 999) (hy : y ≤ 999) : dst G (nI x) (nI y) 0 < nI 2000000 := by
  have p1 : inR 0 999 (plc (XA G) 0 0 0) := plc_0 (fun k hk => (hG k hk).1)
  have p2 : inR 0 999 (plc (YA G) 0 0 0) := plc_0 (fun k hk => (hG k hk).2.1)
  have d1 := bd_df (M := 999) (by decide) p1 (inR_nI (M := 999) hx (by decide))
  have d2 := bd_df (M := 999) (by decide) p2 (inR_nI (M := 999) hy (by decide))
  have e : dst G (nI x) (nI y) 0 = (plc (XA G) 0 0 0 - nI x) * (plc (XA G) 0 0 0 - nI x) + (plc (YA G) 0 0 0 - nI y) * (plc (YA G) 0 0 0 - nI y) := rfl
  have t := (bd_add (bd_mul d1 d1 (by decide)).2 (bd_mul d2 d2 (by decide)).2 (by decide)).2
  rw [e, Int32.lt_iff_toInt_lt, nI_toInt (by decide)]
  generalize (plc (XA G) 0 0 0 - nI x) * (plc (XA G) 0 0 0 - nI x) + (plc (YA G) 0 0 0 - nI y) * (plc (YA G) 0 0 0 - nI y) = z at t
  have t2 : z.toInt.natAbs ≤ 1996002 := t
  omega
