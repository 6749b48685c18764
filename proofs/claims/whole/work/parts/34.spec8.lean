def nxG (G : Nat → Nat → Int32) : Nat → Int32 := fun k => if G (k / 3) 5 = nI 1 then G (k / 3) (2 + k % 3) else meanG G (k / 3) (k % 3)
theorem bes_out {G : Nat → Nat → Int32} {c r : Int32} {i : Nat} (h : ¬ CN c r) : bes G c r i = nI 0 := by
  unfold bes
  rw [if_neg h]
theorem bes_in {G : Nat → Nat → Int32} {c r i : Nat} (hc : c < 5) (hr : r < 4) : bes G (nI c) (nI r) i = G (r * 5 + c) (2 + i) := by
  unfold bes
  rw [if_pos (CN_in hc hr), cn_nI hc hr]
theorem bes_L {G : Nat → Nat → Int32} {c r i : Nat} (hc : c < 5) (hr : r < 4) : bes G (nI c - nI 1) (nI r) i = bsL G (r * 5 + c) i := by
  unfold bsL
  rcases Nat.eq_zero_or_pos c with h | h
  · subst h
    rw [if_pos (by omega), bes_out]
    exact fun q => absurd q.1.1 (by decide)
  · rw [if_neg (by omega), pk_sub h, bes_in (by omega) hr, show r * 5 + (c - 1) = r * 5 + c - 1 by omega]
theorem bes_R {G : Nat → Nat → Int32} {c r i : Nat} (hc : c < 5) (hr : r < 4) : bes G (nI (c + 1)) (nI r) i = bsR G (r * 5 + c) i := by
  unfold bsR
  by_cases h : 4 ≤ c
  · rw [if_pos (by omega), bes_out]
    rw [show c = 4 by omega]
    exact fun q => absurd q.1.2 (by decide)
  · rw [if_neg (by omega), bes_in (by omega) hr]
    rfl
theorem bes_U {G : Nat → Nat → Int32} {c r i : Nat} (hc : c < 5) (hr : r < 4) : bes G (nI c) (nI r - nI 1) i = bsU G (r * 5 + c) i := by
  unfold bsU
  rcases Nat.eq_zero_or_pos r with h | h
  · subst h
    rw [if_pos (by omega), bes_out]
    exact fun q => absurd q.2.1 (by decide)
  · rw [if_neg (by omega), pk_sub h, bes_in hc (by omega), show (r - 1) * 5 + c = r * 5 + c - 5 by omega]
theorem bes_D {G : Nat → Nat → Int32} {c r i : Nat} (hc : c < 5) (hr : r < 4) : bes G (nI c) (nI (r + 1)) i = bsD G (r * 5 + c) i := by
  unfold bsD
  by_cases h : 3 ≤ r
  · rw [if_pos (by omega), bes_out]
    rw [show r = 3 by omega]
    exact fun q => absurd q.2.2 (by decide)
  · rw [if_neg (by omega), bes_in hc (by omega), show (r + 1) * 5 + c = r * 5 + c + 5 by omega]
theorem mny_eq {c r : Nat} (hc : c < 5) (hr : r < 4) : mny c r = bnL (r * 5 + c) + bnR (r * 5 + c) + bnU (r * 5 + c) + bnD (r * 5 + c) := by
  unfold mny bnL bnR bnU bnD
  rw [show (r * 5 + c) % 5 = c by omega, show (r * 5 + c) / 5 = r by omega]
  congr 1
  · congr 1
    · congr 1
      · split <;> split <;> omega
      · split <;> split <;> omega
    · split <;> split <;> omega
  · split <;> split <;> omega
theorem nx_h {G : Nat → Nat → Int32} {k : Nat} (h : G (k / 3) 5 = nI 1) : G (k / 3) (2 + k % 3) = nxG G k := by
  unfold nxG
  rw [if_pos h]
theorem nx_m {G : Nat → Nat → Int32} {k : Nat} (hk : k < 60) (h : ¬ G (k / 3) 5 = nI 1) : (bes G (nI (k / 3 % 5) - nI 1) (nI (k / 3 / 5)) (k % 3) + bes G (nI (k / 3 % 5 + 1)) (nI (k / 3 / 5)) (k % 3) + bes G (nI (k / 3 % 5)) (nI (k / 3 / 5) - nI 1) (k % 3) + bes G (nI (k / 3 % 5)) (nI (k / 3 / 5 + 1)) (k % 3)) / nI (mny (k / 3 % 5) (k / 3 / 5)) = nxG G k := by
  unfold nxG meanG
  rw [if_neg h, bes_L (by omega) (by omega), bes_R (by omega) (by omega), bes_U (by omega) (by omega), bes_D (by omega) (by omega), mny_eq (by omega) (by omega), show k / 3 / 5 * 5 + k / 3 % 5 = k / 3 by omega]
def rdM (G : Nat → Nat → Int32) (q : Nat) : Nat → Nat → Int32 := fun j w => if j < q then roundG G j w else G j w
def rdI (G : Nat → Nat → Int32) (q y : Nat) : Nat → Nat → Int32 := fun j w => if j = q ∧ 2 ≤ w ∧ w < 2 + y then nxG G (3 * q + (w - 2)) else rdM G q j w
theorem rdM_0 (G : Nat → Nat → Int32) : rdM G 0 = G := by
  funext j w
  unfold rdM
  rw [if_neg (by omega)]
theorem rdI_0 (G : Nat → Nat → Int32) (q : Nat) : rdI G q 0 = rdM G q := by
  funext j w
  unfold rdI
  rw [if_neg (by omega)]
theorem rdI_at (G : Nat → Nat → Int32) (q y : Nat) : rdI G q y q (2 + y) = G q (2 + y) := by
  unfold rdI rdM
  rw [if_neg (by omega), if_neg (by omega)]
theorem rdI_s (G : Nat → Nat → Int32) (q y : Nat) : set1 (rdI G q y) q (2 + y) (nxG G (3 * q + y)) = rdI G q (y + 1) := by
  funext j w
  unfold set1 rdI
  by_cases h : j = q ∧ w = 2 + y
  · rw [if_pos h, if_pos (by omega), show 3 * q + (w - 2) = 3 * q + y by omega]
  · rw [if_neg h]
    by_cases h2 : j = q ∧ 2 ≤ w ∧ w < 2 + y
    · rw [if_pos h2, if_pos (by omega)]
    · rw [if_neg h2, if_neg (by omega)]
theorem nx_at (G : Nat → Nat → Int32) (q i : Nat) (hi : i < 3) : nxG G (3 * q + i) = if G q 5 = nI 1 then G q (2 + i) else meanG G q i := by
  unfold nxG
  rw [show (3 * q + i) / 3 = q by omega, show (3 * q + i) % 3 = i by omega]
theorem rdI_3 {G : Nat → Nat → Int32} (hG : OKG G) {q : Nat} (hq : q < 20) : rdI G q 3 = rdM G (q + 1) := by
  funext j w
  unfold rdI
  by_cases h : j = q ∧ 2 ≤ w ∧ w < 2 + 3
  · rw [if_pos h, nx_at G q (w - 2) (by omega), show 2 + (w - 2) = w by omega]
    obtain ⟨rfl, h2, h3⟩ := h
    show _ = (if j < j + 1 then (if (2 ≤ w ∧ w < 5) ∧ HA G j = 0 then meanG G j (w - 2) else G j w) else G j w)
    rw [if_pos (show j < j + 1 by omega)]
    rcases (hG j hq).2.2.2.1 with e | e
    · rw [if_neg (show ¬ G j 5 = nI 1 by rw [e]; decide), if_pos (show (2 ≤ w ∧ w < 5) ∧ HA G j = 0 from ⟨by omega, e⟩)]
    · rw [if_pos e, if_neg (show ¬ ((2 ≤ w ∧ w < 5) ∧ HA G j = 0) from fun z => absurd (e.symm.trans z.2) (by decide))]
  · rw [if_neg h]
    unfold rdM
    by_cases h2 : j < q
    · rw [if_pos h2, if_pos (by omega)]
    · rw [if_neg h2]
      by_cases h3 : j < q + 1
      · rw [if_pos h3]
        unfold roundG
        rw [if_neg (fun z => h (by omega))]
      · rw [if_neg h3]
theorem rdM_20 (G : Nat → Nat → Int32) {e : Nat} (he : e < 240) : MA (rdM G 20) e = MA (roundG G) e := by
  unfold MA rdM
  rw [if_pos (by omega)]
theorem ro_s {G : Nat → Nat → Int32} {q y : Nat} (c : ¬ rdI G q y q (2 + y) = nxG G (3 * q + y)) : BB (∃ i, i < y + 1 ∧ G q (2 + i) ≠ nxG G (3 * q + i)) (nI 1) := Or.inl ⟨⟨y, by omega, by rw [rdI_at] at c; exact c⟩, rfl⟩
theorem ro_o {G : Nat → Nat → Int32} {q y : Nat} {x : Int32} (h : BB (∃ i, i < y ∧ G q (2 + i) ≠ nxG G (3 * q + i)) x) (c : ¬ x = 0) : BB (∃ i, i < y + 1 ∧ G q (2 + i) ≠ nxG G (3 * q + i)) (nI 1) := by
  rcases h with ⟨⟨i, h1, h2⟩, h3⟩ | ⟨h1, h2⟩
  · exact Or.inl ⟨⟨i, by omega, h2⟩, rfl⟩
  · exact absurd h2 c
theorem ro_n {G : Nat → Nat → Int32} {q y : Nat} {x : Int32} (h : BB (∃ i, i < y ∧ G q (2 + i) ≠ nxG G (3 * q + i)) x) (d : x = 0) (c : rdI G q y q (2 + y) = nxG G (3 * q + y)) : BB (∃ i, i < y + 1 ∧ G q (2 + i) ≠ nxG G (3 * q + i)) (nI 0) := by
  rw [rdI_at] at c
  rcases h with ⟨⟨i, h1, h2⟩, h3⟩ | ⟨h1, h2⟩
  · rw [h3] at d
    exact absurd d (by decide)
  · refine Or.inr ⟨fun ⟨i, h3, h4⟩ => ?_, rfl⟩
    rcases Nat.lt_or_ge i y with z | z
    · exact h1 ⟨i, z, h4⟩
    · rw [show i = y by omega] at h4
      exact h4 c
theorem ro_1 {G : Nat → Nat → Int32} (hG : OKG G) {q : Nat} (hq : q < 20) {x : Int32} (h : BB (∃ i, i < 3 ∧ G q (2 + i) ≠ nxG G (3 * q + i)) x) (c : ¬ x = 0) : chN G q = 1 := by
  rcases h with ⟨⟨i, h1, h2⟩, h3⟩ | ⟨h1, h2⟩
  · rw [nx_at G q i h1] at h2
    unfold chN
    rcases (hG q hq).2.2.2.1 with e | e
    · rw [if_neg (by rw [e]; decide)] at h2
      rw [if_pos (show HA G q = 0 from e), if_pos (chB_iff.mpr ⟨i, h1, fun z => h2 z.symm⟩)]
    · rw [if_pos e] at h2
      exact absurd rfl h2
  · exact absurd h2 c
theorem ro_0 {G : Nat → Nat → Int32} {q : Nat} {x : Int32} (h : BB (∃ i, i < 3 ∧ G q (2 + i) ≠ nxG G (3 * q + i)) x) (c : x = 0) : chN G q = 0 := by
  rcases h with ⟨h1, h2⟩ | ⟨h1, h2⟩
  · rw [h2] at c
    exact absurd c (by decide)
  · unfold chN
    by_cases e : HA G q = 0
    · rw [if_pos e, if_neg]
      intro z
      obtain ⟨i, hi, hz⟩ := chB_iff.mp z
      refine h1 ⟨i, hi, ?_⟩
      rw [nx_at G q i hi, if_neg (fun w => absurd (w.symm.trans e) (by decide))]
      exact fun w => hz w.symm
    · rw [if_neg e]
theorem un_y {f : Nat → Int32} {k i : Nat} {x : Int32} (h : BB (∀ j, j < i → f j ≠ f k) x) (hi : k ≤ i) (c : ¬ x = 0) : nwN f k = 1 := by
  rcases h with ⟨h1, h2⟩ | ⟨h1, h2⟩
  · unfold nwN
    rw [if_pos (nwB_t (fun j hj => h1 j (by omega)))]
  · exact absurd h2 c
theorem un_n {f : Nat → Int32} {k i : Nat} {x : Int32} (h : BB (∀ j, j < i → f j ≠ f k) x) (hi : i ≤ k) (c : x = 0) : nwN f k = 0 := by
  rcases h with ⟨h1, h2⟩ | ⟨h1, h2⟩
  · rw [h2] at c
    exact absurd c (by decide)
  · unfold nwN
    rw [if_neg]
    intro z
    refine h1 (fun j hj e => ?_)
    rw [nwB_f (j := j) (t := k) (by omega) e] at z
    cases z
theorem un_s {f : Nat → Int32} {k i : Nat} {x : Int32} (h : BB (∀ j, j < i → f j ≠ f k) x) (c : ¬ x = 0) (d : ¬ f i = f k) : BB (∀ j, j < i + 1 → f j ≠ f k) (nI 1) := by
  rcases h with ⟨h1, h2⟩ | ⟨h1, h2⟩
  · exact Or.inl ⟨lt_s h1 d, rfl⟩
  · exact absurd h2 c
theorem un_e {f : Nat → Int32} {k i : Nat} (d : f i = f k) : BB (∀ j, j < i + 1 → f j ≠ f k) (nI 0) := Or.inr ⟨fun q => q i (by omega) d, rfl⟩
theorem nw_congr {f g : Nat → Int32} : ∀ n, (∀ k, k < n → f k = g k) → sumN (nwN f) n = sumN (nwN g) n
  | 0, _ => rfl
  | n + 1, h => by
    show sumN (nwN f) n + nwN f n = sumN (nwN g) n + nwN g n
    rw [nw_congr n (fun k hk => h k (by omega))]
    congr 1
    have e : nwB f n = nwB g n := by
      unfold nwB
      apply Bool.eq_iff_iff.mpr
      rw [List.all_eq_true, List.all_eq_true]
      constructor
      · intro z j hj
        have := z j hj
        rw [h j (by have := List.mem_range.mp hj; omega), h n (by omega)] at this
        exact this
      · intro z j hj
        have := z j hj
        rw [← h j (by have := List.mem_range.mp hj; omega), ← h n (by omega)] at this
        exact this
    unfold nwN
    rw [e]
def lkF (G : Nat → Nat → Int32) (p : Nat) : Nat → Int32 := fun k => pk3 (colG G p (k % 9) (k / 9) 0) (colG G p (k % 9) (k / 9) 1) (colG G p (k % 9) (k / 9) 2)
theorem clp_in (q : Int32) : inR 0 255 (clp q) := by
  by_cases h : q < 0
  · rw [clp_lo h rfl]
    exact inR_nI (M := 255) (by decide) (by decide)
  · by_cases h2 : nI 255 < q
    · rw [clp_hi h2 rfl]
      exact inR_nI (M := 255) (by decide) (by decide)
    · have h := Int32.not_lt.mp h
      have h2 := Int32.not_lt.mp h2
      rw [clp_mid ⟨h, h2⟩ rfl]
      constructor
      · have := Int32.le_iff_toInt_le.mp h
        simpa using this
      · have := Int32.le_iff_toInt_le.mp h2
        rw [nI_toInt (by decide)] at this
        exact this
theorem col_in (G : Nat → Nat → Int32) (p u v i : Nat) : inR 0 255 (colG G p u v i) := clp_in _
theorem pt_pl (G : Nat → Nat → Int32) (p u v w : Nat) (h1 : 3 ≤ w) (h2 : w ≤ 4) : plc (fun k => G k (w - 3)) p u v = if w = 3 then plc (XA G) p u v else if w = 4 then plc (YA G) p u v else colG G p u v w := by
  rcases (show w = 3 ∨ w = 4 by omega) with rfl | rfl <;> rfl
theorem nb_lt {p t : Nat} (hp : p ≤ 11) (h : hbs p t) : nb p t < 12 := by
  unfold hbs at h
  unfold nb
  by_cases q : t = 0
  · rw [if_pos q] at h ⊢
    omega
  · rw [if_neg q] at h ⊢
    omega
def agE (G : Nat → Nat → Int32) (p t j : Nat) : Prop := pin G p t 8 (j / 3) (j % 3) = pin G (nb p t) t 0 (j / 3) (j % 3)
theorem ag_o {G : Nat → Nat → Int32} {p t k : Nat} {x : Int32} (h : BB (∀ j, j < k → agE G p t j) x) (c : x = 0) : BB (∀ j, j < k + 1 → agE G p t j) (nI 0) := by
  rcases h with ⟨h1, h2⟩ | ⟨h1, h2⟩
  · rw [h2] at c
    exact absurd c (by decide)
  · exact Or.inr ⟨fun q => h1 (fun j hj => q j (by omega)), rfl⟩
theorem ag_n {G : Nat → Nat → Int32} {p t k : Nat} (c : ¬ pin G p t 8 (k / 3) (k % 3) = pin G (nb p t) t 0 (k / 3) (k % 3)) : BB (∀ j, j < k + 1 → agE G p t j) (nI 0) := Or.inr ⟨fun q => c (q k (by omega)), rfl⟩
theorem ag_y {G : Nat → Nat → Int32} {p t k : Nat} {x : Int32} (h : BB (∀ j, j < k → agE G p t j) x) (d : ¬ x = 0) (c : pin G p t 8 (k / 3) (k % 3) = pin G (nb p t) t 0 (k / 3) (k % 3)) : BB (∀ j, j < k + 1 → agE G p t j) (nI 1) := by
  rcases h with ⟨h1, h2⟩ | ⟨h1, h2⟩
  · exact Or.inl ⟨lt_s h1 c, rfl⟩
  · exact absurd h2 d
theorem ag_1 {G : Nat → Nat → Int32} {p t : Nat} {x : Int32} (h : BB (∀ j, j < 27 → agE G p t j) x) (d : ¬ x = 0) : b2i (agB G p t) = nI 1 := by
  rcases h with ⟨h1, h2⟩ | ⟨h1, h2⟩
  · rw [show agB G p t = true from agB_iff.mpr h1]
    rfl
  · exact absurd h2 d
theorem ag_0 {G : Nat → Nat → Int32} {p t : Nat} {x : Int32} (h : BB (∀ j, j < 27 → agE G p t j) x) (d : x = 0) : b2i (agB G p t) = nI 0 := by
  rcases h with ⟨h1, h2⟩ | ⟨h1, h2⟩
  · rw [h2] at d
    exact absurd d (by decide)
  · rw [show agB G p t = false from Bool.eq_false_iff.mpr (fun q => h1 (agB_iff.mp q))]
    rfl
theorem QA_at (P : Nat → Nat → Nat → Int32) (m : Nat) {k : Nat} (hk : k < 240) : QA P (240 * m + k) = MA (P m) k := by
  unfold QA
  rw [show (240 * m + k) / 240 = m by omega, show (240 * m + k) % 240 = k by omega]
