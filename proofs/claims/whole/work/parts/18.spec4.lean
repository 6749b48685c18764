/-! the text's commands -/
abbrev dgP (c : Nat) : Prop := 48 ≤ c ∧ c ≤ 57
abbrev hxP (c : Nat) : Prop := (97 ≤ c ∧ c ≤ 102) ∨ (48 ≤ c ∧ c ≤ 57)
def hxV (c : Nat) : Nat := if 97 ≤ c then c - 87 else c - 48
theorem hxV_lt {c : Nat} (h : hxP c) : hxV c < 16 := by
  unfold hxV
  split <;> omega
abbrev ptP (T : Nat → Nat) (n e : Nat) : Prop := hxP (sg T n e) ∧ hxP (sg T n (e + 1))
def ptV (T : Nat → Nat) (n e : Nat) : Nat := hxV (sg T n e) * 16 + hxV (sg T n (e + 1))
theorem ptV_lt {T : Nat → Nat} {n e : Nat} (h : ptP T n e) : ptV T n e < 256 := by
  have h1 := hxV_lt h.1
  have h2 := hxV_lt h.2
  unfold ptV
  omega
/-- how many digits stand at e, at most m -/
def nd (T : Nat → Nat) (n e : Nat) : Nat → Nat
  | 0 => 0
  | m + 1 => if nd T n e m = m ∧ dgP (sg T n (e + m)) then m + 1 else nd T n e m
def va (T : Nat → Nat) (n e : Nat) : Nat → Nat
  | 0 => 0
  | j + 1 => va T n e j * 10 + (sg T n (e + j) - 48)
theorem nd_all {T : Nat → Nat} {n e : Nat} : ∀ j, (∀ i, i < j → dgP (sg T n (e + i))) → nd T n e j = j
  | 0, _ => rfl
  | j + 1, h => by
    show (if nd T n e j = j ∧ dgP (sg T n (e + j)) then j + 1 else nd T n e j) = j + 1
    rw [if_pos ⟨nd_all j (fun i hi => h i (by omega)), h j (by omega)⟩]
theorem nd_stop {T : Nat → Nat} {n e j : Nat} (h : ∀ i, i < j → dgP (sg T n (e + i))) (hj : ¬ dgP (sg T n (e + j))) : ∀ m, j ≤ m → nd T n e m = j
  | 0, hm => by rw [show j = 0 by omega]; rfl
  | m + 1, hm => by
    show (if nd T n e m = m ∧ dgP (sg T n (e + m)) then m + 1 else nd T n e m) = j
    rcases Nat.lt_or_ge m j with q | q
    · have e1 : j = m + 1 := by omega
      have := nd_all (T := T) (n := n) (e := e) j h
      rw [e1] at this ⊢
      exact this
    · rw [if_neg, nd_stop h hj m q]
      rintro ⟨h1, h2⟩
      rw [nd_stop h hj m q] at h1
      rw [h1] at hj
      exact hj h2
theorem nd_le (T : Nat → Nat) (n e : Nat) : ∀ m, nd T n e m ≤ m
  | 0 => Nat.le_refl 0
  | m + 1 => by
    show (if nd T n e m = m ∧ dgP (sg T n (e + m)) then m + 1 else nd T n e m) ≤ m + 1
    have := nd_le T n e m
    split <;> omega
theorem va_lt (T : Nat → Nat) (n e : Nat) : ∀ j, (∀ i, i < j → dgP (sg T n (e + i))) → va T n e j < 10 ^ j
  | 0, _ => by
    show 0 < 1
    decide
  | j + 1, h => by
    have h1 := va_lt T n e j (fun i hi => h i (by omega))
    have h2 := h j (by omega)
    show va T n e j * 10 + (sg T n (e + j) - 48) < 10 ^ (j + 1)
    rw [Nat.pow_succ]
    omega
theorem nd_dg (T : Nat → Nat) (n e : Nat) : ∀ m i, i < nd T n e m → dgP (sg T n (e + i))
  | 0, i, h => absurd h (Nat.not_lt_zero i)
  | m + 1, i, h => by
    have h : i < (if nd T n e m = m ∧ dgP (sg T n (e + m)) then m + 1 else nd T n e m) := h
    by_cases q : nd T n e m = m ∧ dgP (sg T n (e + m))
    · rw [if_pos q] at h
      rcases Nat.lt_or_ge i m with q2 | q2
      · exact nd_dg T n e m i (by omega)
      · rw [show i = m by omega]
        exact q.2
    · rw [if_neg q] at h
      exact nd_dg T n e m i h
theorem va3_lt (T : Nat → Nat) (n e : Nat) : va T n e (nd T n e 3) < 1000 := by
  have h1 := va_lt T n e (nd T n e 3) (nd_dg T n e 3)
  have h2 := nd_le T n e 3
  have h3 : 10 ^ nd T n e 3 ≤ 10 ^ 3 := Nat.pow_le_pow_right (by decide) h2
  omega
abbrev plP (T : Nat → Nat) (n e : Nat) : Prop := 0 < nd T n e 3 ∧ sg T n (e + nd T n e 3) = 44 ∧ 0 < nd T n (e + nd T n e 3 + 1) 3
/-- a command: its kind, column, row, up to three numbers, where the next one begins -/
abbrev Cmd : Type := Nat × Nat × Nat × Nat × Nat × Nat × Nat
def rd (T : Nat → Nat) (n s : Nat) : Option Cmd :=
  if dgP (sg T n (s + 1)) ∧ dgP (sg T n (s + 2)) then
    (if sg T n s = 102 then (if sg T n (s + 3) = 59 then some (102, sg T n (s + 1) - 48, sg T n (s + 2) - 48, 0, 0, 0, s + 4) else none)
    else if sg T n s = 99 then (if (sg T n (s + 3) = 58 ∧ (ptP T n (s + 4) ∧ ptP T n (s + 6) ∧ ptP T n (s + 8))) ∧ sg T n (s + 10) = 59 then some (99, sg T n (s + 1) - 48, sg T n (s + 2) - 48, ptV T n (s + 4), ptV T n (s + 6), ptV T n (s + 8), s + 11) else none)
    else if sg T n s = 109 then (if (sg T n (s + 3) = 58 ∧ plP T n (s + 4)) ∧ sg T n (s + 4 + nd T n (s + 4) 3 + 1 + nd T n (s + 4 + nd T n (s + 4) 3 + 1) 3) = 59 then some (109, sg T n (s + 1) - 48, sg T n (s + 2) - 48, va T n (s + 4) (nd T n (s + 4) 3), va T n (s + 4 + nd T n (s + 4) 3 + 1) (nd T n (s + 4 + nd T n (s + 4) 3 + 1) 3), 0, s + 4 + nd T n (s + 4) 3 + 1 + nd T n (s + 4 + nd T n (s + 4) 3 + 1) 3 + 1) else none)
    else none)
  else none
theorem rd_no {T : Nat → Nat} {n s : Nat} (h : ¬ (dgP (sg T n (s + 1)) ∧ dgP (sg T n (s + 2)))) : rd T n s = none := by
  unfold rd
  rw [if_neg h]
theorem rd_k {T : Nat → Nat} {n s : Nat} (h1 : ¬ sg T n s = 102) (h2 : ¬ sg T n s = 99) (h3 : ¬ sg T n s = 109) : rd T n s = none := by
  unfold rd
  rw [if_neg h1, if_neg h2, if_neg h3]
  split <;> rfl
theorem rd_f {T : Nat → Nat} {n s : Nat} (h : dgP (sg T n (s + 1)) ∧ dgP (sg T n (s + 2))) (hk : sg T n s = 102) : rd T n s = if sg T n (s + 3) = 59 then some (102, sg T n (s + 1) - 48, sg T n (s + 2) - 48, 0, 0, 0, s + 4) else none := by
  unfold rd
  rw [if_pos h, if_pos hk]
theorem rd_c {T : Nat → Nat} {n s : Nat} (h : dgP (sg T n (s + 1)) ∧ dgP (sg T n (s + 2))) (hk : sg T n s = 99) : rd T n s = if (sg T n (s + 3) = 58 ∧ (ptP T n (s + 4) ∧ ptP T n (s + 6) ∧ ptP T n (s + 8))) ∧ sg T n (s + 10) = 59 then some (99, sg T n (s + 1) - 48, sg T n (s + 2) - 48, ptV T n (s + 4), ptV T n (s + 6), ptV T n (s + 8), s + 11) else none := by
  unfold rd
  rw [if_pos h, if_neg (by omega), if_pos hk]
theorem rd_m {T : Nat → Nat} {n s : Nat} (h : dgP (sg T n (s + 1)) ∧ dgP (sg T n (s + 2))) (hk : sg T n s = 109) : rd T n s = if (sg T n (s + 3) = 58 ∧ plP T n (s + 4)) ∧ sg T n (s + 4 + nd T n (s + 4) 3 + 1 + nd T n (s + 4 + nd T n (s + 4) 3 + 1) 3) = 59 then some (109, sg T n (s + 1) - 48, sg T n (s + 2) - 48, va T n (s + 4) (nd T n (s + 4) 3), va T n (s + 4 + nd T n (s + 4) 3 + 1) (nd T n (s + 4 + nd T n (s + 4) 3 + 1) 3), 0, s + 4 + nd T n (s + 4) 3 + 1 + nd T n (s + 4 + nd T n (s + 4) 3 + 1) 3 + 1) else none := by
  unfold rd
  rw [if_pos h, if_neg (by omega), if_neg (by omega), if_pos hk]
/-- what a command that was read is like -/
abbrev cmdOK (T : Nat → Nat) (n s : Nat) (q : Cmd) : Prop := q.1 = sg T n s ∧ (q.1 = 102 ∨ q.1 = 99 ∨ q.1 = 109) ∧ q.2.1 < 10 ∧ q.2.2.1 < 10 ∧ q.2.2.2.1 < 1000 ∧ q.2.2.2.2.1 < 1000 ∧ (q.1 = 99 → q.2.2.2.1 < 256 ∧ q.2.2.2.2.1 < 256 ∧ q.2.2.2.2.2.1 < 256) ∧ s + 4 ≤ q.2.2.2.2.2.2 ∧ q.2.2.2.2.2.2 ≤ s + 20
theorem rd_ok {T : Nat → Nat} {n s : Nat} {q : Cmd} (h : rd T n s = some q) : cmdOK T n s q := by
  by_cases hd : dgP (sg T n (s + 1)) ∧ dgP (sg T n (s + 2))
  · by_cases h1 : sg T n s = 102
    · rw [rd_f hd h1] at h
      split at h
      · cases h
        exact ⟨h1.symm, Or.inl rfl, by simp; omega, by simp; omega, by simp, by simp, fun z => absurd (show (102 : Nat) = 99 from z) (by decide), by simp, by simp⟩
      · cases h
    · by_cases h2 : sg T n s = 99
      · rw [rd_c hd h2] at h
        split at h
        · rename_i hc
          cases h
          have a1 := ptV_lt hc.1.2.1
          have a2 := ptV_lt hc.1.2.2.1
          have a3 := ptV_lt hc.1.2.2.2
          exact ⟨h2.symm, Or.inr (Or.inl rfl), by simp; omega, by simp; omega, by simp; omega, by simp; omega, fun _ => ⟨a1, a2, a3⟩, by simp, by simp⟩
        · cases h
      · by_cases h3 : sg T n s = 109
        · rw [rd_m hd h3] at h
          split at h
          · rename_i hc
            cases h
            have a1 := va3_lt T n (s + 4)
            have a2 := va3_lt T n (s + 4 + nd T n (s + 4) 3 + 1)
            have a3 := nd_le T n (s + 4) 3
            have a4 := nd_le T n (s + 4 + nd T n (s + 4) 3 + 1) 3
            exact ⟨h3.symm, Or.inr (Or.inr rfl), by simp; omega, by simp; omega, a1, a2, fun z => absurd (show (109 : Nat) = 99 from z) (by decide), by simp; omega, by simp; omega⟩
          · cases h
        · rw [rd_k h1 h2 h3] at h
          cases h
  · rw [rd_no hd] at h
    cases h
def DG (c : Nat) (z : Int32) : Prop := (dgP c ∧ z = nI (c - 48)) ∨ (¬ dgP c ∧ z = -1)
def HX (c : Nat) (z : Int32) : Prop := (hxP c ∧ z = nI (hxV c)) ∨ (¬ hxP c ∧ z = -1)
def PT (T : Nat → Nat) (n e : Nat) (z : Int32) : Prop := (ptP T n e ∧ z = nI (ptV T n e)) ∨ (¬ ptP T n e ∧ z = -1)
def NM (T : Nat → Nat) (n e : Nat) (z : Int32) : Prop := (0 < nd T n e 3 ∧ z = nI (va T n e (nd T n e 3))) ∨ (¬ 0 < nd T n e 3 ∧ z = -1)
/-- the class's command as it was read: column, row, the numbers, the end -/
abbrev mch (q : Cmd) (u : Int32 × Int32 × Int32 × Int32 × Int32 × Nat) : Prop := u.1 = nI q.2.1 ∧ u.2.1 = nI q.2.2.1 ∧ (q.1 = 99 → u.2.2.1 = nI q.2.2.2.1 ∧ u.2.2.2.1 = nI q.2.2.2.2.1 ∧ u.2.2.2.2.1 = nI q.2.2.2.2.2.1) ∧ (q.1 = 109 → u.2.2.1 = nI q.2.2.2.1 ∧ u.2.2.2.1 = nI q.2.2.2.2.1) ∧ u.2.2.2.2.2 = q.2.2.2.2.2.2
def exZ (q : Cmd) (G : Nat → Nat → Int32) : Int32 := if q.1 = 102 then rfz G (nI q.2.1) (nI q.2.2.1) else cz (okC (nI q.2.1) (nI q.2.2.1)) (nI 0)
def exG (q : Cmd) (G : Nat → Nat → Int32) : Nat → Nat → Int32 := if q.1 = 102 then cG (rfB G (nI q.2.1) (nI q.2.2.1)) (freeG G (cn (nI q.2.1) (nI q.2.2.1))) G else if q.1 = 99 then cG (okC (nI q.2.1) (nI q.2.2.1)) (holdG G (cn (nI q.2.1) (nI q.2.2.1)) (nI q.2.2.2.1) (nI q.2.2.2.2.1) (nI q.2.2.2.2.2.1)) G else cG (okC (nI q.2.1) (nI q.2.2.1)) (moveG G (cn (nI q.2.1) (nI q.2.2.1)) (nI q.2.2.2.1) (nI q.2.2.2.2.1)) G
/-- doing a text from a place on: the fault's reason (0 none), the place, how many commands are done, the cause, the mesh -/
abbrev RunR : Type := Nat × Nat × Nat × Int32 × (Nat → Nat → Int32)
def runS (T : Nat → Nat) (n : Nat) : Nat → Nat → Nat → (Nat → Nat → Int32) → RunR
  | 0, pos, cnt, G => (0, pos, cnt, 0, G)
  | f + 1, pos, cnt, G => if pos < n then (match rd T n pos with
    | none => (1, pos, cnt, 0, G)
    | some q => if exZ q G = 0 then runS T n f q.2.2.2.2.2.2 (cnt + 1) (exG q G) else (2, pos, cnt, exZ q G, exG q G)) else (0, pos, cnt, 0, G)
theorem runS_end {T : Nat → Nat} {n f pos cnt : Nat} {G : Nat → Nat → Int32} (h : n ≤ pos) : runS T n f pos cnt G = (0, pos, cnt, 0, G) := by
  cases f with
  | zero => rfl
  | succ f =>
    unfold runS
    rw [if_neg (by omega)]
theorem runS_none {T : Nat → Nat} {n f pos cnt : Nat} {G : Nat → Nat → Int32} (h : pos < n) (hr : rd T n pos = none) : runS T n (f + 1) pos cnt G = (1, pos, cnt, 0, G) := by
  rw [runS, if_pos h, hr]
theorem runS_bad {T : Nat → Nat} {n f pos cnt : Nat} {G : Nat → Nat → Int32} {q : Cmd} (h : pos < n) (hr : rd T n pos = some q) (hz : ¬ exZ q G = 0) : runS T n (f + 1) pos cnt G = (2, pos, cnt, exZ q G, exG q G) := by
  rw [runS, if_pos h, hr]
  show (if exZ q G = 0 then _ else _) = _
  rw [if_neg hz]
theorem runS_go {T : Nat → Nat} {n f pos cnt : Nat} {G : Nat → Nat → Int32} {q : Cmd} (h : pos < n) (hr : rd T n pos = some q) (hz : exZ q G = 0) : runS T n (f + 1) pos cnt G = runS T n f q.2.2.2.2.2.2 (cnt + 1) (exG q G) := by
  rw [runS, if_pos h, hr]
  show (if exZ q G = 0 then _ else _) = _
  rw [if_pos hz]
def rnA (T : Nat → Nat) (n : Nat) (G : Nat → Nat → Int32) : RunR := runS T n 61 0 0 G
def rnR (T : Nat → Nat) (n : Nat) (G : Nat → Nat → Int32) : Nat := (rnA T n G).1
def rnP (T : Nat → Nat) (n : Nat) (G : Nat → Nat → Int32) : Nat := (rnA T n G).2.1
def rnC (T : Nat → Nat) (n : Nat) (G : Nat → Nat → Int32) : Nat := (rnA T n G).2.2.1
def rnZ (T : Nat → Nat) (n : Nat) (G : Nat → Nat → Int32) : Int32 := (rnA T n G).2.2.2.1
def rnG (T : Nat → Nat) (n : Nat) (G : Nat → Nat → Int32) : Nat → Nat → Int32 := (rnA T n G).2.2.2.2
def ftof (R P : Nat) (Z : Int32) (w : Nat) : Int32 := if R = 0 then (-1004) else if w = 0 then nI P else if w = 1 then nI R else if R = 1 then (-1004) else Z
theorem nm_fin {T : Nat → Nat} {n e j : Nat} {nm : Int32} (h : nd T n e 3 = j) (hn : nm = if j = 0 then (-1) else nI (va T n e j)) : NM T n e nm := by
  unfold NM
  rw [h]
  by_cases q : j = 0
  · rw [if_pos q] at hn
    exact Or.inr ⟨by omega, hn⟩
  · rw [if_neg q] at hn
    exact Or.inl ⟨by omega, hn⟩
