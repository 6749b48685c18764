/-! the law: what holds between the class and the reference from call to call -/
theorem OK_rnS {T : Nat → Nat} {n : Nat} : ∀ (f pos cnt : Nat) (G : Nat → Nat → Int32), OKG G → OKG (runS T n f pos cnt G).2.2.2.2
  | 0, _, _, _, h => h
  | f + 1, pos, cnt, G, h => by
    by_cases hp : pos < n
    · cases hr : rd T n pos with
      | none =>
        rw [runS_none hp hr]
        exact h
      | some q =>
        have h2 := OK_ex (rd_ok hr) h
        by_cases hz : exZ q G = 0
        · rw [runS_go hp hr hz]
          exact OK_rnS f _ _ _ h2
        · rw [runS_bad hp hr hz]
          exact h2
    · rw [runS_end (by omega)]
      exact h
theorem OK_rn {T : Nat → Nat} {n : Nat} {G : Nat → Nat → Int32} (h : OKG G) : OKG (rnG T n G) := OK_rnS 61 0 0 G h
theorem INN_nat {M : Nat} (hM : M < 2147483648) {x : Int32} (h : nI 0 ≤ x ∧ x ≤ nI M) : inR 0 M x := by
  obtain ⟨i, hi, rfl⟩ := in_nat hM h
  exact inR_nI hi hM
theorem OK_slope {G : Nat → Nat → Int32} (hG : OKG G) (k a : Nat) {v : Int32} (hv : inR (-255) 255 v) : OKG (slopeG G k a v) := by
  intro j hj
  obtain ⟨h1, h2, h3, h4, h5⟩ := hG j hj
  refine ⟨?_, ?_, fun i hi => ?_, ?_, fun q hq => ?_⟩
  · unfold slopeG
    rw [if_neg (by omega)]
    exact h1
  · unfold slopeG
    rw [if_neg (by omega)]
    exact h2
  · unfold slopeG
    rw [if_neg (by omega)]
    exact h3 i hi
  · unfold slopeG
    rw [if_neg (by omega)]
    exact h4
  · unfold slopeG
    by_cases c : 6 + q = 6 + a
    · rw [if_pos c]
      by_cases d : j = k
      · rw [if_pos d]
        exact Or.inr hv
      · rw [if_neg d]
        exact h5 q hq
    · rw [if_neg c]
      exact h5 q hq
theorem OK_loose {G : Nat → Nat → Int32} (hG : OKG G) (k : Nat) : OKG (looseG G k) := by
  intro j hj
  obtain ⟨h1, h2, h3, h4, h5⟩ := hG j hj
  refine ⟨?_, ?_, fun i hi => ?_, ?_, fun q hq => ?_⟩
  · unfold looseG
    rw [if_neg (by omega)]
    exact h1
  · unfold looseG
    rw [if_neg (by omega)]
    exact h2
  · unfold looseG
    rw [if_neg (by omega)]
    exact h3 i hi
  · unfold looseG
    rw [if_neg (by omega)]
    exact h4
  · unfold looseG
    rw [if_pos (by omega)]
    by_cases d : j = k
    · rw [if_pos d]
      exact Or.inl rfl
    · rw [if_neg d]
      exact h5 q hq
theorem inR_S {v : Int32} (h : INN (-255) (nI 255) v) : inR (-255) 255 v := by
  obtain ⟨h1, h2⟩ := h
  rw [Int32.le_iff_toInt_le] at h1 h2
  rw [nI_toInt (by decide)] at h2
  exact ⟨h1, h2⟩
/-- between two calls -/
def LI (G K K8 : Nat → Nat → Int32) (kb o n len : Nat) (Hs P : Nat → Nat → Nat → Int32) (T : Nat → Nat) : Prop := OKG G ∧ OKG K ∧ (kb = 0 ∨ K8 = K) ∧ kb ≤ 1 ∧ o < 4 ∧ n ≤ 4 ∧ len ≤ 60 ∧ (∀ i, OKG (Hs i)) ∧ (∀ i, i < n → P i = Hs ((o + i) % 4)) ∧ (∀ k, T k < 127)
theorem LI_0 (K8 : Nat → Nat → Int32) (P : Nat → Nat → Nat → Int32) : LI G0 G0 K8 0 0 0 0 (fun _ => G0) P (fun _ => 0) := ⟨OK_0, OK_0, Or.inl rfl, by decide, by decide, by decide, by decide, fun _ => OK_0, fun i h => absurd h (Nat.not_lt_zero i), fun _ => Nat.zero_lt_succ 126⟩
theorem pn_c (b : Bool) (n : Nat) : pnB b 0 n = cN b n := by
  cases b
  · rfl
  · rfl
theorem ring_rec {Hs P : Nat → Nat → Nat → Int32} {o n : Nat} {G : Nat → Nat → Int32} (ho : o < 4) (hn : n ≤ 4) (h : ∀ i, i < n → P i = Hs ((o + i) % 4)) : ∀ i, i < rcN n → pcP P n G i = rcH Hs o n G ((rcO o n + i) % 4) := by
  intro i hi
  have hi2 : i < n + 1 ∧ i < 4 := by
    unfold rcN at hi
    split at hi <;> omega
  clear hi
  by_cases c : n = 4
  · have e1 : rcO o n = (o + 1) % 4 := if_neg (by omega)
    rw [e1]
    unfold pcP rcH
    rw [if_pos c]
    by_cases d : i = 3
    · rw [if_pos d, if_pos (by omega)]
    · rw [if_neg d, if_neg (by omega), h (i + 1) (by omega)]
      congr 1
      omega
  · have e1 : rcO o n = o := if_pos (by omega)
    rw [e1]
    unfold pcP rcH
    rw [if_neg c]
    by_cases d : i = n
    · rw [if_pos d, if_pos (by rw [d])]
    · rw [if_neg d, if_neg (by omega)]
      exact h i (by omega)
theorem LI_rec {G K K8 : Nat → Nat → Int32} {kb o n len : Nat} {Hs P : Nat → Nat → Nat → Int32} {T : Nat → Nat} (h : LI G K K8 kb o n len Hs P T) (b : Bool) {g : Nat → Nat → Int32} (hg : b = true → OKG g) : LI (cG b g G) K K8 kb (cO b o n) (cN b n) len (cH b Hs o n G) (pcB b 0 P n G) T := by
  obtain ⟨h1, h2, h3, h4, h5, h6, h7, h8, h9, h10⟩ := h
  cases b with
  | false => exact ⟨h1, h2, h3, h4, h5, h6, h7, h8, h9, h10⟩
  | true =>
    refine ⟨hg rfl, h2, h3, h4, ?_, ?_, h7, fun i => ?_, ?_, h10⟩
    · show rcO o n < 4
      unfold rcO
      split <;> omega
    · show rcN n ≤ 4
      unfold rcN
      split <;> omega
    · show OKG (rcH Hs o n G i)
      unfold rcH
      split
      · exact h1
      · exact h8 i
    · exact ring_rec h5 h6 h9
theorem LI_undo {G K K8 : Nat → Nat → Int32} {kb o n len : Nat} {Hs P : Nat → Nat → Nat → Int32} {T : Nat → Nat} (h : LI G K K8 kb o n len Hs P T) : LI (cG (nzB n) (Hs ((o + (n - 1)) % 4)) G) K K8 kb o (n - 1) len Hs P T := by
  obtain ⟨h1, h2, h3, h4, h5, h6, h7, h8, h9, h10⟩ := h
  exact ⟨OK_cG _ (fun _ => h8 _) h1, h2, h3, h4, h5, by omega, h7, h8, fun i hi => h9 i (by omega), h10⟩
theorem undo_eq {G K K8 : Nat → Nat → Int32} {kb o n len : Nat} {Hs P : Nat → Nat → Nat → Int32} {T : Nat → Nat} (h : LI G K K8 kb o n len Hs P T) : cG (nzB n) (P (n - 1)) G = cG (nzB n) (Hs ((o + (n - 1)) % 4)) G := by
  obtain ⟨h1, h2, h3, h4, h5, h6, h7, h8, h9, h10⟩ := h
  by_cases c : n = 0
  · subst c
    rfl
  · rw [h9 (n - 1) (by omega)]
theorem LI_keep {G K K8 : Nat → Nat → Int32} {kb o n len : Nat} {Hs P : Nat → Nat → Nat → Int32} {T : Nat → Nat} (h : LI G K K8 kb o n len Hs P T) : LI G G G 1 o n len Hs P T := by
  obtain ⟨h1, h2, h3, h4, h5, h6, h7, h8, h9, h10⟩ := h
  exact ⟨h1, h1, Or.inr rfl, by decide, h5, h6, h7, h8, h9, h10⟩
theorem keep_G {G K K8 : Nat → Nat → Int32} {kb : Nat} (h : kb = 0 ∨ K8 = K) : cG (nzB kb) K8 G = cG (nzB kb) K G := by
  rcases h with rfl | rfl
  · rfl
  · rfl
theorem keep_z {K K8 : Nat → Nat → Int32} {kb : Nat} (h : kb = 0 ∨ K8 = K) : fz (nzB kb) (sumI (HA K8) 20) = fz (nzB kb) (sumI (HA K) 20) := by
  rcases h with rfl | rfl
  · unfold fz
    rw [if_neg (show ¬ nzB 0 = true by decide), if_neg (show ¬ nzB 0 = true by decide)]
  · rfl
theorem LI_type {G K K8 : Nat → Nat → Int32} {kb o n len : Nat} {Hs P : Nat → Nat → Nat → Int32} {T : Nat → Nat} (h : LI G K K8 kb o n len Hs P T) (ch : Int32) : LI G K K8 kb o n (tyN (okTy ch && fullB len) len) Hs P (tyT (okTy ch && fullB len) T len (tn ch)) := by
  obtain ⟨h1, h2, h3, h4, h5, h6, h7, h8, h9, h10⟩ := h
  cases hb : (okTy ch && fullB len) with
  | false => exact ⟨h1, h2, h3, h4, h5, h6, h7, h8, h9, h10⟩
  | true =>
    have hb2 : okTy ch = true ∧ fullB len = true := by
      cases h11 : okTy ch
      · rw [h11, Bool.false_and] at hb
        exact absurd hb (by decide)
      · rw [h11] at hb
        exact ⟨rfl, hb⟩
    have hl : len < 60 := of_decide_eq_true hb2.2
    refine ⟨h1, h2, h3, h4, h5, h6, ?_, h8, h9, fun k => ?_⟩
    · show len + 1 ≤ 60
      omega
    · show updT T len (tn ch) k < 127
      unfold updT
      split
      · have hc : INN (nI 32) (nI 126) ch := of_decide_eq_true hb2.1
        obtain ⟨hc1, hc2⟩ := hc
        rw [Int32.le_iff_toInt_le, nI_toInt (by decide)] at hc1 hc2
        unfold tn Int32.toNatClampNeg
        omega
      · exact h10 k
theorem LI_clear {G K K8 : Nat → Nat → Int32} {kb o n len : Nat} {Hs P : Nat → Nat → Nat → Int32} {T : Nat → Nat} (h : LI G K K8 kb o n len Hs P T) : LI G K K8 kb o n 0 Hs P T := by
  obtain ⟨h1, h2, h3, h4, h5, h6, h7, h8, h9, h10⟩ := h
  exact ⟨h1, h2, h3, h4, h5, h6, by decide, h8, h9, h10⟩
theorem OK_holdB {G : Nat → Nat → Int32} (hG : OKG G) (c r x y v : Int32) (h : okH c r x y v = true) : OKG (holdG G (cn c r) x y v) := by
  obtain ⟨⟨⟨-, hx⟩, hy⟩, hv⟩ := of_decide_eq_true h
  exact OK_hold hG _ (INN_nat (by decide) hx) (INN_nat (by decide) hy) (INN_nat (by decide) hv)
theorem OK_moveB {G : Nat → Nat → Int32} (hG : OKG G) (c r x y : Int32) (h : okM c r x y = true) : OKG (moveG G (cn c r) x y) := by
  obtain ⟨-, hx, hy⟩ := of_decide_eq_true h
  exact OK_move hG _ (INN_nat (by decide) hx) (INN_nat (by decide) hy)
theorem OK_slopeB {G : Nat → Nat → Int32} (hG : OKG G) (c r d t v : Int32) (h : okS c r d t v = true) : OKG (slopeG G (cn c r) (tn d * 3 + tn t) v) := by
  obtain ⟨-, hv⟩ := of_decide_eq_true h
  exact OK_slope hG _ _ (inR_S hv)
theorem law_i {i L : Nat} (hL : L ≤ 3072) (hi : i ≤ 3072) (h : ¬ nI L - nI 6 < nI i) : i + 6 ≤ L := by
  rw [Int32.lt_iff_toInt_lt, Int32.toInt_sub, nI_toInt (Nat.lt_of_le_of_lt hL (by decide)), nI_toInt (Nat.lt_of_le_of_lt hi (by decide)), nI_toInt (by decide)] at h
  have e : ((L : Int) - ((6 : Nat) : Int)).bmod (2 ^ 32) = (L : Int) - 6 := by
    rw [Int.bmod_eq_of_le] <;> omega
  rw [e] at h
  omega
/-- what stands throughout the law's walk -/
def LC (pg : Program) (s : State) (mi : MethodId) (meth : Method) (cd : Code) (D : va_G) (cI cC cQ : ClassId) (b L : Nat) (xs : Nat → Int32) (args : Array Value) (A : Nat → Prop) : Prop :=
  pg.tables.exec = Jvm.exec ∧ cd.code = cL_law ∧ cd.maxLocals = 4 ∧ s.vm.findClass RL = some mi.cls ∧ (∀ w ∈ wsL_law, w.before args s = true) ∧ KK D cI cC cQ s ∧ va_X b L xs s s.heap ∧ b < s.heap.size ∧ ¬ A b ∧ (∀ q : Nat, s.heap.size ≤ q → A q) ∧ L ≤ 3072
section GB6
variable {p : Program} {l : Launch} {e : Env} {R : Room} {s : State} {m : MethodId} {args : Array Value} {below : List Frame} {meth : Method} {c : Code} {H : Heap} {locs : List Loc} {cells slots : Nat} {Q : State → Prop} {cc : ByteArray} {pc : Nat} {ls : Array Slot} {rest : List Value} {A : Nat → Prop} {H0 : Heap}
theorem gn_sld (hexec : p.tables.exec = Jvm.exec) (hb : c.code = cc) {b L : Nat} {xs : Nat → Int32} (hX : va_X b L xs s H0) (hbl : b < H0.size) (hbA : ¬ A b) (hS : va_S A H0 H locs) {k : Nat} (hk : k < L) (hL : L < 2147483648) (hdg : decode cc pc = .ok (.iaload, 1))
    (kk : W p l e R s m args below meth c H locs cells slots Q (F0 m (pc + 1) ls (.int (xs k) :: rest))) : W p l e R s m args below meth c H locs cells slots Q (F0 m pc ls (.int (nI k) :: .ref b :: rest)) :=
  va_sld hexec hb hX hbl hbA hS (vp_in_nI hk hL) hdg (by rw [nI_clamp (Nat.lt_trans hk hL)]; exact kk)
end GB6
