/-! rows for constructors: what they make is new; the array of meshes can be made (va_AO) -/
def KA (D : va_G) (cI cC cQ : ClassId) (U : State) : Prop := KK D cI cC cQ U ∧ va_AO RX3 U
theorem va_AO.warm {C : String} {s U : State} (hW : s.WarmedH U.vm) (h : va_AO C s) : va_AO C U := va_AO.moved hW.alike h
theorem KA.warm {D : va_G} {cI cC cQ : ClassId} {s U : State} (hW : s.WarmedH U.vm) (h : KA D cI cC cQ s) : KA D cI cC cQ U := ⟨h.1.warm hW, h.2.warm hW⟩
theorem KA.call {D : va_G} {cI cC cQ : ClassId} {U : State} {g : JFrame} {mk : MethodId} {a : Array Value} (h : KA D cI cC cQ U) : KA D cI cC cQ (U.calling g mk a) := ⟨h.1.call, va_AO.moved (u := U) (U := U.calling g mk a) (Vm.Alike.refl U.vm) h.2⟩
def PN (D : va_G) (cI cC cQ : ClassId) (av : List Value) (ws : va_W) (sz : Nat) : Array Value → State → Prop := va_Pc av (fun U => U.heap.size = sz ∧ va_P D vwCl ws U.heap ∧ KA D cI cC cQ U ∧ va_D (fun _ => True) ws)
theorem PN.blind {D : va_G} {cI cC cQ : ClassId} {av : List Value} {ws : va_W} {sz : Nat} : FrameBlind (PN D cI cC cQ av ws sz) := fun _ _ _ _ h => ⟨h.1, h.2.1, h.2.2.1, h.2.2.2.1.call, h.2.2.2.2⟩
theorem PN.go {D : va_G} {cI cC cQ : ClassId} {av : List Value} {ws : va_W} {s : State} {H : Heap} {A : Nat → Prop} (hP : va_P D vwCl ws H) (hK : KA D cI cC cQ s) (hD : va_D A ws) : ∀ U : State, U.heap = H → s.WarmedH U.vm → PN D cI cC cQ av ws H.size av.toArray U := fun U hU hW => ⟨rfl, by rw [hU], by rw [hU]; exact hP, hK.warm hW, hD.weaken (fun _ _ _ _ => trivial)⟩
/-- what a constructor leaves: its world u, apart -/
abbrev QN (D : va_G) (S : Type) (w2 : S → va_W) (A : Nat → Prop) : Array Value → State → Outcome → State → Prop := va_Qv (fun (_ : S) => True) (fun u t => va_P D vwCl (w2 u) t.heap ∧ va_D A (w2 u)) A
theorem metN {l : Launch} {y : MethodName} {ws ws' : List Cond} {rm : Room} {D : va_G} {cI cC cQ : ClassId} {av : List Value} {wd : va_W} {sz : Nat} {S : Type} {w2 : S → va_W} {mc ms : Nat} {cc : ByteArray} {maxL : Nat} {ret : Option FieldType} (hy : plainName y.cls = true) (hw : ws = Cond.code y cc maxL ret :: ws') (hn : (lg_sl av).length ≤ maxL)
    (body : ∀ (p : Program) (e : Env) (s : State) (m : MethodId) (args : Array Value) (below : List Frame) (meth : Method) (c : Code) (ls : Array Slot) (A : Nat → Prop) (Q : State → Prop), Q = MQ below (QN D S w2 A) args s mc ms A → p.tables.exec = Jvm.exec → c.code = cc → c.maxLocals = maxL → meth.sig.returnType = ret → (∀ w ∈ ws, w.before args s = true) → s.vm.findClass y.cls = some m.cls → meth.locks = false → meth.name = y.name → KA D cI cC cQ s → va_P D vwCl wd s.heap → va_D A wd → va_S A s.heap s.heap [] → (∀ q : Nat, s.heap.size ≤ q → A q) → lv_has ls maxL (lv_args 0 av) →
      W p l e (headSpec ws rm).room s m args below meth c s.heap [] 0 0 Q (F0 m 0 ls [])) : Met l y ws rm (PN D cI cC cQ av wd sz) (QN D S w2 (va_A wd sz)) mc ms (va_A wd sz) := by
  refine Met.ofW (cc := cc) (maxL := maxL) (ret := ret) hy hw ?_
  intro p e s m args below meth c s₁ B hml hv
  obtain ⟨rfl, hsz, hP, hK, hD0⟩ := hv
  subst hsz
  have hl := lv_entry av hn
  rw [lg_entry_eq]
  exact body p e s m _ below meth c _ _ _ rfl B.exec B.bytes hml B.returns (atoms_spec (ws := ws) B.pre) (findClass_of_methodNamed B.named) B.notSynchronized (name_of_methodNamed B.named B.method).1 hK hP hD0.self va_S.rf (fun q h => Or.inr h) hl
section GB5
variable {p : Program} {l : Launch} {e : Env} {R : Room} {s : State} {m : MethodId} {args : Array Value} {below : List Frame} {meth : Method} {c : Code} {H : Heap} {locs : List Loc} {cells slots : Nat} {Q : State → Prop} {cc : ByteArray} {pc : Nat} {ls : Array Slot} {rest : List Value} {D : va_G} {cl : List vw_C} {tys : List (ClassId × FieldType)} {ws ws' : va_W} {a : Nat} {A : Nat → Prop} {H0 : Heap}
/-- behind a constructor's call: what it made stands behind the rest -/
theorem clN {S : Type} {w1 : S → va_W} {wc wr : va_W} {av : Array Value} {st0 : List Value} {mc ms : Nat} (hP : va_P D vwCl ws H) (hD : va_D A ws) (hS : va_S A H0 H locs) (hA : ∀ q, H0.size ≤ q → A q) (isC isR : List Nat)
    (hC : isC.map (fun i => ws[i]?) = wc.map some) (hR : isR.map (fun i => ws[i]?) = wr.map some) (hn : va_nd isR = true) (hdis : ∀ i ∈ isR, i ∉ isC)
    (hr : va_Run p l e R s m args below meth c H locs cells slots mc ms (F0 m pc ls st0) rest (QN D S w1 (va_A wc H.size) av) (va_A wc H.size))
    (kk : ∀ (u : S) (H1 : Heap) (locs1 : List Loc), va_P D vwCl (wr ++ w1 u) H1 → va_D A (wr ++ w1 u) → va_S A H0 H1 locs1 → W p l e R s m args below meth c H1 locs1 (cells + mc) (slots + ms) Q (F0 m (pc + 3) ls rest)) : W p l e R s m args below meth c H locs cells slots Q (F0 m pc ls st0) := by
  have hF := va_free hD hS hA isC hC
  refine va_callv hr hS (fun q _ h => hF q h) hF (fun u t H1 locs1 ht hvm hp hB hz hk hS1 => ?_)
  obtain ⟨hB1, hB2⟩ := hB
  rw [ht] at hB1
  obtain ⟨hP', hD'⟩ := va_join hP hD isC isR hC hR hn hdis hk hF hB1 hB2
  exact kk u H1 locs1 hP' hD' hS1
theorem rtN_v {S : Type} {w1 : S → va_W} (u : S) (hQ : Q = MQ below (QN D S w1 A) args s cells slots A) (hexec : p.tables.exec = Jvm.exec) (hb : c.code = cc) (hr : meth.sig.returnType = none) (hlocks : meth.locks = false) (hS : va_S A s.heap H locs) (hP : va_P D vwCl (w1 u) H) (hD : va_D A (w1 u)) (hdg : decode cc pc = .ok (.return_, 1)) : W p l e R s m args below meth c H locs cells slots Q (F0 m pc ls []) := by
  subst hQ
  exact W.vret hexec hb hr (fun t ht _ => ⟨⟨u, rfl, trivial, show va_P D vwCl (w1 u) t.heap ∧ va_D A (w1 u) from ⟨by rw [ht]; exact hP, hD⟩⟩, hS.F ht⟩) hS.2.2 hdg hlocks
def Z0 : Nat → Int32 := fun _ => nI 0
/-- a new row of ints -/
theorem gn_newI (hexec : p.tables.exec = Jvm.exec) (hb : c.code = cc) (harr : (Cond.arrayClass .int).before args s = true) {cI : ClassId} (hK : va_K D cl tys s) (t0 : Nat) (ht : tys[t0]? = some (cI, .int)) (hP : va_P D cl ws H) (hD : va_D A ws) (hS : va_S A H0 H locs) (hA : ∀ q, H0.size ≤ q → A q)
    (n : Nat) (hn : n < 100000) (hcells : cells + 1 ≤ R.cells) (hslots : slots + n ≤ R.slots) (hdg : decode cc pc = .ok (.newarray .int, 2))
    (kk : ∀ (q : Nat) (H1 : Heap), va_P D cl (ws ++ [(q, .inl (cI, n, .inl Z0))]) H1 → va_D A (ws ++ [(q, .inl (cI, n, .inl Z0))]) → va_S A H0 H1 locs →
      W p l e R s m args below meth c H1 locs (cells + 1) (slots + n) Q (F0 m (pc + 2) ls (.ref q :: rest))) : W p l e R s m args below meth c H locs cells slots Q (F0 m pc ls (.int (nI n) :: rest)) := by
  refine va_newa (atype := .int) (a0 := (n, .inl Z0)) hexec hb harr rfl hK hP hD hS hA (N' := n) (fun cA => rfl) (nI_pos (by omega)) (nI_clamp (by omega)) (Nat.le_trans (Nat.mul_le_mul_right _ (Nat.le_of_lt hn)) (by decide)) hcells hslots hdg (fun q cA H1 hK1 hP1 hD1 hS1 => ?_)
  have e1 := (hK.2 t0 _ ht).2
  have hlast : (tys ++ [(cA, FieldType.int)])[tys.length]? = some (cA, .int) := by rw [List.getElem?_append_right (Nat.le_refl _), Nat.sub_self]; rfl
  have e2 := (hK1.2 tys.length _ hlast).2
  have e3 : cA = cI := Option.some.inj (Eq.trans (Eq.symm e2) e1)
  subst e3
  exact kk q H1 hP1 hD1 hS1
theorem gn_newC (hexec : p.tables.exec = Jvm.exec) (hb : c.code = cc) (harr : (Cond.arrayClass .char).before args s = true) {cI : ClassId} (hK : va_K D cl tys s) (t0 : Nat) (ht : tys[t0]? = some (cI, .char)) (hP : va_P D cl ws H) (hD : va_D A ws) (hS : va_S A H0 H locs) (hA : ∀ q, H0.size ≤ q → A q)
    (n : Nat) (hn : n < 100000) (hcells : cells + 1 ≤ R.cells) (hslots : slots + n ≤ R.slots) (hdg : decode cc pc = .ok (.newarray .char, 2))
    (kk : ∀ (q : Nat) (H1 : Heap), va_P D cl (ws ++ [(q, .inl (cI, n, .inl Z0))]) H1 → va_D A (ws ++ [(q, .inl (cI, n, .inl Z0))]) → va_S A H0 H1 locs →
      W p l e R s m args below meth c H1 locs (cells + 1) (slots + n) Q (F0 m (pc + 2) ls (.ref q :: rest))) : W p l e R s m args below meth c H locs cells slots Q (F0 m pc ls (.int (nI n) :: rest)) := by
  refine va_newa (atype := .char) (a0 := (n, .inl Z0)) hexec hb harr rfl hK hP hD hS hA (N' := n) (fun cA => rfl) (nI_pos (by omega)) (nI_clamp (by omega)) (Nat.le_trans (Nat.mul_le_mul_right _ (Nat.le_of_lt hn)) (by decide)) hcells hslots hdg (fun q cA H1 hK1 hP1 hD1 hS1 => ?_)
  have e1 := (hK.2 t0 _ ht).2
  have hlast : (tys ++ [(cA, FieldType.char)])[tys.length]? = some (cA, .char) := by rw [List.getElem?_append_right (Nat.le_refl _), Nat.sub_self]; rfl
  have e2 := (hK1.2 tys.length _ hlast).2
  have e3 : cA = cI := Option.some.inj (Eq.trans (Eq.symm e2) e1)
  subst e3
  exact kk q H1 hP1 hD1 hS1
def QN0 : Nat → Option Nat := fun _ => none
theorem gn_newQ (hexec : p.tables.exec = Jvm.exec) (hb : c.code = cc) {own : String} {index : Nat} (hown : s.vm.findClass own = some m.cls) (hclink : (Cond.classLink own index RX3).before args s = true) (hover : va_AO RX3 s) {cI : ClassId} (hK : va_K D cl tys s) (t0 : Nat) (ht : tys[t0]? = some (cI, .object RX3)) (hP : va_P D cl ws H) (hD : va_D A ws) (hS : va_S A H0 H locs) (hA : ∀ q, H0.size ≤ q → A q)
    (n : Nat) (hn : n < 100000) (hcells : cells + 1 ≤ R.cells) (hslots : slots + n ≤ R.slots) (hdg : decode cc pc = .ok (.anewarray index, 3))
    (kk : ∀ (q : Nat) (H1 : Heap), va_P D cl (ws ++ [(q, .inl (cI, n, .inr (.inr (.inr (.inr QN0)))))]) H1 → va_D A (ws ++ [(q, .inl (cI, n, .inr (.inr (.inr (.inr QN0)))))]) → va_S A H0 H1 locs →
      W p l e R s m args below meth c H1 locs (cells + 1) (slots + n) Q (F0 m (pc + 3) ls (.ref q :: rest))) : W p l e R s m args below meth c H locs cells slots Q (F0 m pc ls (.int (nI n) :: rest)) := by
  refine va_newq hexec hb hown hclink hover hK hP hD hS hA (N' := n) (nI_pos (by omega)) (nI_clamp (by omega)) (by omega) hcells hslots hdg (fun q cA H1 hK1 hP1 hD1 hS1 => ?_)
  have e1 := (hK.2 t0 _ ht).2
  have hlast : (tys ++ [(cA, FieldType.object RX3)])[tys.length]? = some (cA, .object RX3) := by rw [List.getElem?_append_right (Nat.le_refl _), Nat.sub_self]; rfl
  have e2 := (hK1.2 tys.length _ hlast).2
  obtain ⟨kA1, comp1, -, -, -, f1⟩ := e1
  obtain ⟨kA2, comp2, -, -, -, f2⟩ := e2
  have e3 : cA = cI := Option.some.inj (Eq.trans (Eq.symm f2) f1)
  subst e3
  exact kk q H1 hP1 hD1 hS1
theorem gn_astq (hexec : p.tables.exec = Jvm.exec) (hb : c.code = cc) (hK : va_K D cl tys s) (hP : va_P D cl ws H) (hD : va_D A ws) (hS : va_S A H0 H locs) (q0 t0 qk ci : Nat) {cA : ClassId} {r : vw_C} {n v : Nat} {vs : List Value} {f : Nat → Option Nat} (ha : ws[q0]? = some (a, .inl (cA, n, .inr (.inr (.inr (.inr f)))))) (ht : tys[t0]? = some (cA, .object r.1)) (hv : ws[qk]? = some (v, .inr (ci, vs))) (hc : cl[ci]? = some r) {k : Nat} (hk : k < n) (hn : n < 2147483648) (hdg : decode cc pc = .ok (.aastore, 1)) (hw : ws.set q0 (a, .inl (cA, n, .inr (.inr (.inr (.inr (va_up f k (some v))))))) = ws')
    (kk : ∀ (H1 : Heap) (locs1 : List Loc), va_P D cl ws' H1 → va_D A ws' → va_S A H0 H1 locs1 → W p l e R s m args below meth c H1 locs1 cells slots Q (F0 m (pc + 1) ls rest)) : W p l e R s m args below meth c H locs cells slots Q (F0 m pc ls (.ref v :: .int (nI k) :: .ref a :: rest)) :=
  va_astq hexec hb hK hP hD hS q0 t0 qk ci ha ht hv hc (vp_in_nI hk hn) hdg (by subst hw; rw [nI_clamp (Nat.lt_trans hk hn)]; exact kk)
end GB5
theorem va_P.fnq {D : va_G} {cl : List vw_C} {ws ws' : va_W} {H : Heap} (hP : va_P D cl ws H) (q0 : Nat) {a : Nat} {cA : ClassId} {n : Nat} {f g : Nat → Option Nat} (ha : ws[q0]? = some (a, .inl (cA, n, .inr (.inr (.inr (.inr f)))))) (hfg : ∀ k, k < n → f k = g k) (hw : ws.set q0 (a, .inl (cA, n, .inr (.inr (.inr (.inr g))))) = ws') : va_P D cl ws' H := by
  subst hw
  intro k q hk
  by_cases hq : q0 = k
  · subst hq
    have hl := (List.getElem?_eq_some_iff.mp ha).1
    rw [List.getElem?_set_self hl] at hk
    cases hk
    have h1 := hP q0 _ ha
    have e : arrV cA n (fun j => va_rf (f j)) = arrV cA n (fun j => va_rf (g j)) := by
      unfold arrV
      congr 2
      funext j
      show va_rf (f j.val) = va_rf (g j.val)
      rw [hfg j.val j.isLt]
    show H[a]? = some (arrV cA n (fun j => va_rf (g j)))
    rw [← e]
    exact h1
  · rw [List.getElem?_set_ne hq] at hk
    exact hP k q hk
/-- a mesh at its start -/
def G0 : Nat → Nat → Int32 := fun k w => if w = 0 then nI (200 * (k % 5)) else if w = 1 then nI (200 * (k / 5)) else if w < 5 then nI 128 else if w = 5 then nI 0 else nI 999
theorem PA_0 (q : Nat) : PA G0 q = nI 128 := by
  unfold PA G0
  rw [if_neg (by omega), if_neg (by omega), if_pos (by omega)]
theorem SA_0 (q : Nat) : SA G0 q = nI 1000 := by
  have e : G0 (q / 6) (6 + q % 6) = nI 999 := by
    unfold G0
    rw [if_neg (by omega), if_neg (by omega), if_neg (by omega), if_neg (by omega)]
  unfold SA cvS
  rw [e, if_pos rfl]
theorem HA_0 (q : Nat) : HA G0 q = nI 0 := rfl
/-- the reference's list while it is filled: whole corners before k; of k the numbers so far -/
abbrev wrW (j w : Nat) : Prop := w < 2 ∨ (2 ≤ w ∧ w < 2 + j) ∨ (6 ≤ w ∧ w < 6 + j) ∨ (9 ≤ w ∧ w < 9 + j)
def jG (k : Nat) : Nat → Nat → Int32 := fun c w => if c < k then G0 c w else nI 0
def iG (k j : Nat) : Nat → Nat → Int32 := fun c w => if c < k ∨ (c = k ∧ wrW j w) then G0 c w else nI 0
theorem iG_0 (k c w : Nat) : set1 (set1 (jG k) k 0 (nI (200 * (k % 5)))) k 1 (nI (200 * (k / 5))) c w = iG k 0 c w := by
  unfold set1 jG iG wrW
  by_cases h1 : c = k
  · subst h1
    rcases (show w = 0 ∨ w = 1 ∨ 2 ≤ w by omega) with h | h | h
    · rw [if_neg (by omega), if_pos ⟨rfl, h⟩, if_pos (by omega), h]
      rfl
    · rw [if_pos ⟨rfl, h⟩, if_pos (by omega), h]
      rfl
    · rw [if_neg (by omega), if_neg (by omega), if_neg (by omega), if_neg (by omega)]
  · rw [if_neg (fun q => h1 q.1), if_neg (fun q => h1 q.1)]
    by_cases h2 : c < k
    · rw [if_pos h2, if_pos (Or.inl h2)]
    · rw [if_neg h2, if_neg (by omega)]
theorem iG_s (k : Nat) {j : Nat} (hj : j < 3) (c w : Nat) : set1 (set1 (set1 (iG k j) k (2 + j) (nI 128)) k (6 + j) (nI 999)) k (6 + 3 + j) (nI 999) c w = iG k (j + 1) c w := by
  unfold set1 iG wrW
  by_cases h1 : c = k
  · subst h1
    by_cases a1 : w = 6 + 3 + j
    · rw [if_pos ⟨rfl, a1⟩, if_pos (by omega)]
      unfold G0
      rw [if_neg (by omega), if_neg (by omega), if_neg (by omega), if_neg (by omega)]
    · rw [if_neg (fun q => a1 q.2)]
      by_cases a2 : w = 6 + j
      · rw [if_pos ⟨rfl, a2⟩, if_pos (by omega)]
        unfold G0
        rw [if_neg (by omega), if_neg (by omega), if_neg (by omega), if_neg (by omega)]
      · rw [if_neg (fun q => a2 q.2)]
        by_cases a3 : w = 2 + j
        · rw [if_pos ⟨rfl, a3⟩, if_pos (by omega)]
          unfold G0
          rw [if_neg (by omega), if_neg (by omega), if_pos (by omega)]
        · rw [if_neg (fun q => a3 q.2)]
          by_cases a4 : c < c ∨ (c = c ∧ (w < 2 ∨ (2 ≤ w ∧ w < 2 + j) ∨ (6 ≤ w ∧ w < 6 + j) ∨ (9 ≤ w ∧ w < 9 + j)))
          · rw [if_pos a4, if_pos (by omega)]
          · rw [if_neg a4, if_neg (by omega)]
  · rw [if_neg (fun q => h1 q.1), if_neg (fun q => h1 q.1), if_neg (fun q => h1 q.1)]
    by_cases h2 : c < k
    · rw [if_pos (Or.inl h2), if_pos (Or.inl h2)]
    · rw [if_neg (by omega), if_neg (by omega)]
theorem iG_3 (k c : Nat) {w : Nat} (hw : w < 12) : iG k 3 c w = jG (k + 1) c w := by
  unfold iG jG wrW
  by_cases h2 : c < k
  · rw [if_pos (Or.inl h2), if_pos (by omega)]
  · by_cases h1 : c = k
    · rw [if_pos (show c < k + 1 by omega)]
      by_cases h3 : w = 5
      · rw [if_neg (by omega), h3]
        rfl
      · rw [if_pos (by omega)]
    · rw [if_neg (by omega), if_neg (by omega)]
theorem jG_0 (q : Nat) : Z0 q = MA (jG 0) q := by
  unfold MA jG
  rw [if_neg (by omega)]
  rfl
theorem jG_n {q : Nat} (hq : q < 240) : MA (jG 20) q = MA G0 q := by
  unfold MA jG
  rw [if_pos (by omega)]
theorem OK_0 : OKG G0 := by
  intro k hk
  refine ⟨inR_nI (M := 999) (by omega) (by decide), inR_nI (M := 999) (by omega) (by decide), fun i hi => ?_, Or.inl rfl, fun j hj => Or.inl ?_⟩
  · unfold G0
    rw [if_neg (by omega), if_neg (by omega), if_pos (by omega)]
    exact inR_nI (M := 255) (by omega) (by decide)
  · unfold G0
    rw [if_neg (by omega), if_neg (by omega), if_neg (by omega), if_neg (by omega)]
