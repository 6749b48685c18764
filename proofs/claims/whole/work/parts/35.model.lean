abbrev rmX8_copies : Room := { frames := 0, cells := 0, slots := 0, locals := 0 }
set_option maxHeartbeats 4000000 in
set_option maxRecDepth 100000 in
theorem c_X8_copies (l : Launch) (D : va_G) (cI cC cQ : ClassId) (a b : Nat) (f g : Nat → Int32) (sz : Nat) : Met l yX8_copies wsX8_copies rmX8_copies (PW D cI cC cQ [.ref a, .ref b] [(a, .inl (cI, 240, .inl f)), (b, .inl (cI, 240, .inl g))] sz) (va_Qv (fun (u : Unit) => True) (fun (u : Unit) t9 => va_P D vwCl [(a, .inl (cI, 240, .inl f)), (b, .inl (cI, 240, .inl f))] t9.heap) (va_A [(a, .inl (cI, 240, .inl f)), (b, .inl (cI, 240, .inl g))] sz)) 0 0 (va_A [(a, .inl (cI, 240, .inl f)), (b, .inl (cI, 240, .inl g))] sz) := by
  refine metW (y := yX8_copies) (ws := wsX8_copies) (rm := rmX8_copies) (D := D) (cI := cI) (cC := cC) (cQ := cQ) (av := [.ref a, .ref b]) (wd := [(a, .inl (cI, 240, .inl f)), (b, .inl (cI, 240, .inl g))]) (sz := sz) (Qf := fun A => va_Qv (fun (u : Unit) => True) (fun (u : Unit) t9 => va_P D vwCl [(a, .inl (cI, 240, .inl f)), (b, .inl (cI, 240, .inl f))] t9.heap) A) (cc := cX8_copies) (maxL := 3) (ret := none) (by decide) rfl (Nat.le_of_ble_eq_true rfl) ?_
  intro pg ev s mi args below meth cd ls A Q hQ hx hb hml hr hts hown hlk hnm hK hP hD hS hA hl
  have hKa := hK.1
  have hl : lv_has ls 3 [(0, .ref a), (1, .ref b)] := hl
  refine lv_iconst (v := nI 0) hx hb dX8_copies_0 (by decide) ?_
  refine lv_istore_n (lv' := [(2, .int (nI 0)), (0, .ref a), (1, .ref b)]) hx hb dX8_copies_1 rfl hl (by decide) rfl (fun ls hl => ?_)
  have L2 : ∀ (nn : Nat) (k : Nat) (hk : k ≤ 240) (_ : 240 - k < nn) (H : Heap) (locs : List Loc) (hP : va_P D vwCl [(a, .inl (cI, 240, .inl f)), (b, .inl (cI, 240, .inl (mixF f g k)))] H) (hD : va_D A [(a, .inl (cI, 240, .inl f)), (b, .inl (cI, 240, .inl (mixF f g k)))]) (hS : va_S A s.heap H locs) (ls : Array Slot) (_ : lv_has ls 3 [(2, .int (nI k)), (0, .ref a), (1, .ref b)]), W pg l ev (headSpec wsX8_copies rmX8_copies).room s mi args below meth cd H locs 0 0 Q (F0 mi 2 ls []) := by
    intro nn
    induction nn with
    | zero =>
      intro k hk hmeas
      exact absurd hmeas (Nat.not_lt_zero _)
    | succ nn ih2 =>
      intro k hk hmeas H locs hP hD hS ls hl
      refine lv_iload_n hx hb dX8_copies_2 rfl (lv_at hl 0 rfl) ?_
      refine lv_sipush (v := nI 240) hx hb dX8_copies_3 (by decide) ?_
      refine gn_icmp_ge hx hb (by omega) (by decide) (tgt := 21) dX8_copies_6 (by decide) (fun c_6 => ?_) (fun c_6 => ?_)
      · have hP : va_P D vwCl [(a, .inl (cI, 240, .inl f)), (b, .inl (cI, 240, .inl f))] H := (hP.fn 1 rfl (g := f) (fun q hq => by rw [show k = 240 by omega]; exact mixF_n _ _ hq) rfl)
        have hD : va_D A [(a, .inl (cI, 240, .inl f)), (b, .inl (cI, 240, .inl f))] := hD.addr rfl
        exact rtW_v () hQ hx hb hr hlk hS hP dX8_copies_21 (trivial)
      · refine lv_aload_n hx hb dX8_copies_9 rfl (lv_at hl 2 rfl) ?_
        refine lv_iload_n hx hb dX8_copies_10 rfl (lv_at hl 0 rfl) ?_
        refine lv_aload_n hx hb dX8_copies_11 rfl (lv_at hl 1 rfl) ?_
        refine lv_iload_n hx hb dX8_copies_12 rfl (lv_at hl 0 rfl) ?_
        refine gn_iald hx hb hKa hP 0 0 rfl rfl (k := k) (by omega) (by omega) dX8_copies_13 ?_
        refine gn_iast (ws' := [(a, .inl (cI, 240, .inl f)), (b, .inl (cI, 240, .inl (upd (mixF f g k) k (f k))))]) hx hb hKa hP hD hS 1 0 rfl rfl (k := k) (by omega) (by omega) dX8_copies_14 rfl (fun H locs hP hD hS => ?_)
        refine gn_iinc (lv' := [(2, .int (nI (k + 1))), (0, .ref a), (1, .ref b)]) hx hb dX8_copies_15 hl (k := 0) rfl (by decide) rfl (fun ls hl => ?_)
        refine lv_goto (tgt := 2) hx hb dX8_copies_18 (by decide) ?_
        have hP : va_P D vwCl [(a, .inl (cI, 240, .inl f)), (b, .inl (cI, 240, .inl (mixF f g (k + 1))))] H := (hP.fn 1 rfl (g := mixF f g (k + 1)) (fun q _ => mixF_s _ _ k rfl q) rfl)
        have hD : va_D A [(a, .inl (cI, 240, .inl f)), (b, .inl (cI, 240, .inl (mixF f g (k + 1))))] := hD.addr rfl
        exact ih2 (k + 1) (show (k + 1) ≤ 240 from by first | omega | assumption | rfl) (by first | omega | assumption) H locs hP hD hS _ (lv_sub hl [0, 1, 2] rfl)
  have hP : va_P D vwCl [(a, .inl (cI, 240, .inl f)), (b, .inl (cI, 240, .inl (mixF f g 0)))] s.heap := (hP.fn 1 rfl (g := mixF f g 0) (fun q _ => mixF_0 _ _ q) rfl)
  have hD : va_D A [(a, .inl (cI, 240, .inl f)), (b, .inl (cI, 240, .inl (mixF f g 0)))] := hD.addr rfl
  exact L2 ((240 - 0) + 1) 0 (show 0 ≤ 240 from by first | omega | assumption | rfl) (Nat.lt_succ_self _) s.heap [] hP hD hS _ (lv_sub hl [0, 1, 2] rfl)
abbrev rmX8_round : Room := { frames := 3, cells := 0, slots := 0, locals := 66 }
set_option maxRecDepth 20000 in
theorem iw_X8_round_X8 : ∀ w ∈ u_ws RX8 TX8 18, w ∈ wsX8_round := by decide +kernel
set_option maxHeartbeats 4000000 in
set_option maxRecDepth 100000 in
theorem c_X8_round (l : Launch) (D : va_G) (cI cC cQ : ClassId) (a g0 g1 g2 g3 g4 g5 g6 g7 : Nat) (ik rn ps ty sp fr re cau co cm : Int32) (G : Nat → Nat → Int32) (f : Nat → Int32) (sz : Nat) (hG : OKG G) : Met l yX8_round wsX8_round rmX8_round (PW D cI cC cQ [.ref a] [(a, .inr (8, [.ref g0, .ref g1, .ref g2, .ref g3, .int ik, .int rn, .int ps, .ref g4, .int ty, .ref g5, .ref g6, .int sp, .int fr, .int re, .int cau, .int co, .int cm, .ref g7])), (g0, .inl (cI, 240, .inl (MA G))), (g5, .inl (cI, 60, .inl f))] sz) (va_Qi (fun (z : Int32) (u : Unit) => z = nI (sumN (chN G) 20)) (fun (u : Unit) t9 => va_P D vwCl [(a, .inr (8, [.ref g0, .ref g1, .ref g2, .ref g3, .int ik, .int rn, .int ps, .ref g4, .int ty, .ref g5, .ref g6, .int sp, .int fr, .int re, .int cau, .int co, .int cm, .ref g7])), (g0, .inl (cI, 240, .inl (MA (roundG G)))), (g5, .inl (cI, 60, .inl (nxG G)))] t9.heap) (va_A [(a, .inr (8, [.ref g0, .ref g1, .ref g2, .ref g3, .int ik, .int rn, .int ps, .ref g4, .int ty, .ref g5, .ref g6, .int sp, .int fr, .int re, .int cau, .int co, .int cm, .ref g7])), (g0, .inl (cI, 240, .inl (MA G))), (g5, .inl (cI, 60, .inl f))] sz)) 0 0 (va_A [(a, .inr (8, [.ref g0, .ref g1, .ref g2, .ref g3, .int ik, .int rn, .int ps, .ref g4, .int ty, .ref g5, .ref g6, .int sp, .int fr, .int re, .int cau, .int co, .int cm, .ref g7])), (g0, .inl (cI, 240, .inl (MA G))), (g5, .inl (cI, 60, .inl f))] sz) := by
  refine metW (y := yX8_round) (ws := wsX8_round) (rm := rmX8_round) (D := D) (cI := cI) (cC := cC) (cQ := cQ) (av := [.ref a]) (wd := [(a, .inr (8, [.ref g0, .ref g1, .ref g2, .ref g3, .int ik, .int rn, .int ps, .ref g4, .int ty, .ref g5, .ref g6, .int sp, .int fr, .int re, .int cau, .int co, .int cm, .ref g7])), (g0, .inl (cI, 240, .inl (MA G))), (g5, .inl (cI, 60, .inl f))]) (sz := sz) (Qf := fun A => va_Qi (fun (z : Int32) (u : Unit) => z = nI (sumN (chN G) 20)) (fun (u : Unit) t9 => va_P D vwCl [(a, .inr (8, [.ref g0, .ref g1, .ref g2, .ref g3, .int ik, .int rn, .int ps, .ref g4, .int ty, .ref g5, .ref g6, .int sp, .int fr, .int re, .int cau, .int co, .int cm, .ref g7])), (g0, .inl (cI, 240, .inl (MA (roundG G)))), (g5, .inl (cI, 60, .inl (nxG G)))] t9.heap) A) (cc := cX8_round) (maxL := 6) (ret := (some .int)) (by decide) rfl (Nat.le_of_ble_eq_true rfl) ?_
  intro pg ev s mi args below meth cd ls A Q hQ hx hb hml hr hts hown hlk hnm hK hP hD hS hA hl
  have hKa := hK.1
  have hl : lv_has ls 6 [(0, .ref a)] := hl
  refine lv_iconst (v := nI 0) hx hb dX8_round_0 (by decide) ?_
  refine lv_istore_n (lv' := [(1, .int (nI 0)), (0, .ref a)]) hx hb dX8_round_1 rfl hl (by decide) rfl (fun ls hl => ?_)
  have L2 : ∀ (nn : Nat) (k : Nat) (hk : k ≤ 60) (_ : 60 - k < nn) (H : Heap) (locs : List Loc) (hP : va_P D vwCl [(a, .inr (8, [.ref g0, .ref g1, .ref g2, .ref g3, .int ik, .int rn, .int ps, .ref g4, .int ty, .ref g5, .ref g6, .int sp, .int fr, .int re, .int cau, .int co, .int cm, .ref g7])), (g0, .inl (cI, 240, .inl (MA G))), (g5, .inl (cI, 60, .inl (mixF (nxG G) f k)))] H) (hD : va_D A [(a, .inr (8, [.ref g0, .ref g1, .ref g2, .ref g3, .int ik, .int rn, .int ps, .ref g4, .int ty, .ref g5, .ref g6, .int sp, .int fr, .int re, .int cau, .int co, .int cm, .ref g7])), (g0, .inl (cI, 240, .inl (MA G))), (g5, .inl (cI, 60, .inl (mixF (nxG G) f k)))]) (hS : va_S A s.heap H locs) (ls : Array Slot) (_ : lv_has ls 6 [(1, .int (nI k)), (0, .ref a)]), W pg l ev (headSpec wsX8_round rmX8_round).room s mi args below meth cd H locs 0 0 Q (F0 mi 2 ls []) := by
    intro nn
    induction nn with
    | zero =>
      intro k hk hmeas
      exact absurd hmeas (Nat.not_lt_zero _)
    | succ nn ih2 =>
      intro k hk hmeas H locs hP hD hS ls hl
      refine lv_iload_n hx hb dX8_round_2 rfl (lv_at hl 0 rfl) ?_
      refine lv_bipush (v := nI 60) hx hb dX8_round_3 (by decide) ?_
      refine gn_icmp_ge hx hb (by omega) (by decide) (tgt := 126) dX8_round_5 (by decide) (fun c_5 => ?_) (fun c_5 => ?_)
      · refine lv_iconst (v := nI 0) hx hb dX8_round_126 (by decide) ?_
        refine lv_istore_n (lv' := [(1, .int (nI 0)), (0, .ref a)]) hx hb dX8_round_127 rfl hl (by decide) rfl (fun ls hl => ?_)
        refine lv_iconst (v := nI 0) hx hb dX8_round_128 (by decide) ?_
        refine lv_istore_n (lv' := [(2, .int (nI 0)), (1, .int (nI 0)), (0, .ref a)]) hx hb dX8_round_129 rfl hl (by decide) rfl (fun ls hl => ?_)
        have L130 : ∀ (nn : Nat) (q : Nat) (u : Nat) (hq : q ≤ 20) (hu : u = sumN (chN G) q) (_ : 20 - q < nn) (H : Heap) (locs : List Loc) (hP : va_P D vwCl [(a, .inr (8, [.ref g0, .ref g1, .ref g2, .ref g3, .int ik, .int rn, .int ps, .ref g4, .int ty, .ref g5, .ref g6, .int sp, .int fr, .int re, .int cau, .int co, .int cm, .ref g7])), (g0, .inl (cI, 240, .inl (MA (rdM G q)))), (g5, .inl (cI, 60, .inl (nxG G)))] H) (hD : va_D A [(a, .inr (8, [.ref g0, .ref g1, .ref g2, .ref g3, .int ik, .int rn, .int ps, .ref g4, .int ty, .ref g5, .ref g6, .int sp, .int fr, .int re, .int cau, .int co, .int cm, .ref g7])), (g0, .inl (cI, 240, .inl (MA (rdM G q)))), (g5, .inl (cI, 60, .inl (nxG G)))]) (hS : va_S A s.heap H locs) (ls : Array Slot) (_ : lv_has ls 6 [(1, .int (nI u)), (2, .int (nI q)), (0, .ref a)]), W pg l ev (headSpec wsX8_round rmX8_round).room s mi args below meth cd H locs 0 0 Q (F0 mi 130 ls []) := by
          intro nn
          induction nn with
          | zero =>
            intro q u hq hu hmeas
            exact absurd hmeas (Nat.not_lt_zero _)
          | succ nn ih130 =>
            intro q u hq hu hmeas H locs hP hD hS ls hl
            refine lv_iload_n hx hb dX8_round_130 rfl (lv_at hl 1 rfl) ?_
            refine lv_bipush (v := nI 20) hx hb dX8_round_131 (by decide) ?_
            refine gn_icmp_ge hx hb (by omega) (by decide) (tgt := 234) dX8_round_133 (by decide) (fun c_133 => ?_) (fun c_133 => ?_)
            · refine lv_iload_n hx hb dX8_round_234 rfl (lv_at hl 0 rfl) ?_
              have hP : va_P D vwCl [(a, .inr (8, [.ref g0, .ref g1, .ref g2, .ref g3, .int ik, .int rn, .int ps, .ref g4, .int ty, .ref g5, .ref g6, .int sp, .int fr, .int re, .int cau, .int co, .int cm, .ref g7])), (g0, .inl (cI, 240, .inl (MA (roundG G)))), (g5, .inl (cI, 60, .inl (nxG G)))] H := (hP.fn 1 rfl (g := MA (roundG G)) (fun e he => by rw [show q = 20 by omega]; exact rdM_20 G he) rfl)
              have hD : va_D A [(a, .inr (8, [.ref g0, .ref g1, .ref g2, .ref g3, .int ik, .int rn, .int ps, .ref g4, .int ty, .ref g5, .ref g6, .int sp, .int fr, .int re, .int cau, .int co, .int cm, .ref g7])), (g0, .inl (cI, 240, .inl (MA (roundG G)))), (g5, .inl (cI, 60, .inl (nxG G)))] := hD.addr rfl
              exact rtW_i () hQ hx hb hr hlk hS hP dX8_round_235 (by rw [hu, show q = 20 by omega])
            · refine lv_iconst (v := nI 0) hx hb dX8_round_136 (by decide) ?_
              refine lv_istore_n (lv' := [(3, .int (nI 0)), (1, .int (nI u)), (2, .int (nI q)), (0, .ref a)]) hx hb dX8_round_137 rfl hl (by decide) rfl (fun ls hl => ?_)
              refine lv_iconst (v := nI 0) hx hb dX8_round_138 (by decide) ?_
              refine lv_istore (lv' := [(4, .int (nI 0)), (3, .int (nI 0)), (1, .int (nI u)), (2, .int (nI q)), (0, .ref a)]) hx hb dX8_round_139 hl (by decide) rfl (fun ls hl => ?_)
              have L141 : ∀ (nn : Nat) (y : Nat) (x : Int32) (hy : y ≤ 3) (hxr : BB (∃ i, i < y ∧ G q (2 + i) ≠ nxG G (3 * q + i)) x) (_ : 3 - y < nn) (H : Heap) (locs : List Loc) (hP : va_P D vwCl [(a, .inr (8, [.ref g0, .ref g1, .ref g2, .ref g3, .int ik, .int rn, .int ps, .ref g4, .int ty, .ref g5, .ref g6, .int sp, .int fr, .int re, .int cau, .int co, .int cm, .ref g7])), (g0, .inl (cI, 240, .inl (MA (rdI G q y)))), (g5, .inl (cI, 60, .inl (nxG G)))] H) (hD : va_D A [(a, .inr (8, [.ref g0, .ref g1, .ref g2, .ref g3, .int ik, .int rn, .int ps, .ref g4, .int ty, .ref g5, .ref g6, .int sp, .int fr, .int re, .int cau, .int co, .int cm, .ref g7])), (g0, .inl (cI, 240, .inl (MA (rdI G q y)))), (g5, .inl (cI, 60, .inl (nxG G)))]) (hS : va_S A s.heap H locs) (ls : Array Slot) (_ : lv_has ls 6 [(3, .int x), (4, .int (nI y)), (1, .int (nI u)), (2, .int (nI q)), (0, .ref a)]), W pg l ev (headSpec wsX8_round rmX8_round).room s mi args below meth cd H locs 0 0 Q (F0 mi 141 ls []) := by
                intro nn
                induction nn with
                | zero =>
                  intro y x hy hxr hmeas
                  exact absurd hmeas (Nat.not_lt_zero _)
                | succ nn ih141 =>
                  intro y x hy hxr hmeas H locs hP hD hS ls hl
                  refine lv_iload hx hb dX8_round_141 (lv_at hl 1 rfl) ?_
                  refine lv_iconst (v := nI 3) hx hb dX8_round_143 (by decide) ?_
                  refine gn_icmp_ge hx hb (by omega) (by decide) (tgt := 216) dX8_round_144 (by decide) (fun c_144 => ?_) (fun c_144 => ?_)
                  · refine lv_iload_n hx hb dX8_round_216 rfl (lv_at hl 2 rfl) ?_
                    refine lv_iload_n hx hb dX8_round_217 rfl (lv_at hl 0 rfl) ?_
                    refine lv_if_eq hx hb (tgt := 225) dX8_round_218 (by decide) (fun c_218 => ?_) (fun c_218 => ?_)
                    · refine lv_iconst (v := nI 0) hx hb dX8_round_225 (by decide) ?_
                      refine gn_add hx hb dX8_round_226 ?_
                      refine lv_istore_n (lv' := [(1, .int (nI (u + 0))), (3, .int x), (4, .int (nI y)), (2, .int (nI q)), (0, .ref a)]) hx hb dX8_round_227 rfl hl (by decide) rfl (fun ls hl => ?_)
                      refine gn_iinc (lv' := [(2, .int (nI (q + 1))), (1, .int (nI (u + 0))), (3, .int x), (4, .int (nI y)), (0, .ref a)]) hx hb dX8_round_228 hl (k := 3) rfl (by decide) rfl (fun ls hl => ?_)
                      refine lv_goto (tgt := 130) hx hb dX8_round_231 (by decide) ?_
                      have hP : va_P D vwCl [(a, .inr (8, [.ref g0, .ref g1, .ref g2, .ref g3, .int ik, .int rn, .int ps, .ref g4, .int ty, .ref g5, .ref g6, .int sp, .int fr, .int re, .int cau, .int co, .int cm, .ref g7])), (g0, .inl (cI, 240, .inl (MA (rdM G (q + 1))))), (g5, .inl (cI, 60, .inl (nxG G)))] H := (hP.fn 1 rfl (g := MA (rdM G (q + 1))) (fun e _ => by rw [show y = 3 by omega, rdI_3 hG c_133]) rfl)
                      have hD : va_D A [(a, .inr (8, [.ref g0, .ref g1, .ref g2, .ref g3, .int ik, .int rn, .int ps, .ref g4, .int ty, .ref g5, .ref g6, .int sp, .int fr, .int re, .int cau, .int co, .int cm, .ref g7])), (g0, .inl (cI, 240, .inl (MA (rdM G (q + 1))))), (g5, .inl (cI, 60, .inl (nxG G)))] := hD.addr rfl
                      exact ih130 (q + 1) (u + 0) (show (q + 1) ≤ 20 from by first | omega | assumption | rfl) (show (u + 0) = sumN (chN G) (q + 1) from by rw [hu]; show _ = _ + chN G q; rw [ro_0 (by rw [show y = 3 by omega] at hxr; exact hxr) c_218]) (by first | omega | assumption) H locs hP hD hS _ (lv_sub hl [1, 0, 4] rfl)
                    · refine lv_iconst (v := nI 1) hx hb dX8_round_221 (by decide) ?_
                      refine lv_goto (tgt := 226) hx hb dX8_round_222 (by decide) ?_
                      refine gn_add hx hb dX8_round_226 ?_
                      refine lv_istore_n (lv' := [(1, .int (nI (u + 1))), (3, .int x), (4, .int (nI y)), (2, .int (nI q)), (0, .ref a)]) hx hb dX8_round_227 rfl hl (by decide) rfl (fun ls hl => ?_)
                      refine gn_iinc (lv' := [(2, .int (nI (q + 1))), (1, .int (nI (u + 1))), (3, .int x), (4, .int (nI y)), (0, .ref a)]) hx hb dX8_round_228 hl (k := 3) rfl (by decide) rfl (fun ls hl => ?_)
                      refine lv_goto (tgt := 130) hx hb dX8_round_231 (by decide) ?_
                      have hP : va_P D vwCl [(a, .inr (8, [.ref g0, .ref g1, .ref g2, .ref g3, .int ik, .int rn, .int ps, .ref g4, .int ty, .ref g5, .ref g6, .int sp, .int fr, .int re, .int cau, .int co, .int cm, .ref g7])), (g0, .inl (cI, 240, .inl (MA (rdM G (q + 1))))), (g5, .inl (cI, 60, .inl (nxG G)))] H := (hP.fn 1 rfl (g := MA (rdM G (q + 1))) (fun e _ => by rw [show y = 3 by omega, rdI_3 hG c_133]) rfl)
                      have hD : va_D A [(a, .inr (8, [.ref g0, .ref g1, .ref g2, .ref g3, .int ik, .int rn, .int ps, .ref g4, .int ty, .ref g5, .ref g6, .int sp, .int fr, .int re, .int cau, .int co, .int cm, .ref g7])), (g0, .inl (cI, 240, .inl (MA (rdM G (q + 1))))), (g5, .inl (cI, 60, .inl (nxG G)))] := hD.addr rfl
                      exact ih130 (q + 1) (u + 1) (show (q + 1) ≤ 20 from by first | omega | assumption | rfl) (show (u + 1) = sumN (chN G) (q + 1) from by rw [hu]; show _ = _ + chN G q; rw [ro_1 hG c_133 (by rw [show y = 3 by omega] at hxr; exact hxr) c_218]) (by first | omega | assumption) H locs hP hD hS _ (lv_sub hl [1, 0, 4] rfl)
                  · refine lv_iload_n hx hb dX8_round_147 rfl (lv_at hl 0 rfl) ?_
                    refine lv_if_ne hx hb (tgt := 179) dX8_round_148 (by decide) (fun c_148 => ?_) (fun c_148 => ?_)
                    · refine lv_iconst (v := nI 1) hx hb dX8_round_179 (by decide) ?_
                      refine lv_goto (tgt := 184) hx hb dX8_round_180 (by decide) ?_
                      refine lv_istore_n (lv' := [(3, .int (nI 1)), (4, .int (nI y)), (1, .int (nI u)), (2, .int (nI q)), (0, .ref a)]) hx hb dX8_round_184 rfl hl (by decide) rfl (fun ls hl => ?_)
                      refine lv_aload_n hx hb dX8_round_185 rfl (lv_at hl 4 rfl) ?_
                      refine va_get (D := D) (ci := 8) (v := .ref g0) (C := RX8) (T := TX8) (N := 18) hx hb hts iw_X8_round_X8 hown hKa hP 0 rfl rfl 0 (by decide) (hts (.fieldLink RX8 7 "ColourPatchesModel" "s" "[I") (by decide +kernel)) (fun _ h9 => h9) rfl dX8_round_186 ?_
                      refine lv_bipush (v := nI 12) hx hb dX8_round_189 (by decide) ?_
                      refine lv_iload_n hx hb dX8_round_191 rfl (lv_at hl 3 rfl) ?_
                      refine gn_mul hx hb dX8_round_192 ?_
                      refine lv_iconst (v := nI 2) hx hb dX8_round_193 (by decide) ?_
                      refine gn_add hx hb dX8_round_194 ?_
                      refine lv_iload hx hb dX8_round_195 (lv_at hl 1 rfl) ?_
                      refine gn_add hx hb dX8_round_197 ?_
                      refine lv_aload_n hx hb dX8_round_198 rfl (lv_at hl 4 rfl) ?_
                      refine va_get (D := D) (ci := 8) (v := .ref g5) (C := RX8) (T := TX8) (N := 18) hx hb hts iw_X8_round_X8 hown hKa hP 0 rfl rfl 9 (by decide) (hts (.fieldLink RX8 25 "ColourPatchesModel" "next" "[I") (by decide +kernel)) (fun _ h9 => h9) rfl dX8_round_199 ?_
                      refine lv_iconst (v := nI 3) hx hb dX8_round_202 (by decide) ?_
                      refine lv_iload_n hx hb dX8_round_203 rfl (lv_at hl 3 rfl) ?_
                      refine gn_mul hx hb dX8_round_204 ?_
                      refine lv_iload hx hb dX8_round_205 (lv_at hl 1 rfl) ?_
                      refine gn_add hx hb dX8_round_207 ?_
                      refine gn_iald hx hb hKa hP 2 0 rfl rfl (k := (3 * q) + y) (by omega) (by omega) dX8_round_208 ?_
                      refine W.eq (g2 := F0 mi 209 ls [.int ((nxG G) ((3 * q) + y)), .int (nI (((12 * q) + 2) + y)), .ref g0]) rfl ?_
                      refine gn_iast (ws' := [(a, .inr (8, [.ref g0, .ref g1, .ref g2, .ref g3, .int ik, .int rn, .int ps, .ref g4, .int ty, .ref g5, .ref g6, .int sp, .int fr, .int re, .int cau, .int co, .int cm, .ref g7])), (g0, .inl (cI, 240, .inl (upd (MA (rdI G q y)) (((12 * q) + 2) + y) ((nxG G) ((3 * q) + y))))), (g5, .inl (cI, 60, .inl (nxG G)))]) hx hb hKa hP hD hS 1 0 rfl rfl (k := ((12 * q) + 2) + y) (by omega) (by omega) dX8_round_209 rfl (fun H locs hP hD hS => ?_)
                      rw [show upd (MA (rdI G q y)) (((12 * q) + 2) + y) ((nxG G) ((3 * q) + y)) = MA (set1 (rdI G q y) q (2 + y) ((nxG G) ((3 * q) + y))) from MA_set _ _ _ _ _ (by omega) (by omega)] at hP
                      have hD : va_D A [(a, .inr (8, [.ref g0, .ref g1, .ref g2, .ref g3, .int ik, .int rn, .int ps, .ref g4, .int ty, .ref g5, .ref g6, .int sp, .int fr, .int re, .int cau, .int co, .int cm, .ref g7])), (g0, .inl (cI, 240, .inl (MA (set1 (rdI G q y) q (2 + y) ((nxG G) ((3 * q) + y)))))), (g5, .inl (cI, 60, .inl (nxG G)))] := hD.addr rfl
                      refine gn_iinc (lv' := [(4, .int (nI (y + 1))), (3, .int (nI 1)), (1, .int (nI u)), (2, .int (nI q)), (0, .ref a)]) hx hb dX8_round_210 hl (k := 1) rfl (by decide) rfl (fun ls hl => ?_)
                      refine lv_goto (tgt := 141) hx hb dX8_round_213 (by decide) ?_
                      have hP : va_P D vwCl [(a, .inr (8, [.ref g0, .ref g1, .ref g2, .ref g3, .int ik, .int rn, .int ps, .ref g4, .int ty, .ref g5, .ref g6, .int sp, .int fr, .int re, .int cau, .int co, .int cm, .ref g7])), (g0, .inl (cI, 240, .inl (MA (rdI G q (y + 1))))), (g5, .inl (cI, 60, .inl (nxG G)))] H := (hP.fn 1 rfl (g := MA (rdI G q (y + 1))) (fun e _ => by rw [rdI_s]) rfl)
                      have hD : va_D A [(a, .inr (8, [.ref g0, .ref g1, .ref g2, .ref g3, .int ik, .int rn, .int ps, .ref g4, .int ty, .ref g5, .ref g6, .int sp, .int fr, .int re, .int cau, .int co, .int cm, .ref g7])), (g0, .inl (cI, 240, .inl (MA (rdI G q (y + 1))))), (g5, .inl (cI, 60, .inl (nxG G)))] := hD.addr rfl
                      exact ih141 (y + 1) (nI 1) (show (y + 1) ≤ 3 from by first | omega | assumption | rfl) (show BB (∃ i, i < (y + 1) ∧ G q (2 + i) ≠ nxG G (3 * q + i)) (nI 1) from ro_o hxr c_148) (by first | omega | assumption) H locs hP hD hS _ (lv_sub hl [1, 0, 2, 3, 4] rfl)
                    · refine lv_aload_n hx hb dX8_round_151 rfl (lv_at hl 4 rfl) ?_
                      refine va_get (D := D) (ci := 8) (v := .ref g0) (C := RX8) (T := TX8) (N := 18) hx hb hts iw_X8_round_X8 hown hKa hP 0 rfl rfl 0 (by decide) (hts (.fieldLink RX8 7 "ColourPatchesModel" "s" "[I") (by decide +kernel)) (fun _ h9 => h9) rfl dX8_round_152 ?_
                      refine lv_bipush (v := nI 12) hx hb dX8_round_155 (by decide) ?_
                      refine lv_iload_n hx hb dX8_round_157 rfl (lv_at hl 3 rfl) ?_
                      refine gn_mul hx hb dX8_round_158 ?_
                      refine lv_iconst (v := nI 2) hx hb dX8_round_159 (by decide) ?_
                      refine gn_add hx hb dX8_round_160 ?_
                      refine lv_iload hx hb dX8_round_161 (lv_at hl 1 rfl) ?_
                      refine gn_add hx hb dX8_round_163 ?_
                      refine gn_iald hx hb hKa hP 1 0 rfl rfl (k := ((12 * q) + 2) + y) (by omega) (by omega) dX8_round_164 ?_
                      rw [show MA (rdI G q y) (((12 * q) + 2) + y) = (rdI G q y) q (2 + y) from MA_at _ _ _ _ (by omega) (by omega)]
                      refine lv_aload_n hx hb dX8_round_165 rfl (lv_at hl 4 rfl) ?_
                      refine va_get (D := D) (ci := 8) (v := .ref g5) (C := RX8) (T := TX8) (N := 18) hx hb hts iw_X8_round_X8 hown hKa hP 0 rfl rfl 9 (by decide) (hts (.fieldLink RX8 25 "ColourPatchesModel" "next" "[I") (by decide +kernel)) (fun _ h9 => h9) rfl dX8_round_166 ?_
                      refine lv_iconst (v := nI 3) hx hb dX8_round_169 (by decide) ?_
                      refine lv_iload_n hx hb dX8_round_170 rfl (lv_at hl 3 rfl) ?_
                      refine gn_mul hx hb dX8_round_171 ?_
                      refine lv_iload hx hb dX8_round_172 (lv_at hl 1 rfl) ?_
                      refine gn_add hx hb dX8_round_174 ?_
                      refine gn_iald hx hb hKa hP 2 0 rfl rfl (k := (3 * q) + y) (by omega) (by omega) dX8_round_175 ?_
                      refine W.eq (g2 := F0 mi 176 ls [.int ((nxG G) ((3 * q) + y)), .int ((rdI G q y) q (2 + y))]) rfl ?_
                      refine lv_icmp_eq hx hb (tgt := 183) dX8_round_176 (by decide) (fun c_176 => ?_) (fun c_176 => ?_)
                      · refine lv_iconst (v := nI 0) hx hb dX8_round_183 (by decide) ?_
                        refine lv_istore_n (lv' := [(3, .int (nI 0)), (4, .int (nI y)), (1, .int (nI u)), (2, .int (nI q)), (0, .ref a)]) hx hb dX8_round_184 rfl hl (by decide) rfl (fun ls hl => ?_)
                        refine lv_aload_n hx hb dX8_round_185 rfl (lv_at hl 4 rfl) ?_
                        refine va_get (D := D) (ci := 8) (v := .ref g0) (C := RX8) (T := TX8) (N := 18) hx hb hts iw_X8_round_X8 hown hKa hP 0 rfl rfl 0 (by decide) (hts (.fieldLink RX8 7 "ColourPatchesModel" "s" "[I") (by decide +kernel)) (fun _ h9 => h9) rfl dX8_round_186 ?_
                        refine lv_bipush (v := nI 12) hx hb dX8_round_189 (by decide) ?_
                        refine lv_iload_n hx hb dX8_round_191 rfl (lv_at hl 3 rfl) ?_
                        refine gn_mul hx hb dX8_round_192 ?_
                        refine lv_iconst (v := nI 2) hx hb dX8_round_193 (by decide) ?_
                        refine gn_add hx hb dX8_round_194 ?_
                        refine lv_iload hx hb dX8_round_195 (lv_at hl 1 rfl) ?_
                        refine gn_add hx hb dX8_round_197 ?_
                        refine lv_aload_n hx hb dX8_round_198 rfl (lv_at hl 4 rfl) ?_
                        refine va_get (D := D) (ci := 8) (v := .ref g5) (C := RX8) (T := TX8) (N := 18) hx hb hts iw_X8_round_X8 hown hKa hP 0 rfl rfl 9 (by decide) (hts (.fieldLink RX8 25 "ColourPatchesModel" "next" "[I") (by decide +kernel)) (fun _ h9 => h9) rfl dX8_round_199 ?_
                        refine lv_iconst (v := nI 3) hx hb dX8_round_202 (by decide) ?_
                        refine lv_iload_n hx hb dX8_round_203 rfl (lv_at hl 3 rfl) ?_
                        refine gn_mul hx hb dX8_round_204 ?_
                        refine lv_iload hx hb dX8_round_205 (lv_at hl 1 rfl) ?_
                        refine gn_add hx hb dX8_round_207 ?_
                        refine gn_iald hx hb hKa hP 2 0 rfl rfl (k := (3 * q) + y) (by omega) (by omega) dX8_round_208 ?_
                        refine W.eq (g2 := F0 mi 209 ls [.int ((nxG G) ((3 * q) + y)), .int (nI (((12 * q) + 2) + y)), .ref g0]) rfl ?_
                        refine gn_iast (ws' := [(a, .inr (8, [.ref g0, .ref g1, .ref g2, .ref g3, .int ik, .int rn, .int ps, .ref g4, .int ty, .ref g5, .ref g6, .int sp, .int fr, .int re, .int cau, .int co, .int cm, .ref g7])), (g0, .inl (cI, 240, .inl (upd (MA (rdI G q y)) (((12 * q) + 2) + y) ((nxG G) ((3 * q) + y))))), (g5, .inl (cI, 60, .inl (nxG G)))]) hx hb hKa hP hD hS 1 0 rfl rfl (k := ((12 * q) + 2) + y) (by omega) (by omega) dX8_round_209 rfl (fun H locs hP hD hS => ?_)
                        rw [show upd (MA (rdI G q y)) (((12 * q) + 2) + y) ((nxG G) ((3 * q) + y)) = MA (set1 (rdI G q y) q (2 + y) ((nxG G) ((3 * q) + y))) from MA_set _ _ _ _ _ (by omega) (by omega)] at hP
                        have hD : va_D A [(a, .inr (8, [.ref g0, .ref g1, .ref g2, .ref g3, .int ik, .int rn, .int ps, .ref g4, .int ty, .ref g5, .ref g6, .int sp, .int fr, .int re, .int cau, .int co, .int cm, .ref g7])), (g0, .inl (cI, 240, .inl (MA (set1 (rdI G q y) q (2 + y) ((nxG G) ((3 * q) + y)))))), (g5, .inl (cI, 60, .inl (nxG G)))] := hD.addr rfl
                        refine gn_iinc (lv' := [(4, .int (nI (y + 1))), (3, .int (nI 0)), (1, .int (nI u)), (2, .int (nI q)), (0, .ref a)]) hx hb dX8_round_210 hl (k := 1) rfl (by decide) rfl (fun ls hl => ?_)
                        refine lv_goto (tgt := 141) hx hb dX8_round_213 (by decide) ?_
                        have hP : va_P D vwCl [(a, .inr (8, [.ref g0, .ref g1, .ref g2, .ref g3, .int ik, .int rn, .int ps, .ref g4, .int ty, .ref g5, .ref g6, .int sp, .int fr, .int re, .int cau, .int co, .int cm, .ref g7])), (g0, .inl (cI, 240, .inl (MA (rdI G q (y + 1))))), (g5, .inl (cI, 60, .inl (nxG G)))] H := (hP.fn 1 rfl (g := MA (rdI G q (y + 1))) (fun e _ => by rw [rdI_s]) rfl)
                        have hD : va_D A [(a, .inr (8, [.ref g0, .ref g1, .ref g2, .ref g3, .int ik, .int rn, .int ps, .ref g4, .int ty, .ref g5, .ref g6, .int sp, .int fr, .int re, .int cau, .int co, .int cm, .ref g7])), (g0, .inl (cI, 240, .inl (MA (rdI G q (y + 1))))), (g5, .inl (cI, 60, .inl (nxG G)))] := hD.addr rfl
                        exact ih141 (y + 1) (nI 0) (show (y + 1) ≤ 3 from by first | omega | assumption | rfl) (show BB (∃ i, i < (y + 1) ∧ G q (2 + i) ≠ nxG G (3 * q + i)) (nI 0) from ro_n hxr c_148 c_176) (by first | omega | assumption) H locs hP hD hS _ (lv_sub hl [1, 0, 2, 3, 4] rfl)
                      · refine lv_iconst (v := nI 1) hx hb dX8_round_179 (by decide) ?_
                        refine lv_goto (tgt := 184) hx hb dX8_round_180 (by decide) ?_
                        refine lv_istore_n (lv' := [(3, .int (nI 1)), (4, .int (nI y)), (1, .int (nI u)), (2, .int (nI q)), (0, .ref a)]) hx hb dX8_round_184 rfl hl (by decide) rfl (fun ls hl => ?_)
                        refine lv_aload_n hx hb dX8_round_185 rfl (lv_at hl 4 rfl) ?_
                        refine va_get (D := D) (ci := 8) (v := .ref g0) (C := RX8) (T := TX8) (N := 18) hx hb hts iw_X8_round_X8 hown hKa hP 0 rfl rfl 0 (by decide) (hts (.fieldLink RX8 7 "ColourPatchesModel" "s" "[I") (by decide +kernel)) (fun _ h9 => h9) rfl dX8_round_186 ?_
                        refine lv_bipush (v := nI 12) hx hb dX8_round_189 (by decide) ?_
                        refine lv_iload_n hx hb dX8_round_191 rfl (lv_at hl 3 rfl) ?_
                        refine gn_mul hx hb dX8_round_192 ?_
                        refine lv_iconst (v := nI 2) hx hb dX8_round_193 (by decide) ?_
                        refine gn_add hx hb dX8_round_194 ?_
                        refine lv_iload hx hb dX8_round_195 (lv_at hl 1 rfl) ?_
                        refine gn_add hx hb dX8_round_197 ?_
                        refine lv_aload_n hx hb dX8_round_198 rfl (lv_at hl 4 rfl) ?_
                        refine va_get (D := D) (ci := 8) (v := .ref g5) (C := RX8) (T := TX8) (N := 18) hx hb hts iw_X8_round_X8 hown hKa hP 0 rfl rfl 9 (by decide) (hts (.fieldLink RX8 25 "ColourPatchesModel" "next" "[I") (by decide +kernel)) (fun _ h9 => h9) rfl dX8_round_199 ?_
                        refine lv_iconst (v := nI 3) hx hb dX8_round_202 (by decide) ?_
                        refine lv_iload_n hx hb dX8_round_203 rfl (lv_at hl 3 rfl) ?_
                        refine gn_mul hx hb dX8_round_204 ?_
                        refine lv_iload hx hb dX8_round_205 (lv_at hl 1 rfl) ?_
                        refine gn_add hx hb dX8_round_207 ?_
                        refine gn_iald hx hb hKa hP 2 0 rfl rfl (k := (3 * q) + y) (by omega) (by omega) dX8_round_208 ?_
                        refine W.eq (g2 := F0 mi 209 ls [.int ((nxG G) ((3 * q) + y)), .int (nI (((12 * q) + 2) + y)), .ref g0]) rfl ?_
                        refine gn_iast (ws' := [(a, .inr (8, [.ref g0, .ref g1, .ref g2, .ref g3, .int ik, .int rn, .int ps, .ref g4, .int ty, .ref g5, .ref g6, .int sp, .int fr, .int re, .int cau, .int co, .int cm, .ref g7])), (g0, .inl (cI, 240, .inl (upd (MA (rdI G q y)) (((12 * q) + 2) + y) ((nxG G) ((3 * q) + y))))), (g5, .inl (cI, 60, .inl (nxG G)))]) hx hb hKa hP hD hS 1 0 rfl rfl (k := ((12 * q) + 2) + y) (by omega) (by omega) dX8_round_209 rfl (fun H locs hP hD hS => ?_)
                        rw [show upd (MA (rdI G q y)) (((12 * q) + 2) + y) ((nxG G) ((3 * q) + y)) = MA (set1 (rdI G q y) q (2 + y) ((nxG G) ((3 * q) + y))) from MA_set _ _ _ _ _ (by omega) (by omega)] at hP
                        have hD : va_D A [(a, .inr (8, [.ref g0, .ref g1, .ref g2, .ref g3, .int ik, .int rn, .int ps, .ref g4, .int ty, .ref g5, .ref g6, .int sp, .int fr, .int re, .int cau, .int co, .int cm, .ref g7])), (g0, .inl (cI, 240, .inl (MA (set1 (rdI G q y) q (2 + y) ((nxG G) ((3 * q) + y)))))), (g5, .inl (cI, 60, .inl (nxG G)))] := hD.addr rfl
                        refine gn_iinc (lv' := [(4, .int (nI (y + 1))), (3, .int (nI 1)), (1, .int (nI u)), (2, .int (nI q)), (0, .ref a)]) hx hb dX8_round_210 hl (k := 1) rfl (by decide) rfl (fun ls hl => ?_)
                        refine lv_goto (tgt := 141) hx hb dX8_round_213 (by decide) ?_
                        have hP : va_P D vwCl [(a, .inr (8, [.ref g0, .ref g1, .ref g2, .ref g3, .int ik, .int rn, .int ps, .ref g4, .int ty, .ref g5, .ref g6, .int sp, .int fr, .int re, .int cau, .int co, .int cm, .ref g7])), (g0, .inl (cI, 240, .inl (MA (rdI G q (y + 1))))), (g5, .inl (cI, 60, .inl (nxG G)))] H := (hP.fn 1 rfl (g := MA (rdI G q (y + 1))) (fun e _ => by rw [rdI_s]) rfl)
                        have hD : va_D A [(a, .inr (8, [.ref g0, .ref g1, .ref g2, .ref g3, .int ik, .int rn, .int ps, .ref g4, .int ty, .ref g5, .ref g6, .int sp, .int fr, .int re, .int cau, .int co, .int cm, .ref g7])), (g0, .inl (cI, 240, .inl (MA (rdI G q (y + 1))))), (g5, .inl (cI, 60, .inl (nxG G)))] := hD.addr rfl
                        exact ih141 (y + 1) (nI 1) (show (y + 1) ≤ 3 from by first | omega | assumption | rfl) (show BB (∃ i, i < (y + 1) ∧ G q (2 + i) ≠ nxG G (3 * q + i)) (nI 1) from ro_s c_176) (by first | omega | assumption) H locs hP hD hS _ (lv_sub hl [1, 0, 2, 3, 4] rfl)
              have hP : va_P D vwCl [(a, .inr (8, [.ref g0, .ref g1, .ref g2, .ref g3, .int ik, .int rn, .int ps, .ref g4, .int ty, .ref g5, .ref g6, .int sp, .int fr, .int re, .int cau, .int co, .int cm, .ref g7])), (g0, .inl (cI, 240, .inl (MA (rdI G q 0)))), (g5, .inl (cI, 60, .inl (nxG G)))] H := (hP.fn 1 rfl (g := MA (rdI G q 0)) (fun e _ => by rw [rdI_0]) rfl)
              have hD : va_D A [(a, .inr (8, [.ref g0, .ref g1, .ref g2, .ref g3, .int ik, .int rn, .int ps, .ref g4, .int ty, .ref g5, .ref g6, .int sp, .int fr, .int re, .int cau, .int co, .int cm, .ref g7])), (g0, .inl (cI, 240, .inl (MA (rdI G q 0)))), (g5, .inl (cI, 60, .inl (nxG G)))] := hD.addr rfl
              exact L141 ((3 - 0) + 1) 0 (nI 0) (show 0 ≤ 3 from by first | omega | assumption | rfl) (show BB (∃ i, i < 0 ∧ G q (2 + i) ≠ nxG G (3 * q + i)) (nI 0) from Or.inr ⟨fun ⟨i, hi, _⟩ => absurd hi (Nat.not_lt_zero i), rfl⟩) (Nat.lt_succ_self _) H locs hP hD hS _ (lv_sub hl [1, 0, 2, 3, 4] rfl)
        have hP : va_P D vwCl [(a, .inr (8, [.ref g0, .ref g1, .ref g2, .ref g3, .int ik, .int rn, .int ps, .ref g4, .int ty, .ref g5, .ref g6, .int sp, .int fr, .int re, .int cau, .int co, .int cm, .ref g7])), (g0, .inl (cI, 240, .inl (MA (rdM G 0)))), (g5, .inl (cI, 60, .inl (nxG G)))] H := ((hP.fn 2 rfl (g := nxG G) (fun q hq => by rw [show k = 60 by omega]; exact mixF_n _ _ hq) rfl).fn 1 rfl (g := MA (rdM G 0)) (fun q _ => by rw [rdM_0]) rfl)
        have hD : va_D A [(a, .inr (8, [.ref g0, .ref g1, .ref g2, .ref g3, .int ik, .int rn, .int ps, .ref g4, .int ty, .ref g5, .ref g6, .int sp, .int fr, .int re, .int cau, .int co, .int cm, .ref g7])), (g0, .inl (cI, 240, .inl (MA (rdM G 0)))), (g5, .inl (cI, 60, .inl (nxG G)))] := hD.addr rfl
        exact L130 ((20 - 0) + 1) 0 0 (show 0 ≤ 20 from by first | omega | assumption | rfl) (show 0 = sumN (chN G) 0 from rfl) (Nat.lt_succ_self _) H locs hP hD hS _ (lv_sub hl [1, 0, 2] rfl)
      · refine lv_iload_n hx hb dX8_round_8 rfl (lv_at hl 0 rfl) ?_
        refine lv_iconst (v := nI 3) hx hb dX8_round_9 (by decide) ?_
        refine gn_div hx hb (by omega) (by omega) (by omega) dX8_round_10 ?_
        refine lv_iconst (v := nI 5) hx hb dX8_round_11 (by decide) ?_
        refine gn_rem hx hb (by omega) (by omega) (by omega) dX8_round_12 ?_
        refine lv_istore_n (lv' := [(2, .int (nI ((k / 3) % 5))), (1, .int (nI k)), (0, .ref a)]) hx hb dX8_round_13 rfl hl (by decide) rfl (fun ls hl => ?_)
        refine lv_iload_n hx hb dX8_round_14 rfl (lv_at hl 1 rfl) ?_
        refine lv_iconst (v := nI 3) hx hb dX8_round_15 (by decide) ?_
        refine gn_div hx hb (by omega) (by omega) (by omega) dX8_round_16 ?_
        refine lv_iconst (v := nI 5) hx hb dX8_round_17 (by decide) ?_
        refine gn_div hx hb (by omega) (by omega) (by omega) dX8_round_18 ?_
        refine lv_istore_n (lv' := [(3, .int (nI ((k / 3) / 5))), (2, .int (nI ((k / 3) % 5))), (1, .int (nI k)), (0, .ref a)]) hx hb dX8_round_19 rfl hl (by decide) rfl (fun ls hl => ?_)
        refine lv_iload_n hx hb dX8_round_20 rfl (lv_at hl 2 rfl) ?_
        refine lv_iconst (v := nI 3) hx hb dX8_round_21 (by decide) ?_
        refine gn_rem hx hb (by omega) (by omega) (by omega) dX8_round_22 ?_
        refine lv_istore (lv' := [(4, .int (nI (k % 3))), (3, .int (nI ((k / 3) / 5))), (2, .int (nI ((k / 3) % 5))), (1, .int (nI k)), (0, .ref a)]) hx hb dX8_round_23 hl (by decide) rfl (fun ls hl => ?_)
        refine lv_aload_n hx hb dX8_round_25 rfl (lv_at hl 4 rfl) ?_
        refine lv_iload_n hx hb dX8_round_26 rfl (lv_at hl 2 rfl) ?_
        refine lv_iconst (v := nI 1) hx hb dX8_round_27 (by decide) ?_
        refine lv_isub hx hb dX8_round_28 ?_
        refine lv_iload_n hx hb dX8_round_29 rfl (lv_at hl 1 rfl) ?_
        refine lv_iload hx hb dX8_round_30 (lv_at hl 0 rfl) ?_
        have hPc := hP.sub (ws' := [(a, .inr (8, [.ref g0, .ref g1, .ref g2, .ref g3, .int ik, .int rn, .int ps, .ref g4, .int ty, .ref g5, .ref g6, .int sp, .int fr, .int re, .int cau, .int co, .int cm, .ref g7])), (g0, .inl (cI, 240, .inl (MA G)))]) [0, 1] rfl
        refine clRe (E := bes G ((nI ((k / 3) % 5)) - (nI 1)) (nI ((k / 3) / 5)) (k % 3)) (va_runV (As := [.int ((nI ((k / 3) % 5)) - (nI 1)), .int (nI ((k / 3) / 5)), .int (nI (k % 3))]) (rest := []) ⟨hx, hb, hml, hown, hts⟩ (c_X8_beside l D cI cC cQ a g0 g1 g2 g3 g4 g5 g6 g7 ik rn ps ty sp fr re cau co cm G ((nI ((k / 3) % 5)) - (nI 1)) (nI ((k / 3) / 5)) (k % 3) (by first | assumption | omega)) (cwV (rm := rmX8_beside) 3 hts gX8_round_X8_beside rfl rfl rfl (by decide +kernel) ⟨Nat.le_of_ble_eq_true rfl, Nat.le_of_ble_eq_true rfl⟩) ⟨PR.blind, va_recv hKa hPc (ci := 8) (q0 := 0) rfl rfl, PR.go hPc hK⟩ rfl rfl hl.1 rfl (lv_room (Nat.le_of_ble_eq_true rfl)) dX8_round_32 ⟨Nat.le_of_ble_eq_true rfl, Nat.le_of_ble_eq_true rfl⟩) ?_
        refine lv_aload_n hx hb dX8_round_35 rfl (lv_at hl 4 rfl) ?_
        refine lv_iload_n hx hb dX8_round_36 rfl (lv_at hl 2 rfl) ?_
        refine lv_iconst (v := nI 1) hx hb dX8_round_37 (by decide) ?_
        refine gn_add hx hb dX8_round_38 ?_
        refine lv_iload_n hx hb dX8_round_39 rfl (lv_at hl 1 rfl) ?_
        refine lv_iload hx hb dX8_round_40 (lv_at hl 0 rfl) ?_
        have hPc := hP.sub (ws' := [(a, .inr (8, [.ref g0, .ref g1, .ref g2, .ref g3, .int ik, .int rn, .int ps, .ref g4, .int ty, .ref g5, .ref g6, .int sp, .int fr, .int re, .int cau, .int co, .int cm, .ref g7])), (g0, .inl (cI, 240, .inl (MA G)))]) [0, 1] rfl
        refine clRe (E := bes G (nI (((k / 3) % 5) + 1)) (nI ((k / 3) / 5)) (k % 3)) (va_runV (As := [.int (nI (((k / 3) % 5) + 1)), .int (nI ((k / 3) / 5)), .int (nI (k % 3))]) (rest := [.int (bes G ((nI ((k / 3) % 5)) - (nI 1)) (nI ((k / 3) / 5)) (k % 3))]) ⟨hx, hb, hml, hown, hts⟩ (c_X8_beside l D cI cC cQ a g0 g1 g2 g3 g4 g5 g6 g7 ik rn ps ty sp fr re cau co cm G (nI (((k / 3) % 5) + 1)) (nI ((k / 3) / 5)) (k % 3) (by first | assumption | omega)) (cwV (rm := rmX8_beside) 3 hts gX8_round_X8_beside rfl rfl rfl (by decide +kernel) ⟨Nat.le_of_ble_eq_true rfl, Nat.le_of_ble_eq_true rfl⟩) ⟨PR.blind, va_recv hKa hPc (ci := 8) (q0 := 0) rfl rfl, PR.go hPc hK⟩ rfl rfl hl.1 rfl (lv_room (Nat.le_of_ble_eq_true rfl)) dX8_round_42 ⟨Nat.le_of_ble_eq_true rfl, Nat.le_of_ble_eq_true rfl⟩) ?_
        refine lv_iadd hx hb dX8_round_45 ?_
        refine lv_aload_n hx hb dX8_round_46 rfl (lv_at hl 4 rfl) ?_
        refine lv_iload_n hx hb dX8_round_47 rfl (lv_at hl 2 rfl) ?_
        refine lv_iload_n hx hb dX8_round_48 rfl (lv_at hl 1 rfl) ?_
        refine lv_iconst (v := nI 1) hx hb dX8_round_49 (by decide) ?_
        refine lv_isub hx hb dX8_round_50 ?_
        refine lv_iload hx hb dX8_round_51 (lv_at hl 0 rfl) ?_
        have hPc := hP.sub (ws' := [(a, .inr (8, [.ref g0, .ref g1, .ref g2, .ref g3, .int ik, .int rn, .int ps, .ref g4, .int ty, .ref g5, .ref g6, .int sp, .int fr, .int re, .int cau, .int co, .int cm, .ref g7])), (g0, .inl (cI, 240, .inl (MA G)))]) [0, 1] rfl
        refine clRe (E := bes G (nI ((k / 3) % 5)) ((nI ((k / 3) / 5)) - (nI 1)) (k % 3)) (va_runV (As := [.int (nI ((k / 3) % 5)), .int ((nI ((k / 3) / 5)) - (nI 1)), .int (nI (k % 3))]) (rest := [.int ((bes G ((nI ((k / 3) % 5)) - (nI 1)) (nI ((k / 3) / 5)) (k % 3)) + (bes G (nI (((k / 3) % 5) + 1)) (nI ((k / 3) / 5)) (k % 3)))]) ⟨hx, hb, hml, hown, hts⟩ (c_X8_beside l D cI cC cQ a g0 g1 g2 g3 g4 g5 g6 g7 ik rn ps ty sp fr re cau co cm G (nI ((k / 3) % 5)) ((nI ((k / 3) / 5)) - (nI 1)) (k % 3) (by first | assumption | omega)) (cwV (rm := rmX8_beside) 3 hts gX8_round_X8_beside rfl rfl rfl (by decide +kernel) ⟨Nat.le_of_ble_eq_true rfl, Nat.le_of_ble_eq_true rfl⟩) ⟨PR.blind, va_recv hKa hPc (ci := 8) (q0 := 0) rfl rfl, PR.go hPc hK⟩ rfl rfl hl.1 rfl (lv_room (Nat.le_of_ble_eq_true rfl)) dX8_round_53 ⟨Nat.le_of_ble_eq_true rfl, Nat.le_of_ble_eq_true rfl⟩) ?_
        refine lv_iadd hx hb dX8_round_56 ?_
        refine lv_aload_n hx hb dX8_round_57 rfl (lv_at hl 4 rfl) ?_
        refine lv_iload_n hx hb dX8_round_58 rfl (lv_at hl 2 rfl) ?_
        refine lv_iload_n hx hb dX8_round_59 rfl (lv_at hl 1 rfl) ?_
        refine lv_iconst (v := nI 1) hx hb dX8_round_60 (by decide) ?_
        refine gn_add hx hb dX8_round_61 ?_
        refine lv_iload hx hb dX8_round_62 (lv_at hl 0 rfl) ?_
        have hPc := hP.sub (ws' := [(a, .inr (8, [.ref g0, .ref g1, .ref g2, .ref g3, .int ik, .int rn, .int ps, .ref g4, .int ty, .ref g5, .ref g6, .int sp, .int fr, .int re, .int cau, .int co, .int cm, .ref g7])), (g0, .inl (cI, 240, .inl (MA G)))]) [0, 1] rfl
        refine clRe (E := bes G (nI ((k / 3) % 5)) (nI (((k / 3) / 5) + 1)) (k % 3)) (va_runV (As := [.int (nI ((k / 3) % 5)), .int (nI (((k / 3) / 5) + 1)), .int (nI (k % 3))]) (rest := [.int (((bes G ((nI ((k / 3) % 5)) - (nI 1)) (nI ((k / 3) / 5)) (k % 3)) + (bes G (nI (((k / 3) % 5) + 1)) (nI ((k / 3) / 5)) (k % 3))) + (bes G (nI ((k / 3) % 5)) ((nI ((k / 3) / 5)) - (nI 1)) (k % 3)))]) ⟨hx, hb, hml, hown, hts⟩ (c_X8_beside l D cI cC cQ a g0 g1 g2 g3 g4 g5 g6 g7 ik rn ps ty sp fr re cau co cm G (nI ((k / 3) % 5)) (nI (((k / 3) / 5) + 1)) (k % 3) (by first | assumption | omega)) (cwV (rm := rmX8_beside) 3 hts gX8_round_X8_beside rfl rfl rfl (by decide +kernel) ⟨Nat.le_of_ble_eq_true rfl, Nat.le_of_ble_eq_true rfl⟩) ⟨PR.blind, va_recv hKa hPc (ci := 8) (q0 := 0) rfl rfl, PR.go hPc hK⟩ rfl rfl hl.1 rfl (lv_room (Nat.le_of_ble_eq_true rfl)) dX8_round_64 ⟨Nat.le_of_ble_eq_true rfl, Nat.le_of_ble_eq_true rfl⟩) ?_
        refine lv_iadd hx hb dX8_round_67 ?_
        refine lv_istore (lv' := [(5, .int ((((bes G ((nI ((k / 3) % 5)) - (nI 1)) (nI ((k / 3) / 5)) (k % 3)) + (bes G (nI (((k / 3) % 5) + 1)) (nI ((k / 3) / 5)) (k % 3))) + (bes G (nI ((k / 3) % 5)) ((nI ((k / 3) / 5)) - (nI 1)) (k % 3))) + (bes G (nI ((k / 3) % 5)) (nI (((k / 3) / 5) + 1)) (k % 3)))), (4, .int (nI (k % 3))), (3, .int (nI ((k / 3) / 5))), (2, .int (nI ((k / 3) % 5))), (1, .int (nI k)), (0, .ref a)]) hx hb dX8_round_68 hl (by decide) rfl (fun ls hl => ?_)
        refine lv_aload_n hx hb dX8_round_70 rfl (lv_at hl 5 rfl) ?_
        refine va_get (D := D) (ci := 8) (v := .ref g5) (C := RX8) (T := TX8) (N := 18) hx hb hts iw_X8_round_X8 hown hKa hP 0 rfl rfl 9 (by decide) (hts (.fieldLink RX8 25 "ColourPatchesModel" "next" "[I") (by decide +kernel)) (fun _ h9 => h9) rfl dX8_round_71 ?_
        refine lv_iload_n hx hb dX8_round_74 rfl (lv_at hl 4 rfl) ?_
        refine lv_aload_n hx hb dX8_round_75 rfl (lv_at hl 5 rfl) ?_
        refine va_get (D := D) (ci := 8) (v := .ref g0) (C := RX8) (T := TX8) (N := 18) hx hb hts iw_X8_round_X8 hown hKa hP 0 rfl rfl 0 (by decide) (hts (.fieldLink RX8 7 "ColourPatchesModel" "s" "[I") (by decide +kernel)) (fun _ h9 => h9) rfl dX8_round_76 ?_
        refine lv_iconst (v := nI 4) hx hb dX8_round_79 (by decide) ?_
        refine lv_iload_n hx hb dX8_round_80 rfl (lv_at hl 4 rfl) ?_
        refine lv_iload hx hb dX8_round_81 (lv_at hl 1 rfl) ?_
        refine gn_sub hx hb (by omega) dX8_round_83 ?_
        refine gn_mul hx hb dX8_round_84 ?_
        refine lv_iconst (v := nI 5) hx hb dX8_round_85 (by decide) ?_
        refine gn_add hx hb dX8_round_86 ?_
        refine gn_iald hx hb hKa hP 1 0 rfl rfl (k := (4 * (k - (k % 3))) + 5) (by omega) (by omega) dX8_round_87 ?_
        rw [show MA G ((4 * (k - (k % 3))) + 5) = G (k / 3) 5 from MA_at _ _ _ _ (by omega) (by omega)]
        refine lv_iconst (v := nI 1) hx hb dX8_round_88 (by decide) ?_
        refine lv_icmp_ne hx hb (tgt := 111) dX8_round_89 (by decide) (fun c_89 => ?_) (fun c_89 => ?_)
        · refine lv_iload hx hb dX8_round_111 (lv_at hl 0 rfl) ?_
          refine lv_iload_n hx hb dX8_round_113 rfl (lv_at hl 3 rfl) ?_
          refine lv_iload_n hx hb dX8_round_114 rfl (lv_at hl 2 rfl) ?_
          have hPc := hP.sub (ws' := []) [] rfl
          refine clRe (E := nI (mny ((k / 3) % 5) ((k / 3) / 5))) (va_runS (As := [.int (nI ((k / 3) % 5)), .int (nI ((k / 3) / 5))]) (rest := [.int ((((bes G ((nI ((k / 3) % 5)) - (nI 1)) (nI ((k / 3) / 5)) (k % 3)) + (bes G (nI (((k / 3) % 5) + 1)) (nI ((k / 3) / 5)) (k % 3))) + (bes G (nI ((k / 3) % 5)) ((nI ((k / 3) / 5)) - (nI 1)) (k % 3))) + (bes G (nI ((k / 3) % 5)) (nI (((k / 3) / 5) + 1)) (k % 3))), .int (nI k), .ref g5]) ⟨hx, hb, hml, hown, hts⟩ (c_X8_many l D cI cC cQ ((k / 3) % 5) ((k / 3) / 5) (by first | assumption | omega) (by first | assumption | omega)) (va_cwS (rm := rmX8_many) 2 hts gX8_round_X8_many rfl rfl rfl (by decide +kernel) ⟨Nat.le_of_ble_eq_true rfl, Nat.le_of_ble_eq_true rfl⟩) ⟨PR.blind, PR.go hPc hK⟩ rfl rfl hl.1 rfl (lv_room (Nat.le_of_ble_eq_true rfl)) dX8_round_115 ⟨Nat.le_of_ble_eq_true rfl, Nat.le_of_ble_eq_true rfl⟩) ?_
          have hmny_115 : 0 < mny ((k / 3) % 5) ((k / 3) / 5) ∧ mny ((k / 3) % 5) ((k / 3) / 5) < 5 := mny_in (by omega) (by omega)
          refine lv_idiv hx hb dX8_round_118 (nI_ne0 (by omega) (by omega)) ?_
          refine gn_iast (ws' := [(a, .inr (8, [.ref g0, .ref g1, .ref g2, .ref g3, .int ik, .int rn, .int ps, .ref g4, .int ty, .ref g5, .ref g6, .int sp, .int fr, .int re, .int cau, .int co, .int cm, .ref g7])), (g0, .inl (cI, 240, .inl (MA G))), (g5, .inl (cI, 60, .inl (upd (mixF (nxG G) f k) k (((((bes G ((nI ((k / 3) % 5)) - (nI 1)) (nI ((k / 3) / 5)) (k % 3)) + (bes G (nI (((k / 3) % 5) + 1)) (nI ((k / 3) / 5)) (k % 3))) + (bes G (nI ((k / 3) % 5)) ((nI ((k / 3) / 5)) - (nI 1)) (k % 3))) + (bes G (nI ((k / 3) % 5)) (nI (((k / 3) / 5) + 1)) (k % 3))) / (nI (mny ((k / 3) % 5) ((k / 3) / 5)))))))]) hx hb hKa hP hD hS 2 0 rfl rfl (k := k) (by omega) (by omega) dX8_round_119 rfl (fun H locs hP hD hS => ?_)
          refine gn_iinc (lv' := [(1, .int (nI (k + 1))), (5, .int ((((bes G ((nI ((k / 3) % 5)) - (nI 1)) (nI ((k / 3) / 5)) (k % 3)) + (bes G (nI (((k / 3) % 5) + 1)) (nI ((k / 3) / 5)) (k % 3))) + (bes G (nI ((k / 3) % 5)) ((nI ((k / 3) / 5)) - (nI 1)) (k % 3))) + (bes G (nI ((k / 3) % 5)) (nI (((k / 3) / 5) + 1)) (k % 3)))), (4, .int (nI (k % 3))), (3, .int (nI ((k / 3) / 5))), (2, .int (nI ((k / 3) % 5))), (0, .ref a)]) hx hb dX8_round_120 hl (k := 4) rfl (by decide) rfl (fun ls hl => ?_)
          refine lv_goto (tgt := 2) hx hb dX8_round_123 (by decide) ?_
          have hP : va_P D vwCl [(a, .inr (8, [.ref g0, .ref g1, .ref g2, .ref g3, .int ik, .int rn, .int ps, .ref g4, .int ty, .ref g5, .ref g6, .int sp, .int fr, .int re, .int cau, .int co, .int cm, .ref g7])), (g0, .inl (cI, 240, .inl (MA G))), (g5, .inl (cI, 60, .inl (mixF (nxG G) f (k + 1))))] H := (hP.fn 2 rfl (g := mixF (nxG G) f (k + 1)) (fun q _ => mixF_s _ _ k (nx_m c_5 c_89) q) rfl)
          have hD : va_D A [(a, .inr (8, [.ref g0, .ref g1, .ref g2, .ref g3, .int ik, .int rn, .int ps, .ref g4, .int ty, .ref g5, .ref g6, .int sp, .int fr, .int re, .int cau, .int co, .int cm, .ref g7])), (g0, .inl (cI, 240, .inl (MA G))), (g5, .inl (cI, 60, .inl (mixF (nxG G) f (k + 1))))] := hD.addr rfl
          exact ih2 (k + 1) (show (k + 1) ≤ 60 from by first | omega | assumption | rfl) (by first | omega | assumption) H locs hP hD hS _ (lv_sub hl [0, 5] rfl)
        · refine lv_aload_n hx hb dX8_round_92 rfl (lv_at hl 5 rfl) ?_
          refine va_get (D := D) (ci := 8) (v := .ref g0) (C := RX8) (T := TX8) (N := 18) hx hb hts iw_X8_round_X8 hown hKa hP 0 rfl rfl 0 (by decide) (hts (.fieldLink RX8 7 "ColourPatchesModel" "s" "[I") (by decide +kernel)) (fun _ h9 => h9) rfl dX8_round_93 ?_
          refine lv_iconst (v := nI 4) hx hb dX8_round_96 (by decide) ?_
          refine lv_iload_n hx hb dX8_round_97 rfl (lv_at hl 4 rfl) ?_
          refine lv_iload hx hb dX8_round_98 (lv_at hl 1 rfl) ?_
          refine gn_sub hx hb (by omega) dX8_round_100 ?_
          refine gn_mul hx hb dX8_round_101 ?_
          refine lv_iconst (v := nI 2) hx hb dX8_round_102 (by decide) ?_
          refine gn_add hx hb dX8_round_103 ?_
          refine lv_iload hx hb dX8_round_104 (lv_at hl 1 rfl) ?_
          refine gn_add hx hb dX8_round_106 ?_
          refine gn_iald hx hb hKa hP 1 0 rfl rfl (k := ((4 * (k - (k % 3))) + 2) + (k % 3)) (by omega) (by omega) dX8_round_107 ?_
          rw [show MA G (((4 * (k - (k % 3))) + 2) + (k % 3)) = G (k / 3) (2 + k % 3) from MA_at _ _ _ _ (by omega) (by omega)]
          refine lv_goto (tgt := 119) hx hb dX8_round_108 (by decide) ?_
          refine gn_iast (ws' := [(a, .inr (8, [.ref g0, .ref g1, .ref g2, .ref g3, .int ik, .int rn, .int ps, .ref g4, .int ty, .ref g5, .ref g6, .int sp, .int fr, .int re, .int cau, .int co, .int cm, .ref g7])), (g0, .inl (cI, 240, .inl (MA G))), (g5, .inl (cI, 60, .inl (upd (mixF (nxG G) f k) k (G (k / 3) (2 + k % 3)))))]) hx hb hKa hP hD hS 2 0 rfl rfl (k := k) (by omega) (by omega) dX8_round_119 rfl (fun H locs hP hD hS => ?_)
          refine gn_iinc (lv' := [(1, .int (nI (k + 1))), (5, .int ((((bes G ((nI ((k / 3) % 5)) - (nI 1)) (nI ((k / 3) / 5)) (k % 3)) + (bes G (nI (((k / 3) % 5) + 1)) (nI ((k / 3) / 5)) (k % 3))) + (bes G (nI ((k / 3) % 5)) ((nI ((k / 3) / 5)) - (nI 1)) (k % 3))) + (bes G (nI ((k / 3) % 5)) (nI (((k / 3) / 5) + 1)) (k % 3)))), (4, .int (nI (k % 3))), (3, .int (nI ((k / 3) / 5))), (2, .int (nI ((k / 3) % 5))), (0, .ref a)]) hx hb dX8_round_120 hl (k := 4) rfl (by decide) rfl (fun ls hl => ?_)
          refine lv_goto (tgt := 2) hx hb dX8_round_123 (by decide) ?_
          have hP : va_P D vwCl [(a, .inr (8, [.ref g0, .ref g1, .ref g2, .ref g3, .int ik, .int rn, .int ps, .ref g4, .int ty, .ref g5, .ref g6, .int sp, .int fr, .int re, .int cau, .int co, .int cm, .ref g7])), (g0, .inl (cI, 240, .inl (MA G))), (g5, .inl (cI, 60, .inl (mixF (nxG G) f (k + 1))))] H := (hP.fn 2 rfl (g := mixF (nxG G) f (k + 1)) (fun q _ => mixF_s _ _ k (nx_h c_89) q) rfl)
          have hD : va_D A [(a, .inr (8, [.ref g0, .ref g1, .ref g2, .ref g3, .int ik, .int rn, .int ps, .ref g4, .int ty, .ref g5, .ref g6, .int sp, .int fr, .int re, .int cau, .int co, .int cm, .ref g7])), (g0, .inl (cI, 240, .inl (MA G))), (g5, .inl (cI, 60, .inl (mixF (nxG G) f (k + 1))))] := hD.addr rfl
          exact ih2 (k + 1) (show (k + 1) ≤ 60 from by first | omega | assumption | rfl) (by first | omega | assumption) H locs hP hD hS _ (lv_sub hl [0, 5] rfl)
  have hP : va_P D vwCl [(a, .inr (8, [.ref g0, .ref g1, .ref g2, .ref g3, .int ik, .int rn, .int ps, .ref g4, .int ty, .ref g5, .ref g6, .int sp, .int fr, .int re, .int cau, .int co, .int cm, .ref g7])), (g0, .inl (cI, 240, .inl (MA G))), (g5, .inl (cI, 60, .inl (mixF (nxG G) f 0)))] s.heap := (hP.fn 2 rfl (g := mixF (nxG G) f 0) (fun q _ => mixF_0 _ _ q) rfl)
  have hD : va_D A [(a, .inr (8, [.ref g0, .ref g1, .ref g2, .ref g3, .int ik, .int rn, .int ps, .ref g4, .int ty, .ref g5, .ref g6, .int sp, .int fr, .int re, .int cau, .int co, .int cm, .ref g7])), (g0, .inl (cI, 240, .inl (MA G))), (g5, .inl (cI, 60, .inl (mixF (nxG G) f 0)))] := hD.addr rfl
  exact L2 ((60 - 0) + 1) 0 (show 0 ≤ 60 from by first | omega | assumption | rfl) (Nat.lt_succ_self _) s.heap [] hP hD hS _ (lv_sub hl [0, 1] rfl)
abbrev rmX8_spread : Room := { frames := 4, cells := 0, slots := 0, locals := 91 }
set_option maxHeartbeats 4000000 in
set_option maxRecDepth 100000 in
theorem c_X8_spread (l : Launch) (D : va_G) (cI cC cQ : ClassId) (a g0 g1 g2 g3 g4 g5 g6 g7 : Nat) (ik : Int32) (rb n : Nat) (ty sp fr re cau co cm : Int32) (P : Nat → Nat → Nat → Int32) (G : Nat → Nat → Int32) (f : Nat → Int32) (k : Int32) (sz : Nat) (hG : OKG G) (hrb : rb ≤ 1) (hn : n ≤ 4) : Met l yX8_spread wsX8_spread rmX8_spread (PW D cI cC cQ [.ref a, .int k] [(a, .inr (8, [.ref g0, .ref g1, .ref g2, .ref g3, .int ik, .int (nI rb), .int (nI n), .ref g4, .int ty, .ref g5, .ref g6, .int sp, .int fr, .int re, .int cau, .int co, .int cm, .ref g7])), (g0, .inl (cI, 240, .inl (MA G))), (g1, .inl (cI, 960, .inl (QA P))), (g5, .inl (cI, 60, .inl f))] sz) (va_Qi (fun (z : Int32) (u : Nat → Int32) => z = cz (okR k) (nI (itN G (tn k)))) (fun (u : Nat → Int32) t9 => va_P D vwCl [(a, .inr (8, [.ref g0, .ref g1, .ref g2, .ref g3, .int ik, .int (nI rb), .int (nI (pnB (okR k) rb n)), .ref g4, .int ty, .ref g5, .ref g6, .int sp, .int fr, .int re, .int cau, .int co, .int cm, .ref g7])), (g0, .inl (cI, 240, .inl (MA (cG (okR k) (itG G (tn k)) G)))), (g1, .inl (cI, 960, .inl (QA (pcB (okR k) rb P n G)))), (g5, .inl (cI, 60, .inl u))] t9.heap) (va_A [(a, .inr (8, [.ref g0, .ref g1, .ref g2, .ref g3, .int ik, .int (nI rb), .int (nI n), .ref g4, .int ty, .ref g5, .ref g6, .int sp, .int fr, .int re, .int cau, .int co, .int cm, .ref g7])), (g0, .inl (cI, 240, .inl (MA G))), (g1, .inl (cI, 960, .inl (QA P))), (g5, .inl (cI, 60, .inl f))] sz)) 0 0 (va_A [(a, .inr (8, [.ref g0, .ref g1, .ref g2, .ref g3, .int ik, .int (nI rb), .int (nI n), .ref g4, .int ty, .ref g5, .ref g6, .int sp, .int fr, .int re, .int cau, .int co, .int cm, .ref g7])), (g0, .inl (cI, 240, .inl (MA G))), (g1, .inl (cI, 960, .inl (QA P))), (g5, .inl (cI, 60, .inl f))] sz) := by
  refine metW (y := yX8_spread) (ws := wsX8_spread) (rm := rmX8_spread) (D := D) (cI := cI) (cC := cC) (cQ := cQ) (av := [.ref a, .int k]) (wd := [(a, .inr (8, [.ref g0, .ref g1, .ref g2, .ref g3, .int ik, .int (nI rb), .int (nI n), .ref g4, .int ty, .ref g5, .ref g6, .int sp, .int fr, .int re, .int cau, .int co, .int cm, .ref g7])), (g0, .inl (cI, 240, .inl (MA G))), (g1, .inl (cI, 960, .inl (QA P))), (g5, .inl (cI, 60, .inl f))]) (sz := sz) (Qf := fun A => va_Qi (fun (z : Int32) (u : Nat → Int32) => z = cz (okR k) (nI (itN G (tn k)))) (fun (u : Nat → Int32) t9 => va_P D vwCl [(a, .inr (8, [.ref g0, .ref g1, .ref g2, .ref g3, .int ik, .int (nI rb), .int (nI (pnB (okR k) rb n)), .ref g4, .int ty, .ref g5, .ref g6, .int sp, .int fr, .int re, .int cau, .int co, .int cm, .ref g7])), (g0, .inl (cI, 240, .inl (MA (cG (okR k) (itG G (tn k)) G)))), (g1, .inl (cI, 960, .inl (QA (pcB (okR k) rb P n G)))), (g5, .inl (cI, 60, .inl u))] t9.heap) A) (cc := cX8_spread) (maxL := 4) (ret := (some .int)) (by decide) rfl (Nat.le_of_ble_eq_true rfl) ?_
  intro pg ev s mi args below meth cd ls A Q hQ hx hb hml hr hts hown hlk hnm hK hP hD hS hA hl
  have hKa := hK.1
  have hl : lv_has ls 4 [(0, .ref a), (1, .int k)] := hl
  refine lv_iload_n hx hb dX8_spread_0 rfl (lv_at hl 1 rfl) ?_
  refine lv_iconst (v := nI 1) hx hb dX8_spread_1 (by decide) ?_
  refine lv_bipush (v := nI 20) hx hb dX8_spread_2 (by decide) ?_
  have hPc := hP.sub (ws' := []) [] rfl
  refine clR (va_runS (As := [.int k, .int (nI 1), .int (nI 20)]) (rest := []) ⟨hx, hb, hml, hown, hts⟩ (c_X8_in l D cI cC cQ k (nI 1) (nI 20) ) (va_cwS (rm := rmX8_in) 3 hts gX8_spread_X8_in rfl rfl rfl (by decide +kernel) ⟨Nat.le_of_ble_eq_true rfl, Nat.le_of_ble_eq_true rfl⟩) ⟨PR.blind, PR.go hPc hK⟩ rfl rfl hl.1 rfl (lv_room (Nat.le_of_ble_eq_true rfl)) dX8_spread_4 ⟨Nat.le_of_ble_eq_true rfl, Nat.le_of_ble_eq_true rfl⟩) (fun r_4 h_4 => ?_)
  rcases h_4 with ⟨b_4, rfl⟩ | ⟨b_4, rfl⟩
  · obtain ⟨q, hq, rfl⟩ := in_nat (x := k) (M := 20) (by decide) ⟨Int32.le_trans (nI_le (Nat.zero_le 1) (by decide)) b_4.1, b_4.2⟩
    refine gn_if_ne hx hb (by decide) (tgt := 14) dX8_spread_7 (by decide) (fun cq => ?_) (fun cq => absurd cq (by decide))
    refine lv_aload_n hx hb dX8_spread_14 rfl (lv_at hl 0 rfl) ?_
    have hPc := hP.sub (ws' := [(a, .inr (8, [.ref g0, .ref g1, .ref g2, .ref g3, .int ik, .int (nI rb), .int (nI n), .ref g4, .int ty, .ref g5, .ref g6, .int sp, .int fr, .int re, .int cau, .int co, .int cm, .ref g7])), (g0, .inl (cI, 240, .inl (MA G))), (g1, .inl (cI, 960, .inl (QA P)))]) [0, 1, 2] rfl
    have hDc := hD.sub (ws' := [(a, .inr (8, [.ref g0, .ref g1, .ref g2, .ref g3, .int ik, .int (nI rb), .int (nI n), .ref g4, .int ty, .ref g5, .ref g6, .int sp, .int fr, .int re, .int cau, .int co, .int cm, .ref g7])), (g0, .inl (cI, 240, .inl (MA G))), (g1, .inl (cI, 960, .inl (QA P)))]) [0, 1, 2] (by decide) rfl
    refine clV (wc := [(a, .inr (8, [.ref g0, .ref g1, .ref g2, .ref g3, .int ik, .int (nI rb), .int (nI n), .ref g4, .int ty, .ref g5, .ref g6, .int sp, .int fr, .int re, .int cau, .int co, .int cm, .ref g7])), (g0, .inl (cI, 240, .inl (MA G))), (g1, .inl (cI, 960, .inl (QA P)))]) (w1 := fun (u_15 : Unit) => [(a, .inr (8, [.ref g0, .ref g1, .ref g2, .ref g3, .int ik, .int (nI rb), .int (nI (pN rb n)), .ref g4, .int ty, .ref g5, .ref g6, .int sp, .int fr, .int re, .int cau, .int co, .int cm, .ref g7])), (g0, .inl (cI, 240, .inl (MA G))), (g1, .inl (cI, 960, .inl (QA (pC rb P n G))))]) (wr := [(g5, .inl (cI, 60, .inl f))]) (wn := fun (u_15 : Unit) => [(a, .inr (8, [.ref g0, .ref g1, .ref g2, .ref g3, .int ik, .int (nI rb), .int (nI (pN rb n)), .ref g4, .int ty, .ref g5, .ref g6, .int sp, .int fr, .int re, .int cau, .int co, .int cm, .ref g7])), (g0, .inl (cI, 240, .inl (MA G))), (g1, .inl (cI, 960, .inl (QA (pC rb P n G)))), (g5, .inl (cI, 60, .inl f))]) hP hD hS hA [0, 1, 2] [3] [1, 2, 3, 0] rfl rfl rfl rfl (by decide) (fun _ => rfl) (fun _ => rfl) (fun _ => rfl) (va_runV (As := []) (rest := []) ⟨hx, hb, hml, hown, hts⟩ (c_X8_changes l D cI cC cQ a g0 g1 g2 g3 g4 g5 g6 g7 ik rb n ty sp fr re cau co cm P G s.heap.size (by first | assumption | omega) (by first | assumption | omega)) (cwV (rm := rmX8_changes) 0 hts gX8_spread_X8_changes rfl rfl rfl (by decide +kernel) ⟨Nat.le_of_ble_eq_true rfl, Nat.le_of_ble_eq_true rfl⟩) ⟨PW.blind, va_recv hKa hPc (ci := 8) (q0 := 0) rfl rfl, PW.go hPc hK hDc⟩ rfl rfl hl.1 rfl (lv_room (Nat.le_of_ble_eq_true rfl)) dX8_spread_15 ⟨Nat.le_of_ble_eq_true rfl, Nat.le_of_ble_eq_true rfl⟩) (fun u_15 H locs h_15 hP hD hS => ?_)
    have hP : va_P D vwCl [(a, .inr (8, [.ref g0, .ref g1, .ref g2, .ref g3, .int ik, .int (nI rb), .int (nI (pN rb n)), .ref g4, .int ty, .ref g5, .ref g6, .int sp, .int fr, .int re, .int cau, .int co, .int cm, .ref g7])), (g0, .inl (cI, 240, .inl (MA G))), (g1, .inl (cI, 960, .inl (QA (pC rb P n G)))), (g5, .inl (cI, 60, .inl f))] H := hP
    have hD : va_D A [(a, .inr (8, [.ref g0, .ref g1, .ref g2, .ref g3, .int ik, .int (nI rb), .int (nI (pN rb n)), .ref g4, .int ty, .ref g5, .ref g6, .int sp, .int fr, .int re, .int cau, .int co, .int cm, .ref g7])), (g0, .inl (cI, 240, .inl (MA G))), (g1, .inl (cI, 960, .inl (QA (pC rb P n G)))), (g5, .inl (cI, 60, .inl f))] := hD
    refine lv_iconst (v := nI 0) hx hb dX8_spread_18 (by decide) ?_
    refine lv_istore_n (lv' := [(2, .int (nI 0)), (0, .ref a), (1, .int (nI q))]) hx hb dX8_spread_19 rfl hl (by decide) rfl (fun ls hl => ?_)
    refine lv_iconst (v := nI 0) hx hb dX8_spread_20 (by decide) ?_
    refine lv_istore_n (lv' := [(3, .int (nI 0)), (2, .int (nI 0)), (0, .ref a), (1, .int (nI q))]) hx hb dX8_spread_21 rfl hl (by decide) rfl (fun ls hl => ?_)
    have L22 : ∀ (nn : Nat) (j : Nat) (x : Nat) (f2 : Nat → Int32) (hj : j ≤ q) (hxn : x = itN G j) (_ : q - j < nn) (H : Heap) (locs : List Loc) (hP : va_P D vwCl [(a, .inr (8, [.ref g0, .ref g1, .ref g2, .ref g3, .int ik, .int (nI rb), .int (nI (pN rb n)), .ref g4, .int ty, .ref g5, .ref g6, .int sp, .int fr, .int re, .int cau, .int co, .int cm, .ref g7])), (g0, .inl (cI, 240, .inl (MA (itG G j)))), (g1, .inl (cI, 960, .inl (QA (pC rb P n G)))), (g5, .inl (cI, 60, .inl f2))] H) (hD : va_D A [(a, .inr (8, [.ref g0, .ref g1, .ref g2, .ref g3, .int ik, .int (nI rb), .int (nI (pN rb n)), .ref g4, .int ty, .ref g5, .ref g6, .int sp, .int fr, .int re, .int cau, .int co, .int cm, .ref g7])), (g0, .inl (cI, 240, .inl (MA (itG G j)))), (g1, .inl (cI, 960, .inl (QA (pC rb P n G)))), (g5, .inl (cI, 60, .inl f2))]) (hS : va_S A s.heap H locs) (ls : Array Slot) (_ : lv_has ls 4 [(2, .int (nI x)), (3, .int (nI j)), (0, .ref a), (1, .int (nI q))]), W pg l ev (headSpec wsX8_spread rmX8_spread).room s mi args below meth cd H locs 0 0 Q (F0 mi 22 ls []) := by
      intro nn
      induction nn with
      | zero =>
        intro j x f2 hj hxn hmeas
        exact absurd hmeas (Nat.not_lt_zero _)
      | succ nn ih22 =>
        intro j x f2 hj hxn hmeas H locs hP hD hS ls hl
        refine lv_iload_n hx hb dX8_spread_22 rfl (lv_at hl 1 rfl) ?_
        refine lv_iload_n hx hb dX8_spread_23 rfl (lv_at hl 3 rfl) ?_
        refine gn_icmp_ge hx hb (by omega) (by omega) (tgt := 38) dX8_spread_24 (by decide) (fun c_24 => ?_) (fun c_24 => ?_)
        · refine lv_iload_n hx hb dX8_spread_38 rfl (lv_at hl 0 rfl) ?_
          have hok : okR (nI q) = true := decide_eq_true b_4
          have eG : cG (okR (nI q)) (itG G (tn (nI q))) G = itG G j := (cG_t hok).trans (by rw [tn_nI (by omega), show q = j by omega])
          have eP : pcB (okR (nI q)) rb P n G = pC rb P n G := pcB_t hok
          have eN : pnB (okR (nI q)) rb n = pN rb n := pnB_t hok
          have hP : va_P D vwCl [(a, .inr (8, [.ref g0, .ref g1, .ref g2, .ref g3, .int ik, .int (nI rb), .int (nI (pnB (okR (nI q)) rb n)), .ref g4, .int ty, .ref g5, .ref g6, .int sp, .int fr, .int re, .int cau, .int co, .int cm, .ref g7])), (g0, .inl (cI, 240, .inl (MA (cG (okR (nI q)) (itG G (tn (nI q))) G)))), (g1, .inl (cI, 960, .inl (QA (pcB (okR (nI q)) rb P n G)))), (g5, .inl (cI, 60, .inl f2))] H := by rw [eG, eP, eN]; exact hP
          exact rtW_i f2 hQ hx hb hr hlk hS hP dX8_spread_39 (by rw [cz_t hok, tn_nI (by omega), hxn, show j = q by omega])
        · refine lv_aload_n hx hb dX8_spread_27 rfl (lv_at hl 2 rfl) ?_
          have hPc := hP.sub (ws' := [(a, .inr (8, [.ref g0, .ref g1, .ref g2, .ref g3, .int ik, .int (nI rb), .int (nI (pN rb n)), .ref g4, .int ty, .ref g5, .ref g6, .int sp, .int fr, .int re, .int cau, .int co, .int cm, .ref g7])), (g0, .inl (cI, 240, .inl (MA (itG G j)))), (g5, .inl (cI, 60, .inl f2))]) [0, 1, 3] rfl
          have hDc := hD.sub (ws' := [(a, .inr (8, [.ref g0, .ref g1, .ref g2, .ref g3, .int ik, .int (nI rb), .int (nI (pN rb n)), .ref g4, .int ty, .ref g5, .ref g6, .int sp, .int fr, .int re, .int cau, .int co, .int cm, .ref g7])), (g0, .inl (cI, 240, .inl (MA (itG G j)))), (g5, .inl (cI, 60, .inl f2))]) [0, 1, 3] (by decide) rfl
          refine clW (wc := [(a, .inr (8, [.ref g0, .ref g1, .ref g2, .ref g3, .int ik, .int (nI rb), .int (nI (pN rb n)), .ref g4, .int ty, .ref g5, .ref g6, .int sp, .int fr, .int re, .int cau, .int co, .int cm, .ref g7])), (g0, .inl (cI, 240, .inl (MA (itG G j)))), (g5, .inl (cI, 60, .inl f2))]) (w1 := fun (u_28 : Unit) => [(a, .inr (8, [.ref g0, .ref g1, .ref g2, .ref g3, .int ik, .int (nI rb), .int (nI (pN rb n)), .ref g4, .int ty, .ref g5, .ref g6, .int sp, .int fr, .int re, .int cau, .int co, .int cm, .ref g7])), (g0, .inl (cI, 240, .inl (MA (roundG (itG G j))))), (g5, .inl (cI, 60, .inl (nxG (itG G j))))]) (wr := [(g1, .inl (cI, 960, .inl (QA (pC rb P n G))))]) (wn := fun (u_28 : Unit) => [(a, .inr (8, [.ref g0, .ref g1, .ref g2, .ref g3, .int ik, .int (nI rb), .int (nI (pN rb n)), .ref g4, .int ty, .ref g5, .ref g6, .int sp, .int fr, .int re, .int cau, .int co, .int cm, .ref g7])), (g0, .inl (cI, 240, .inl (MA (roundG (itG G j))))), (g1, .inl (cI, 960, .inl (QA (pC rb P n G)))), (g5, .inl (cI, 60, .inl (nxG (itG G j))))]) hP hD hS hA [0, 1, 3] [2] [1, 2, 0, 3] rfl rfl rfl rfl (by decide) (fun _ => rfl) (fun _ => rfl) (fun _ => rfl) (va_runV (As := []) (rest := []) ⟨hx, hb, hml, hown, hts⟩ (c_X8_round l D cI cC cQ a g0 g1 g2 g3 g4 g5 g6 g7 ik (nI rb) (nI (pN rb n)) ty sp fr re cau co cm (itG G j) f2 H.size (OK_it hG j)) (cwV (rm := rmX8_round) 0 hts gX8_spread_X8_round rfl rfl rfl (by decide +kernel) ⟨Nat.le_of_ble_eq_true rfl, Nat.le_of_ble_eq_true rfl⟩) ⟨PW.blind, va_recv hKa hPc (ci := 8) (q0 := 0) rfl rfl, PW.go hPc hK hDc⟩ rfl rfl hl.1 rfl (lv_room (Nat.le_of_ble_eq_true rfl)) dX8_spread_28 ⟨Nat.le_of_ble_eq_true rfl, Nat.le_of_ble_eq_true rfl⟩) (fun r_28 u_28 H locs h_28 hP hD hS => ?_)
          have hP : va_P D vwCl [(a, .inr (8, [.ref g0, .ref g1, .ref g2, .ref g3, .int ik, .int (nI rb), .int (nI (pN rb n)), .ref g4, .int ty, .ref g5, .ref g6, .int sp, .int fr, .int re, .int cau, .int co, .int cm, .ref g7])), (g0, .inl (cI, 240, .inl (MA (roundG (itG G j))))), (g1, .inl (cI, 960, .inl (QA (pC rb P n G)))), (g5, .inl (cI, 60, .inl (nxG (itG G j))))] H := hP
          have hD : va_D A [(a, .inr (8, [.ref g0, .ref g1, .ref g2, .ref g3, .int ik, .int (nI rb), .int (nI (pN rb n)), .ref g4, .int ty, .ref g5, .ref g6, .int sp, .int fr, .int re, .int cau, .int co, .int cm, .ref g7])), (g0, .inl (cI, 240, .inl (MA (roundG (itG G j))))), (g1, .inl (cI, 960, .inl (QA (pC rb P n G)))), (g5, .inl (cI, 60, .inl (nxG (itG G j))))] := hD
          have qr_28 : r_28 = nI (sumN (chN (itG G j)) 20) := h_28
          rw [qr_28]
          have hch_28 : sumN (chN (itG G j)) 20 < 21 := chs_lt ((itG G j))
          refine lv_istore_n (lv' := [(2, .int (nI (sumN (chN (itG G j)) 20))), (3, .int (nI j)), (0, .ref a), (1, .int (nI q))]) hx hb dX8_spread_31 rfl hl (by decide) rfl (fun ls hl => ?_)
          refine gn_iinc (lv' := [(3, .int (nI (j + 1))), (2, .int (nI (sumN (chN (itG G j)) 20))), (0, .ref a), (1, .int (nI q))]) hx hb dX8_spread_32 hl (k := 1) rfl (by decide) rfl (fun ls hl => ?_)
          refine lv_goto (tgt := 22) hx hb dX8_spread_35 (by decide) ?_
          exact ih22 (j + 1) (sumN (chN (itG G j)) 20) (nxG (itG G j)) (show (j + 1) ≤ q from by first | omega | assumption | rfl) (show (sumN (chN (itG G j)) 20) = itN G (j + 1) from rfl) (by first | omega | assumption) H locs hP hD hS _ (lv_sub hl [1, 0, 2, 3] rfl)
    exact L22 ((q - 0) + 1) 0 0 f (show 0 ≤ q from by first | omega | assumption | rfl) (show 0 = itN G 0 from rfl) (Nat.lt_succ_self _) H locs hP hD hS _ (lv_sub hl [1, 0, 2, 3] rfl)
  · refine gn_if_ne hx hb (by decide) (tgt := 14) dX8_spread_7 (by decide) (fun cq => absurd cq (by decide)) (fun cq => ?_)
    refine lv_sipush (v := (-1001)) hx hb dX8_spread_10 (by decide) ?_
    have hok : okR k = false := decide_eq_false b_4
    have eG : cG (okR k) (itG G (tn k)) G = G := cG_f hok
    have eP : pcB (okR k) rb P n G = P := pcB_f hok
    have eN : pnB (okR k) rb n = n := pnB_f hok
    have hP : va_P D vwCl [(a, .inr (8, [.ref g0, .ref g1, .ref g2, .ref g3, .int ik, .int (nI rb), .int (nI (pnB (okR k) rb n)), .ref g4, .int ty, .ref g5, .ref g6, .int sp, .int fr, .int re, .int cau, .int co, .int cm, .ref g7])), (g0, .inl (cI, 240, .inl (MA (cG (okR k) (itG G (tn k)) G)))), (g1, .inl (cI, 960, .inl (QA (pcB (okR k) rb P n G)))), (g5, .inl (cI, 60, .inl f))] s.heap := by rw [eG, eP, eN]; exact hP
    exact rtW_i f hQ hx hb hr hlk hS hP dX8_spread_13 ((cz_f hok).symm)
abbrev rmX8_cornerOf : Room := { frames := 2, cells := 0, slots := 0, locals := 53 }
set_option maxRecDepth 20000 in
theorem iw_X8_cornerOf_X8 : ∀ w ∈ u_ws RX8 TX8 18, w ∈ wsX8_cornerOf := by decide +kernel
set_option maxHeartbeats 4000000 in
set_option maxRecDepth 100000 in
theorem c_X8_cornerOf (l : Launch) (D : va_G) (cI cC cQ : ClassId) (a g0 g1 g2 g3 g4 g5 g6 g7 : Nat) (ik rn ps ty sp fr re cau co cm : Int32) (G : Nat → Nat → Int32) (c r w : Int32) (hG : OKG G) : Met l yX8_cornerOf wsX8_cornerOf rmX8_cornerOf (PR D cI cC cQ [.ref a, .int c, .int r, .int w] [(a, .inr (8, [.ref g0, .ref g1, .ref g2, .ref g3, .int ik, .int rn, .int ps, .ref g4, .int ty, .ref g5, .ref g6, .int sp, .int fr, .int re, .int cau, .int co, .int cm, .ref g7])), (g0, .inl (cI, 240, .inl (MA G)))]) (vp_Si (fun z => z = cz (okQ c r w) (cof G (cn c r) (tn w)))) 0 0 (fun _ => False) := by
  refine metR (cc := cX8_cornerOf) (maxL := 4) (ret := (some .int)) (by decide) rfl (Nat.le_of_ble_eq_true rfl) ?_
  intro pg ev s mi args below meth cd ls Q hQ hx hb hml hr hts hown hlk hK hP hl
  have hKa := hK.1
  have hl : lv_has ls 4 [(0, .ref a), (1, .int c), (2, .int r), (3, .int w)] := hl
  refine lv_iload_n hx hb dX8_cornerOf_0 rfl (lv_at hl 1 rfl) ?_
  refine lv_iload_n hx hb dX8_cornerOf_1 rfl (lv_at hl 2 rfl) ?_
  have hPc := hP.sub (ws' := []) [] rfl
  refine clR (va_runS (As := [.int c, .int r]) (rest := []) ⟨hx, hb, hml, hown, hts⟩ (c_X8_isCorner l D cI cC cQ c r ) (va_cwS (rm := rmX8_isCorner) 2 hts gX8_cornerOf_X8_isCorner rfl rfl rfl (by decide +kernel) ⟨Nat.le_of_ble_eq_true rfl, Nat.le_of_ble_eq_true rfl⟩) ⟨PR.blind, PR.go hPc hK⟩ rfl rfl hl.1 rfl (lv_room (Nat.le_of_ble_eq_true rfl)) dX8_cornerOf_2 ⟨Nat.le_of_ble_eq_true rfl, Nat.le_of_ble_eq_true rfl⟩) (fun r_2 h_2 => ?_)
  rcases h_2 with ⟨b_2, rfl⟩ | ⟨b_2, rfl⟩
  · obtain ⟨i, j, hi, hj, rfl, rfl⟩ := isC_nat b_2
    refine gn_if_eq hx hb (by decide) (tgt := 18) dX8_cornerOf_5 (by decide) (fun cq => absurd cq (by decide)) (fun cq => ?_)
    refine lv_iload_n hx hb dX8_cornerOf_8 rfl (lv_at hl 3 rfl) ?_
    refine lv_iconst (v := nI 0) hx hb dX8_cornerOf_9 (by decide) ?_
    refine lv_bipush (v := nI 12) hx hb dX8_cornerOf_10 (by decide) ?_
    have hPc := hP.sub (ws' := []) [] rfl
    refine clR (va_runS (As := [.int w, .int (nI 0), .int (nI 12)]) (rest := []) ⟨hx, hb, hml, hown, hts⟩ (c_X8_in l D cI cC cQ w (nI 0) (nI 12) ) (va_cwS (rm := rmX8_in) 3 hts gX8_cornerOf_X8_in rfl rfl rfl (by decide +kernel) ⟨Nat.le_of_ble_eq_true rfl, Nat.le_of_ble_eq_true rfl⟩) ⟨PR.blind, PR.go hPc hK⟩ rfl rfl hl.1 rfl (lv_room (Nat.le_of_ble_eq_true rfl)) dX8_cornerOf_12 ⟨Nat.le_of_ble_eq_true rfl, Nat.le_of_ble_eq_true rfl⟩) (fun r_12 h_12 => ?_)
    rcases h_12 with ⟨b_12, rfl⟩ | ⟨b_12, rfl⟩
    · obtain ⟨w0, hw0, rfl⟩ := in_nat (M := 12) (by decide) b_12
      refine gn_if_ne hx hb (by decide) (tgt := 22) dX8_cornerOf_15 (by decide) (fun cq => ?_) (fun cq => absurd cq (by decide))
      refine lv_iload_n hx hb dX8_cornerOf_22 rfl (lv_at hl 3 rfl) ?_
      refine lv_bipush (v := nI 6) hx hb dX8_cornerOf_23 (by decide) ?_
      refine gn_icmp_ge hx hb (by omega) (by decide) (tgt := 43) dX8_cornerOf_25 (by decide) (fun c_25 => ?_) (fun c_25 => ?_)
      · refine lv_iload_n hx hb dX8_cornerOf_43 rfl (lv_at hl 3 rfl) ?_
        refine lv_bipush (v := nI 12) hx hb dX8_cornerOf_44 (by decide) ?_
        refine gn_icmp_ne hx hb (by omega) (by decide) (tgt := 58) dX8_cornerOf_46 (by decide) (fun c_46 => ?_) (fun c_46 => ?_)
        · refine lv_aload_n hx hb dX8_cornerOf_58 rfl (lv_at hl 0 rfl) ?_
          refine lv_iload_n hx hb dX8_cornerOf_59 rfl (lv_at hl 1 rfl) ?_
          refine lv_iload_n hx hb dX8_cornerOf_60 rfl (lv_at hl 2 rfl) ?_
          refine lv_iload_n hx hb dX8_cornerOf_61 rfl (lv_at hl 3 rfl) ?_
          refine lv_bipush (v := nI 6) hx hb dX8_cornerOf_62 (by decide) ?_
          refine gn_sub hx hb (by omega) dX8_cornerOf_64 ?_
          refine lv_iconst (v := nI 3) hx hb dX8_cornerOf_65 (by decide) ?_
          refine gn_div hx hb (by omega) (by omega) (by omega) dX8_cornerOf_66 ?_
          refine lv_iload_n hx hb dX8_cornerOf_67 rfl (lv_at hl 3 rfl) ?_
          refine lv_iconst (v := nI 3) hx hb dX8_cornerOf_68 (by decide) ?_
          refine gn_rem hx hb (by omega) (by omega) (by omega) dX8_cornerOf_69 ?_
          rcases (show (w0 - 6) / 3 = 0 ∨ (w0 - 6) / 3 = 1 by omega) with hal | hal
          · rw [hal]
            have hPc := hP.sub (ws' := [(a, .inr (8, [.ref g0, .ref g1, .ref g2, .ref g3, .int ik, .int rn, .int ps, .ref g4, .int ty, .ref g5, .ref g6, .int sp, .int fr, .int re, .int cau, .int co, .int cm, .ref g7])), (g0, .inl (cI, 240, .inl (MA G)))]) [0, 1] rfl
            refine clRe (E := slk G (j * 5 + i) 0 (w0 % 3)) (va_runV (As := [.int (nI i), .int (nI j), .int (nI 0), .int (nI (w0 % 3))]) (rest := []) ⟨hx, hb, hml, hown, hts⟩ (c_X8_slopeOf0 l D cI cC cQ a g0 g1 g2 g3 g4 g5 g6 g7 ik rn ps ty sp fr re cau co cm G i j (w0 % 3) (by first | assumption | omega) (by first | assumption | omega) (by first | assumption | omega) (by first | assumption | omega)) (cwV (rm := rmX8_slopeOf0) 4 hts gX8_cornerOf_X8_slopeOf rfl rfl rfl (by decide +kernel) ⟨Nat.le_of_ble_eq_true rfl, Nat.le_of_ble_eq_true rfl⟩) ⟨PR.blind, va_recv hKa hPc (ci := 8) (q0 := 0) rfl rfl, PR.go hPc hK⟩ rfl rfl hl.1 rfl (lv_room (Nat.le_of_ble_eq_true rfl)) dX8_cornerOf_70 ⟨Nat.le_of_ble_eq_true rfl, Nat.le_of_ble_eq_true rfl⟩) ?_
            have hok : okQ (nI i) (nI j) (nI w0) = true := decide_eq_true (⟨b_2, b_12⟩)
            exact rtR_i hQ hx hb hr hlk dX8_cornerOf_73 (by rw [cz_t hok, cn_nI hi hj, tn_nI (by omega)]; unfold cof; rw [if_neg c_46, if_pos c_25, hal, show w0 % 3 = (w0 - 6) % 3 by omega])
          · rw [hal]
            have hPc := hP.sub (ws' := [(a, .inr (8, [.ref g0, .ref g1, .ref g2, .ref g3, .int ik, .int rn, .int ps, .ref g4, .int ty, .ref g5, .ref g6, .int sp, .int fr, .int re, .int cau, .int co, .int cm, .ref g7])), (g0, .inl (cI, 240, .inl (MA G)))]) [0, 1] rfl
            refine clRe (E := slk G (j * 5 + i) 1 (w0 % 3)) (va_runV (As := [.int (nI i), .int (nI j), .int (nI 1), .int (nI (w0 % 3))]) (rest := []) ⟨hx, hb, hml, hown, hts⟩ (c_X8_slopeOf1 l D cI cC cQ a g0 g1 g2 g3 g4 g5 g6 g7 ik rn ps ty sp fr re cau co cm G i j (w0 % 3) (by first | assumption | omega) (by first | assumption | omega) (by first | assumption | omega) (by first | assumption | omega)) (cwV (rm := rmX8_slopeOf1) 4 hts gX8_cornerOf_X8_slopeOf rfl rfl rfl (by decide +kernel) ⟨Nat.le_of_ble_eq_true rfl, Nat.le_of_ble_eq_true rfl⟩) ⟨PR.blind, va_recv hKa hPc (ci := 8) (q0 := 0) rfl rfl, PR.go hPc hK⟩ rfl rfl hl.1 rfl (lv_room (Nat.le_of_ble_eq_true rfl)) dX8_cornerOf_70 ⟨Nat.le_of_ble_eq_true rfl, Nat.le_of_ble_eq_true rfl⟩) ?_
            have hok : okQ (nI i) (nI j) (nI w0) = true := decide_eq_true (⟨b_2, b_12⟩)
            exact rtR_i hQ hx hb hr hlk dX8_cornerOf_73 (by rw [cz_t hok, cn_nI hi hj, tn_nI (by omega)]; unfold cof; rw [if_neg c_46, if_pos c_25, hal, show w0 % 3 = (w0 - 6) % 3 by omega])
        · refine lv_aload_n hx hb dX8_cornerOf_49 rfl (lv_at hl 0 rfl) ?_
          refine lv_iload_n hx hb dX8_cornerOf_50 rfl (lv_at hl 1 rfl) ?_
          refine lv_iload_n hx hb dX8_cornerOf_51 rfl (lv_at hl 2 rfl) ?_
          have hPc := hP.sub (ws' := [(a, .inr (8, [.ref g0, .ref g1, .ref g2, .ref g3, .int ik, .int rn, .int ps, .ref g4, .int ty, .ref g5, .ref g6, .int sp, .int fr, .int re, .int cau, .int co, .int cm, .ref g7])), (g0, .inl (cI, 240, .inl (MA G)))]) [0, 1] rfl
          refine clRe (E := nI (toldK G (j * 5 + i))) (va_runV (As := [.int (nI i), .int (nI j)]) (rest := []) ⟨hx, hb, hml, hown, hts⟩ (c_X8_told l D cI cC cQ a g0 g1 g2 g3 g4 g5 g6 g7 ik rn ps ty sp fr re cau co cm G i j (by first | assumption | omega) (by first | assumption | omega)) (cwV (rm := rmX8_told) 2 hts gX8_cornerOf_X8_told rfl rfl rfl (by decide +kernel) ⟨Nat.le_of_ble_eq_true rfl, Nat.le_of_ble_eq_true rfl⟩) ⟨PR.blind, va_recv hKa hPc (ci := 8) (q0 := 0) rfl rfl, PR.go hPc hK⟩ rfl rfl hl.1 rfl (lv_room (Nat.le_of_ble_eq_true rfl)) dX8_cornerOf_52 ⟨Nat.le_of_ble_eq_true rfl, Nat.le_of_ble_eq_true rfl⟩) ?_
          have htk_52 : toldK G (j * 5 + i) < 7 := toldK_lt G _
          refine lv_goto (tgt := 73) hx hb dX8_cornerOf_55 (by decide) ?_
          have hok : okQ (nI i) (nI j) (nI w0) = true := decide_eq_true (⟨b_2, b_12⟩)
          exact rtR_i hQ hx hb hr hlk dX8_cornerOf_73 (by rw [cz_t hok, cn_nI hi hj, tn_nI (by omega)]; unfold cof; rw [if_pos c_46])
      · refine lv_aload_n hx hb dX8_cornerOf_28 rfl (lv_at hl 0 rfl) ?_
        refine va_get (D := D) (ci := 8) (v := .ref g0) (C := RX8) (T := TX8) (N := 18) hx hb hts iw_X8_cornerOf_X8 hown hKa hP 0 rfl rfl 0 (by decide) (hts (.fieldLink RX8 7 "ColourPatchesModel" "s" "[I") (by decide +kernel)) (fun _ h9 => h9) rfl dX8_cornerOf_29 ?_
        refine lv_iload_n hx hb dX8_cornerOf_32 rfl (lv_at hl 1 rfl) ?_
        refine lv_iload_n hx hb dX8_cornerOf_33 rfl (lv_at hl 2 rfl) ?_
        have hPc := hP.sub (ws' := []) [] rfl
        refine clRe (E := nI (12 * (5 * j + i))) (va_runS (As := [.int (nI i), .int (nI j)]) (rest := [.ref g0]) ⟨hx, hb, hml, hown, hts⟩ (c_X8_at l D cI cC cQ i j ) (va_cwS (rm := rmX8_at) 2 hts gX8_cornerOf_X8_at rfl rfl rfl (by decide +kernel) ⟨Nat.le_of_ble_eq_true rfl, Nat.le_of_ble_eq_true rfl⟩) ⟨PR.blind, PR.go hPc hK⟩ rfl rfl hl.1 rfl (lv_room (Nat.le_of_ble_eq_true rfl)) dX8_cornerOf_34 ⟨Nat.le_of_ble_eq_true rfl, Nat.le_of_ble_eq_true rfl⟩) ?_
        refine lv_iload_n hx hb dX8_cornerOf_37 rfl (lv_at hl 3 rfl) ?_
        refine gn_add hx hb dX8_cornerOf_38 ?_
        refine gn_iald hx hb hKa hP 1 0 rfl rfl (k := (12 * (5 * j + i)) + w0) (by omega) (by omega) dX8_cornerOf_39 ?_
        rw [show MA G ((12 * (5 * j + i)) + w0) = G (j * 5 + i) w0 from MA_at _ _ _ _ (by omega) (by omega)]
        refine lv_goto (tgt := 73) hx hb dX8_cornerOf_40 (by decide) ?_
        have hok : okQ (nI i) (nI j) (nI w0) = true := decide_eq_true (⟨b_2, b_12⟩)
        exact rtR_i hQ hx hb hr hlk dX8_cornerOf_73 (by rw [cz_t hok, cn_nI hi hj, tn_nI (by omega)]; unfold cof; rw [if_neg (by omega), if_neg (by omega)])
    · refine gn_if_ne hx hb (by decide) (tgt := 22) dX8_cornerOf_15 (by decide) (fun cq => absurd cq (by decide)) (fun cq => ?_)
      refine lv_sipush (v := (-1001)) hx hb dX8_cornerOf_18 (by decide) ?_
      have hok : okQ (nI i) (nI j) w = false := decide_eq_false (fun q => b_12 q.2)
      exact rtR_i hQ hx hb hr hlk dX8_cornerOf_21 ((cz_f hok).symm)
  · refine gn_if_eq hx hb (by decide) (tgt := 18) dX8_cornerOf_5 (by decide) (fun cq => ?_) (fun cq => absurd cq (by decide))
    refine lv_sipush (v := (-1001)) hx hb dX8_cornerOf_18 (by decide) ?_
    have hok : okQ c r w = false := decide_eq_false (fun q => b_2 q.1)
    exact rtR_i hQ hx hb hr hlk dX8_cornerOf_21 ((cz_f hok).symm)
abbrev rmX8_point : Room := { frames := 3, cells := 0, slots := 0, locals := 83 }
set_option maxHeartbeats 4000000 in
set_option maxRecDepth 100000 in
theorem c_X8_point (l : Launch) (D : va_G) (cI cC cQ : ClassId) (a g0 g1 g2 g3 g4 g5 g6 g7 : Nat) (ik rn ps ty sp fr re cau co cm : Int32) (G : Nat → Nat → Int32) (p u2 v w2 : Int32) (hG : OKG G) : Met l yX8_point wsX8_point rmX8_point (PR D cI cC cQ [.ref a, .int p, .int u2, .int v, .int w2] [(a, .inr (8, [.ref g0, .ref g1, .ref g2, .ref g3, .int ik, .int rn, .int ps, .ref g4, .int ty, .ref g5, .ref g6, .int sp, .int fr, .int re, .int cau, .int co, .int cm, .ref g7])), (g0, .inl (cI, 240, .inl (MA G)))]) (vp_Si (fun z => z = cz (okPt p u2 v w2) (ptof G (tn p) (tn u2) (tn v) (tn w2)))) 0 0 (fun _ => False) := by
  refine metR (cc := cX8_point) (maxL := 5) (ret := (some .int)) (by decide) rfl (Nat.le_of_ble_eq_true rfl) ?_
  intro pg ev s mi args below meth cd ls Q hQ hx hb hml hr hts hown hlk hK hP hl
  have hKa := hK.1
  have hl : lv_has ls 5 [(0, .ref a), (1, .int p), (2, .int u2), (3, .int v), (4, .int w2)] := hl
  refine lv_iload_n hx hb dX8_point_0 rfl (lv_at hl 1 rfl) ?_
  have hPc := hP.sub (ws' := []) [] rfl
  refine clR (va_runS (As := [.int p]) (rest := []) ⟨hx, hb, hml, hown, hts⟩ (c_X8_isPatch l D cI cC cQ p ) (va_cwS (rm := rmX8_isPatch) 1 hts gX8_point_X8_isPatch rfl rfl rfl (by decide +kernel) ⟨Nat.le_of_ble_eq_true rfl, Nat.le_of_ble_eq_true rfl⟩) ⟨PR.blind, PR.go hPc hK⟩ rfl rfl hl.1 rfl (lv_room (Nat.le_of_ble_eq_true rfl)) dX8_point_1 ⟨Nat.le_of_ble_eq_true rfl, Nat.le_of_ble_eq_true rfl⟩) (fun r_1 h_1 => ?_)
  rcases h_1 with ⟨b_1, rfl⟩ | ⟨b_1, rfl⟩
  · obtain ⟨p0, hp0, rfl⟩ := in_nat (M := 11) (by decide) b_1
    refine gn_if_eq hx hb (by decide) (tgt := 37) dX8_point_4 (by decide) (fun cq => absurd cq (by decide)) (fun cq => ?_)
    refine lv_iload_n hx hb dX8_point_7 rfl (lv_at hl 2 rfl) ?_
    refine lv_iconst (v := nI 0) hx hb dX8_point_8 (by decide) ?_
    refine lv_bipush (v := nI 8) hx hb dX8_point_9 (by decide) ?_
    have hPc := hP.sub (ws' := []) [] rfl
    refine clR (va_runS (As := [.int u2, .int (nI 0), .int (nI 8)]) (rest := []) ⟨hx, hb, hml, hown, hts⟩ (c_X8_in l D cI cC cQ u2 (nI 0) (nI 8) ) (va_cwS (rm := rmX8_in) 3 hts gX8_point_X8_in rfl rfl rfl (by decide +kernel) ⟨Nat.le_of_ble_eq_true rfl, Nat.le_of_ble_eq_true rfl⟩) ⟨PR.blind, PR.go hPc hK⟩ rfl rfl hl.1 rfl (lv_room (Nat.le_of_ble_eq_true rfl)) dX8_point_11 ⟨Nat.le_of_ble_eq_true rfl, Nat.le_of_ble_eq_true rfl⟩) (fun r_11 h_11 => ?_)
    rcases h_11 with ⟨b_11, rfl⟩ | ⟨b_11, rfl⟩
    · obtain ⟨u0, hu0, rfl⟩ := in_nat (M := 8) (by decide) b_11
      refine gn_if_eq hx hb (by decide) (tgt := 37) dX8_point_14 (by decide) (fun cq => absurd cq (by decide)) (fun cq => ?_)
      refine lv_iload_n hx hb dX8_point_17 rfl (lv_at hl 3 rfl) ?_
      refine lv_iconst (v := nI 0) hx hb dX8_point_18 (by decide) ?_
      refine lv_bipush (v := nI 8) hx hb dX8_point_19 (by decide) ?_
      have hPc := hP.sub (ws' := []) [] rfl
      refine clR (va_runS (As := [.int v, .int (nI 0), .int (nI 8)]) (rest := []) ⟨hx, hb, hml, hown, hts⟩ (c_X8_in l D cI cC cQ v (nI 0) (nI 8) ) (va_cwS (rm := rmX8_in) 3 hts gX8_point_X8_in rfl rfl rfl (by decide +kernel) ⟨Nat.le_of_ble_eq_true rfl, Nat.le_of_ble_eq_true rfl⟩) ⟨PR.blind, PR.go hPc hK⟩ rfl rfl hl.1 rfl (lv_room (Nat.le_of_ble_eq_true rfl)) dX8_point_21 ⟨Nat.le_of_ble_eq_true rfl, Nat.le_of_ble_eq_true rfl⟩) (fun r_21 h_21 => ?_)
      rcases h_21 with ⟨b_21, rfl⟩ | ⟨b_21, rfl⟩
      · obtain ⟨v0, hv0, rfl⟩ := in_nat (M := 8) (by decide) b_21
        refine gn_if_eq hx hb (by decide) (tgt := 37) dX8_point_24 (by decide) (fun cq => absurd cq (by decide)) (fun cq => ?_)
        refine lv_iload hx hb dX8_point_27 (lv_at hl 4 rfl) ?_
        refine lv_iconst (v := nI 0) hx hb dX8_point_29 (by decide) ?_
        refine lv_iconst (v := nI 4) hx hb dX8_point_30 (by decide) ?_
        have hPc := hP.sub (ws' := []) [] rfl
        refine clR (va_runS (As := [.int w2, .int (nI 0), .int (nI 4)]) (rest := []) ⟨hx, hb, hml, hown, hts⟩ (c_X8_in l D cI cC cQ w2 (nI 0) (nI 4) ) (va_cwS (rm := rmX8_in) 3 hts gX8_point_X8_in rfl rfl rfl (by decide +kernel) ⟨Nat.le_of_ble_eq_true rfl, Nat.le_of_ble_eq_true rfl⟩) ⟨PR.blind, PR.go hPc hK⟩ rfl rfl hl.1 rfl (lv_room (Nat.le_of_ble_eq_true rfl)) dX8_point_31 ⟨Nat.le_of_ble_eq_true rfl, Nat.le_of_ble_eq_true rfl⟩) (fun r_31 h_31 => ?_)
        rcases h_31 with ⟨b_31, rfl⟩ | ⟨b_31, rfl⟩
        · obtain ⟨w0, hw0, rfl⟩ := in_nat (M := 4) (by decide) b_31
          refine gn_if_ne hx hb (by decide) (tgt := 41) dX8_point_34 (by decide) (fun cq => ?_) (fun cq => absurd cq (by decide))
          refine lv_iload hx hb dX8_point_41 (lv_at hl 4 rfl) ?_
          refine lv_iconst (v := nI 3) hx hb dX8_point_43 (by decide) ?_
          refine gn_icmp_ge hx hb (by omega) (by decide) (tgt := 59) dX8_point_44 (by decide) (fun c_44 => ?_) (fun c_44 => ?_)
          · refine lv_aload_n hx hb dX8_point_59 rfl (lv_at hl 0 rfl) ?_
            refine lv_iload_n hx hb dX8_point_60 rfl (lv_at hl 1 rfl) ?_
            refine lv_iload_n hx hb dX8_point_61 rfl (lv_at hl 2 rfl) ?_
            refine lv_iload_n hx hb dX8_point_62 rfl (lv_at hl 3 rfl) ?_
            refine lv_iload hx hb dX8_point_63 (lv_at hl 4 rfl) ?_
            refine lv_iconst (v := nI 3) hx hb dX8_point_65 (by decide) ?_
            refine gn_sub hx hb (by omega) dX8_point_66 ?_
            have hPc := hP.sub (ws' := [(a, .inr (8, [.ref g0, .ref g1, .ref g2, .ref g3, .int ik, .int rn, .int ps, .ref g4, .int ty, .ref g5, .ref g6, .int sp, .int fr, .int re, .int cau, .int co, .int cm, .ref g7])), (g0, .inl (cI, 240, .inl (MA G)))]) [0, 1] rfl
            refine clRe (E := plc (fun k => G k (w0 - 3)) p0 u0 v0) (va_runV (As := [.int (nI p0), .int (nI u0), .int (nI v0), .int (nI (w0 - 3))]) (rest := []) ⟨hx, hb, hml, hown, hts⟩ (c_X8_placeOf l D cI cC cQ a g0 g1 g2 g3 g4 g5 g6 g7 ik rn ps ty sp fr re cau co cm G p0 u0 v0 (w0 - 3) (by first | assumption | omega) (by first | assumption | omega) (by first | assumption | omega) (by first | assumption | omega)) (cwV (rm := rmX8_placeOf) 4 hts gX8_point_X8_placeOf rfl rfl rfl (by decide +kernel) ⟨Nat.le_of_ble_eq_true rfl, Nat.le_of_ble_eq_true rfl⟩) ⟨PR.blind, va_recv hKa hPc (ci := 8) (q0 := 0) rfl rfl, PR.go hPc hK⟩ rfl rfl hl.1 rfl (lv_room (Nat.le_of_ble_eq_true rfl)) dX8_point_67 ⟨Nat.le_of_ble_eq_true rfl, Nat.le_of_ble_eq_true rfl⟩) ?_
            have hok : okPt (nI p0) (nI u0) (nI v0) (nI w0) = true := decide_eq_true (⟨⟨⟨b_1, b_11⟩, b_21⟩, b_31⟩)
            exact rtR_i hQ hx hb hr hlk dX8_point_70 (by rw [cz_t hok, tn_nI (by omega), tn_nI (by omega), tn_nI (by omega), tn_nI (by omega)]; unfold ptof; exact pt_pl G p0 u0 v0 w0 (by omega) (by omega))
          · refine lv_aload_n hx hb dX8_point_47 rfl (lv_at hl 0 rfl) ?_
            refine lv_iload_n hx hb dX8_point_48 rfl (lv_at hl 1 rfl) ?_
            refine lv_iload_n hx hb dX8_point_49 rfl (lv_at hl 2 rfl) ?_
            refine lv_iload_n hx hb dX8_point_50 rfl (lv_at hl 3 rfl) ?_
            refine lv_iload hx hb dX8_point_51 (lv_at hl 4 rfl) ?_
            have hPc := hP.sub (ws' := [(a, .inr (8, [.ref g0, .ref g1, .ref g2, .ref g3, .int ik, .int rn, .int ps, .ref g4, .int ty, .ref g5, .ref g6, .int sp, .int fr, .int re, .int cau, .int co, .int cm, .ref g7])), (g0, .inl (cI, 240, .inl (MA G)))]) [0, 1] rfl
            refine clRe (E := colG G p0 u0 v0 w0) (va_runV (As := [.int (nI p0), .int (nI u0), .int (nI v0), .int (nI w0)]) (rest := []) ⟨hx, hb, hml, hown, hts⟩ (c_X8_colour l D cI cC cQ a g0 g1 g2 g3 g4 g5 g6 g7 ik rn ps ty sp fr re cau co cm G p0 u0 v0 w0 (by first | assumption | omega) (by first | assumption | omega) (by first | assumption | omega) (by first | assumption | omega) (by first | assumption | omega)) (cwV (rm := rmX8_colour) 4 hts gX8_point_X8_colour rfl rfl rfl (by decide +kernel) ⟨Nat.le_of_ble_eq_true rfl, Nat.le_of_ble_eq_true rfl⟩) ⟨PR.blind, va_recv hKa hPc (ci := 8) (q0 := 0) rfl rfl, PR.go hPc hK⟩ rfl rfl hl.1 rfl (lv_room (Nat.le_of_ble_eq_true rfl)) dX8_point_53 ⟨Nat.le_of_ble_eq_true rfl, Nat.le_of_ble_eq_true rfl⟩) ?_
            refine lv_goto (tgt := 70) hx hb dX8_point_56 (by decide) ?_
            have hok : okPt (nI p0) (nI u0) (nI v0) (nI w0) = true := decide_eq_true (⟨⟨⟨b_1, b_11⟩, b_21⟩, b_31⟩)
            exact rtR_i hQ hx hb hr hlk dX8_point_70 (by rw [cz_t hok, tn_nI (by omega), tn_nI (by omega), tn_nI (by omega), tn_nI (by omega)]; unfold ptof; rw [if_neg (by omega), if_neg (by omega)])
        · refine gn_if_ne hx hb (by decide) (tgt := 41) dX8_point_34 (by decide) (fun cq => absurd cq (by decide)) (fun cq => ?_)
          refine lv_sipush (v := (-1001)) hx hb dX8_point_37 (by decide) ?_
          have hok : okPt (nI p0) (nI u0) (nI v0) w2 = false := decide_eq_false (fun q => b_31 q.2)
          exact rtR_i hQ hx hb hr hlk dX8_point_40 ((cz_f hok).symm)
      · refine gn_if_eq hx hb (by decide) (tgt := 37) dX8_point_24 (by decide) (fun cq => ?_) (fun cq => absurd cq (by decide))
        refine lv_sipush (v := (-1001)) hx hb dX8_point_37 (by decide) ?_
        have hok : okPt (nI p0) (nI u0) v w2 = false := decide_eq_false (fun q => b_21 q.1.2)
        exact rtR_i hQ hx hb hr hlk dX8_point_40 ((cz_f hok).symm)
    · refine gn_if_eq hx hb (by decide) (tgt := 37) dX8_point_14 (by decide) (fun cq => ?_) (fun cq => absurd cq (by decide))
      refine lv_sipush (v := (-1001)) hx hb dX8_point_37 (by decide) ?_
      have hok : okPt (nI p0) u2 v w2 = false := decide_eq_false (fun q => b_11 q.1.1.2)
      exact rtR_i hQ hx hb hr hlk dX8_point_40 ((cz_f hok).symm)
  · refine gn_if_eq hx hb (by decide) (tgt := 37) dX8_point_4 (by decide) (fun cq => ?_) (fun cq => absurd cq (by decide))
    refine lv_sipush (v := (-1001)) hx hb dX8_point_37 (by decide) ?_
    have hok : okPt p u2 v w2 = false := decide_eq_false (fun q => b_1 q.1.1.1)
    exact rtR_i hQ hx hb hr hlk dX8_point_40 ((cz_f hok).symm)
abbrev rmX8_looks : Room := { frames := 3, cells := 0, slots := 0, locals := 83 }
set_option maxRecDepth 20000 in
theorem iw_X8_looks_X8 : ∀ w ∈ u_ws RX8 TX8 18, w ∈ wsX8_looks := by decide +kernel
set_option maxHeartbeats 4000000 in
set_option maxRecDepth 100000 in
theorem c_X8_looks (l : Launch) (D : va_G) (cI cC cQ : ClassId) (a g0 g1 g2 g3 g4 g5 g6 g7 : Nat) (ik rn ps ty sp fr re cau co cm : Int32) (G : Nat → Nat → Int32) (f : Nat → Int32) (p : Nat) (sz : Nat) (hG : OKG G) (hp : p < 12) : Met l yX8_looks wsX8_looks rmX8_looks (PW D cI cC cQ [.ref a, .int (nI p)] [(a, .inr (8, [.ref g0, .ref g1, .ref g2, .ref g3, .int ik, .int rn, .int ps, .ref g4, .int ty, .ref g5, .ref g6, .int sp, .int fr, .int re, .int cau, .int co, .int cm, .ref g7])), (g0, .inl (cI, 240, .inl (MA G))), (g6, .inl (cI, 81, .inl f))] sz) (va_Qv (fun (u : Unit) => True) (fun (u : Unit) t9 => va_P D vwCl [(a, .inr (8, [.ref g0, .ref g1, .ref g2, .ref g3, .int ik, .int rn, .int ps, .ref g4, .int ty, .ref g5, .ref g6, .int sp, .int fr, .int re, .int cau, .int co, .int cm, .ref g7])), (g0, .inl (cI, 240, .inl (MA G))), (g6, .inl (cI, 81, .inl (lkF G p)))] t9.heap) (va_A [(a, .inr (8, [.ref g0, .ref g1, .ref g2, .ref g3, .int ik, .int rn, .int ps, .ref g4, .int ty, .ref g5, .ref g6, .int sp, .int fr, .int re, .int cau, .int co, .int cm, .ref g7])), (g0, .inl (cI, 240, .inl (MA G))), (g6, .inl (cI, 81, .inl f))] sz)) 0 0 (va_A [(a, .inr (8, [.ref g0, .ref g1, .ref g2, .ref g3, .int ik, .int rn, .int ps, .ref g4, .int ty, .ref g5, .ref g6, .int sp, .int fr, .int re, .int cau, .int co, .int cm, .ref g7])), (g0, .inl (cI, 240, .inl (MA G))), (g6, .inl (cI, 81, .inl f))] sz) := by
  refine metW (y := yX8_looks) (ws := wsX8_looks) (rm := rmX8_looks) (D := D) (cI := cI) (cC := cC) (cQ := cQ) (av := [.ref a, .int (nI p)]) (wd := [(a, .inr (8, [.ref g0, .ref g1, .ref g2, .ref g3, .int ik, .int rn, .int ps, .ref g4, .int ty, .ref g5, .ref g6, .int sp, .int fr, .int re, .int cau, .int co, .int cm, .ref g7])), (g0, .inl (cI, 240, .inl (MA G))), (g6, .inl (cI, 81, .inl f))]) (sz := sz) (Qf := fun A => va_Qv (fun (u : Unit) => True) (fun (u : Unit) t9 => va_P D vwCl [(a, .inr (8, [.ref g0, .ref g1, .ref g2, .ref g3, .int ik, .int rn, .int ps, .ref g4, .int ty, .ref g5, .ref g6, .int sp, .int fr, .int re, .int cau, .int co, .int cm, .ref g7])), (g0, .inl (cI, 240, .inl (MA G))), (g6, .inl (cI, 81, .inl (lkF G p)))] t9.heap) A) (cc := cX8_looks) (maxL := 3) (ret := none) (by decide) rfl (Nat.le_of_ble_eq_true rfl) ?_
  intro pg ev s mi args below meth cd ls A Q hQ hx hb hml hr hts hown hlk hnm hK hP hD hS hA hl
  have hKa := hK.1
  have hl : lv_has ls 3 [(0, .ref a), (1, .int (nI p))] := hl
  refine lv_iconst (v := nI 0) hx hb dX8_looks_0 (by decide) ?_
  refine lv_istore_n (lv' := [(2, .int (nI 0)), (0, .ref a), (1, .int (nI p))]) hx hb dX8_looks_1 rfl hl (by decide) rfl (fun ls hl => ?_)
  have L2 : ∀ (nn : Nat) (k : Nat) (hk : k ≤ 81) (_ : 81 - k < nn) (H : Heap) (locs : List Loc) (hP : va_P D vwCl [(a, .inr (8, [.ref g0, .ref g1, .ref g2, .ref g3, .int ik, .int rn, .int ps, .ref g4, .int ty, .ref g5, .ref g6, .int sp, .int fr, .int re, .int cau, .int co, .int cm, .ref g7])), (g0, .inl (cI, 240, .inl (MA G))), (g6, .inl (cI, 81, .inl (mixF (lkF G p) f k)))] H) (hD : va_D A [(a, .inr (8, [.ref g0, .ref g1, .ref g2, .ref g3, .int ik, .int rn, .int ps, .ref g4, .int ty, .ref g5, .ref g6, .int sp, .int fr, .int re, .int cau, .int co, .int cm, .ref g7])), (g0, .inl (cI, 240, .inl (MA G))), (g6, .inl (cI, 81, .inl (mixF (lkF G p) f k)))]) (hS : va_S A s.heap H locs) (ls : Array Slot) (_ : lv_has ls 3 [(2, .int (nI k)), (0, .ref a), (1, .int (nI p))]), W pg l ev (headSpec wsX8_looks rmX8_looks).room s mi args below meth cd H locs 0 0 Q (F0 mi 2 ls []) := by
    intro nn
    induction nn with
    | zero =>
      intro k hk hmeas
      exact absurd hmeas (Nat.not_lt_zero _)
    | succ nn ih2 =>
      intro k hk hmeas H locs hP hD hS ls hl
      refine lv_iload_n hx hb dX8_looks_2 rfl (lv_at hl 0 rfl) ?_
      refine lv_bipush (v := nI 81) hx hb dX8_looks_3 (by decide) ?_
      refine gn_icmp_ge hx hb (by omega) (by decide) (tgt := 71) dX8_looks_5 (by decide) (fun c_5 => ?_) (fun c_5 => ?_)
      · have hP : va_P D vwCl [(a, .inr (8, [.ref g0, .ref g1, .ref g2, .ref g3, .int ik, .int rn, .int ps, .ref g4, .int ty, .ref g5, .ref g6, .int sp, .int fr, .int re, .int cau, .int co, .int cm, .ref g7])), (g0, .inl (cI, 240, .inl (MA G))), (g6, .inl (cI, 81, .inl (lkF G p)))] H := (hP.fn 2 rfl (g := lkF G p) (fun q hq => by rw [show k = 81 by omega]; exact mixF_n _ _ hq) rfl)
        have hD : va_D A [(a, .inr (8, [.ref g0, .ref g1, .ref g2, .ref g3, .int ik, .int rn, .int ps, .ref g4, .int ty, .ref g5, .ref g6, .int sp, .int fr, .int re, .int cau, .int co, .int cm, .ref g7])), (g0, .inl (cI, 240, .inl (MA G))), (g6, .inl (cI, 81, .inl (lkF G p)))] := hD.addr rfl
        exact rtW_v () hQ hx hb hr hlk hS hP dX8_looks_71 (trivial)
      · refine lv_aload_n hx hb dX8_looks_8 rfl (lv_at hl 1 rfl) ?_
        refine va_get (D := D) (ci := 8) (v := .ref g6) (C := RX8) (T := TX8) (N := 18) hx hb hts iw_X8_looks_X8 hown hKa hP 0 rfl rfl 10 (by decide) (hts (.fieldLink RX8 28 "ColourPatchesModel" "seen" "[I") (by decide +kernel)) (fun _ h9 => h9) rfl dX8_looks_9 ?_
        refine lv_iload_n hx hb dX8_looks_12 rfl (lv_at hl 0 rfl) ?_
        refine lv_ldc (v := nI 65536) hx hb hown (hts (.constant RX8 104 (nI 65536)) (by decide +kernel)) dX8_looks_13 ?_
        refine lv_aload_n hx hb dX8_looks_15 rfl (lv_at hl 1 rfl) ?_
        refine lv_iload_n hx hb dX8_looks_16 rfl (lv_at hl 2 rfl) ?_
        refine lv_iload_n hx hb dX8_looks_17 rfl (lv_at hl 0 rfl) ?_
        refine lv_bipush (v := nI 9) hx hb dX8_looks_18 (by decide) ?_
        refine gn_rem hx hb (by omega) (by omega) (by omega) dX8_looks_20 ?_
        refine lv_iload_n hx hb dX8_looks_21 rfl (lv_at hl 0 rfl) ?_
        refine lv_bipush (v := nI 9) hx hb dX8_looks_22 (by decide) ?_
        refine gn_div hx hb (by omega) (by omega) (by omega) dX8_looks_24 ?_
        refine lv_iconst (v := nI 0) hx hb dX8_looks_25 (by decide) ?_
        have hPc := hP.sub (ws' := [(a, .inr (8, [.ref g0, .ref g1, .ref g2, .ref g3, .int ik, .int rn, .int ps, .ref g4, .int ty, .ref g5, .ref g6, .int sp, .int fr, .int re, .int cau, .int co, .int cm, .ref g7])), (g0, .inl (cI, 240, .inl (MA G)))]) [0, 1] rfl
        refine clRe (E := colG G p (k % 9) (k / 9) 0) (va_runV (As := [.int (nI p), .int (nI (k % 9)), .int (nI (k / 9)), .int (nI 0)]) (rest := [.int (nI 65536), .int (nI k), .ref g6]) ⟨hx, hb, hml, hown, hts⟩ (c_X8_colour l D cI cC cQ a g0 g1 g2 g3 g4 g5 g6 g7 ik rn ps ty sp fr re cau co cm G p (k % 9) (k / 9) 0 (by first | assumption | omega) (by first | assumption | omega) (by first | assumption | omega) (by first | assumption | omega) (by first | assumption | omega)) (cwV (rm := rmX8_colour) 4 hts gX8_looks_X8_colour rfl rfl rfl (by decide +kernel) ⟨Nat.le_of_ble_eq_true rfl, Nat.le_of_ble_eq_true rfl⟩) ⟨PR.blind, va_recv hKa hPc (ci := 8) (q0 := 0) rfl rfl, PR.go hPc hK⟩ rfl rfl hl.1 rfl (lv_room (Nat.le_of_ble_eq_true rfl)) dX8_looks_26 ⟨Nat.le_of_ble_eq_true rfl, Nat.le_of_ble_eq_true rfl⟩) ?_
        refine lv_imul hx hb dX8_looks_29 ?_
        refine lv_sipush (v := nI 256) hx hb dX8_looks_30 (by decide) ?_
        refine lv_aload_n hx hb dX8_looks_33 rfl (lv_at hl 1 rfl) ?_
        refine lv_iload_n hx hb dX8_looks_34 rfl (lv_at hl 2 rfl) ?_
        refine lv_iload_n hx hb dX8_looks_35 rfl (lv_at hl 0 rfl) ?_
        refine lv_bipush (v := nI 9) hx hb dX8_looks_36 (by decide) ?_
        refine gn_rem hx hb (by omega) (by omega) (by omega) dX8_looks_38 ?_
        refine lv_iload_n hx hb dX8_looks_39 rfl (lv_at hl 0 rfl) ?_
        refine lv_bipush (v := nI 9) hx hb dX8_looks_40 (by decide) ?_
        refine gn_div hx hb (by omega) (by omega) (by omega) dX8_looks_42 ?_
        refine lv_iconst (v := nI 1) hx hb dX8_looks_43 (by decide) ?_
        have hPc := hP.sub (ws' := [(a, .inr (8, [.ref g0, .ref g1, .ref g2, .ref g3, .int ik, .int rn, .int ps, .ref g4, .int ty, .ref g5, .ref g6, .int sp, .int fr, .int re, .int cau, .int co, .int cm, .ref g7])), (g0, .inl (cI, 240, .inl (MA G)))]) [0, 1] rfl
        refine clRe (E := colG G p (k % 9) (k / 9) 1) (va_runV (As := [.int (nI p), .int (nI (k % 9)), .int (nI (k / 9)), .int (nI 1)]) (rest := [.int (nI 256), .int ((nI 65536) * (colG G p (k % 9) (k / 9) 0)), .int (nI k), .ref g6]) ⟨hx, hb, hml, hown, hts⟩ (c_X8_colour l D cI cC cQ a g0 g1 g2 g3 g4 g5 g6 g7 ik rn ps ty sp fr re cau co cm G p (k % 9) (k / 9) 1 (by first | assumption | omega) (by first | assumption | omega) (by first | assumption | omega) (by first | assumption | omega) (by first | assumption | omega)) (cwV (rm := rmX8_colour) 4 hts gX8_looks_X8_colour rfl rfl rfl (by decide +kernel) ⟨Nat.le_of_ble_eq_true rfl, Nat.le_of_ble_eq_true rfl⟩) ⟨PR.blind, va_recv hKa hPc (ci := 8) (q0 := 0) rfl rfl, PR.go hPc hK⟩ rfl rfl hl.1 rfl (lv_room (Nat.le_of_ble_eq_true rfl)) dX8_looks_44 ⟨Nat.le_of_ble_eq_true rfl, Nat.le_of_ble_eq_true rfl⟩) ?_
        refine lv_imul hx hb dX8_looks_47 ?_
        refine lv_iadd hx hb dX8_looks_48 ?_
        refine lv_aload_n hx hb dX8_looks_49 rfl (lv_at hl 1 rfl) ?_
        refine lv_iload_n hx hb dX8_looks_50 rfl (lv_at hl 2 rfl) ?_
        refine lv_iload_n hx hb dX8_looks_51 rfl (lv_at hl 0 rfl) ?_
        refine lv_bipush (v := nI 9) hx hb dX8_looks_52 (by decide) ?_
        refine gn_rem hx hb (by omega) (by omega) (by omega) dX8_looks_54 ?_
        refine lv_iload_n hx hb dX8_looks_55 rfl (lv_at hl 0 rfl) ?_
        refine lv_bipush (v := nI 9) hx hb dX8_looks_56 (by decide) ?_
        refine gn_div hx hb (by omega) (by omega) (by omega) dX8_looks_58 ?_
        refine lv_iconst (v := nI 2) hx hb dX8_looks_59 (by decide) ?_
        have hPc := hP.sub (ws' := [(a, .inr (8, [.ref g0, .ref g1, .ref g2, .ref g3, .int ik, .int rn, .int ps, .ref g4, .int ty, .ref g5, .ref g6, .int sp, .int fr, .int re, .int cau, .int co, .int cm, .ref g7])), (g0, .inl (cI, 240, .inl (MA G)))]) [0, 1] rfl
        refine clRe (E := colG G p (k % 9) (k / 9) 2) (va_runV (As := [.int (nI p), .int (nI (k % 9)), .int (nI (k / 9)), .int (nI 2)]) (rest := [.int (((nI 65536) * (colG G p (k % 9) (k / 9) 0)) + ((nI 256) * (colG G p (k % 9) (k / 9) 1))), .int (nI k), .ref g6]) ⟨hx, hb, hml, hown, hts⟩ (c_X8_colour l D cI cC cQ a g0 g1 g2 g3 g4 g5 g6 g7 ik rn ps ty sp fr re cau co cm G p (k % 9) (k / 9) 2 (by first | assumption | omega) (by first | assumption | omega) (by first | assumption | omega) (by first | assumption | omega) (by first | assumption | omega)) (cwV (rm := rmX8_colour) 4 hts gX8_looks_X8_colour rfl rfl rfl (by decide +kernel) ⟨Nat.le_of_ble_eq_true rfl, Nat.le_of_ble_eq_true rfl⟩) ⟨PR.blind, va_recv hKa hPc (ci := 8) (q0 := 0) rfl rfl, PR.go hPc hK⟩ rfl rfl hl.1 rfl (lv_room (Nat.le_of_ble_eq_true rfl)) dX8_looks_60 ⟨Nat.le_of_ble_eq_true rfl, Nat.le_of_ble_eq_true rfl⟩) ?_
        refine lv_iadd hx hb dX8_looks_63 ?_
        refine gn_iast (ws' := [(a, .inr (8, [.ref g0, .ref g1, .ref g2, .ref g3, .int ik, .int rn, .int ps, .ref g4, .int ty, .ref g5, .ref g6, .int sp, .int fr, .int re, .int cau, .int co, .int cm, .ref g7])), (g0, .inl (cI, 240, .inl (MA G))), (g6, .inl (cI, 81, .inl (upd (mixF (lkF G p) f k) k ((((nI 65536) * (colG G p (k % 9) (k / 9) 0)) + ((nI 256) * (colG G p (k % 9) (k / 9) 1))) + (colG G p (k % 9) (k / 9) 2)))))]) hx hb hKa hP hD hS 2 0 rfl rfl (k := k) (by omega) (by omega) dX8_looks_64 rfl (fun H locs hP hD hS => ?_)
        refine gn_iinc (lv' := [(2, .int (nI (k + 1))), (0, .ref a), (1, .int (nI p))]) hx hb dX8_looks_65 hl (k := 0) rfl (by decide) rfl (fun ls hl => ?_)
        refine lv_goto (tgt := 2) hx hb dX8_looks_68 (by decide) ?_
        have hP : va_P D vwCl [(a, .inr (8, [.ref g0, .ref g1, .ref g2, .ref g3, .int ik, .int rn, .int ps, .ref g4, .int ty, .ref g5, .ref g6, .int sp, .int fr, .int re, .int cau, .int co, .int cm, .ref g7])), (g0, .inl (cI, 240, .inl (MA G))), (g6, .inl (cI, 81, .inl (mixF (lkF G p) f (k + 1))))] H := (hP.fn 2 rfl (g := mixF (lkF G p) f (k + 1)) (fun q _ => mixF_s _ _ k rfl q) rfl)
        have hD : va_D A [(a, .inr (8, [.ref g0, .ref g1, .ref g2, .ref g3, .int ik, .int rn, .int ps, .ref g4, .int ty, .ref g5, .ref g6, .int sp, .int fr, .int re, .int cau, .int co, .int cm, .ref g7])), (g0, .inl (cI, 240, .inl (MA G))), (g6, .inl (cI, 81, .inl (mixF (lkF G p) f (k + 1))))] := hD.addr rfl
        exact ih2 (k + 1) (show (k + 1) ≤ 81 from by first | omega | assumption | rfl) (by first | omega | assumption) H locs hP hD hS _ (lv_sub hl [0, 1, 2] rfl)
  have hP : va_P D vwCl [(a, .inr (8, [.ref g0, .ref g1, .ref g2, .ref g3, .int ik, .int rn, .int ps, .ref g4, .int ty, .ref g5, .ref g6, .int sp, .int fr, .int re, .int cau, .int co, .int cm, .ref g7])), (g0, .inl (cI, 240, .inl (MA G))), (g6, .inl (cI, 81, .inl (mixF (lkF G p) f 0)))] s.heap := (hP.fn 2 rfl (g := mixF (lkF G p) f 0) (fun q _ => mixF_0 _ _ q) rfl)
  have hD : va_D A [(a, .inr (8, [.ref g0, .ref g1, .ref g2, .ref g3, .int ik, .int rn, .int ps, .ref g4, .int ty, .ref g5, .ref g6, .int sp, .int fr, .int re, .int cau, .int co, .int cm, .ref g7])), (g0, .inl (cI, 240, .inl (MA G))), (g6, .inl (cI, 81, .inl (mixF (lkF G p) f 0)))] := hD.addr rfl
  exact L2 ((81 - 0) + 1) 0 (show 0 ≤ 81 from by first | omega | assumption | rfl) (Nat.lt_succ_self _) s.heap [] hP hD hS _ (lv_sub hl [0, 1, 2] rfl)
abbrev rmX8_unlike : Room := { frames := 0, cells := 0, slots := 0, locals := 0 }
set_option maxRecDepth 20000 in
theorem iw_X8_unlike_X8 : ∀ w ∈ u_ws RX8 TX8 18, w ∈ wsX8_unlike := by decide +kernel
set_option maxHeartbeats 4000000 in
set_option maxRecDepth 100000 in
theorem c_X8_unlike (l : Launch) (D : va_G) (cI cC cQ : ClassId) (a g0 g1 g2 g3 g4 g5 g6 g7 : Nat) (ik rn ps ty sp fr re cau co cm : Int32) (f : Nat → Int32) (n : Nat) (hn : n ≤ 81) : Met l yX8_unlike wsX8_unlike rmX8_unlike (PR D cI cC cQ [.ref a, .int (nI n)] [(a, .inr (8, [.ref g0, .ref g1, .ref g2, .ref g3, .int ik, .int rn, .int ps, .ref g4, .int ty, .ref g5, .ref g6, .int sp, .int fr, .int re, .int cau, .int co, .int cm, .ref g7])), (g6, .inl (cI, 81, .inl f))]) (vp_Si (fun z => z = nI (sumN (nwN f) n))) 0 0 (fun _ => False) := by
  refine metR (cc := cX8_unlike) (maxL := 6) (ret := (some .int)) (by decide) rfl (Nat.le_of_ble_eq_true rfl) ?_
  intro pg ev s mi args below meth cd ls Q hQ hx hb hml hr hts hown hlk hK hP hl
  have hKa := hK.1
  have hl : lv_has ls 6 [(0, .ref a), (1, .int (nI n))] := hl
  refine lv_iconst (v := nI 0) hx hb dX8_unlike_0 (by decide) ?_
  refine lv_istore_n (lv' := [(2, .int (nI 0)), (0, .ref a), (1, .int (nI n))]) hx hb dX8_unlike_1 rfl hl (by decide) rfl (fun ls hl => ?_)
  refine lv_iconst (v := nI 0) hx hb dX8_unlike_2 (by decide) ?_
  refine lv_istore_n (lv' := [(3, .int (nI 0)), (2, .int (nI 0)), (0, .ref a), (1, .int (nI n))]) hx hb dX8_unlike_3 rfl hl (by decide) rfl (fun ls hl => ?_)
  have L4 : ∀ (nn : Nat) (k : Nat) (u : Nat) (hk : k ≤ n) (hu : u = sumN (nwN f) k) (_ : n - k < nn) (ls : Array Slot) (_ : lv_has ls 6 [(2, .int (nI u)), (3, .int (nI k)), (0, .ref a), (1, .int (nI n))]), W pg l ev (headSpec wsX8_unlike rmX8_unlike).room s mi args below meth cd s.heap [] 0 0 Q (F0 mi 4 ls []) := by
    intro nn
    induction nn with
    | zero =>
      intro k u hk hu hmeas
      exact absurd hmeas (Nat.not_lt_zero _)
    | succ nn ih4 =>
      intro k u hk hu hmeas  ls hl
      refine lv_iload_n hx hb dX8_unlike_4 rfl (lv_at hl 1 rfl) ?_
      refine lv_iload_n hx hb dX8_unlike_5 rfl (lv_at hl 3 rfl) ?_
      refine gn_icmp_ge hx hb (by omega) (by omega) (tgt := 74) dX8_unlike_6 (by decide) (fun c_6 => ?_) (fun c_6 => ?_)
      · refine lv_iload_n hx hb dX8_unlike_74 rfl (lv_at hl 0 rfl) ?_
        exact rtR_i hQ hx hb hr hlk dX8_unlike_75 (by rw [hu, show k = n by omega])
      · refine lv_iconst (v := nI 1) hx hb dX8_unlike_9 (by decide) ?_
        refine lv_istore (lv' := [(4, .int (nI 1)), (2, .int (nI u)), (3, .int (nI k)), (0, .ref a), (1, .int (nI n))]) hx hb dX8_unlike_10 hl (by decide) rfl (fun ls hl => ?_)
        refine lv_iconst (v := nI 0) hx hb dX8_unlike_12 (by decide) ?_
        refine lv_istore (lv' := [(5, .int (nI 0)), (4, .int (nI 1)), (2, .int (nI u)), (3, .int (nI k)), (0, .ref a), (1, .int (nI n))]) hx hb dX8_unlike_13 hl (by decide) rfl (fun ls hl => ?_)
        have L15 : ∀ (nn : Nat) (i : Nat) (x : Int32) (hi : i ≤ k) (hxr : BB (∀ j, j < i → f j ≠ f k) x) (_ : k - i < nn) (ls : Array Slot) (_ : lv_has ls 6 [(4, .int x), (5, .int (nI i)), (2, .int (nI u)), (3, .int (nI k)), (0, .ref a), (1, .int (nI n))]), W pg l ev (headSpec wsX8_unlike rmX8_unlike).room s mi args below meth cd s.heap [] 0 0 Q (F0 mi 15 ls []) := by
          intro nn
          induction nn with
          | zero =>
            intro i x hi hxr hmeas
            exact absurd hmeas (Nat.not_lt_zero _)
          | succ nn ih15 =>
            intro i x hi hxr hmeas  ls hl
            refine lv_iload hx hb dX8_unlike_15 (lv_at hl 1 rfl) ?_
            refine lv_iload_n hx hb dX8_unlike_17 rfl (lv_at hl 3 rfl) ?_
            refine gn_icmp_ge hx hb (by omega) (by omega) (tgt := 55) dX8_unlike_18 (by decide) (fun c_18 => ?_) (fun c_18 => ?_)
            · refine lv_iload_n hx hb dX8_unlike_55 rfl (lv_at hl 2 rfl) ?_
              refine lv_iload hx hb dX8_unlike_56 (lv_at hl 0 rfl) ?_
              refine lv_if_eq hx hb (tgt := 65) dX8_unlike_58 (by decide) (fun c_58 => ?_) (fun c_58 => ?_)
              · refine lv_iconst (v := nI 0) hx hb dX8_unlike_65 (by decide) ?_
                refine gn_add hx hb dX8_unlike_66 ?_
                refine lv_istore_n (lv' := [(2, .int (nI (u + 0))), (4, .int x), (5, .int (nI i)), (3, .int (nI k)), (0, .ref a), (1, .int (nI n))]) hx hb dX8_unlike_67 rfl hl (by decide) rfl (fun ls hl => ?_)
                refine gn_iinc (lv' := [(3, .int (nI (k + 1))), (2, .int (nI (u + 0))), (4, .int x), (5, .int (nI i)), (0, .ref a), (1, .int (nI n))]) hx hb dX8_unlike_68 hl (k := 3) rfl (by decide) rfl (fun ls hl => ?_)
                refine lv_goto (tgt := 4) hx hb dX8_unlike_71 (by decide) ?_
                exact ih4 (k + 1) (u + 0) (show (k + 1) ≤ n from by first | omega | assumption | rfl) (show (u + 0) = sumN (nwN f) (k + 1) from by rw [hu]; show _ = _ + nwN f k; rw [un_n hxr (by omega) c_58]) (by first | omega | assumption) _ (lv_sub hl [1, 0, 4, 5] rfl)
              · refine lv_iconst (v := nI 1) hx hb dX8_unlike_61 (by decide) ?_
                refine lv_goto (tgt := 66) hx hb dX8_unlike_62 (by decide) ?_
                refine gn_add hx hb dX8_unlike_66 ?_
                refine lv_istore_n (lv' := [(2, .int (nI (u + 1))), (4, .int x), (5, .int (nI i)), (3, .int (nI k)), (0, .ref a), (1, .int (nI n))]) hx hb dX8_unlike_67 rfl hl (by decide) rfl (fun ls hl => ?_)
                refine gn_iinc (lv' := [(3, .int (nI (k + 1))), (2, .int (nI (u + 1))), (4, .int x), (5, .int (nI i)), (0, .ref a), (1, .int (nI n))]) hx hb dX8_unlike_68 hl (k := 3) rfl (by decide) rfl (fun ls hl => ?_)
                refine lv_goto (tgt := 4) hx hb dX8_unlike_71 (by decide) ?_
                exact ih4 (k + 1) (u + 1) (show (k + 1) ≤ n from by first | omega | assumption | rfl) (show (u + 1) = sumN (nwN f) (k + 1) from by rw [hu]; show _ = _ + nwN f k; rw [un_y hxr (by omega) c_58]) (by first | omega | assumption) _ (lv_sub hl [1, 0, 4, 5] rfl)
            · refine lv_iload hx hb dX8_unlike_21 (lv_at hl 0 rfl) ?_
              refine lv_if_eq hx hb (tgt := 55) dX8_unlike_23 (by decide) (fun c_23 => ?_) (fun c_23 => ?_)
              · refine lv_iload_n hx hb dX8_unlike_55 rfl (lv_at hl 2 rfl) ?_
                refine lv_iload hx hb dX8_unlike_56 (lv_at hl 0 rfl) ?_
                refine lv_if_eq hx hb (tgt := 65) dX8_unlike_58 (by decide) (fun c_58 => ?_) (fun c_58 => ?_)
                · refine lv_iconst (v := nI 0) hx hb dX8_unlike_65 (by decide) ?_
                  refine gn_add hx hb dX8_unlike_66 ?_
                  refine lv_istore_n (lv' := [(2, .int (nI (u + 0))), (4, .int x), (5, .int (nI i)), (3, .int (nI k)), (0, .ref a), (1, .int (nI n))]) hx hb dX8_unlike_67 rfl hl (by decide) rfl (fun ls hl => ?_)
                  refine gn_iinc (lv' := [(3, .int (nI (k + 1))), (2, .int (nI (u + 0))), (4, .int x), (5, .int (nI i)), (0, .ref a), (1, .int (nI n))]) hx hb dX8_unlike_68 hl (k := 3) rfl (by decide) rfl (fun ls hl => ?_)
                  refine lv_goto (tgt := 4) hx hb dX8_unlike_71 (by decide) ?_
                  exact ih4 (k + 1) (u + 0) (show (k + 1) ≤ n from by first | omega | assumption | rfl) (show (u + 0) = sumN (nwN f) (k + 1) from by rw [hu]; show _ = _ + nwN f k; rw [un_n hxr (by omega) c_23]) (by first | omega | assumption) _ (lv_sub hl [1, 0, 4, 5] rfl)
                · exact absurd c_23 c_58
              · refine lv_aload_n hx hb dX8_unlike_26 rfl (lv_at hl 4 rfl) ?_
                refine va_get (D := D) (ci := 8) (v := .ref g6) (C := RX8) (T := TX8) (N := 18) hx hb hts iw_X8_unlike_X8 hown hKa hP 0 rfl rfl 10 (by decide) (hts (.fieldLink RX8 28 "ColourPatchesModel" "seen" "[I") (by decide +kernel)) (fun _ h9 => h9) rfl dX8_unlike_27 ?_
                refine lv_iload hx hb dX8_unlike_30 (lv_at hl 1 rfl) ?_
                refine gn_iald hx hb hKa hP 1 0 rfl rfl (k := i) (by omega) (by omega) dX8_unlike_32 ?_
                refine lv_aload_n hx hb dX8_unlike_33 rfl (lv_at hl 4 rfl) ?_
                refine va_get (D := D) (ci := 8) (v := .ref g6) (C := RX8) (T := TX8) (N := 18) hx hb hts iw_X8_unlike_X8 hown hKa hP 0 rfl rfl 10 (by decide) (hts (.fieldLink RX8 28 "ColourPatchesModel" "seen" "[I") (by decide +kernel)) (fun _ h9 => h9) rfl dX8_unlike_34 ?_
                refine lv_iload_n hx hb dX8_unlike_37 rfl (lv_at hl 3 rfl) ?_
                refine gn_iald hx hb hKa hP 1 0 rfl rfl (k := k) (by omega) (by omega) dX8_unlike_38 ?_
                refine lv_icmp_eq hx hb (tgt := 46) dX8_unlike_39 (by decide) (fun c_39 => ?_) (fun c_39 => ?_)
                · refine lv_iconst (v := nI 0) hx hb dX8_unlike_46 (by decide) ?_
                  refine lv_istore (lv' := [(4, .int (nI 0)), (5, .int (nI i)), (2, .int (nI u)), (3, .int (nI k)), (0, .ref a), (1, .int (nI n))]) hx hb dX8_unlike_47 hl (by decide) rfl (fun ls hl => ?_)
                  refine gn_iinc (lv' := [(5, .int (nI (i + 1))), (4, .int (nI 0)), (2, .int (nI u)), (3, .int (nI k)), (0, .ref a), (1, .int (nI n))]) hx hb dX8_unlike_49 hl (k := 1) rfl (by decide) rfl (fun ls hl => ?_)
                  refine lv_goto (tgt := 15) hx hb dX8_unlike_52 (by decide) ?_
                  exact ih15 (i + 1) (nI 0) (show (i + 1) ≤ k from by first | omega | assumption | rfl) (show BB (∀ j, j < (i + 1) → f j ≠ f k) (nI 0) from un_e c_39) (by first | omega | assumption) _ (lv_sub hl [1, 0, 2, 3, 4, 5] rfl)
                · refine lv_iconst (v := nI 1) hx hb dX8_unlike_42 (by decide) ?_
                  refine lv_goto (tgt := 47) hx hb dX8_unlike_43 (by decide) ?_
                  refine lv_istore (lv' := [(4, .int (nI 1)), (5, .int (nI i)), (2, .int (nI u)), (3, .int (nI k)), (0, .ref a), (1, .int (nI n))]) hx hb dX8_unlike_47 hl (by decide) rfl (fun ls hl => ?_)
                  refine gn_iinc (lv' := [(5, .int (nI (i + 1))), (4, .int (nI 1)), (2, .int (nI u)), (3, .int (nI k)), (0, .ref a), (1, .int (nI n))]) hx hb dX8_unlike_49 hl (k := 1) rfl (by decide) rfl (fun ls hl => ?_)
                  refine lv_goto (tgt := 15) hx hb dX8_unlike_52 (by decide) ?_
                  exact ih15 (i + 1) (nI 1) (show (i + 1) ≤ k from by first | omega | assumption | rfl) (show BB (∀ j, j < (i + 1) → f j ≠ f k) (nI 1) from un_s hxr c_23 c_39) (by first | omega | assumption) _ (lv_sub hl [1, 0, 2, 3, 4, 5] rfl)
        exact L15 ((k - 0) + 1) 0 (nI 1) (show 0 ≤ k from by first | omega | assumption | rfl) (show BB (∀ j, j < 0 → f j ≠ f k) (nI 1) from Or.inl ⟨fun j hj => absurd hj (Nat.not_lt_zero j), rfl⟩) (Nat.lt_succ_self _) _ (lv_sub hl [1, 0, 2, 3, 4, 5] rfl)
  exact L4 ((n - 0) + 1) 0 0 (show 0 ≤ n from by first | omega | assumption | rfl) (show 0 = sumN (nwN f) 0 from rfl) (Nat.lt_succ_self _) _ (lv_sub hl [1, 0, 2, 3] rfl)
abbrev rmX8_toldAll : Room := { frames := 2, cells := 0, slots := 0, locals := 45 }
set_option maxHeartbeats 4000000 in
set_option maxRecDepth 100000 in
theorem c_X8_toldAll (l : Launch) (D : va_G) (cI cC cQ : ClassId) (a g0 g1 g2 g3 g4 g5 g6 g7 : Nat) (ik rn ps ty sp fr re cau co cm : Int32) (G : Nat → Nat → Int32) : Met l yX8_toldAll wsX8_toldAll rmX8_toldAll (PR D cI cC cQ [.ref a] [(a, .inr (8, [.ref g0, .ref g1, .ref g2, .ref g3, .int ik, .int rn, .int ps, .ref g4, .int ty, .ref g5, .ref g6, .int sp, .int fr, .int re, .int cau, .int co, .int cm, .ref g7])), (g0, .inl (cI, 240, .inl (MA G)))]) (vp_Si (fun z => z = nI (sumN (toldK G) 20))) 0 0 (fun _ => False) := by
  refine metR (cc := cX8_toldAll) (maxL := 3) (ret := (some .int)) (by decide) rfl (Nat.le_of_ble_eq_true rfl) ?_
  intro pg ev s mi args below meth cd ls Q hQ hx hb hml hr hts hown hlk hK hP hl
  have hKa := hK.1
  have hl : lv_has ls 3 [(0, .ref a)] := hl
  refine lv_iconst (v := nI 0) hx hb dX8_toldAll_0 (by decide) ?_
  refine lv_istore_n (lv' := [(1, .int (nI 0)), (0, .ref a)]) hx hb dX8_toldAll_1 rfl hl (by decide) rfl (fun ls hl => ?_)
  refine lv_iconst (v := nI 0) hx hb dX8_toldAll_2 (by decide) ?_
  refine lv_istore_n (lv' := [(2, .int (nI 0)), (1, .int (nI 0)), (0, .ref a)]) hx hb dX8_toldAll_3 rfl hl (by decide) rfl (fun ls hl => ?_)
  have L4 : ∀ (nn : Nat) (j : Nat) (u : Nat) (hj : j ≤ 20) (hu : u = sumN (toldK G) j) (_ : 20 - j < nn) (ls : Array Slot) (_ : lv_has ls 3 [(1, .int (nI u)), (2, .int (nI j)), (0, .ref a)]), W pg l ev (headSpec wsX8_toldAll rmX8_toldAll).room s mi args below meth cd s.heap [] 0 0 Q (F0 mi 4 ls []) := by
    intro nn
    induction nn with
    | zero =>
      intro j u hj hu hmeas
      exact absurd hmeas (Nat.not_lt_zero _)
    | succ nn ih4 =>
      intro j u hj hu hmeas  ls hl
      refine lv_iload_n hx hb dX8_toldAll_4 rfl (lv_at hl 1 rfl) ?_
      refine lv_bipush (v := nI 20) hx hb dX8_toldAll_5 (by decide) ?_
      refine gn_icmp_ge hx hb (by omega) (by decide) (tgt := 29) dX8_toldAll_7 (by decide) (fun c_7 => ?_) (fun c_7 => ?_)
      · refine lv_iload_n hx hb dX8_toldAll_29 rfl (lv_at hl 0 rfl) ?_
        exact rtR_i hQ hx hb hr hlk dX8_toldAll_30 (by rw [hu, show j = 20 by omega])
      · refine lv_iload_n hx hb dX8_toldAll_10 rfl (lv_at hl 0 rfl) ?_
        refine lv_aload_n hx hb dX8_toldAll_11 rfl (lv_at hl 2 rfl) ?_
        refine lv_iload_n hx hb dX8_toldAll_12 rfl (lv_at hl 1 rfl) ?_
        refine lv_iconst (v := nI 5) hx hb dX8_toldAll_13 (by decide) ?_
        refine gn_rem hx hb (by omega) (by omega) (by omega) dX8_toldAll_14 ?_
        refine lv_iload_n hx hb dX8_toldAll_15 rfl (lv_at hl 1 rfl) ?_
        refine lv_iconst (v := nI 5) hx hb dX8_toldAll_16 (by decide) ?_
        refine gn_div hx hb (by omega) (by omega) (by omega) dX8_toldAll_17 ?_
        have hPc := hP.sub (ws' := [(a, .inr (8, [.ref g0, .ref g1, .ref g2, .ref g3, .int ik, .int rn, .int ps, .ref g4, .int ty, .ref g5, .ref g6, .int sp, .int fr, .int re, .int cau, .int co, .int cm, .ref g7])), (g0, .inl (cI, 240, .inl (MA G)))]) [0, 1] rfl
        refine clRe (E := nI (toldK G ((j / 5) * 5 + (j % 5)))) (va_runV (As := [.int (nI (j % 5)), .int (nI (j / 5))]) (rest := [.int (nI u)]) ⟨hx, hb, hml, hown, hts⟩ (c_X8_told l D cI cC cQ a g0 g1 g2 g3 g4 g5 g6 g7 ik rn ps ty sp fr re cau co cm G (j % 5) (j / 5) (by first | assumption | omega) (by first | assumption | omega)) (cwV (rm := rmX8_told) 2 hts gX8_toldAll_X8_told rfl rfl rfl (by decide +kernel) ⟨Nat.le_of_ble_eq_true rfl, Nat.le_of_ble_eq_true rfl⟩) ⟨PR.blind, va_recv hKa hPc (ci := 8) (q0 := 0) rfl rfl, PR.go hPc hK⟩ rfl rfl hl.1 rfl (lv_room (Nat.le_of_ble_eq_true rfl)) dX8_toldAll_18 ⟨Nat.le_of_ble_eq_true rfl, Nat.le_of_ble_eq_true rfl⟩) ?_
        have htk_18 : toldK G ((j / 5) * 5 + (j % 5)) < 7 := toldK_lt G _
        refine gn_add hx hb dX8_toldAll_21 ?_
        refine lv_istore_n (lv' := [(1, .int (nI (u + (toldK G ((j / 5) * 5 + (j % 5)))))), (2, .int (nI j)), (0, .ref a)]) hx hb dX8_toldAll_22 rfl hl (by decide) rfl (fun ls hl => ?_)
        refine gn_iinc (lv' := [(2, .int (nI (j + 1))), (1, .int (nI (u + (toldK G ((j / 5) * 5 + (j % 5)))))), (0, .ref a)]) hx hb dX8_toldAll_23 hl (k := 1) rfl (by decide) rfl (fun ls hl => ?_)
        refine lv_goto (tgt := 4) hx hb dX8_toldAll_26 (by decide) ?_
        exact ih4 (j + 1) (u + (toldK G ((j / 5) * 5 + (j % 5)))) (show (j + 1) ≤ 20 from by first | omega | assumption | rfl) (show (u + (toldK G ((j / 5) * 5 + (j % 5)))) = sumN (toldK G) (j + 1) from by rw [hu, show j / 5 * 5 + j % 5 = j by omega]; rfl) (by first | omega | assumption) _ (lv_sub hl [1, 0, 2] rfl)
  exact L4 ((20 - 0) + 1) 0 0 (show 0 ≤ 20 from by first | omega | assumption | rfl) (show 0 = sumN (toldK G) 0 from rfl) (Nat.lt_succ_self _) _ (lv_sub hl [1, 0, 2] rfl)
abbrev rmX8_hasBeside : Room := { frames := 0, cells := 0, slots := 0, locals := 0 }
set_option maxHeartbeats 4000000 in
set_option maxRecDepth 100000 in
theorem c_X8_hasBeside (l : Launch) (D : va_G) (cI cC cQ : ClassId) (p t : Nat) (hp : p < 12) (ht : t < 2) : Met l yX8_hasBeside wsX8_hasBeside rmX8_hasBeside (PR D cI cC cQ [.int (nI p), .int (nI t)] []) (vp_Si (fun z => BB (hbs p t) z)) 0 0 (fun _ => False) := by
  refine metR (cc := cX8_hasBeside) (maxL := 2) (ret := (some .boolean)) (by decide) rfl (Nat.le_of_ble_eq_true rfl) ?_
  intro pg ev s mi args below meth cd ls Q hQ hx hb hml hr hts hown hlk hK hP hl
  have hKa := hK.1
  have hl : lv_has ls 2 [(0, .int (nI p)), (1, .int (nI t))] := hl
  refine lv_iload_n hx hb dX8_hasBeside_0 rfl (lv_at hl 1 rfl) ?_
  refine gn_if_ne hx hb (by omega) (tgt := 19) dX8_hasBeside_1 (by decide) (fun c_1 => ?_) (fun c_1 => ?_)
  · refine lv_iload_n hx hb dX8_hasBeside_19 rfl (lv_at hl 0 rfl) ?_
    refine lv_bipush (v := nI 8) hx hb dX8_hasBeside_20 (by decide) ?_
    refine gn_icmp_ge hx hb (by omega) (by decide) (tgt := 29) dX8_hasBeside_22 (by decide) (fun c_22 => ?_) (fun c_22 => ?_)
    · refine lv_iconst (v := nI 0) hx hb dX8_hasBeside_29 (by decide) ?_
      exact rtR_z hQ hx hb hr hlk dX8_hasBeside_30 (by decide +kernel) (Or.inr ⟨by unfold hbs; rw [if_neg c_1]; omega, rfl⟩)
    · refine lv_iconst (v := nI 1) hx hb dX8_hasBeside_25 (by decide) ?_
      refine lv_goto (tgt := 30) hx hb dX8_hasBeside_26 (by decide) ?_
      exact rtR_z hQ hx hb hr hlk dX8_hasBeside_30 (by decide +kernel) (Or.inl ⟨by unfold hbs; rw [if_neg c_1]; omega, rfl⟩)
  · refine lv_iload_n hx hb dX8_hasBeside_4 rfl (lv_at hl 0 rfl) ?_
    refine lv_iconst (v := nI 4) hx hb dX8_hasBeside_5 (by decide) ?_
    refine gn_rem hx hb (by omega) (by omega) (by omega) dX8_hasBeside_6 ?_
    refine lv_iconst (v := nI 3) hx hb dX8_hasBeside_7 (by decide) ?_
    refine gn_icmp_ge hx hb (by omega) (by decide) (tgt := 15) dX8_hasBeside_8 (by decide) (fun c_8 => ?_) (fun c_8 => ?_)
    · refine lv_iconst (v := nI 0) hx hb dX8_hasBeside_15 (by decide) ?_
      refine lv_goto (tgt := 30) hx hb dX8_hasBeside_16 (by decide) ?_
      exact rtR_z hQ hx hb hr hlk dX8_hasBeside_30 (by decide +kernel) (Or.inr ⟨by unfold hbs; rw [if_pos c_1]; omega, rfl⟩)
    · refine lv_iconst (v := nI 1) hx hb dX8_hasBeside_11 (by decide) ?_
      refine lv_goto (tgt := 30) hx hb dX8_hasBeside_12 (by decide) ?_
      exact rtR_z hQ hx hb hr hlk dX8_hasBeside_30 (by decide +kernel) (Or.inl ⟨by unfold hbs; rw [if_pos c_1]; omega, rfl⟩)
abbrev rmX8_across : Room := { frames := 3, cells := 0, slots := 0, locals := 83 }
set_option maxHeartbeats 4000000 in
set_option maxRecDepth 100000 in
theorem c_X8_across (l : Launch) (D : va_G) (cI cC cQ : ClassId) (a g0 g1 g2 g3 g4 g5 g6 g7 : Nat) (ik rn ps ty sp fr re cau co cm : Int32) (G : Nat → Nat → Int32) (p t d u i : Nat) (hG : OKG G) (hp : p < 12) (ht : t < 2) (hd : d < 9) (hu : u < 9) (hi : i < 3) : Met l yX8_across wsX8_across rmX8_across (PR D cI cC cQ [.ref a, .int (nI p), .int (nI t), .int (nI d), .int (nI u), .int (nI i)] [(a, .inr (8, [.ref g0, .ref g1, .ref g2, .ref g3, .int ik, .int rn, .int ps, .ref g4, .int ty, .ref g5, .ref g6, .int sp, .int fr, .int re, .int cau, .int co, .int cm, .ref g7])), (g0, .inl (cI, 240, .inl (MA G)))]) (vp_Si (fun z => z = pin G p t d u i)) 0 0 (fun _ => False) := by
  refine metR (cc := cX8_across) (maxL := 6) (ret := (some .int)) (by decide) rfl (Nat.le_of_ble_eq_true rfl) ?_
  intro pg ev s mi args below meth cd ls Q hQ hx hb hml hr hts hown hlk hK hP hl
  have hKa := hK.1
  have hl : lv_has ls 6 [(0, .ref a), (1, .int (nI p)), (2, .int (nI t)), (3, .int (nI d)), (4, .int (nI u)), (5, .int (nI i))] := hl
  refine lv_iload_n hx hb dX8_across_0 rfl (lv_at hl 2 rfl) ?_
  refine gn_if_ne hx hb (by omega) (tgt := 17) dX8_across_1 (by decide) (fun c_1 => ?_) (fun c_1 => ?_)
  · refine lv_aload_n hx hb dX8_across_17 rfl (lv_at hl 0 rfl) ?_
    refine lv_iload_n hx hb dX8_across_18 rfl (lv_at hl 1 rfl) ?_
    refine lv_iload hx hb dX8_across_19 (lv_at hl 4 rfl) ?_
    refine lv_iload_n hx hb dX8_across_21 rfl (lv_at hl 3 rfl) ?_
    refine lv_iload hx hb dX8_across_22 (lv_at hl 5 rfl) ?_
    have hPc := hP.sub (ws' := [(a, .inr (8, [.ref g0, .ref g1, .ref g2, .ref g3, .int ik, .int rn, .int ps, .ref g4, .int ty, .ref g5, .ref g6, .int sp, .int fr, .int re, .int cau, .int co, .int cm, .ref g7])), (g0, .inl (cI, 240, .inl (MA G)))]) [0, 1] rfl
    refine clRe (E := colG G p u d i) (va_runV (As := [.int (nI p), .int (nI u), .int (nI d), .int (nI i)]) (rest := []) ⟨hx, hb, hml, hown, hts⟩ (c_X8_colour l D cI cC cQ a g0 g1 g2 g3 g4 g5 g6 g7 ik rn ps ty sp fr re cau co cm G p u d i (by first | assumption | omega) (by first | assumption | omega) (by first | assumption | omega) (by first | assumption | omega) (by first | assumption | omega)) (cwV (rm := rmX8_colour) 4 hts gX8_across_X8_colour rfl rfl rfl (by decide +kernel) ⟨Nat.le_of_ble_eq_true rfl, Nat.le_of_ble_eq_true rfl⟩) ⟨PR.blind, va_recv hKa hPc (ci := 8) (q0 := 0) rfl rfl, PR.go hPc hK⟩ rfl rfl hl.1 rfl (lv_room (Nat.le_of_ble_eq_true rfl)) dX8_across_24 ⟨Nat.le_of_ble_eq_true rfl, Nat.le_of_ble_eq_true rfl⟩) ?_
    exact rtR_i hQ hx hb hr hlk dX8_across_27 (by unfold pin; rw [if_neg c_1])
  · refine lv_aload_n hx hb dX8_across_4 rfl (lv_at hl 0 rfl) ?_
    refine lv_iload_n hx hb dX8_across_5 rfl (lv_at hl 1 rfl) ?_
    refine lv_iload_n hx hb dX8_across_6 rfl (lv_at hl 3 rfl) ?_
    refine lv_iload hx hb dX8_across_7 (lv_at hl 4 rfl) ?_
    refine lv_iload hx hb dX8_across_9 (lv_at hl 5 rfl) ?_
    have hPc := hP.sub (ws' := [(a, .inr (8, [.ref g0, .ref g1, .ref g2, .ref g3, .int ik, .int rn, .int ps, .ref g4, .int ty, .ref g5, .ref g6, .int sp, .int fr, .int re, .int cau, .int co, .int cm, .ref g7])), (g0, .inl (cI, 240, .inl (MA G)))]) [0, 1] rfl
    refine clRe (E := colG G p d u i) (va_runV (As := [.int (nI p), .int (nI d), .int (nI u), .int (nI i)]) (rest := []) ⟨hx, hb, hml, hown, hts⟩ (c_X8_colour l D cI cC cQ a g0 g1 g2 g3 g4 g5 g6 g7 ik rn ps ty sp fr re cau co cm G p d u i (by first | assumption | omega) (by first | assumption | omega) (by first | assumption | omega) (by first | assumption | omega) (by first | assumption | omega)) (cwV (rm := rmX8_colour) 4 hts gX8_across_X8_colour rfl rfl rfl (by decide +kernel) ⟨Nat.le_of_ble_eq_true rfl, Nat.le_of_ble_eq_true rfl⟩) ⟨PR.blind, va_recv hKa hPc (ci := 8) (q0 := 0) rfl rfl, PR.go hPc hK⟩ rfl rfl hl.1 rfl (lv_room (Nat.le_of_ble_eq_true rfl)) dX8_across_11 ⟨Nat.le_of_ble_eq_true rfl, Nat.le_of_ble_eq_true rfl⟩) ?_
    refine lv_goto (tgt := 27) hx hb dX8_across_14 (by decide) ?_
    exact rtR_i hQ hx hb hr hlk dX8_across_27 (by unfold pin; rw [if_pos c_1])
abbrev rmX8_agrees : Room := { frames := 4, cells := 0, slots := 0, locals := 108 }
set_option maxHeartbeats 4000000 in
set_option maxRecDepth 100000 in
theorem c_X8_agrees (l : Launch) (D : va_G) (cI cC cQ : ClassId) (a g0 g1 g2 g3 g4 g5 g6 g7 : Nat) (ik rn ps ty sp fr re cau co cm : Int32) (G : Nat → Nat → Int32) (p t : Int32) (hG : OKG G) : Met l yX8_agrees wsX8_agrees rmX8_agrees (PR D cI cC cQ [.ref a, .int p, .int t] [(a, .inr (8, [.ref g0, .ref g1, .ref g2, .ref g3, .int ik, .int rn, .int ps, .ref g4, .int ty, .ref g5, .ref g6, .int sp, .int fr, .int re, .int cau, .int co, .int cm, .ref g7])), (g0, .inl (cI, 240, .inl (MA G)))]) (vp_Si (fun z => z = cz2 (okAg p t) (hbB (tn p) (tn t)) (-1004) (b2i (agB G (tn p) (tn t))))) 0 0 (fun _ => False) := by
  refine metR (cc := cX8_agrees) (maxL := 6) (ret := (some .int)) (by decide) rfl (Nat.le_of_ble_eq_true rfl) ?_
  intro pg ev s mi args below meth cd ls Q hQ hx hb hml hr hts hown hlk hK hP hl
  have hKa := hK.1
  have hl : lv_has ls 6 [(0, .ref a), (1, .int p), (2, .int t)] := hl
  refine lv_iload_n hx hb dX8_agrees_0 rfl (lv_at hl 1 rfl) ?_
  have hPc := hP.sub (ws' := []) [] rfl
  refine clR (va_runS (As := [.int p]) (rest := []) ⟨hx, hb, hml, hown, hts⟩ (c_X8_isPatch l D cI cC cQ p ) (va_cwS (rm := rmX8_isPatch) 1 hts gX8_agrees_X8_isPatch rfl rfl rfl (by decide +kernel) ⟨Nat.le_of_ble_eq_true rfl, Nat.le_of_ble_eq_true rfl⟩) ⟨PR.blind, PR.go hPc hK⟩ rfl rfl hl.1 rfl (lv_room (Nat.le_of_ble_eq_true rfl)) dX8_agrees_1 ⟨Nat.le_of_ble_eq_true rfl, Nat.le_of_ble_eq_true rfl⟩) (fun r_1 h_1 => ?_)
  rcases h_1 with ⟨b_1, rfl⟩ | ⟨b_1, rfl⟩
  · obtain ⟨p0, hp0, rfl⟩ := in_nat (M := 11) (by decide) b_1
    refine gn_if_eq hx hb (by decide) (tgt := 16) dX8_agrees_4 (by decide) (fun cq => absurd cq (by decide)) (fun cq => ?_)
    refine lv_iload_n hx hb dX8_agrees_7 rfl (lv_at hl 2 rfl) ?_
    refine lv_iconst (v := nI 0) hx hb dX8_agrees_8 (by decide) ?_
    refine lv_iconst (v := nI 1) hx hb dX8_agrees_9 (by decide) ?_
    have hPc := hP.sub (ws' := []) [] rfl
    refine clR (va_runS (As := [.int t, .int (nI 0), .int (nI 1)]) (rest := []) ⟨hx, hb, hml, hown, hts⟩ (c_X8_in l D cI cC cQ t (nI 0) (nI 1) ) (va_cwS (rm := rmX8_in) 3 hts gX8_agrees_X8_in rfl rfl rfl (by decide +kernel) ⟨Nat.le_of_ble_eq_true rfl, Nat.le_of_ble_eq_true rfl⟩) ⟨PR.blind, PR.go hPc hK⟩ rfl rfl hl.1 rfl (lv_room (Nat.le_of_ble_eq_true rfl)) dX8_agrees_10 ⟨Nat.le_of_ble_eq_true rfl, Nat.le_of_ble_eq_true rfl⟩) (fun r_10 h_10 => ?_)
    rcases h_10 with ⟨b_10, rfl⟩ | ⟨b_10, rfl⟩
    · obtain ⟨t0, ht0, rfl⟩ := in_nat (M := 1) (by decide) b_10
      refine gn_if_ne hx hb (by decide) (tgt := 20) dX8_agrees_13 (by decide) (fun cq => ?_) (fun cq => absurd cq (by decide))
      refine lv_iload_n hx hb dX8_agrees_20 rfl (lv_at hl 1 rfl) ?_
      refine lv_iload_n hx hb dX8_agrees_21 rfl (lv_at hl 2 rfl) ?_
      have hPc := hP.sub (ws' := []) [] rfl
      refine clR (va_runS (As := [.int (nI p0), .int (nI t0)]) (rest := []) ⟨hx, hb, hml, hown, hts⟩ (c_X8_hasBeside l D cI cC cQ p0 t0 (by first | assumption | omega) (by first | assumption | omega)) (va_cwS (rm := rmX8_hasBeside) 2 hts gX8_agrees_X8_hasBeside rfl rfl rfl (by decide +kernel) ⟨Nat.le_of_ble_eq_true rfl, Nat.le_of_ble_eq_true rfl⟩) ⟨PR.blind, PR.go hPc hK⟩ rfl rfl hl.1 rfl (lv_room (Nat.le_of_ble_eq_true rfl)) dX8_agrees_22 ⟨Nat.le_of_ble_eq_true rfl, Nat.le_of_ble_eq_true rfl⟩) (fun r_22 h_22 => ?_)
      rcases h_22 with ⟨b_22, rfl⟩ | ⟨b_22, rfl⟩
      · refine gn_if_ne hx hb (by decide) (tgt := 32) dX8_agrees_25 (by decide) (fun cq => ?_) (fun cq => absurd cq (by decide))
        refine lv_iload_n hx hb dX8_agrees_32 rfl (lv_at hl 2 rfl) ?_
        refine gn_if_ne hx hb (by omega) (tgt := 42) dX8_agrees_33 (by decide) (fun c_33 => ?_) (fun c_33 => ?_)
        · refine lv_iload_n hx hb dX8_agrees_42 rfl (lv_at hl 1 rfl) ?_
          refine lv_iconst (v := nI 4) hx hb dX8_agrees_43 (by decide) ?_
          refine gn_add hx hb dX8_agrees_44 ?_
          have hnb : p0 + 4 = nb p0 t0 := (if_neg c_33).symm
          rw [hnb]
          have hnb2 : nb p0 t0 < 12 := nb_lt hp0 b_22
          refine lv_istore_n (lv' := [(3, .int (nI (nb p0 t0))), (0, .ref a), (1, .int (nI p0)), (2, .int (nI t0))]) hx hb dX8_agrees_45 rfl hl (by decide) rfl (fun ls hl => ?_)
          refine lv_iconst (v := nI 1) hx hb dX8_agrees_46 (by decide) ?_
          refine lv_istore (lv' := [(4, .int (nI 1)), (3, .int (nI (nb p0 t0))), (0, .ref a), (1, .int (nI p0)), (2, .int (nI t0))]) hx hb dX8_agrees_47 hl (by decide) rfl (fun ls hl => ?_)
          refine lv_iconst (v := nI 0) hx hb dX8_agrees_49 (by decide) ?_
          refine lv_istore (lv' := [(5, .int (nI 0)), (4, .int (nI 1)), (3, .int (nI (nb p0 t0))), (0, .ref a), (1, .int (nI p0)), (2, .int (nI t0))]) hx hb dX8_agrees_50 hl (by decide) rfl (fun ls hl => ?_)
          have L52 : ∀ (nn : Nat) (k : Nat) (x : Int32) (hk : k ≤ 27) (hxr : BB (∀ j, j < k → agE G p0 t0 j) x) (_ : 27 - k < nn) (ls : Array Slot) (_ : lv_has ls 6 [(4, .int x), (5, .int (nI k)), (3, .int (nI (nb p0 t0))), (0, .ref a), (1, .int (nI p0)), (2, .int (nI t0))]), W pg l ev (headSpec wsX8_agrees rmX8_agrees).room s mi args below meth cd s.heap [] 0 0 Q (F0 mi 52 ls []) := by
            intro nn
            induction nn with
            | zero =>
              intro k x hk hxr hmeas
              exact absurd hmeas (Nat.not_lt_zero _)
            | succ nn ih52 =>
              intro k x hk hxr hmeas  ls hl
              refine lv_iload hx hb dX8_agrees_52 (lv_at hl 1 rfl) ?_
              refine lv_bipush (v := nI 27) hx hb dX8_agrees_54 (by decide) ?_
              refine gn_icmp_ge hx hb (by omega) (by decide) (tgt := 111) dX8_agrees_56 (by decide) (fun c_56 => ?_) (fun c_56 => ?_)
              · refine lv_iload hx hb dX8_agrees_111 (lv_at hl 0 rfl) ?_
                refine lv_if_eq hx hb (tgt := 120) dX8_agrees_113 (by decide) (fun c_113 => ?_) (fun c_113 => ?_)
                · refine lv_iconst (v := nI 0) hx hb dX8_agrees_120 (by decide) ?_
                  have hok : okAg (nI p0) (nI t0) = true := decide_eq_true (⟨b_1, b_10⟩)
                  have hok2 : hbB (tn (nI p0)) (tn (nI t0)) = true := by rw [tn_nI (by omega), tn_nI (by omega)]; exact hbB_t b_22
                  exact rtR_i hQ hx hb hr hlk dX8_agrees_121 (by rw [cz2_t hok hok2, tn_nI (by omega), tn_nI (by omega)]; exact (ag_0 (by rw [show k = 27 by omega] at hxr; exact hxr) c_113).symm)
                · refine lv_iconst (v := nI 1) hx hb dX8_agrees_116 (by decide) ?_
                  refine lv_goto (tgt := 121) hx hb dX8_agrees_117 (by decide) ?_
                  have hok : okAg (nI p0) (nI t0) = true := decide_eq_true (⟨b_1, b_10⟩)
                  have hok2 : hbB (tn (nI p0)) (tn (nI t0)) = true := by rw [tn_nI (by omega), tn_nI (by omega)]; exact hbB_t b_22
                  exact rtR_i hQ hx hb hr hlk dX8_agrees_121 (by rw [cz2_t hok hok2, tn_nI (by omega), tn_nI (by omega)]; exact (ag_1 (by rw [show k = 27 by omega] at hxr; exact hxr) c_113).symm)
              · refine lv_iload hx hb dX8_agrees_59 (lv_at hl 0 rfl) ?_
                refine lv_if_eq hx hb (tgt := 102) dX8_agrees_61 (by decide) (fun c_61 => ?_) (fun c_61 => ?_)
                · refine lv_iconst (v := nI 0) hx hb dX8_agrees_102 (by decide) ?_
                  refine lv_istore (lv' := [(4, .int (nI 0)), (5, .int (nI k)), (3, .int (nI (nb p0 t0))), (0, .ref a), (1, .int (nI p0)), (2, .int (nI t0))]) hx hb dX8_agrees_103 hl (by decide) rfl (fun ls hl => ?_)
                  refine gn_iinc (lv' := [(5, .int (nI (k + 1))), (4, .int (nI 0)), (3, .int (nI (nb p0 t0))), (0, .ref a), (1, .int (nI p0)), (2, .int (nI t0))]) hx hb dX8_agrees_105 hl (k := 1) rfl (by decide) rfl (fun ls hl => ?_)
                  refine lv_goto (tgt := 52) hx hb dX8_agrees_108 (by decide) ?_
                  exact ih52 (k + 1) (nI 0) (show (k + 1) ≤ 27 from by first | omega | assumption | rfl) (show BB (∀ j, j < (k + 1) → agE G p0 t0 j) (nI 0) from ag_o hxr c_61) (by first | omega | assumption) _ (lv_sub hl [1, 0, 2, 3, 4, 5] rfl)
                · refine lv_aload_n hx hb dX8_agrees_64 rfl (lv_at hl 3 rfl) ?_
                  refine lv_iload_n hx hb dX8_agrees_65 rfl (lv_at hl 4 rfl) ?_
                  refine lv_iload_n hx hb dX8_agrees_66 rfl (lv_at hl 5 rfl) ?_
                  refine lv_bipush (v := nI 8) hx hb dX8_agrees_67 (by decide) ?_
                  refine lv_iload hx hb dX8_agrees_69 (lv_at hl 1 rfl) ?_
                  refine lv_iconst (v := nI 3) hx hb dX8_agrees_71 (by decide) ?_
                  refine gn_div hx hb (by omega) (by omega) (by omega) dX8_agrees_72 ?_
                  refine lv_iload hx hb dX8_agrees_73 (lv_at hl 1 rfl) ?_
                  refine lv_iconst (v := nI 3) hx hb dX8_agrees_75 (by decide) ?_
                  refine gn_rem hx hb (by omega) (by omega) (by omega) dX8_agrees_76 ?_
                  have hPc := hP.sub (ws' := [(a, .inr (8, [.ref g0, .ref g1, .ref g2, .ref g3, .int ik, .int rn, .int ps, .ref g4, .int ty, .ref g5, .ref g6, .int sp, .int fr, .int re, .int cau, .int co, .int cm, .ref g7])), (g0, .inl (cI, 240, .inl (MA G)))]) [0, 1] rfl
                  refine clRe (E := pin G p0 t0 8 (k / 3) (k % 3)) (va_runV (As := [.int (nI p0), .int (nI t0), .int (nI 8), .int (nI (k / 3)), .int (nI (k % 3))]) (rest := []) ⟨hx, hb, hml, hown, hts⟩ (c_X8_across l D cI cC cQ a g0 g1 g2 g3 g4 g5 g6 g7 ik rn ps ty sp fr re cau co cm G p0 t0 8 (k / 3) (k % 3) (by first | assumption | omega) (by first | assumption | omega) (by first | assumption | omega) (by first | assumption | omega) (by first | assumption | omega) (by first | assumption | omega)) (cwV (rm := rmX8_across) 5 hts gX8_agrees_X8_across rfl rfl rfl (by decide +kernel) ⟨Nat.le_of_ble_eq_true rfl, Nat.le_of_ble_eq_true rfl⟩) ⟨PR.blind, va_recv hKa hPc (ci := 8) (q0 := 0) rfl rfl, PR.go hPc hK⟩ rfl rfl hl.1 rfl (lv_room (Nat.le_of_ble_eq_true rfl)) dX8_agrees_77 ⟨Nat.le_of_ble_eq_true rfl, Nat.le_of_ble_eq_true rfl⟩) ?_
                  refine lv_aload_n hx hb dX8_agrees_80 rfl (lv_at hl 3 rfl) ?_
                  refine lv_iload_n hx hb dX8_agrees_81 rfl (lv_at hl 2 rfl) ?_
                  refine lv_iload_n hx hb dX8_agrees_82 rfl (lv_at hl 5 rfl) ?_
                  refine lv_iconst (v := nI 0) hx hb dX8_agrees_83 (by decide) ?_
                  refine lv_iload hx hb dX8_agrees_84 (lv_at hl 1 rfl) ?_
                  refine lv_iconst (v := nI 3) hx hb dX8_agrees_86 (by decide) ?_
                  refine gn_div hx hb (by omega) (by omega) (by omega) dX8_agrees_87 ?_
                  refine lv_iload hx hb dX8_agrees_88 (lv_at hl 1 rfl) ?_
                  refine lv_iconst (v := nI 3) hx hb dX8_agrees_90 (by decide) ?_
                  refine gn_rem hx hb (by omega) (by omega) (by omega) dX8_agrees_91 ?_
                  have hPc := hP.sub (ws' := [(a, .inr (8, [.ref g0, .ref g1, .ref g2, .ref g3, .int ik, .int rn, .int ps, .ref g4, .int ty, .ref g5, .ref g6, .int sp, .int fr, .int re, .int cau, .int co, .int cm, .ref g7])), (g0, .inl (cI, 240, .inl (MA G)))]) [0, 1] rfl
                  refine clRe (E := pin G (nb p0 t0) t0 0 (k / 3) (k % 3)) (va_runV (As := [.int (nI (nb p0 t0)), .int (nI t0), .int (nI 0), .int (nI (k / 3)), .int (nI (k % 3))]) (rest := [.int (pin G p0 t0 8 (k / 3) (k % 3))]) ⟨hx, hb, hml, hown, hts⟩ (c_X8_across l D cI cC cQ a g0 g1 g2 g3 g4 g5 g6 g7 ik rn ps ty sp fr re cau co cm G (nb p0 t0) t0 0 (k / 3) (k % 3) (by first | assumption | omega) (by first | assumption | omega) (by first | assumption | omega) (by first | assumption | omega) (by first | assumption | omega) (by first | assumption | omega)) (cwV (rm := rmX8_across) 5 hts gX8_agrees_X8_across rfl rfl rfl (by decide +kernel) ⟨Nat.le_of_ble_eq_true rfl, Nat.le_of_ble_eq_true rfl⟩) ⟨PR.blind, va_recv hKa hPc (ci := 8) (q0 := 0) rfl rfl, PR.go hPc hK⟩ rfl rfl hl.1 rfl (lv_room (Nat.le_of_ble_eq_true rfl)) dX8_agrees_92 ⟨Nat.le_of_ble_eq_true rfl, Nat.le_of_ble_eq_true rfl⟩) ?_
                  refine lv_icmp_ne hx hb (tgt := 102) dX8_agrees_95 (by decide) (fun c_95 => ?_) (fun c_95 => ?_)
                  · refine lv_iconst (v := nI 0) hx hb dX8_agrees_102 (by decide) ?_
                    refine lv_istore (lv' := [(4, .int (nI 0)), (5, .int (nI k)), (3, .int (nI (nb p0 t0))), (0, .ref a), (1, .int (nI p0)), (2, .int (nI t0))]) hx hb dX8_agrees_103 hl (by decide) rfl (fun ls hl => ?_)
                    refine gn_iinc (lv' := [(5, .int (nI (k + 1))), (4, .int (nI 0)), (3, .int (nI (nb p0 t0))), (0, .ref a), (1, .int (nI p0)), (2, .int (nI t0))]) hx hb dX8_agrees_105 hl (k := 1) rfl (by decide) rfl (fun ls hl => ?_)
                    refine lv_goto (tgt := 52) hx hb dX8_agrees_108 (by decide) ?_
                    exact ih52 (k + 1) (nI 0) (show (k + 1) ≤ 27 from by first | omega | assumption | rfl) (show BB (∀ j, j < (k + 1) → agE G p0 t0 j) (nI 0) from ag_n c_95) (by first | omega | assumption) _ (lv_sub hl [1, 0, 2, 3, 4, 5] rfl)
                  · refine lv_iconst (v := nI 1) hx hb dX8_agrees_98 (by decide) ?_
                    refine lv_goto (tgt := 103) hx hb dX8_agrees_99 (by decide) ?_
                    refine lv_istore (lv' := [(4, .int (nI 1)), (5, .int (nI k)), (3, .int (nI (nb p0 t0))), (0, .ref a), (1, .int (nI p0)), (2, .int (nI t0))]) hx hb dX8_agrees_103 hl (by decide) rfl (fun ls hl => ?_)
                    refine gn_iinc (lv' := [(5, .int (nI (k + 1))), (4, .int (nI 1)), (3, .int (nI (nb p0 t0))), (0, .ref a), (1, .int (nI p0)), (2, .int (nI t0))]) hx hb dX8_agrees_105 hl (k := 1) rfl (by decide) rfl (fun ls hl => ?_)
                    refine lv_goto (tgt := 52) hx hb dX8_agrees_108 (by decide) ?_
                    exact ih52 (k + 1) (nI 1) (show (k + 1) ≤ 27 from by first | omega | assumption | rfl) (show BB (∀ j, j < (k + 1) → agE G p0 t0 j) (nI 1) from ag_y hxr c_61 c_95) (by first | omega | assumption) _ (lv_sub hl [1, 0, 2, 3, 4, 5] rfl)
          exact L52 ((27 - 0) + 1) 0 (nI 1) (show 0 ≤ 27 from by first | omega | assumption | rfl) (show BB (∀ j, j < 0 → agE G p0 t0 j) (nI 1) from Or.inl ⟨fun j hj => absurd hj (Nat.not_lt_zero j), rfl⟩) (Nat.lt_succ_self _) _ (lv_sub hl [1, 0, 2, 3, 4, 5] rfl)
        · refine lv_iload_n hx hb dX8_agrees_36 rfl (lv_at hl 1 rfl) ?_
          refine lv_iconst (v := nI 1) hx hb dX8_agrees_37 (by decide) ?_
          refine gn_add hx hb dX8_agrees_38 ?_
          refine lv_goto (tgt := 45) hx hb dX8_agrees_39 (by decide) ?_
          have hnb : p0 + 1 = nb p0 t0 := (if_pos c_33).symm
          rw [hnb]
          have hnb2 : nb p0 t0 < 12 := nb_lt hp0 b_22
          refine lv_istore_n (lv' := [(3, .int (nI (nb p0 t0))), (0, .ref a), (1, .int (nI p0)), (2, .int (nI t0))]) hx hb dX8_agrees_45 rfl hl (by decide) rfl (fun ls hl => ?_)
          refine lv_iconst (v := nI 1) hx hb dX8_agrees_46 (by decide) ?_
          refine lv_istore (lv' := [(4, .int (nI 1)), (3, .int (nI (nb p0 t0))), (0, .ref a), (1, .int (nI p0)), (2, .int (nI t0))]) hx hb dX8_agrees_47 hl (by decide) rfl (fun ls hl => ?_)
          refine lv_iconst (v := nI 0) hx hb dX8_agrees_49 (by decide) ?_
          refine lv_istore (lv' := [(5, .int (nI 0)), (4, .int (nI 1)), (3, .int (nI (nb p0 t0))), (0, .ref a), (1, .int (nI p0)), (2, .int (nI t0))]) hx hb dX8_agrees_50 hl (by decide) rfl (fun ls hl => ?_)
          have L52 : ∀ (nn : Nat) (k : Nat) (x : Int32) (hk : k ≤ 27) (hxr : BB (∀ j, j < k → agE G p0 t0 j) x) (_ : 27 - k < nn) (ls : Array Slot) (_ : lv_has ls 6 [(4, .int x), (5, .int (nI k)), (3, .int (nI (nb p0 t0))), (0, .ref a), (1, .int (nI p0)), (2, .int (nI t0))]), W pg l ev (headSpec wsX8_agrees rmX8_agrees).room s mi args below meth cd s.heap [] 0 0 Q (F0 mi 52 ls []) := by
            intro nn
            induction nn with
            | zero =>
              intro k x hk hxr hmeas
              exact absurd hmeas (Nat.not_lt_zero _)
            | succ nn ih52 =>
              intro k x hk hxr hmeas  ls hl
              refine lv_iload hx hb dX8_agrees_52 (lv_at hl 1 rfl) ?_
              refine lv_bipush (v := nI 27) hx hb dX8_agrees_54 (by decide) ?_
              refine gn_icmp_ge hx hb (by omega) (by decide) (tgt := 111) dX8_agrees_56 (by decide) (fun c_56 => ?_) (fun c_56 => ?_)
              · refine lv_iload hx hb dX8_agrees_111 (lv_at hl 0 rfl) ?_
                refine lv_if_eq hx hb (tgt := 120) dX8_agrees_113 (by decide) (fun c_113 => ?_) (fun c_113 => ?_)
                · refine lv_iconst (v := nI 0) hx hb dX8_agrees_120 (by decide) ?_
                  have hok : okAg (nI p0) (nI t0) = true := decide_eq_true (⟨b_1, b_10⟩)
                  have hok2 : hbB (tn (nI p0)) (tn (nI t0)) = true := by rw [tn_nI (by omega), tn_nI (by omega)]; exact hbB_t b_22
                  exact rtR_i hQ hx hb hr hlk dX8_agrees_121 (by rw [cz2_t hok hok2, tn_nI (by omega), tn_nI (by omega)]; exact (ag_0 (by rw [show k = 27 by omega] at hxr; exact hxr) c_113).symm)
                · refine lv_iconst (v := nI 1) hx hb dX8_agrees_116 (by decide) ?_
                  refine lv_goto (tgt := 121) hx hb dX8_agrees_117 (by decide) ?_
                  have hok : okAg (nI p0) (nI t0) = true := decide_eq_true (⟨b_1, b_10⟩)
                  have hok2 : hbB (tn (nI p0)) (tn (nI t0)) = true := by rw [tn_nI (by omega), tn_nI (by omega)]; exact hbB_t b_22
                  exact rtR_i hQ hx hb hr hlk dX8_agrees_121 (by rw [cz2_t hok hok2, tn_nI (by omega), tn_nI (by omega)]; exact (ag_1 (by rw [show k = 27 by omega] at hxr; exact hxr) c_113).symm)
              · refine lv_iload hx hb dX8_agrees_59 (lv_at hl 0 rfl) ?_
                refine lv_if_eq hx hb (tgt := 102) dX8_agrees_61 (by decide) (fun c_61 => ?_) (fun c_61 => ?_)
                · refine lv_iconst (v := nI 0) hx hb dX8_agrees_102 (by decide) ?_
                  refine lv_istore (lv' := [(4, .int (nI 0)), (5, .int (nI k)), (3, .int (nI (nb p0 t0))), (0, .ref a), (1, .int (nI p0)), (2, .int (nI t0))]) hx hb dX8_agrees_103 hl (by decide) rfl (fun ls hl => ?_)
                  refine gn_iinc (lv' := [(5, .int (nI (k + 1))), (4, .int (nI 0)), (3, .int (nI (nb p0 t0))), (0, .ref a), (1, .int (nI p0)), (2, .int (nI t0))]) hx hb dX8_agrees_105 hl (k := 1) rfl (by decide) rfl (fun ls hl => ?_)
                  refine lv_goto (tgt := 52) hx hb dX8_agrees_108 (by decide) ?_
                  exact ih52 (k + 1) (nI 0) (show (k + 1) ≤ 27 from by first | omega | assumption | rfl) (show BB (∀ j, j < (k + 1) → agE G p0 t0 j) (nI 0) from ag_o hxr c_61) (by first | omega | assumption) _ (lv_sub hl [1, 0, 2, 3, 4, 5] rfl)
                · refine lv_aload_n hx hb dX8_agrees_64 rfl (lv_at hl 3 rfl) ?_
                  refine lv_iload_n hx hb dX8_agrees_65 rfl (lv_at hl 4 rfl) ?_
                  refine lv_iload_n hx hb dX8_agrees_66 rfl (lv_at hl 5 rfl) ?_
                  refine lv_bipush (v := nI 8) hx hb dX8_agrees_67 (by decide) ?_
                  refine lv_iload hx hb dX8_agrees_69 (lv_at hl 1 rfl) ?_
                  refine lv_iconst (v := nI 3) hx hb dX8_agrees_71 (by decide) ?_
                  refine gn_div hx hb (by omega) (by omega) (by omega) dX8_agrees_72 ?_
                  refine lv_iload hx hb dX8_agrees_73 (lv_at hl 1 rfl) ?_
                  refine lv_iconst (v := nI 3) hx hb dX8_agrees_75 (by decide) ?_
                  refine gn_rem hx hb (by omega) (by omega) (by omega) dX8_agrees_76 ?_
                  have hPc := hP.sub (ws' := [(a, .inr (8, [.ref g0, .ref g1, .ref g2, .ref g3, .int ik, .int rn, .int ps, .ref g4, .int ty, .ref g5, .ref g6, .int sp, .int fr, .int re, .int cau, .int co, .int cm, .ref g7])), (g0, .inl (cI, 240, .inl (MA G)))]) [0, 1] rfl
                  refine clRe (E := pin G p0 t0 8 (k / 3) (k % 3)) (va_runV (As := [.int (nI p0), .int (nI t0), .int (nI 8), .int (nI (k / 3)), .int (nI (k % 3))]) (rest := []) ⟨hx, hb, hml, hown, hts⟩ (c_X8_across l D cI cC cQ a g0 g1 g2 g3 g4 g5 g6 g7 ik rn ps ty sp fr re cau co cm G p0 t0 8 (k / 3) (k % 3) (by first | assumption | omega) (by first | assumption | omega) (by first | assumption | omega) (by first | assumption | omega) (by first | assumption | omega) (by first | assumption | omega)) (cwV (rm := rmX8_across) 5 hts gX8_agrees_X8_across rfl rfl rfl (by decide +kernel) ⟨Nat.le_of_ble_eq_true rfl, Nat.le_of_ble_eq_true rfl⟩) ⟨PR.blind, va_recv hKa hPc (ci := 8) (q0 := 0) rfl rfl, PR.go hPc hK⟩ rfl rfl hl.1 rfl (lv_room (Nat.le_of_ble_eq_true rfl)) dX8_agrees_77 ⟨Nat.le_of_ble_eq_true rfl, Nat.le_of_ble_eq_true rfl⟩) ?_
                  refine lv_aload_n hx hb dX8_agrees_80 rfl (lv_at hl 3 rfl) ?_
                  refine lv_iload_n hx hb dX8_agrees_81 rfl (lv_at hl 2 rfl) ?_
                  refine lv_iload_n hx hb dX8_agrees_82 rfl (lv_at hl 5 rfl) ?_
                  refine lv_iconst (v := nI 0) hx hb dX8_agrees_83 (by decide) ?_
                  refine lv_iload hx hb dX8_agrees_84 (lv_at hl 1 rfl) ?_
                  refine lv_iconst (v := nI 3) hx hb dX8_agrees_86 (by decide) ?_
                  refine gn_div hx hb (by omega) (by omega) (by omega) dX8_agrees_87 ?_
                  refine lv_iload hx hb dX8_agrees_88 (lv_at hl 1 rfl) ?_
                  refine lv_iconst (v := nI 3) hx hb dX8_agrees_90 (by decide) ?_
                  refine gn_rem hx hb (by omega) (by omega) (by omega) dX8_agrees_91 ?_
                  have hPc := hP.sub (ws' := [(a, .inr (8, [.ref g0, .ref g1, .ref g2, .ref g3, .int ik, .int rn, .int ps, .ref g4, .int ty, .ref g5, .ref g6, .int sp, .int fr, .int re, .int cau, .int co, .int cm, .ref g7])), (g0, .inl (cI, 240, .inl (MA G)))]) [0, 1] rfl
                  refine clRe (E := pin G (nb p0 t0) t0 0 (k / 3) (k % 3)) (va_runV (As := [.int (nI (nb p0 t0)), .int (nI t0), .int (nI 0), .int (nI (k / 3)), .int (nI (k % 3))]) (rest := [.int (pin G p0 t0 8 (k / 3) (k % 3))]) ⟨hx, hb, hml, hown, hts⟩ (c_X8_across l D cI cC cQ a g0 g1 g2 g3 g4 g5 g6 g7 ik rn ps ty sp fr re cau co cm G (nb p0 t0) t0 0 (k / 3) (k % 3) (by first | assumption | omega) (by first | assumption | omega) (by first | assumption | omega) (by first | assumption | omega) (by first | assumption | omega) (by first | assumption | omega)) (cwV (rm := rmX8_across) 5 hts gX8_agrees_X8_across rfl rfl rfl (by decide +kernel) ⟨Nat.le_of_ble_eq_true rfl, Nat.le_of_ble_eq_true rfl⟩) ⟨PR.blind, va_recv hKa hPc (ci := 8) (q0 := 0) rfl rfl, PR.go hPc hK⟩ rfl rfl hl.1 rfl (lv_room (Nat.le_of_ble_eq_true rfl)) dX8_agrees_92 ⟨Nat.le_of_ble_eq_true rfl, Nat.le_of_ble_eq_true rfl⟩) ?_
                  refine lv_icmp_ne hx hb (tgt := 102) dX8_agrees_95 (by decide) (fun c_95 => ?_) (fun c_95 => ?_)
                  · refine lv_iconst (v := nI 0) hx hb dX8_agrees_102 (by decide) ?_
                    refine lv_istore (lv' := [(4, .int (nI 0)), (5, .int (nI k)), (3, .int (nI (nb p0 t0))), (0, .ref a), (1, .int (nI p0)), (2, .int (nI t0))]) hx hb dX8_agrees_103 hl (by decide) rfl (fun ls hl => ?_)
                    refine gn_iinc (lv' := [(5, .int (nI (k + 1))), (4, .int (nI 0)), (3, .int (nI (nb p0 t0))), (0, .ref a), (1, .int (nI p0)), (2, .int (nI t0))]) hx hb dX8_agrees_105 hl (k := 1) rfl (by decide) rfl (fun ls hl => ?_)
                    refine lv_goto (tgt := 52) hx hb dX8_agrees_108 (by decide) ?_
                    exact ih52 (k + 1) (nI 0) (show (k + 1) ≤ 27 from by first | omega | assumption | rfl) (show BB (∀ j, j < (k + 1) → agE G p0 t0 j) (nI 0) from ag_n c_95) (by first | omega | assumption) _ (lv_sub hl [1, 0, 2, 3, 4, 5] rfl)
                  · refine lv_iconst (v := nI 1) hx hb dX8_agrees_98 (by decide) ?_
                    refine lv_goto (tgt := 103) hx hb dX8_agrees_99 (by decide) ?_
                    refine lv_istore (lv' := [(4, .int (nI 1)), (5, .int (nI k)), (3, .int (nI (nb p0 t0))), (0, .ref a), (1, .int (nI p0)), (2, .int (nI t0))]) hx hb dX8_agrees_103 hl (by decide) rfl (fun ls hl => ?_)
                    refine gn_iinc (lv' := [(5, .int (nI (k + 1))), (4, .int (nI 1)), (3, .int (nI (nb p0 t0))), (0, .ref a), (1, .int (nI p0)), (2, .int (nI t0))]) hx hb dX8_agrees_105 hl (k := 1) rfl (by decide) rfl (fun ls hl => ?_)
                    refine lv_goto (tgt := 52) hx hb dX8_agrees_108 (by decide) ?_
                    exact ih52 (k + 1) (nI 1) (show (k + 1) ≤ 27 from by first | omega | assumption | rfl) (show BB (∀ j, j < (k + 1) → agE G p0 t0 j) (nI 1) from ag_y hxr c_61 c_95) (by first | omega | assumption) _ (lv_sub hl [1, 0, 2, 3, 4, 5] rfl)
          exact L52 ((27 - 0) + 1) 0 (nI 1) (show 0 ≤ 27 from by first | omega | assumption | rfl) (show BB (∀ j, j < 0 → agE G p0 t0 j) (nI 1) from Or.inl ⟨fun j hj => absurd hj (Nat.not_lt_zero j), rfl⟩) (Nat.lt_succ_self _) _ (lv_sub hl [1, 0, 2, 3, 4, 5] rfl)
      · refine gn_if_ne hx hb (by decide) (tgt := 32) dX8_agrees_25 (by decide) (fun cq => absurd cq (by decide)) (fun cq => ?_)
        refine lv_sipush (v := (-1004)) hx hb dX8_agrees_28 (by decide) ?_
        have hok : okAg (nI p0) (nI t0) = true := decide_eq_true (⟨b_1, b_10⟩)
        have hok2 : hbB (tn (nI p0)) (tn (nI t0)) = false := by rw [tn_nI (by omega), tn_nI (by omega)]; exact hbB_f b_22
        exact rtR_i hQ hx hb hr hlk dX8_agrees_31 ((cz2_n hok hok2).symm)
    · refine gn_if_ne hx hb (by decide) (tgt := 20) dX8_agrees_13 (by decide) (fun cq => absurd cq (by decide)) (fun cq => ?_)
      refine lv_sipush (v := (-1001)) hx hb dX8_agrees_16 (by decide) ?_
      have hok : okAg (nI p0) t = false := decide_eq_false (fun q => b_10 q.2)
      exact rtR_i hQ hx hb hr hlk dX8_agrees_19 ((cz2_f hok).symm)
  · refine gn_if_eq hx hb (by decide) (tgt := 16) dX8_agrees_4 (by decide) (fun cq => ?_) (fun cq => absurd cq (by decide))
    refine lv_sipush (v := (-1001)) hx hb dX8_agrees_16 (by decide) ?_
    have hok : okAg p t = false := decide_eq_false (fun q => b_1 q.1)
    exact rtR_i hQ hx hb hr hlk dX8_agrees_19 ((cz2_f hok).symm)
abbrev rmX8_crease : Room := { frames := 4, cells := 0, slots := 0, locals := 108 }
set_option maxHeartbeats 4000000 in
set_option maxRecDepth 100000 in
theorem c_X8_crease (l : Launch) (D : va_G) (cI cC cQ : ClassId) (a g0 g1 g2 g3 g4 g5 g6 g7 : Nat) (ik rn ps ty sp fr re cau co cm : Int32) (G : Nat → Nat → Int32) (p t q i : Int32) (hG : OKG G) : Met l yX8_crease wsX8_crease rmX8_crease (PR D cI cC cQ [.ref a, .int p, .int t, .int q, .int i] [(a, .inr (8, [.ref g0, .ref g1, .ref g2, .ref g3, .int ik, .int rn, .int ps, .ref g4, .int ty, .ref g5, .ref g6, .int sp, .int fr, .int re, .int cau, .int co, .int cm, .ref g7])), (g0, .inl (cI, 240, .inl (MA G)))]) (vp_Si (fun z => z = cz2 (okCr p t q i) (hbB (tn p) (tn t)) (-1004) (crof G (tn p) (tn t) (tn q) (tn i)))) 0 0 (fun _ => False) := by
  refine metR (cc := cX8_crease) (maxL := 8) (ret := (some .int)) (by decide) rfl (Nat.le_of_ble_eq_true rfl) ?_
  intro pg ev s mi args below meth cd ls Q hQ hx hb hml hr hts hown hlk hK hP hl
  have hKa := hK.1
  have hl : lv_has ls 8 [(0, .ref a), (1, .int p), (2, .int t), (3, .int q), (4, .int i)] := hl
  refine lv_iload_n hx hb dX8_crease_0 rfl (lv_at hl 1 rfl) ?_
  have hPc := hP.sub (ws' := []) [] rfl
  refine clR (va_runS (As := [.int p]) (rest := []) ⟨hx, hb, hml, hown, hts⟩ (c_X8_isPatch l D cI cC cQ p ) (va_cwS (rm := rmX8_isPatch) 1 hts gX8_crease_X8_isPatch rfl rfl rfl (by decide +kernel) ⟨Nat.le_of_ble_eq_true rfl, Nat.le_of_ble_eq_true rfl⟩) ⟨PR.blind, PR.go hPc hK⟩ rfl rfl hl.1 rfl (lv_room (Nat.le_of_ble_eq_true rfl)) dX8_crease_1 ⟨Nat.le_of_ble_eq_true rfl, Nat.le_of_ble_eq_true rfl⟩) (fun r_1 h_1 => ?_)
  rcases h_1 with ⟨b_1, rfl⟩ | ⟨b_1, rfl⟩
  · obtain ⟨p0, hp0, rfl⟩ := in_nat (M := 11) (by decide) b_1
    refine gn_if_eq hx hb (by decide) (tgt := 36) dX8_crease_4 (by decide) (fun cq => absurd cq (by decide)) (fun cq => ?_)
    refine lv_iload_n hx hb dX8_crease_7 rfl (lv_at hl 2 rfl) ?_
    refine lv_iconst (v := nI 0) hx hb dX8_crease_8 (by decide) ?_
    refine lv_iconst (v := nI 1) hx hb dX8_crease_9 (by decide) ?_
    have hPc := hP.sub (ws' := []) [] rfl
    refine clR (va_runS (As := [.int t, .int (nI 0), .int (nI 1)]) (rest := []) ⟨hx, hb, hml, hown, hts⟩ (c_X8_in l D cI cC cQ t (nI 0) (nI 1) ) (va_cwS (rm := rmX8_in) 3 hts gX8_crease_X8_in rfl rfl rfl (by decide +kernel) ⟨Nat.le_of_ble_eq_true rfl, Nat.le_of_ble_eq_true rfl⟩) ⟨PR.blind, PR.go hPc hK⟩ rfl rfl hl.1 rfl (lv_room (Nat.le_of_ble_eq_true rfl)) dX8_crease_10 ⟨Nat.le_of_ble_eq_true rfl, Nat.le_of_ble_eq_true rfl⟩) (fun r_10 h_10 => ?_)
    rcases h_10 with ⟨b_10, rfl⟩ | ⟨b_10, rfl⟩
    · obtain ⟨t0, ht0, rfl⟩ := in_nat (M := 1) (by decide) b_10
      refine gn_if_eq hx hb (by decide) (tgt := 36) dX8_crease_13 (by decide) (fun cq => absurd cq (by decide)) (fun cq => ?_)
      refine lv_iload_n hx hb dX8_crease_16 rfl (lv_at hl 3 rfl) ?_
      refine lv_iconst (v := nI 0) hx hb dX8_crease_17 (by decide) ?_
      refine lv_bipush (v := nI 8) hx hb dX8_crease_18 (by decide) ?_
      have hPc := hP.sub (ws' := []) [] rfl
      refine clR (va_runS (As := [.int q, .int (nI 0), .int (nI 8)]) (rest := []) ⟨hx, hb, hml, hown, hts⟩ (c_X8_in l D cI cC cQ q (nI 0) (nI 8) ) (va_cwS (rm := rmX8_in) 3 hts gX8_crease_X8_in rfl rfl rfl (by decide +kernel) ⟨Nat.le_of_ble_eq_true rfl, Nat.le_of_ble_eq_true rfl⟩) ⟨PR.blind, PR.go hPc hK⟩ rfl rfl hl.1 rfl (lv_room (Nat.le_of_ble_eq_true rfl)) dX8_crease_20 ⟨Nat.le_of_ble_eq_true rfl, Nat.le_of_ble_eq_true rfl⟩) (fun r_20 h_20 => ?_)
      rcases h_20 with ⟨b_20, rfl⟩ | ⟨b_20, rfl⟩
      · obtain ⟨q0, hq0, rfl⟩ := in_nat (M := 8) (by decide) b_20
        refine gn_if_eq hx hb (by decide) (tgt := 36) dX8_crease_23 (by decide) (fun cq => absurd cq (by decide)) (fun cq => ?_)
        refine lv_iload hx hb dX8_crease_26 (lv_at hl 4 rfl) ?_
        refine lv_iconst (v := nI 0) hx hb dX8_crease_28 (by decide) ?_
        refine lv_iconst (v := nI 2) hx hb dX8_crease_29 (by decide) ?_
        have hPc := hP.sub (ws' := []) [] rfl
        refine clR (va_runS (As := [.int i, .int (nI 0), .int (nI 2)]) (rest := []) ⟨hx, hb, hml, hown, hts⟩ (c_X8_in l D cI cC cQ i (nI 0) (nI 2) ) (va_cwS (rm := rmX8_in) 3 hts gX8_crease_X8_in rfl rfl rfl (by decide +kernel) ⟨Nat.le_of_ble_eq_true rfl, Nat.le_of_ble_eq_true rfl⟩) ⟨PR.blind, PR.go hPc hK⟩ rfl rfl hl.1 rfl (lv_room (Nat.le_of_ble_eq_true rfl)) dX8_crease_30 ⟨Nat.le_of_ble_eq_true rfl, Nat.le_of_ble_eq_true rfl⟩) (fun r_30 h_30 => ?_)
        rcases h_30 with ⟨b_30, rfl⟩ | ⟨b_30, rfl⟩
        · obtain ⟨i0, hi0, rfl⟩ := in_nat (M := 2) (by decide) b_30
          refine gn_if_ne hx hb (by decide) (tgt := 40) dX8_crease_33 (by decide) (fun cq => ?_) (fun cq => absurd cq (by decide))
          refine lv_iload_n hx hb dX8_crease_40 rfl (lv_at hl 1 rfl) ?_
          refine lv_iload_n hx hb dX8_crease_41 rfl (lv_at hl 2 rfl) ?_
          have hPc := hP.sub (ws' := []) [] rfl
          refine clR (va_runS (As := [.int (nI p0), .int (nI t0)]) (rest := []) ⟨hx, hb, hml, hown, hts⟩ (c_X8_hasBeside l D cI cC cQ p0 t0 (by first | assumption | omega) (by first | assumption | omega)) (va_cwS (rm := rmX8_hasBeside) 2 hts gX8_crease_X8_hasBeside rfl rfl rfl (by decide +kernel) ⟨Nat.le_of_ble_eq_true rfl, Nat.le_of_ble_eq_true rfl⟩) ⟨PR.blind, PR.go hPc hK⟩ rfl rfl hl.1 rfl (lv_room (Nat.le_of_ble_eq_true rfl)) dX8_crease_42 ⟨Nat.le_of_ble_eq_true rfl, Nat.le_of_ble_eq_true rfl⟩) (fun r_42 h_42 => ?_)
          rcases h_42 with ⟨b_42, rfl⟩ | ⟨b_42, rfl⟩
          · refine gn_if_ne hx hb (by decide) (tgt := 52) dX8_crease_45 (by decide) (fun cq => ?_) (fun cq => absurd cq (by decide))
            refine lv_iload_n hx hb dX8_crease_52 rfl (lv_at hl 2 rfl) ?_
            refine gn_if_ne hx hb (by omega) (tgt := 62) dX8_crease_53 (by decide) (fun c_53 => ?_) (fun c_53 => ?_)
            · refine lv_iload_n hx hb dX8_crease_62 rfl (lv_at hl 1 rfl) ?_
              refine lv_iconst (v := nI 4) hx hb dX8_crease_63 (by decide) ?_
              refine gn_add hx hb dX8_crease_64 ?_
              have hnb : p0 + 4 = nb p0 t0 := (if_neg c_53).symm
              rw [hnb]
              have hnb2 : nb p0 t0 < 12 := nb_lt hp0 b_42
              refine lv_istore (lv' := [(5, .int (nI (nb p0 t0))), (0, .ref a), (1, .int (nI p0)), (2, .int (nI t0)), (3, .int (nI q0)), (4, .int (nI i0))]) hx hb dX8_crease_65 hl (by decide) rfl (fun ls hl => ?_)
              refine lv_aload_n hx hb dX8_crease_67 rfl (lv_at hl 1 rfl) ?_
              refine lv_iload_n hx hb dX8_crease_68 rfl (lv_at hl 2 rfl) ?_
              refine lv_iload_n hx hb dX8_crease_69 rfl (lv_at hl 3 rfl) ?_
              refine lv_bipush (v := nI 8) hx hb dX8_crease_70 (by decide) ?_
              refine lv_iload_n hx hb dX8_crease_72 rfl (lv_at hl 4 rfl) ?_
              refine lv_iload hx hb dX8_crease_73 (lv_at hl 5 rfl) ?_
              have hPc := hP.sub (ws' := [(a, .inr (8, [.ref g0, .ref g1, .ref g2, .ref g3, .int ik, .int rn, .int ps, .ref g4, .int ty, .ref g5, .ref g6, .int sp, .int fr, .int re, .int cau, .int co, .int cm, .ref g7])), (g0, .inl (cI, 240, .inl (MA G)))]) [0, 1] rfl
              refine clRe (E := pin G p0 t0 8 q0 i0) (va_runV (As := [.int (nI p0), .int (nI t0), .int (nI 8), .int (nI q0), .int (nI i0)]) (rest := []) ⟨hx, hb, hml, hown, hts⟩ (c_X8_across l D cI cC cQ a g0 g1 g2 g3 g4 g5 g6 g7 ik rn ps ty sp fr re cau co cm G p0 t0 8 q0 i0 (by first | assumption | omega) (by first | assumption | omega) (by first | assumption | omega) (by first | assumption | omega) (by first | assumption | omega) (by first | assumption | omega)) (cwV (rm := rmX8_across) 5 hts gX8_crease_X8_across rfl rfl rfl (by decide +kernel) ⟨Nat.le_of_ble_eq_true rfl, Nat.le_of_ble_eq_true rfl⟩) ⟨PR.blind, va_recv hKa hPc (ci := 8) (q0 := 0) rfl rfl, PR.go hPc hK⟩ rfl rfl hl.1 rfl (lv_room (Nat.le_of_ble_eq_true rfl)) dX8_crease_75 ⟨Nat.le_of_ble_eq_true rfl, Nat.le_of_ble_eq_true rfl⟩) ?_
              refine lv_istore (lv' := [(6, .int (pin G p0 t0 8 q0 i0)), (5, .int (nI (nb p0 t0))), (0, .ref a), (1, .int (nI p0)), (2, .int (nI t0)), (3, .int (nI q0)), (4, .int (nI i0))]) hx hb dX8_crease_78 hl (by decide) rfl (fun ls hl => ?_)
              refine lv_aload_n hx hb dX8_crease_80 rfl (lv_at hl 2 rfl) ?_
              refine lv_iload_n hx hb dX8_crease_81 rfl (lv_at hl 3 rfl) ?_
              refine lv_iload_n hx hb dX8_crease_82 rfl (lv_at hl 4 rfl) ?_
              refine lv_bipush (v := nI 7) hx hb dX8_crease_83 (by decide) ?_
              refine lv_iload_n hx hb dX8_crease_85 rfl (lv_at hl 5 rfl) ?_
              refine lv_iload hx hb dX8_crease_86 (lv_at hl 6 rfl) ?_
              have hPc := hP.sub (ws' := [(a, .inr (8, [.ref g0, .ref g1, .ref g2, .ref g3, .int ik, .int rn, .int ps, .ref g4, .int ty, .ref g5, .ref g6, .int sp, .int fr, .int re, .int cau, .int co, .int cm, .ref g7])), (g0, .inl (cI, 240, .inl (MA G)))]) [0, 1] rfl
              refine clRe (E := pin G p0 t0 7 q0 i0) (va_runV (As := [.int (nI p0), .int (nI t0), .int (nI 7), .int (nI q0), .int (nI i0)]) (rest := []) ⟨hx, hb, hml, hown, hts⟩ (c_X8_across l D cI cC cQ a g0 g1 g2 g3 g4 g5 g6 g7 ik rn ps ty sp fr re cau co cm G p0 t0 7 q0 i0 (by first | assumption | omega) (by first | assumption | omega) (by first | assumption | omega) (by first | assumption | omega) (by first | assumption | omega) (by first | assumption | omega)) (cwV (rm := rmX8_across) 5 hts gX8_crease_X8_across rfl rfl rfl (by decide +kernel) ⟨Nat.le_of_ble_eq_true rfl, Nat.le_of_ble_eq_true rfl⟩) ⟨PR.blind, va_recv hKa hPc (ci := 8) (q0 := 0) rfl rfl, PR.go hPc hK⟩ rfl rfl hl.1 rfl (lv_room (Nat.le_of_ble_eq_true rfl)) dX8_crease_88 ⟨Nat.le_of_ble_eq_true rfl, Nat.le_of_ble_eq_true rfl⟩) ?_
              refine lv_iload hx hb dX8_crease_91 (lv_at hl 0 rfl) ?_
              refine lv_isub hx hb dX8_crease_93 ?_
              refine lv_iload hx hb dX8_crease_94 (lv_at hl 0 rfl) ?_
              refine lv_aload_n hx hb dX8_crease_96 rfl (lv_at hl 2 rfl) ?_
              refine lv_iload hx hb dX8_crease_97 (lv_at hl 1 rfl) ?_
              refine lv_iload_n hx hb dX8_crease_99 rfl (lv_at hl 4 rfl) ?_
              refine lv_iconst (v := nI 1) hx hb dX8_crease_100 (by decide) ?_
              refine lv_iload_n hx hb dX8_crease_101 rfl (lv_at hl 5 rfl) ?_
              refine lv_iload hx hb dX8_crease_102 (lv_at hl 6 rfl) ?_
              have hPc := hP.sub (ws' := [(a, .inr (8, [.ref g0, .ref g1, .ref g2, .ref g3, .int ik, .int rn, .int ps, .ref g4, .int ty, .ref g5, .ref g6, .int sp, .int fr, .int re, .int cau, .int co, .int cm, .ref g7])), (g0, .inl (cI, 240, .inl (MA G)))]) [0, 1] rfl
              refine clRe (E := pin G (nb p0 t0) t0 1 q0 i0) (va_runV (As := [.int (nI (nb p0 t0)), .int (nI t0), .int (nI 1), .int (nI q0), .int (nI i0)]) (rest := [.int (pin G p0 t0 8 q0 i0), .int ((pin G p0 t0 7 q0 i0) - (pin G p0 t0 8 q0 i0))]) ⟨hx, hb, hml, hown, hts⟩ (c_X8_across l D cI cC cQ a g0 g1 g2 g3 g4 g5 g6 g7 ik rn ps ty sp fr re cau co cm G (nb p0 t0) t0 1 q0 i0 (by first | assumption | omega) (by first | assumption | omega) (by first | assumption | omega) (by first | assumption | omega) (by first | assumption | omega) (by first | assumption | omega)) (cwV (rm := rmX8_across) 5 hts gX8_crease_X8_across rfl rfl rfl (by decide +kernel) ⟨Nat.le_of_ble_eq_true rfl, Nat.le_of_ble_eq_true rfl⟩) ⟨PR.blind, va_recv hKa hPc (ci := 8) (q0 := 0) rfl rfl, PR.go hPc hK⟩ rfl rfl hl.1 rfl (lv_room (Nat.le_of_ble_eq_true rfl)) dX8_crease_104 ⟨Nat.le_of_ble_eq_true rfl, Nat.le_of_ble_eq_true rfl⟩) ?_
              refine lv_isub hx hb dX8_crease_107 ?_
              refine lv_isub hx hb dX8_crease_108 ?_
              refine lv_istore (lv' := [(7, .int (((pin G p0 t0 7 q0 i0) - (pin G p0 t0 8 q0 i0)) - ((pin G p0 t0 8 q0 i0) - (pin G (nb p0 t0) t0 1 q0 i0)))), (6, .int (pin G p0 t0 8 q0 i0)), (5, .int (nI (nb p0 t0))), (0, .ref a), (1, .int (nI p0)), (2, .int (nI t0)), (3, .int (nI q0)), (4, .int (nI i0))]) hx hb dX8_crease_109 hl (by decide) rfl (fun ls hl => ?_)
              refine lv_iload hx hb dX8_crease_111 (lv_at hl 0 rfl) ?_
              refine lv_if_ge hx hb (tgt := 122) dX8_crease_113 (by decide) (fun c_113 => ?_) (fun c_113 => ?_)
              · refine lv_iload hx hb dX8_crease_122 (lv_at hl 0 rfl) ?_
                have hok : okCr (nI p0) (nI t0) (nI q0) (nI i0) = true := decide_eq_true (⟨⟨⟨b_1, b_10⟩, b_20⟩, b_30⟩)
                have hok2 : hbB (tn (nI p0)) (tn (nI t0)) = true := by rw [tn_nI (by omega), tn_nI (by omega)]; exact hbB_t b_42
                exact rtR_i hQ hx hb hr hlk dX8_crease_124 (by rw [cz2_t hok hok2, tn_nI (by omega), tn_nI (by omega), tn_nI (by omega), tn_nI (by omega)]; unfold crof absI; rw [if_pos c_113])
              · refine lv_iload hx hb dX8_crease_116 (lv_at hl 0 rfl) ?_
                refine lv_ineg hx hb dX8_crease_118 ?_
                refine lv_goto (tgt := 124) hx hb dX8_crease_119 (by decide) ?_
                have hok : okCr (nI p0) (nI t0) (nI q0) (nI i0) = true := decide_eq_true (⟨⟨⟨b_1, b_10⟩, b_20⟩, b_30⟩)
                have hok2 : hbB (tn (nI p0)) (tn (nI t0)) = true := by rw [tn_nI (by omega), tn_nI (by omega)]; exact hbB_t b_42
                exact rtR_i hQ hx hb hr hlk dX8_crease_124 (by rw [cz2_t hok hok2, tn_nI (by omega), tn_nI (by omega), tn_nI (by omega), tn_nI (by omega)]; unfold crof absI; rw [if_neg c_113]; exact (Int32.zero_sub _).symm)
            · refine lv_iload_n hx hb dX8_crease_56 rfl (lv_at hl 1 rfl) ?_
              refine lv_iconst (v := nI 1) hx hb dX8_crease_57 (by decide) ?_
              refine gn_add hx hb dX8_crease_58 ?_
              refine lv_goto (tgt := 65) hx hb dX8_crease_59 (by decide) ?_
              have hnb : p0 + 1 = nb p0 t0 := (if_pos c_53).symm
              rw [hnb]
              have hnb2 : nb p0 t0 < 12 := nb_lt hp0 b_42
              refine lv_istore (lv' := [(5, .int (nI (nb p0 t0))), (0, .ref a), (1, .int (nI p0)), (2, .int (nI t0)), (3, .int (nI q0)), (4, .int (nI i0))]) hx hb dX8_crease_65 hl (by decide) rfl (fun ls hl => ?_)
              refine lv_aload_n hx hb dX8_crease_67 rfl (lv_at hl 1 rfl) ?_
              refine lv_iload_n hx hb dX8_crease_68 rfl (lv_at hl 2 rfl) ?_
              refine lv_iload_n hx hb dX8_crease_69 rfl (lv_at hl 3 rfl) ?_
              refine lv_bipush (v := nI 8) hx hb dX8_crease_70 (by decide) ?_
              refine lv_iload_n hx hb dX8_crease_72 rfl (lv_at hl 4 rfl) ?_
              refine lv_iload hx hb dX8_crease_73 (lv_at hl 5 rfl) ?_
              have hPc := hP.sub (ws' := [(a, .inr (8, [.ref g0, .ref g1, .ref g2, .ref g3, .int ik, .int rn, .int ps, .ref g4, .int ty, .ref g5, .ref g6, .int sp, .int fr, .int re, .int cau, .int co, .int cm, .ref g7])), (g0, .inl (cI, 240, .inl (MA G)))]) [0, 1] rfl
              refine clRe (E := pin G p0 t0 8 q0 i0) (va_runV (As := [.int (nI p0), .int (nI t0), .int (nI 8), .int (nI q0), .int (nI i0)]) (rest := []) ⟨hx, hb, hml, hown, hts⟩ (c_X8_across l D cI cC cQ a g0 g1 g2 g3 g4 g5 g6 g7 ik rn ps ty sp fr re cau co cm G p0 t0 8 q0 i0 (by first | assumption | omega) (by first | assumption | omega) (by first | assumption | omega) (by first | assumption | omega) (by first | assumption | omega) (by first | assumption | omega)) (cwV (rm := rmX8_across) 5 hts gX8_crease_X8_across rfl rfl rfl (by decide +kernel) ⟨Nat.le_of_ble_eq_true rfl, Nat.le_of_ble_eq_true rfl⟩) ⟨PR.blind, va_recv hKa hPc (ci := 8) (q0 := 0) rfl rfl, PR.go hPc hK⟩ rfl rfl hl.1 rfl (lv_room (Nat.le_of_ble_eq_true rfl)) dX8_crease_75 ⟨Nat.le_of_ble_eq_true rfl, Nat.le_of_ble_eq_true rfl⟩) ?_
              refine lv_istore (lv' := [(6, .int (pin G p0 t0 8 q0 i0)), (5, .int (nI (nb p0 t0))), (0, .ref a), (1, .int (nI p0)), (2, .int (nI t0)), (3, .int (nI q0)), (4, .int (nI i0))]) hx hb dX8_crease_78 hl (by decide) rfl (fun ls hl => ?_)
              refine lv_aload_n hx hb dX8_crease_80 rfl (lv_at hl 2 rfl) ?_
              refine lv_iload_n hx hb dX8_crease_81 rfl (lv_at hl 3 rfl) ?_
              refine lv_iload_n hx hb dX8_crease_82 rfl (lv_at hl 4 rfl) ?_
              refine lv_bipush (v := nI 7) hx hb dX8_crease_83 (by decide) ?_
              refine lv_iload_n hx hb dX8_crease_85 rfl (lv_at hl 5 rfl) ?_
              refine lv_iload hx hb dX8_crease_86 (lv_at hl 6 rfl) ?_
              have hPc := hP.sub (ws' := [(a, .inr (8, [.ref g0, .ref g1, .ref g2, .ref g3, .int ik, .int rn, .int ps, .ref g4, .int ty, .ref g5, .ref g6, .int sp, .int fr, .int re, .int cau, .int co, .int cm, .ref g7])), (g0, .inl (cI, 240, .inl (MA G)))]) [0, 1] rfl
              refine clRe (E := pin G p0 t0 7 q0 i0) (va_runV (As := [.int (nI p0), .int (nI t0), .int (nI 7), .int (nI q0), .int (nI i0)]) (rest := []) ⟨hx, hb, hml, hown, hts⟩ (c_X8_across l D cI cC cQ a g0 g1 g2 g3 g4 g5 g6 g7 ik rn ps ty sp fr re cau co cm G p0 t0 7 q0 i0 (by first | assumption | omega) (by first | assumption | omega) (by first | assumption | omega) (by first | assumption | omega) (by first | assumption | omega) (by first | assumption | omega)) (cwV (rm := rmX8_across) 5 hts gX8_crease_X8_across rfl rfl rfl (by decide +kernel) ⟨Nat.le_of_ble_eq_true rfl, Nat.le_of_ble_eq_true rfl⟩) ⟨PR.blind, va_recv hKa hPc (ci := 8) (q0 := 0) rfl rfl, PR.go hPc hK⟩ rfl rfl hl.1 rfl (lv_room (Nat.le_of_ble_eq_true rfl)) dX8_crease_88 ⟨Nat.le_of_ble_eq_true rfl, Nat.le_of_ble_eq_true rfl⟩) ?_
              refine lv_iload hx hb dX8_crease_91 (lv_at hl 0 rfl) ?_
              refine lv_isub hx hb dX8_crease_93 ?_
              refine lv_iload hx hb dX8_crease_94 (lv_at hl 0 rfl) ?_
              refine lv_aload_n hx hb dX8_crease_96 rfl (lv_at hl 2 rfl) ?_
              refine lv_iload hx hb dX8_crease_97 (lv_at hl 1 rfl) ?_
              refine lv_iload_n hx hb dX8_crease_99 rfl (lv_at hl 4 rfl) ?_
              refine lv_iconst (v := nI 1) hx hb dX8_crease_100 (by decide) ?_
              refine lv_iload_n hx hb dX8_crease_101 rfl (lv_at hl 5 rfl) ?_
              refine lv_iload hx hb dX8_crease_102 (lv_at hl 6 rfl) ?_
              have hPc := hP.sub (ws' := [(a, .inr (8, [.ref g0, .ref g1, .ref g2, .ref g3, .int ik, .int rn, .int ps, .ref g4, .int ty, .ref g5, .ref g6, .int sp, .int fr, .int re, .int cau, .int co, .int cm, .ref g7])), (g0, .inl (cI, 240, .inl (MA G)))]) [0, 1] rfl
              refine clRe (E := pin G (nb p0 t0) t0 1 q0 i0) (va_runV (As := [.int (nI (nb p0 t0)), .int (nI t0), .int (nI 1), .int (nI q0), .int (nI i0)]) (rest := [.int (pin G p0 t0 8 q0 i0), .int ((pin G p0 t0 7 q0 i0) - (pin G p0 t0 8 q0 i0))]) ⟨hx, hb, hml, hown, hts⟩ (c_X8_across l D cI cC cQ a g0 g1 g2 g3 g4 g5 g6 g7 ik rn ps ty sp fr re cau co cm G (nb p0 t0) t0 1 q0 i0 (by first | assumption | omega) (by first | assumption | omega) (by first | assumption | omega) (by first | assumption | omega) (by first | assumption | omega) (by first | assumption | omega)) (cwV (rm := rmX8_across) 5 hts gX8_crease_X8_across rfl rfl rfl (by decide +kernel) ⟨Nat.le_of_ble_eq_true rfl, Nat.le_of_ble_eq_true rfl⟩) ⟨PR.blind, va_recv hKa hPc (ci := 8) (q0 := 0) rfl rfl, PR.go hPc hK⟩ rfl rfl hl.1 rfl (lv_room (Nat.le_of_ble_eq_true rfl)) dX8_crease_104 ⟨Nat.le_of_ble_eq_true rfl, Nat.le_of_ble_eq_true rfl⟩) ?_
              refine lv_isub hx hb dX8_crease_107 ?_
              refine lv_isub hx hb dX8_crease_108 ?_
              refine lv_istore (lv' := [(7, .int (((pin G p0 t0 7 q0 i0) - (pin G p0 t0 8 q0 i0)) - ((pin G p0 t0 8 q0 i0) - (pin G (nb p0 t0) t0 1 q0 i0)))), (6, .int (pin G p0 t0 8 q0 i0)), (5, .int (nI (nb p0 t0))), (0, .ref a), (1, .int (nI p0)), (2, .int (nI t0)), (3, .int (nI q0)), (4, .int (nI i0))]) hx hb dX8_crease_109 hl (by decide) rfl (fun ls hl => ?_)
              refine lv_iload hx hb dX8_crease_111 (lv_at hl 0 rfl) ?_
              refine lv_if_ge hx hb (tgt := 122) dX8_crease_113 (by decide) (fun c_113 => ?_) (fun c_113 => ?_)
              · refine lv_iload hx hb dX8_crease_122 (lv_at hl 0 rfl) ?_
                have hok : okCr (nI p0) (nI t0) (nI q0) (nI i0) = true := decide_eq_true (⟨⟨⟨b_1, b_10⟩, b_20⟩, b_30⟩)
                have hok2 : hbB (tn (nI p0)) (tn (nI t0)) = true := by rw [tn_nI (by omega), tn_nI (by omega)]; exact hbB_t b_42
                exact rtR_i hQ hx hb hr hlk dX8_crease_124 (by rw [cz2_t hok hok2, tn_nI (by omega), tn_nI (by omega), tn_nI (by omega), tn_nI (by omega)]; unfold crof absI; rw [if_pos c_113])
              · refine lv_iload hx hb dX8_crease_116 (lv_at hl 0 rfl) ?_
                refine lv_ineg hx hb dX8_crease_118 ?_
                refine lv_goto (tgt := 124) hx hb dX8_crease_119 (by decide) ?_
                have hok : okCr (nI p0) (nI t0) (nI q0) (nI i0) = true := decide_eq_true (⟨⟨⟨b_1, b_10⟩, b_20⟩, b_30⟩)
                have hok2 : hbB (tn (nI p0)) (tn (nI t0)) = true := by rw [tn_nI (by omega), tn_nI (by omega)]; exact hbB_t b_42
                exact rtR_i hQ hx hb hr hlk dX8_crease_124 (by rw [cz2_t hok hok2, tn_nI (by omega), tn_nI (by omega), tn_nI (by omega), tn_nI (by omega)]; unfold crof absI; rw [if_neg c_113]; exact (Int32.zero_sub _).symm)
          · refine gn_if_ne hx hb (by decide) (tgt := 52) dX8_crease_45 (by decide) (fun cq => absurd cq (by decide)) (fun cq => ?_)
            refine lv_sipush (v := (-1004)) hx hb dX8_crease_48 (by decide) ?_
            have hok : okCr (nI p0) (nI t0) (nI q0) (nI i0) = true := decide_eq_true (⟨⟨⟨b_1, b_10⟩, b_20⟩, b_30⟩)
            have hok2 : hbB (tn (nI p0)) (tn (nI t0)) = false := by rw [tn_nI (by omega), tn_nI (by omega)]; exact hbB_f b_42
            exact rtR_i hQ hx hb hr hlk dX8_crease_51 ((cz2_n hok hok2).symm)
        · refine gn_if_ne hx hb (by decide) (tgt := 40) dX8_crease_33 (by decide) (fun cq => absurd cq (by decide)) (fun cq => ?_)
          refine lv_sipush (v := (-1001)) hx hb dX8_crease_36 (by decide) ?_
          have hok : okCr (nI p0) (nI t0) (nI q0) i = false := decide_eq_false (fun q => b_30 q.2)
          exact rtR_i hQ hx hb hr hlk dX8_crease_39 ((cz2_f hok).symm)
      · refine gn_if_eq hx hb (by decide) (tgt := 36) dX8_crease_23 (by decide) (fun cq => ?_) (fun cq => absurd cq (by decide))
        refine lv_sipush (v := (-1001)) hx hb dX8_crease_36 (by decide) ?_
        have hok : okCr (nI p0) (nI t0) q i = false := decide_eq_false (fun q => b_20 q.1.2)
        exact rtR_i hQ hx hb hr hlk dX8_crease_39 ((cz2_f hok).symm)
    · refine gn_if_eq hx hb (by decide) (tgt := 36) dX8_crease_13 (by decide) (fun cq => ?_) (fun cq => absurd cq (by decide))
      refine lv_sipush (v := (-1001)) hx hb dX8_crease_36 (by decide) ?_
      have hok : okCr (nI p0) t q i = false := decide_eq_false (fun q => b_10 q.1.1.2)
      exact rtR_i hQ hx hb hr hlk dX8_crease_39 ((cz2_f hok).symm)
  · refine gn_if_eq hx hb (by decide) (tgt := 36) dX8_crease_4 (by decide) (fun cq => ?_) (fun cq => absurd cq (by decide))
    refine lv_sipush (v := (-1001)) hx hb dX8_crease_36 (by decide) ?_
    have hok : okCr p t q i = false := decide_eq_false (fun q => b_1 q.1.1.1)
    exact rtR_i hQ hx hb hr hlk dX8_crease_39 ((cz2_f hok).symm)
abbrev rmX8_level : Room := { frames := 3, cells := 0, slots := 0, locals := 83 }
set_option maxHeartbeats 4000000 in
set_option maxRecDepth 100000 in
theorem c_X8_level (l : Launch) (D : va_G) (cI cC cQ : ClassId) (a g0 g1 g2 g3 g4 g5 g6 g7 : Nat) (ik rn ps ty sp fr re cau co cm : Int32) (G : Nat → Nat → Int32) (p i lo hi : Int32) (hG : OKG G) : Met l yX8_level wsX8_level rmX8_level (PR D cI cC cQ [.ref a, .int p, .int i, .int lo, .int hi] [(a, .inr (8, [.ref g0, .ref g1, .ref g2, .ref g3, .int ik, .int rn, .int ps, .ref g4, .int ty, .ref g5, .ref g6, .int sp, .int fr, .int re, .int cau, .int co, .int cm, .ref g7])), (g0, .inl (cI, 240, .inl (MA G)))]) (vp_Si (fun z => z = cz (okLv p i) (nI (sumN (lvN G (tn p) (tn i) lo hi) 81)))) 0 0 (fun _ => False) := by
  refine metR (cc := cX8_level) (maxL := 7) (ret := (some .int)) (by decide) rfl (Nat.le_of_ble_eq_true rfl) ?_
  intro pg ev s mi args below meth cd ls Q hQ hx hb hml hr hts hown hlk hK hP hl
  have hKa := hK.1
  have hl : lv_has ls 7 [(0, .ref a), (1, .int p), (2, .int i), (3, .int lo), (4, .int hi)] := hl
  refine lv_iload_n hx hb dX8_level_0 rfl (lv_at hl 1 rfl) ?_
  have hPc := hP.sub (ws' := []) [] rfl
  refine clR (va_runS (As := [.int p]) (rest := []) ⟨hx, hb, hml, hown, hts⟩ (c_X8_isPatch l D cI cC cQ p ) (va_cwS (rm := rmX8_isPatch) 1 hts gX8_level_X8_isPatch rfl rfl rfl (by decide +kernel) ⟨Nat.le_of_ble_eq_true rfl, Nat.le_of_ble_eq_true rfl⟩) ⟨PR.blind, PR.go hPc hK⟩ rfl rfl hl.1 rfl (lv_room (Nat.le_of_ble_eq_true rfl)) dX8_level_1 ⟨Nat.le_of_ble_eq_true rfl, Nat.le_of_ble_eq_true rfl⟩) (fun r_1 h_1 => ?_)
  rcases h_1 with ⟨b_1, rfl⟩ | ⟨b_1, rfl⟩
  · obtain ⟨p0, hp0, rfl⟩ := in_nat (M := 11) (by decide) b_1
    refine gn_if_eq hx hb (by decide) (tgt := 16) dX8_level_4 (by decide) (fun cq => absurd cq (by decide)) (fun cq => ?_)
    refine lv_iload_n hx hb dX8_level_7 rfl (lv_at hl 2 rfl) ?_
    refine lv_iconst (v := nI 0) hx hb dX8_level_8 (by decide) ?_
    refine lv_iconst (v := nI 2) hx hb dX8_level_9 (by decide) ?_
    have hPc := hP.sub (ws' := []) [] rfl
    refine clR (va_runS (As := [.int i, .int (nI 0), .int (nI 2)]) (rest := []) ⟨hx, hb, hml, hown, hts⟩ (c_X8_in l D cI cC cQ i (nI 0) (nI 2) ) (va_cwS (rm := rmX8_in) 3 hts gX8_level_X8_in rfl rfl rfl (by decide +kernel) ⟨Nat.le_of_ble_eq_true rfl, Nat.le_of_ble_eq_true rfl⟩) ⟨PR.blind, PR.go hPc hK⟩ rfl rfl hl.1 rfl (lv_room (Nat.le_of_ble_eq_true rfl)) dX8_level_10 ⟨Nat.le_of_ble_eq_true rfl, Nat.le_of_ble_eq_true rfl⟩) (fun r_10 h_10 => ?_)
    rcases h_10 with ⟨b_10, rfl⟩ | ⟨b_10, rfl⟩
    · obtain ⟨i0, hi0, rfl⟩ := in_nat (M := 2) (by decide) b_10
      refine gn_if_ne hx hb (by decide) (tgt := 20) dX8_level_13 (by decide) (fun cq => ?_) (fun cq => absurd cq (by decide))
      refine lv_iconst (v := nI 0) hx hb dX8_level_20 (by decide) ?_
      refine lv_istore (lv' := [(5, .int (nI 0)), (0, .ref a), (1, .int (nI p0)), (2, .int (nI i0)), (3, .int lo), (4, .int hi)]) hx hb dX8_level_21 hl (by decide) rfl (fun ls hl => ?_)
      refine lv_iconst (v := nI 0) hx hb dX8_level_23 (by decide) ?_
      refine lv_istore (lv' := [(6, .int (nI 0)), (5, .int (nI 0)), (0, .ref a), (1, .int (nI p0)), (2, .int (nI i0)), (3, .int lo), (4, .int hi)]) hx hb dX8_level_24 hl (by decide) rfl (fun ls hl => ?_)
      have L26 : ∀ (nn : Nat) (k : Nat) (u : Nat) (hk : k ≤ 81) (hu : u = sumN (lvN G p0 i0 lo hi) k) (_ : 81 - k < nn) (ls : Array Slot) (_ : lv_has ls 7 [(5, .int (nI u)), (6, .int (nI k)), (0, .ref a), (1, .int (nI p0)), (2, .int (nI i0)), (3, .int lo), (4, .int hi)]), W pg l ev (headSpec wsX8_level rmX8_level).room s mi args below meth cd s.heap [] 0 0 Q (F0 mi 26 ls []) := by
        intro nn
        induction nn with
        | zero =>
          intro k u hk hu hmeas
          exact absurd hmeas (Nat.not_lt_zero _)
        | succ nn ih26 =>
          intro k u hk hu hmeas  ls hl
          refine lv_iload hx hb dX8_level_26 (lv_at hl 1 rfl) ?_
          refine lv_bipush (v := nI 81) hx hb dX8_level_28 (by decide) ?_
          refine gn_icmp_ge hx hb (by omega) (by decide) (tgt := 74) dX8_level_30 (by decide) (fun c_30 => ?_) (fun c_30 => ?_)
          · refine lv_iload hx hb dX8_level_74 (lv_at hl 0 rfl) ?_
            have hok : okLv (nI p0) (nI i0) = true := decide_eq_true (⟨b_1, b_10⟩)
            exact rtR_i hQ hx hb hr hlk dX8_level_76 (by rw [cz_t hok, tn_nI (by omega), tn_nI (by omega), hu, show k = 81 by omega])
          · refine lv_iload hx hb dX8_level_33 (lv_at hl 0 rfl) ?_
            refine lv_aload_n hx hb dX8_level_35 rfl (lv_at hl 2 rfl) ?_
            refine lv_iload_n hx hb dX8_level_36 rfl (lv_at hl 3 rfl) ?_
            refine lv_iload hx hb dX8_level_37 (lv_at hl 1 rfl) ?_
            refine lv_bipush (v := nI 9) hx hb dX8_level_39 (by decide) ?_
            refine gn_rem hx hb (by omega) (by omega) (by omega) dX8_level_41 ?_
            refine lv_iload hx hb dX8_level_42 (lv_at hl 1 rfl) ?_
            refine lv_bipush (v := nI 9) hx hb dX8_level_44 (by decide) ?_
            refine gn_div hx hb (by omega) (by omega) (by omega) dX8_level_46 ?_
            refine lv_iload_n hx hb dX8_level_47 rfl (lv_at hl 4 rfl) ?_
            have hPc := hP.sub (ws' := [(a, .inr (8, [.ref g0, .ref g1, .ref g2, .ref g3, .int ik, .int rn, .int ps, .ref g4, .int ty, .ref g5, .ref g6, .int sp, .int fr, .int re, .int cau, .int co, .int cm, .ref g7])), (g0, .inl (cI, 240, .inl (MA G)))]) [0, 1] rfl
            refine clRe (E := colG G p0 (k % 9) (k / 9) i0) (va_runV (As := [.int (nI p0), .int (nI (k % 9)), .int (nI (k / 9)), .int (nI i0)]) (rest := [.int (nI u)]) ⟨hx, hb, hml, hown, hts⟩ (c_X8_colour l D cI cC cQ a g0 g1 g2 g3 g4 g5 g6 g7 ik rn ps ty sp fr re cau co cm G p0 (k % 9) (k / 9) i0 (by first | assumption | omega) (by first | assumption | omega) (by first | assumption | omega) (by first | assumption | omega) (by first | assumption | omega)) (cwV (rm := rmX8_colour) 4 hts gX8_level_X8_colour rfl rfl rfl (by decide +kernel) ⟨Nat.le_of_ble_eq_true rfl, Nat.le_of_ble_eq_true rfl⟩) ⟨PR.blind, va_recv hKa hPc (ci := 8) (q0 := 0) rfl rfl, PR.go hPc hK⟩ rfl rfl hl.1 rfl (lv_room (Nat.le_of_ble_eq_true rfl)) dX8_level_48 ⟨Nat.le_of_ble_eq_true rfl, Nat.le_of_ble_eq_true rfl⟩) ?_
            refine lv_iload_n hx hb dX8_level_51 rfl (lv_at hl 5 rfl) ?_
            refine lv_iload hx hb dX8_level_52 (lv_at hl 6 rfl) ?_
            have hPc := hP.sub (ws' := []) [] rfl
            refine clR (va_runS (As := [.int (colG G p0 (k % 9) (k / 9) i0), .int lo, .int hi]) (rest := [.int (nI u)]) ⟨hx, hb, hml, hown, hts⟩ (c_X8_in l D cI cC cQ (colG G p0 (k % 9) (k / 9) i0) lo hi ) (va_cwS (rm := rmX8_in) 3 hts gX8_level_X8_in rfl rfl rfl (by decide +kernel) ⟨Nat.le_of_ble_eq_true rfl, Nat.le_of_ble_eq_true rfl⟩) ⟨PR.blind, PR.go hPc hK⟩ rfl rfl hl.1 rfl (lv_room (Nat.le_of_ble_eq_true rfl)) dX8_level_54 ⟨Nat.le_of_ble_eq_true rfl, Nat.le_of_ble_eq_true rfl⟩) (fun r_54 h_54 => ?_)
            rcases h_54 with ⟨b_54, rfl⟩ | ⟨b_54, rfl⟩
            · refine gn_if_eq hx hb (by decide) (tgt := 64) dX8_level_57 (by decide) (fun cq => absurd cq (by decide)) (fun cq => ?_)
              refine lv_iconst (v := nI 1) hx hb dX8_level_60 (by decide) ?_
              refine lv_goto (tgt := 65) hx hb dX8_level_61 (by decide) ?_
              refine gn_add hx hb dX8_level_65 ?_
              refine lv_istore (lv' := [(5, .int (nI (u + 1))), (6, .int (nI k)), (0, .ref a), (1, .int (nI p0)), (2, .int (nI i0)), (3, .int lo), (4, .int hi)]) hx hb dX8_level_66 hl (by decide) rfl (fun ls hl => ?_)
              refine gn_iinc (lv' := [(6, .int (nI (k + 1))), (5, .int (nI (u + 1))), (0, .ref a), (1, .int (nI p0)), (2, .int (nI i0)), (3, .int lo), (4, .int hi)]) hx hb dX8_level_68 hl (k := 1) rfl (by decide) rfl (fun ls hl => ?_)
              refine lv_goto (tgt := 26) hx hb dX8_level_71 (by decide) ?_
              exact ih26 (k + 1) (u + 1) (show (k + 1) ≤ 81 from by first | omega | assumption | rfl) (show (u + 1) = sumN (lvN G p0 i0 lo hi) (k + 1) from by rw [hu]; show _ = _ + lvN G p0 i0 lo hi k; unfold lvN; rw [if_pos (show INN lo hi (colG G p0 (k % 9) (k / 9) i0) from b_54)]) (by first | omega | assumption) _ (lv_sub hl [1, 0, 2, 3, 4, 5, 6] rfl)
            · refine gn_if_eq hx hb (by decide) (tgt := 64) dX8_level_57 (by decide) (fun cq => ?_) (fun cq => absurd cq (by decide))
              refine lv_iconst (v := nI 0) hx hb dX8_level_64 (by decide) ?_
              refine gn_add hx hb dX8_level_65 ?_
              refine lv_istore (lv' := [(5, .int (nI (u + 0))), (6, .int (nI k)), (0, .ref a), (1, .int (nI p0)), (2, .int (nI i0)), (3, .int lo), (4, .int hi)]) hx hb dX8_level_66 hl (by decide) rfl (fun ls hl => ?_)
              refine gn_iinc (lv' := [(6, .int (nI (k + 1))), (5, .int (nI (u + 0))), (0, .ref a), (1, .int (nI p0)), (2, .int (nI i0)), (3, .int lo), (4, .int hi)]) hx hb dX8_level_68 hl (k := 1) rfl (by decide) rfl (fun ls hl => ?_)
              refine lv_goto (tgt := 26) hx hb dX8_level_71 (by decide) ?_
              exact ih26 (k + 1) (u + 0) (show (k + 1) ≤ 81 from by first | omega | assumption | rfl) (show (u + 0) = sumN (lvN G p0 i0 lo hi) (k + 1) from by rw [hu]; show _ = _ + lvN G p0 i0 lo hi k; unfold lvN; rw [if_neg (show ¬ INN lo hi (colG G p0 (k % 9) (k / 9) i0) from b_54)]) (by first | omega | assumption) _ (lv_sub hl [1, 0, 2, 3, 4, 5, 6] rfl)
      exact L26 ((81 - 0) + 1) 0 0 (show 0 ≤ 81 from by first | omega | assumption | rfl) (show 0 = sumN (lvN G p0 i0 lo hi) 0 from rfl) (Nat.lt_succ_self _) _ (lv_sub hl [1, 0, 2, 3, 4, 5, 6] rfl)
    · refine gn_if_ne hx hb (by decide) (tgt := 20) dX8_level_13 (by decide) (fun cq => absurd cq (by decide)) (fun cq => ?_)
      refine lv_sipush (v := (-1001)) hx hb dX8_level_16 (by decide) ?_
      have hok : okLv (nI p0) i = false := decide_eq_false (fun q => b_10 q.2)
      exact rtR_i hQ hx hb hr hlk dX8_level_19 ((cz_f hok).symm)
  · refine gn_if_eq hx hb (by decide) (tgt := 16) dX8_level_4 (by decide) (fun cq => ?_) (fun cq => absurd cq (by decide))
    refine lv_sipush (v := (-1001)) hx hb dX8_level_16 (by decide) ?_
    have hok : okLv p i = false := decide_eq_false (fun q => b_1 q.1)
    exact rtR_i hQ hx hb hr hlk dX8_level_19 ((cz_f hok).symm)
abbrev rmX8_calm : Room := { frames := 4, cells := 0, slots := 0, locals := 91 }
set_option maxRecDepth 20000 in
theorem iw_X8_calm_X8 : ∀ w ∈ u_ws RX8 TX8 18, w ∈ wsX8_calm := by decide +kernel
set_option maxHeartbeats 4000000 in
set_option maxRecDepth 100000 in
theorem c_X8_calm (l : Launch) (D : va_G) (cI cC cQ : ClassId) (a g0 g1 g2 g3 g4 g5 g6 g7 : Nat) (ik rn ps ty sp fr re cau co cm : Int32) (G : Nat → Nat → Int32) (f h : Nat → Int32) (sz : Nat) (hG : OKG G) : Met l yX8_calm wsX8_calm rmX8_calm (PW D cI cC cQ [.ref a] [(a, .inr (8, [.ref g0, .ref g1, .ref g2, .ref g3, .int ik, .int rn, .int ps, .ref g4, .int ty, .ref g5, .ref g6, .int sp, .int fr, .int re, .int cau, .int co, .int cm, .ref g7])), (g0, .inl (cI, 240, .inl (MA G))), (g3, .inl (cI, 240, .inl h)), (g5, .inl (cI, 60, .inl f))] sz) (va_Qi (fun (z : Int32) (u : Nat → Int32) => z = clF G 41 0) (fun (u : Nat → Int32) t9 => va_P D vwCl [(a, .inr (8, [.ref g0, .ref g1, .ref g2, .ref g3, .int ik, .int rn, .int ps, .ref g4, .int ty, .ref g5, .ref g6, .int sp, .int fr, .int re, .int cau, .int co, .int cm, .ref g7])), (g0, .inl (cI, 240, .inl (MA G))), (g3, .inl (cI, 240, .inl (MA G))), (g5, .inl (cI, 60, .inl u))] t9.heap) (va_A [(a, .inr (8, [.ref g0, .ref g1, .ref g2, .ref g3, .int ik, .int rn, .int ps, .ref g4, .int ty, .ref g5, .ref g6, .int sp, .int fr, .int re, .int cau, .int co, .int cm, .ref g7])), (g0, .inl (cI, 240, .inl (MA G))), (g3, .inl (cI, 240, .inl h)), (g5, .inl (cI, 60, .inl f))] sz)) 0 0 (va_A [(a, .inr (8, [.ref g0, .ref g1, .ref g2, .ref g3, .int ik, .int rn, .int ps, .ref g4, .int ty, .ref g5, .ref g6, .int sp, .int fr, .int re, .int cau, .int co, .int cm, .ref g7])), (g0, .inl (cI, 240, .inl (MA G))), (g3, .inl (cI, 240, .inl h)), (g5, .inl (cI, 60, .inl f))] sz) := by
  refine metW (y := yX8_calm) (ws := wsX8_calm) (rm := rmX8_calm) (D := D) (cI := cI) (cC := cC) (cQ := cQ) (av := [.ref a]) (wd := [(a, .inr (8, [.ref g0, .ref g1, .ref g2, .ref g3, .int ik, .int rn, .int ps, .ref g4, .int ty, .ref g5, .ref g6, .int sp, .int fr, .int re, .int cau, .int co, .int cm, .ref g7])), (g0, .inl (cI, 240, .inl (MA G))), (g3, .inl (cI, 240, .inl h)), (g5, .inl (cI, 60, .inl f))]) (sz := sz) (Qf := fun A => va_Qi (fun (z : Int32) (u : Nat → Int32) => z = clF G 41 0) (fun (u : Nat → Int32) t9 => va_P D vwCl [(a, .inr (8, [.ref g0, .ref g1, .ref g2, .ref g3, .int ik, .int rn, .int ps, .ref g4, .int ty, .ref g5, .ref g6, .int sp, .int fr, .int re, .int cau, .int co, .int cm, .ref g7])), (g0, .inl (cI, 240, .inl (MA G))), (g3, .inl (cI, 240, .inl (MA G))), (g5, .inl (cI, 60, .inl u))] t9.heap) A) (cc := cX8_calm) (maxL := 2) (ret := (some .int)) (by decide) rfl (Nat.le_of_ble_eq_true rfl) ?_
  intro pg ev s mi args below meth cd ls A Q hQ hx hb hml hr hts hown hlk hnm hK hP hD hS hA hl
  have hKa := hK.1
  have hl : lv_has ls 2 [(0, .ref a)] := hl
  refine lv_aload_n hx hb dX8_calm_0 rfl (lv_at hl 0 rfl) ?_
  refine va_get (D := D) (ci := 8) (v := .ref g0) (C := RX8) (T := TX8) (N := 18) hx hb hts iw_X8_calm_X8 hown hKa hP 0 rfl rfl 0 (by decide) (hts (.fieldLink RX8 7 "ColourPatchesModel" "s" "[I") (by decide +kernel)) (fun _ h9 => h9) rfl dX8_calm_1 ?_
  refine lv_aload_n hx hb dX8_calm_4 rfl (lv_at hl 0 rfl) ?_
  refine va_get (D := D) (ci := 8) (v := .ref g3) (C := RX8) (T := TX8) (N := 18) hx hb hts iw_X8_calm_X8 hown hKa hP 0 rfl rfl 3 (by decide) (hts (.fieldLink RX8 19 "ColourPatchesModel" "held" "[I") (by decide +kernel)) (fun _ h9 => h9) rfl dX8_calm_5 ?_
  have hPc := hP.sub (ws' := [(g0, .inl (cI, 240, .inl (MA G))), (g3, .inl (cI, 240, .inl h))]) [1, 2] rfl
  have hDc := hD.sub (ws' := [(g0, .inl (cI, 240, .inl (MA G))), (g3, .inl (cI, 240, .inl h))]) [1, 2] (by decide) rfl
  refine clV (wc := [(g0, .inl (cI, 240, .inl (MA G))), (g3, .inl (cI, 240, .inl h))]) (w1 := fun (u_8 : Unit) => [(g0, .inl (cI, 240, .inl (MA G))), (g3, .inl (cI, 240, .inl (MA G)))]) (wr := [(a, .inr (8, [.ref g0, .ref g1, .ref g2, .ref g3, .int ik, .int rn, .int ps, .ref g4, .int ty, .ref g5, .ref g6, .int sp, .int fr, .int re, .int cau, .int co, .int cm, .ref g7])), (g5, .inl (cI, 60, .inl f))]) (wn := fun (u_8 : Unit) => [(a, .inr (8, [.ref g0, .ref g1, .ref g2, .ref g3, .int ik, .int rn, .int ps, .ref g4, .int ty, .ref g5, .ref g6, .int sp, .int fr, .int re, .int cau, .int co, .int cm, .ref g7])), (g0, .inl (cI, 240, .inl (MA G))), (g3, .inl (cI, 240, .inl (MA G))), (g5, .inl (cI, 60, .inl f))]) hP hD hS hA [1, 2] [0, 3] [0, 2, 3, 1] rfl rfl rfl rfl (by decide) (fun _ => rfl) (fun _ => rfl) (fun _ => rfl) (va_runS (As := [.ref g0, .ref g3]) (rest := []) ⟨hx, hb, hml, hown, hts⟩ (c_X8_copies l D cI cC cQ g0 g3 (MA G) h s.heap.size ) (va_cwS (rm := rmX8_copies) 2 hts gX8_calm_X8_copies rfl rfl rfl (by decide +kernel) ⟨Nat.le_of_ble_eq_true rfl, Nat.le_of_ble_eq_true rfl⟩) ⟨PW.blind, PW.go hPc hK hDc⟩ rfl rfl hl.1 rfl (lv_room (Nat.le_of_ble_eq_true rfl)) dX8_calm_8 ⟨Nat.le_of_ble_eq_true rfl, Nat.le_of_ble_eq_true rfl⟩) (fun u_8 H locs h_8 hP hD hS => ?_)
  have hP : va_P D vwCl [(a, .inr (8, [.ref g0, .ref g1, .ref g2, .ref g3, .int ik, .int rn, .int ps, .ref g4, .int ty, .ref g5, .ref g6, .int sp, .int fr, .int re, .int cau, .int co, .int cm, .ref g7])), (g0, .inl (cI, 240, .inl (MA G))), (g3, .inl (cI, 240, .inl (MA G))), (g5, .inl (cI, 60, .inl f))] H := hP
  have hD : va_D A [(a, .inr (8, [.ref g0, .ref g1, .ref g2, .ref g3, .int ik, .int rn, .int ps, .ref g4, .int ty, .ref g5, .ref g6, .int sp, .int fr, .int re, .int cau, .int co, .int cm, .ref g7])), (g0, .inl (cI, 240, .inl (MA G))), (g3, .inl (cI, 240, .inl (MA G))), (g5, .inl (cI, 60, .inl f))] := hD
  refine lv_iconst (v := nI 0) hx hb dX8_calm_11 (by decide) ?_
  refine lv_istore_n (lv' := [(1, .int (nI 0)), (0, .ref a)]) hx hb dX8_calm_12 rfl hl (by decide) rfl (fun ls hl => ?_)
  have L13 : ∀ (nn : Nat) (j : Nat) (f2 : Nat → Int32) (hj : j ≤ 41) (hcl : clF G (41 - j) j = clF G 41 0) (_ : 41 - j < nn) (H : Heap) (locs : List Loc) (hP : va_P D vwCl [(a, .inr (8, [.ref g0, .ref g1, .ref g2, .ref g3, .int ik, .int rn, .int ps, .ref g4, .int ty, .ref g5, .ref g6, .int sp, .int fr, .int re, .int cau, .int co, .int cm, .ref g7])), (g0, .inl (cI, 240, .inl (MA (itG G j)))), (g3, .inl (cI, 240, .inl (MA G))), (g5, .inl (cI, 60, .inl f2))] H) (hD : va_D A [(a, .inr (8, [.ref g0, .ref g1, .ref g2, .ref g3, .int ik, .int rn, .int ps, .ref g4, .int ty, .ref g5, .ref g6, .int sp, .int fr, .int re, .int cau, .int co, .int cm, .ref g7])), (g0, .inl (cI, 240, .inl (MA (itG G j)))), (g3, .inl (cI, 240, .inl (MA G))), (g5, .inl (cI, 60, .inl f2))]) (hS : va_S A s.heap H locs) (ls : Array Slot) (_ : lv_has ls 2 [(1, .int (nI j)), (0, .ref a)]), W pg l ev (headSpec wsX8_calm rmX8_calm).room s mi args below meth cd H locs 0 0 Q (F0 mi 13 ls []) := by
    intro nn
    induction nn with
    | zero =>
      intro j f2 hj hcl hmeas
      exact absurd hmeas (Nat.not_lt_zero _)
    | succ nn ih13 =>
      intro j f2 hj hcl hmeas H locs hP hD hS ls hl
      refine lv_iload_n hx hb dX8_calm_13 rfl (lv_at hl 0 rfl) ?_
      refine lv_bipush (v := nI 40) hx hb dX8_calm_14 (by decide) ?_
      refine gn_icmp_gt hx hb (by omega) (by decide) (tgt := 32) dX8_calm_16 (by decide) (fun c_16 => ?_) (fun c_16 => ?_)
      · refine lv_aload_n hx hb dX8_calm_32 rfl (lv_at hl 1 rfl) ?_
        refine va_get (D := D) (ci := 8) (v := .ref g3) (C := RX8) (T := TX8) (N := 18) hx hb hts iw_X8_calm_X8 hown hKa hP 0 rfl rfl 3 (by decide) (hts (.fieldLink RX8 19 "ColourPatchesModel" "held" "[I") (by decide +kernel)) (fun _ h9 => h9) rfl dX8_calm_33 ?_
        refine lv_aload_n hx hb dX8_calm_36 rfl (lv_at hl 1 rfl) ?_
        refine va_get (D := D) (ci := 8) (v := .ref g0) (C := RX8) (T := TX8) (N := 18) hx hb hts iw_X8_calm_X8 hown hKa hP 0 rfl rfl 0 (by decide) (hts (.fieldLink RX8 7 "ColourPatchesModel" "s" "[I") (by decide +kernel)) (fun _ h9 => h9) rfl dX8_calm_37 ?_
        have hPc := hP.sub (ws' := [(g3, .inl (cI, 240, .inl (MA G))), (g0, .inl (cI, 240, .inl (MA (itG G j))))]) [2, 1] rfl
        have hDc := hD.sub (ws' := [(g3, .inl (cI, 240, .inl (MA G))), (g0, .inl (cI, 240, .inl (MA (itG G j))))]) [2, 1] (by decide) rfl
        refine clV (wc := [(g3, .inl (cI, 240, .inl (MA G))), (g0, .inl (cI, 240, .inl (MA (itG G j))))]) (w1 := fun (u_40 : Unit) => [(g3, .inl (cI, 240, .inl (MA G))), (g0, .inl (cI, 240, .inl (MA G)))]) (wr := [(a, .inr (8, [.ref g0, .ref g1, .ref g2, .ref g3, .int ik, .int rn, .int ps, .ref g4, .int ty, .ref g5, .ref g6, .int sp, .int fr, .int re, .int cau, .int co, .int cm, .ref g7])), (g5, .inl (cI, 60, .inl f2))]) (wn := fun (u_40 : Unit) => [(a, .inr (8, [.ref g0, .ref g1, .ref g2, .ref g3, .int ik, .int rn, .int ps, .ref g4, .int ty, .ref g5, .ref g6, .int sp, .int fr, .int re, .int cau, .int co, .int cm, .ref g7])), (g0, .inl (cI, 240, .inl (MA G))), (g3, .inl (cI, 240, .inl (MA G))), (g5, .inl (cI, 60, .inl f2))]) hP hD hS hA [2, 1] [0, 3] [0, 3, 2, 1] rfl rfl rfl rfl (by decide) (fun _ => rfl) (fun _ => rfl) (fun _ => rfl) (va_runS (As := [.ref g3, .ref g0]) (rest := []) ⟨hx, hb, hml, hown, hts⟩ (c_X8_copies l D cI cC cQ g3 g0 (MA G) (MA (itG G j)) H.size ) (va_cwS (rm := rmX8_copies) 2 hts gX8_calm_X8_copies rfl rfl rfl (by decide +kernel) ⟨Nat.le_of_ble_eq_true rfl, Nat.le_of_ble_eq_true rfl⟩) ⟨PW.blind, PW.go hPc hK hDc⟩ rfl rfl hl.1 rfl (lv_room (Nat.le_of_ble_eq_true rfl)) dX8_calm_40 ⟨Nat.le_of_ble_eq_true rfl, Nat.le_of_ble_eq_true rfl⟩) (fun u_40 H locs h_40 hP hD hS => ?_)
        have hP : va_P D vwCl [(a, .inr (8, [.ref g0, .ref g1, .ref g2, .ref g3, .int ik, .int rn, .int ps, .ref g4, .int ty, .ref g5, .ref g6, .int sp, .int fr, .int re, .int cau, .int co, .int cm, .ref g7])), (g0, .inl (cI, 240, .inl (MA G))), (g3, .inl (cI, 240, .inl (MA G))), (g5, .inl (cI, 60, .inl f2))] H := hP
        have hD : va_D A [(a, .inr (8, [.ref g0, .ref g1, .ref g2, .ref g3, .int ik, .int rn, .int ps, .ref g4, .int ty, .ref g5, .ref g6, .int sp, .int fr, .int re, .int cau, .int co, .int cm, .ref g7])), (g0, .inl (cI, 240, .inl (MA G))), (g3, .inl (cI, 240, .inl (MA G))), (g5, .inl (cI, 60, .inl f2))] := hD
        refine lv_iload_n hx hb dX8_calm_43 rfl (lv_at hl 0 rfl) ?_
        refine lv_bipush (v := nI 40) hx hb dX8_calm_44 (by decide) ?_
        refine gn_icmp_le hx hb (by omega) (by decide) (tgt := 55) dX8_calm_46 (by decide) (fun c_46 => ?_) (fun c_46 => ?_)
        · exact absurd c_46 (by omega)
        · refine lv_sipush (v := (-1004)) hx hb dX8_calm_49 (by decide) ?_
          refine lv_goto (tgt := 56) hx hb dX8_calm_52 (by decide) ?_
          exact rtW_i f2 hQ hx hb hr hlk hS hP dX8_calm_56 (by rw [← hcl, show j = 41 by omega]; rfl)
      · refine lv_aload_n hx hb dX8_calm_19 rfl (lv_at hl 1 rfl) ?_
        have hPc := hP.sub (ws' := [(a, .inr (8, [.ref g0, .ref g1, .ref g2, .ref g3, .int ik, .int rn, .int ps, .ref g4, .int ty, .ref g5, .ref g6, .int sp, .int fr, .int re, .int cau, .int co, .int cm, .ref g7])), (g0, .inl (cI, 240, .inl (MA (itG G j)))), (g5, .inl (cI, 60, .inl f2))]) [0, 1, 3] rfl
        have hDc := hD.sub (ws' := [(a, .inr (8, [.ref g0, .ref g1, .ref g2, .ref g3, .int ik, .int rn, .int ps, .ref g4, .int ty, .ref g5, .ref g6, .int sp, .int fr, .int re, .int cau, .int co, .int cm, .ref g7])), (g0, .inl (cI, 240, .inl (MA (itG G j)))), (g5, .inl (cI, 60, .inl f2))]) [0, 1, 3] (by decide) rfl
        refine clW (wc := [(a, .inr (8, [.ref g0, .ref g1, .ref g2, .ref g3, .int ik, .int rn, .int ps, .ref g4, .int ty, .ref g5, .ref g6, .int sp, .int fr, .int re, .int cau, .int co, .int cm, .ref g7])), (g0, .inl (cI, 240, .inl (MA (itG G j)))), (g5, .inl (cI, 60, .inl f2))]) (w1 := fun (u_20 : Unit) => [(a, .inr (8, [.ref g0, .ref g1, .ref g2, .ref g3, .int ik, .int rn, .int ps, .ref g4, .int ty, .ref g5, .ref g6, .int sp, .int fr, .int re, .int cau, .int co, .int cm, .ref g7])), (g0, .inl (cI, 240, .inl (MA (roundG (itG G j))))), (g5, .inl (cI, 60, .inl (nxG (itG G j))))]) (wr := [(g3, .inl (cI, 240, .inl (MA G)))]) (wn := fun (u_20 : Unit) => [(a, .inr (8, [.ref g0, .ref g1, .ref g2, .ref g3, .int ik, .int rn, .int ps, .ref g4, .int ty, .ref g5, .ref g6, .int sp, .int fr, .int re, .int cau, .int co, .int cm, .ref g7])), (g0, .inl (cI, 240, .inl (MA (roundG (itG G j))))), (g3, .inl (cI, 240, .inl (MA G))), (g5, .inl (cI, 60, .inl (nxG (itG G j))))]) hP hD hS hA [0, 1, 3] [2] [1, 2, 0, 3] rfl rfl rfl rfl (by decide) (fun _ => rfl) (fun _ => rfl) (fun _ => rfl) (va_runV (As := []) (rest := []) ⟨hx, hb, hml, hown, hts⟩ (c_X8_round l D cI cC cQ a g0 g1 g2 g3 g4 g5 g6 g7 ik rn ps ty sp fr re cau co cm (itG G j) f2 H.size (OK_it hG j)) (cwV (rm := rmX8_round) 0 hts gX8_calm_X8_round rfl rfl rfl (by decide +kernel) ⟨Nat.le_of_ble_eq_true rfl, Nat.le_of_ble_eq_true rfl⟩) ⟨PW.blind, va_recv hKa hPc (ci := 8) (q0 := 0) rfl rfl, PW.go hPc hK hDc⟩ rfl rfl hl.1 rfl (lv_room (Nat.le_of_ble_eq_true rfl)) dX8_calm_20 ⟨Nat.le_of_ble_eq_true rfl, Nat.le_of_ble_eq_true rfl⟩) (fun r_20 u_20 H locs h_20 hP hD hS => ?_)
        have hP : va_P D vwCl [(a, .inr (8, [.ref g0, .ref g1, .ref g2, .ref g3, .int ik, .int rn, .int ps, .ref g4, .int ty, .ref g5, .ref g6, .int sp, .int fr, .int re, .int cau, .int co, .int cm, .ref g7])), (g0, .inl (cI, 240, .inl (MA (roundG (itG G j))))), (g3, .inl (cI, 240, .inl (MA G))), (g5, .inl (cI, 60, .inl (nxG (itG G j))))] H := hP
        have hD : va_D A [(a, .inr (8, [.ref g0, .ref g1, .ref g2, .ref g3, .int ik, .int rn, .int ps, .ref g4, .int ty, .ref g5, .ref g6, .int sp, .int fr, .int re, .int cau, .int co, .int cm, .ref g7])), (g0, .inl (cI, 240, .inl (MA (roundG (itG G j))))), (g3, .inl (cI, 240, .inl (MA G))), (g5, .inl (cI, 60, .inl (nxG (itG G j))))] := hD
        have qr_20 : r_20 = nI (sumN (chN (itG G j)) 20) := h_20
        rw [qr_20]
        have hch_20 : sumN (chN (itG G j)) 20 < 21 := chs_lt ((itG G j))
        refine gn_if_le hx hb (by omega) (tgt := 32) dX8_calm_23 (by decide) (fun c_23 => ?_) (fun c_23 => ?_)
        · refine lv_aload_n hx hb dX8_calm_32 rfl (lv_at hl 1 rfl) ?_
          refine va_get (D := D) (ci := 8) (v := .ref g3) (C := RX8) (T := TX8) (N := 18) hx hb hts iw_X8_calm_X8 hown hKa hP 0 rfl rfl 3 (by decide) (hts (.fieldLink RX8 19 "ColourPatchesModel" "held" "[I") (by decide +kernel)) (fun _ h9 => h9) rfl dX8_calm_33 ?_
          refine lv_aload_n hx hb dX8_calm_36 rfl (lv_at hl 1 rfl) ?_
          refine va_get (D := D) (ci := 8) (v := .ref g0) (C := RX8) (T := TX8) (N := 18) hx hb hts iw_X8_calm_X8 hown hKa hP 0 rfl rfl 0 (by decide) (hts (.fieldLink RX8 7 "ColourPatchesModel" "s" "[I") (by decide +kernel)) (fun _ h9 => h9) rfl dX8_calm_37 ?_
          have hPc := hP.sub (ws' := [(g3, .inl (cI, 240, .inl (MA G))), (g0, .inl (cI, 240, .inl (MA (roundG (itG G j)))))]) [2, 1] rfl
          have hDc := hD.sub (ws' := [(g3, .inl (cI, 240, .inl (MA G))), (g0, .inl (cI, 240, .inl (MA (roundG (itG G j)))))]) [2, 1] (by decide) rfl
          refine clV (wc := [(g3, .inl (cI, 240, .inl (MA G))), (g0, .inl (cI, 240, .inl (MA (roundG (itG G j)))))]) (w1 := fun (u_40 : Unit) => [(g3, .inl (cI, 240, .inl (MA G))), (g0, .inl (cI, 240, .inl (MA G)))]) (wr := [(a, .inr (8, [.ref g0, .ref g1, .ref g2, .ref g3, .int ik, .int rn, .int ps, .ref g4, .int ty, .ref g5, .ref g6, .int sp, .int fr, .int re, .int cau, .int co, .int cm, .ref g7])), (g5, .inl (cI, 60, .inl (nxG (itG G j))))]) (wn := fun (u_40 : Unit) => [(a, .inr (8, [.ref g0, .ref g1, .ref g2, .ref g3, .int ik, .int rn, .int ps, .ref g4, .int ty, .ref g5, .ref g6, .int sp, .int fr, .int re, .int cau, .int co, .int cm, .ref g7])), (g0, .inl (cI, 240, .inl (MA G))), (g3, .inl (cI, 240, .inl (MA G))), (g5, .inl (cI, 60, .inl (nxG (itG G j))))]) hP hD hS hA [2, 1] [0, 3] [0, 3, 2, 1] rfl rfl rfl rfl (by decide) (fun _ => rfl) (fun _ => rfl) (fun _ => rfl) (va_runS (As := [.ref g3, .ref g0]) (rest := []) ⟨hx, hb, hml, hown, hts⟩ (c_X8_copies l D cI cC cQ g3 g0 (MA G) (MA (roundG (itG G j))) H.size ) (va_cwS (rm := rmX8_copies) 2 hts gX8_calm_X8_copies rfl rfl rfl (by decide +kernel) ⟨Nat.le_of_ble_eq_true rfl, Nat.le_of_ble_eq_true rfl⟩) ⟨PW.blind, PW.go hPc hK hDc⟩ rfl rfl hl.1 rfl (lv_room (Nat.le_of_ble_eq_true rfl)) dX8_calm_40 ⟨Nat.le_of_ble_eq_true rfl, Nat.le_of_ble_eq_true rfl⟩) (fun u_40 H locs h_40 hP hD hS => ?_)
          have hP : va_P D vwCl [(a, .inr (8, [.ref g0, .ref g1, .ref g2, .ref g3, .int ik, .int rn, .int ps, .ref g4, .int ty, .ref g5, .ref g6, .int sp, .int fr, .int re, .int cau, .int co, .int cm, .ref g7])), (g0, .inl (cI, 240, .inl (MA G))), (g3, .inl (cI, 240, .inl (MA G))), (g5, .inl (cI, 60, .inl (nxG (itG G j))))] H := hP
          have hD : va_D A [(a, .inr (8, [.ref g0, .ref g1, .ref g2, .ref g3, .int ik, .int rn, .int ps, .ref g4, .int ty, .ref g5, .ref g6, .int sp, .int fr, .int re, .int cau, .int co, .int cm, .ref g7])), (g0, .inl (cI, 240, .inl (MA G))), (g3, .inl (cI, 240, .inl (MA G))), (g5, .inl (cI, 60, .inl (nxG (itG G j))))] := hD
          refine lv_iload_n hx hb dX8_calm_43 rfl (lv_at hl 0 rfl) ?_
          refine lv_bipush (v := nI 40) hx hb dX8_calm_44 (by decide) ?_
          refine gn_icmp_le hx hb (by omega) (by decide) (tgt := 55) dX8_calm_46 (by decide) (fun c_46 => ?_) (fun c_46 => ?_)
          · refine lv_iload_n hx hb dX8_calm_55 rfl (lv_at hl 0 rfl) ?_
            exact rtW_i (nxG (itG G j)) hQ hx hb hr hlk hS hP dX8_calm_56 (by rw [← hcl, clF_s G j (by omega), if_pos c_23])
          · exact absurd c_46 (by omega)
        · refine gn_iinc (lv' := [(1, .int (nI (j + 1))), (0, .ref a)]) hx hb dX8_calm_26 hl (k := 0) rfl (by decide) rfl (fun ls hl => ?_)
          refine lv_goto (tgt := 13) hx hb dX8_calm_29 (by decide) ?_
          exact ih13 (j + 1) (nxG (itG G j)) (show (j + 1) ≤ 41 from by first | omega | assumption | rfl) (show clF G (41 - (j + 1)) (j + 1) = clF G 41 0 from by rw [← hcl, clF_s G j (by omega), if_neg (by omega)]) (by first | omega | assumption) H locs hP hD hS _ (lv_sub hl [0, 1] rfl)
  exact L13 ((41 - 0) + 1) 0 f (show 0 ≤ 41 from by first | omega | assumption | rfl) (show clF G (41 - 0) 0 = clF G 41 0 from rfl) (Nat.lt_succ_self _) H locs hP hD hS _ (lv_sub hl [0, 1] rfl)
abbrev rmX8_keep : Room := { frames := 1, cells := 0, slots := 0, locals := 22 }
set_option maxRecDepth 20000 in
theorem iw_X8_keep_X8 : ∀ w ∈ u_ws RX8 TX8 18, w ∈ wsX8_keep := by decide +kernel
set_option maxHeartbeats 4000000 in
set_option maxRecDepth 100000 in
theorem c_X8_keep (l : Launch) (D : va_G) (cI cC cQ : ClassId) (a g0 g1 g2 g3 g4 g5 g6 g7 : Nat) (ik rn ps ty sp fr re cau co cm : Int32) (G : Nat → Nat → Int32) (h : Nat → Int32) (sz : Nat) : Met l yX8_keep wsX8_keep rmX8_keep (PW D cI cC cQ [.ref a] [(a, .inr (8, [.ref g0, .ref g1, .ref g2, .ref g3, .int ik, .int rn, .int ps, .ref g4, .int ty, .ref g5, .ref g6, .int sp, .int fr, .int re, .int cau, .int co, .int cm, .ref g7])), (g0, .inl (cI, 240, .inl (MA G))), (g2, .inl (cI, 240, .inl h))] sz) (va_Qi (fun (z : Int32) (u : Unit) => z = sumI (HA G) 20) (fun (u : Unit) t9 => va_P D vwCl [(a, .inr (8, [.ref g0, .ref g1, .ref g2, .ref g3, .int (nI 1), .int rn, .int ps, .ref g4, .int ty, .ref g5, .ref g6, .int sp, .int fr, .int re, .int cau, .int co, .int cm, .ref g7])), (g0, .inl (cI, 240, .inl (MA G))), (g2, .inl (cI, 240, .inl (MA G)))] t9.heap) (va_A [(a, .inr (8, [.ref g0, .ref g1, .ref g2, .ref g3, .int ik, .int rn, .int ps, .ref g4, .int ty, .ref g5, .ref g6, .int sp, .int fr, .int re, .int cau, .int co, .int cm, .ref g7])), (g0, .inl (cI, 240, .inl (MA G))), (g2, .inl (cI, 240, .inl h))] sz)) 0 0 (va_A [(a, .inr (8, [.ref g0, .ref g1, .ref g2, .ref g3, .int ik, .int rn, .int ps, .ref g4, .int ty, .ref g5, .ref g6, .int sp, .int fr, .int re, .int cau, .int co, .int cm, .ref g7])), (g0, .inl (cI, 240, .inl (MA G))), (g2, .inl (cI, 240, .inl h))] sz) := by
  refine metW (y := yX8_keep) (ws := wsX8_keep) (rm := rmX8_keep) (D := D) (cI := cI) (cC := cC) (cQ := cQ) (av := [.ref a]) (wd := [(a, .inr (8, [.ref g0, .ref g1, .ref g2, .ref g3, .int ik, .int rn, .int ps, .ref g4, .int ty, .ref g5, .ref g6, .int sp, .int fr, .int re, .int cau, .int co, .int cm, .ref g7])), (g0, .inl (cI, 240, .inl (MA G))), (g2, .inl (cI, 240, .inl h))]) (sz := sz) (Qf := fun A => va_Qi (fun (z : Int32) (u : Unit) => z = sumI (HA G) 20) (fun (u : Unit) t9 => va_P D vwCl [(a, .inr (8, [.ref g0, .ref g1, .ref g2, .ref g3, .int (nI 1), .int rn, .int ps, .ref g4, .int ty, .ref g5, .ref g6, .int sp, .int fr, .int re, .int cau, .int co, .int cm, .ref g7])), (g0, .inl (cI, 240, .inl (MA G))), (g2, .inl (cI, 240, .inl (MA G)))] t9.heap) A) (cc := cX8_keep) (maxL := 1) (ret := (some .int)) (by decide) rfl (Nat.le_of_ble_eq_true rfl) ?_
  intro pg ev s mi args below meth cd ls A Q hQ hx hb hml hr hts hown hlk hnm hK hP hD hS hA hl
  have hKa := hK.1
  have hl : lv_has ls 1 [(0, .ref a)] := hl
  refine lv_aload_n hx hb dX8_keep_0 rfl (lv_at hl 0 rfl) ?_
  refine va_get (D := D) (ci := 8) (v := .ref g0) (C := RX8) (T := TX8) (N := 18) hx hb hts iw_X8_keep_X8 hown hKa hP 0 rfl rfl 0 (by decide) (hts (.fieldLink RX8 7 "ColourPatchesModel" "s" "[I") (by decide +kernel)) (fun _ h9 => h9) rfl dX8_keep_1 ?_
  refine lv_aload_n hx hb dX8_keep_4 rfl (lv_at hl 0 rfl) ?_
  refine va_get (D := D) (ci := 8) (v := .ref g2) (C := RX8) (T := TX8) (N := 18) hx hb hts iw_X8_keep_X8 hown hKa hP 0 rfl rfl 2 (by decide) (hts (.fieldLink RX8 16 "ColourPatchesModel" "kept" "[I") (by decide +kernel)) (fun _ h9 => h9) rfl dX8_keep_5 ?_
  have hPc := hP.sub (ws' := [(g0, .inl (cI, 240, .inl (MA G))), (g2, .inl (cI, 240, .inl h))]) [1, 2] rfl
  have hDc := hD.sub (ws' := [(g0, .inl (cI, 240, .inl (MA G))), (g2, .inl (cI, 240, .inl h))]) [1, 2] (by decide) rfl
  refine clV (wc := [(g0, .inl (cI, 240, .inl (MA G))), (g2, .inl (cI, 240, .inl h))]) (w1 := fun (u_8 : Unit) => [(g0, .inl (cI, 240, .inl (MA G))), (g2, .inl (cI, 240, .inl (MA G)))]) (wr := [(a, .inr (8, [.ref g0, .ref g1, .ref g2, .ref g3, .int ik, .int rn, .int ps, .ref g4, .int ty, .ref g5, .ref g6, .int sp, .int fr, .int re, .int cau, .int co, .int cm, .ref g7]))]) (wn := fun (u_8 : Unit) => [(a, .inr (8, [.ref g0, .ref g1, .ref g2, .ref g3, .int ik, .int rn, .int ps, .ref g4, .int ty, .ref g5, .ref g6, .int sp, .int fr, .int re, .int cau, .int co, .int cm, .ref g7])), (g0, .inl (cI, 240, .inl (MA G))), (g2, .inl (cI, 240, .inl (MA G)))]) hP hD hS hA [1, 2] [0] [0, 1, 2] rfl rfl rfl rfl (by decide) (fun _ => rfl) (fun _ => rfl) (fun _ => rfl) (va_runS (As := [.ref g0, .ref g2]) (rest := []) ⟨hx, hb, hml, hown, hts⟩ (c_X8_copies l D cI cC cQ g0 g2 (MA G) h s.heap.size ) (va_cwS (rm := rmX8_copies) 2 hts gX8_keep_X8_copies rfl rfl rfl (by decide +kernel) ⟨Nat.le_of_ble_eq_true rfl, Nat.le_of_ble_eq_true rfl⟩) ⟨PW.blind, PW.go hPc hK hDc⟩ rfl rfl hl.1 rfl (lv_room (Nat.le_of_ble_eq_true rfl)) dX8_keep_8 ⟨Nat.le_of_ble_eq_true rfl, Nat.le_of_ble_eq_true rfl⟩) (fun u_8 H locs h_8 hP hD hS => ?_)
  have hP : va_P D vwCl [(a, .inr (8, [.ref g0, .ref g1, .ref g2, .ref g3, .int ik, .int rn, .int ps, .ref g4, .int ty, .ref g5, .ref g6, .int sp, .int fr, .int re, .int cau, .int co, .int cm, .ref g7])), (g0, .inl (cI, 240, .inl (MA G))), (g2, .inl (cI, 240, .inl (MA G)))] H := hP
  have hD : va_D A [(a, .inr (8, [.ref g0, .ref g1, .ref g2, .ref g3, .int ik, .int rn, .int ps, .ref g4, .int ty, .ref g5, .ref g6, .int sp, .int fr, .int re, .int cau, .int co, .int cm, .ref g7])), (g0, .inl (cI, 240, .inl (MA G))), (g2, .inl (cI, 240, .inl (MA G)))] := hD
  refine lv_aload_n hx hb dX8_keep_11 rfl (lv_at hl 0 rfl) ?_
  refine lv_iconst (v := nI 1) hx hb dX8_keep_12 (by decide) ?_
  refine va_put (D := D) (ci := 8) (v := .int (nI 1)) (ty := .boolean) (C := RX8) (T := TX8) (N := 18) hx hb hts iw_X8_keep_X8 tyX8 tyX8_ok nmX8 hown hKa hP hD hS 0 rfl rfl 4 (by decide) (hts (.fieldLink RX8 129 "ColourPatchesModel" "isKept" "Z") (by decide +kernel)) (fun _ h9 => h9) rfl (by decide +kernel) (by decide +kernel) (by decide +kernel) (Nat.le_of_ble_eq_true rfl) dX8_keep_13 (fun H locs hP hD hS => ?_)
  have hP : va_P D vwCl [(a, .inr (8, [.ref g0, .ref g1, .ref g2, .ref g3, .int (nI 1), .int rn, .int ps, .ref g4, .int ty, .ref g5, .ref g6, .int sp, .int fr, .int re, .int cau, .int co, .int cm, .ref g7])), (g0, .inl (cI, 240, .inl (MA G))), (g2, .inl (cI, 240, .inl (MA G)))] H := hP
  have hD : va_D A [(a, .inr (8, [.ref g0, .ref g1, .ref g2, .ref g3, .int (nI 1), .int rn, .int ps, .ref g4, .int ty, .ref g5, .ref g6, .int sp, .int fr, .int re, .int cau, .int co, .int cm, .ref g7])), (g0, .inl (cI, 240, .inl (MA G))), (g2, .inl (cI, 240, .inl (MA G)))] := hD
  refine lv_aload_n hx hb dX8_keep_16 rfl (lv_at hl 0 rfl) ?_
  have hPc := hP.sub (ws' := [(a, .inr (8, [.ref g0, .ref g1, .ref g2, .ref g3, .int (nI 1), .int rn, .int ps, .ref g4, .int ty, .ref g5, .ref g6, .int sp, .int fr, .int re, .int cau, .int co, .int cm, .ref g7])), (g0, .inl (cI, 240, .inl (MA G)))]) [0, 1] rfl
  refine clRe (E := sumI (HA G) 20) (va_runV (As := []) (rest := []) ⟨hx, hb, hml, hown, hts⟩ (c_X8_heldCorners l D cI cC cQ a g0 g1 g2 g3 g4 g5 g6 g7 (nI 1) rn ps ty sp fr re cau co cm G ) (cwV (rm := rmX8_heldCorners) 0 hts gX8_keep_X8_heldCorners rfl rfl rfl (by decide +kernel) ⟨Nat.le_of_ble_eq_true rfl, Nat.le_of_ble_eq_true rfl⟩) ⟨PR.blind, va_recv hKa hPc (ci := 8) (q0 := 0) rfl rfl, PR.go hPc hK⟩ rfl rfl hl.1 rfl (lv_room (Nat.le_of_ble_eq_true rfl)) dX8_keep_17 ⟨Nat.le_of_ble_eq_true rfl, Nat.le_of_ble_eq_true rfl⟩) ?_
  exact rtW_i () hQ hx hb hr hlk hS hP dX8_keep_20 (rfl)
abbrev rmX8_restore : Room := { frames := 1, cells := 0, slots := 0, locals := 22 }
set_option maxRecDepth 20000 in
theorem iw_X8_restore_X8 : ∀ w ∈ u_ws RX8 TX8 18, w ∈ wsX8_restore := by decide +kernel
set_option maxHeartbeats 4000000 in
set_option maxRecDepth 100000 in
theorem c_X8_restore (l : Launch) (D : va_G) (cI cC cQ : ClassId) (a g0 g1 g2 g3 g4 g5 g6 g7 : Nat) (fb : Nat) (rb n : Nat) (ty sp fr re cau co cm : Int32) (P : Nat → Nat → Nat → Int32) (G K : Nat → Nat → Int32) (sz : Nat) (hrb : rb ≤ 1) (hn : n ≤ 4) (hfb : fb ≤ 1) : Met l yX8_restore wsX8_restore rmX8_restore (PW D cI cC cQ [.ref a] [(a, .inr (8, [.ref g0, .ref g1, .ref g2, .ref g3, .int (nI fb), .int (nI rb), .int (nI n), .ref g4, .int ty, .ref g5, .ref g6, .int sp, .int fr, .int re, .int cau, .int co, .int cm, .ref g7])), (g0, .inl (cI, 240, .inl (MA G))), (g1, .inl (cI, 960, .inl (QA P))), (g2, .inl (cI, 240, .inl (MA K)))] sz) (va_Qi (fun (z : Int32) (u : Unit) => z = fz (nzB fb) (sumI (HA K) 20)) (fun (u : Unit) t9 => va_P D vwCl [(a, .inr (8, [.ref g0, .ref g1, .ref g2, .ref g3, .int (nI fb), .int (nI rb), .int (nI (pnB (nzB fb) rb n)), .ref g4, .int ty, .ref g5, .ref g6, .int sp, .int fr, .int re, .int cau, .int co, .int cm, .ref g7])), (g0, .inl (cI, 240, .inl (MA (cG (nzB fb) K G)))), (g1, .inl (cI, 960, .inl (QA (pcB (nzB fb) rb P n G)))), (g2, .inl (cI, 240, .inl (MA K)))] t9.heap) (va_A [(a, .inr (8, [.ref g0, .ref g1, .ref g2, .ref g3, .int (nI fb), .int (nI rb), .int (nI n), .ref g4, .int ty, .ref g5, .ref g6, .int sp, .int fr, .int re, .int cau, .int co, .int cm, .ref g7])), (g0, .inl (cI, 240, .inl (MA G))), (g1, .inl (cI, 960, .inl (QA P))), (g2, .inl (cI, 240, .inl (MA K)))] sz)) 0 0 (va_A [(a, .inr (8, [.ref g0, .ref g1, .ref g2, .ref g3, .int (nI fb), .int (nI rb), .int (nI n), .ref g4, .int ty, .ref g5, .ref g6, .int sp, .int fr, .int re, .int cau, .int co, .int cm, .ref g7])), (g0, .inl (cI, 240, .inl (MA G))), (g1, .inl (cI, 960, .inl (QA P))), (g2, .inl (cI, 240, .inl (MA K)))] sz) := by
  refine metW (y := yX8_restore) (ws := wsX8_restore) (rm := rmX8_restore) (D := D) (cI := cI) (cC := cC) (cQ := cQ) (av := [.ref a]) (wd := [(a, .inr (8, [.ref g0, .ref g1, .ref g2, .ref g3, .int (nI fb), .int (nI rb), .int (nI n), .ref g4, .int ty, .ref g5, .ref g6, .int sp, .int fr, .int re, .int cau, .int co, .int cm, .ref g7])), (g0, .inl (cI, 240, .inl (MA G))), (g1, .inl (cI, 960, .inl (QA P))), (g2, .inl (cI, 240, .inl (MA K)))]) (sz := sz) (Qf := fun A => va_Qi (fun (z : Int32) (u : Unit) => z = fz (nzB fb) (sumI (HA K) 20)) (fun (u : Unit) t9 => va_P D vwCl [(a, .inr (8, [.ref g0, .ref g1, .ref g2, .ref g3, .int (nI fb), .int (nI rb), .int (nI (pnB (nzB fb) rb n)), .ref g4, .int ty, .ref g5, .ref g6, .int sp, .int fr, .int re, .int cau, .int co, .int cm, .ref g7])), (g0, .inl (cI, 240, .inl (MA (cG (nzB fb) K G)))), (g1, .inl (cI, 960, .inl (QA (pcB (nzB fb) rb P n G)))), (g2, .inl (cI, 240, .inl (MA K)))] t9.heap) A) (cc := cX8_restore) (maxL := 1) (ret := (some .int)) (by decide) rfl (Nat.le_of_ble_eq_true rfl) ?_
  intro pg ev s mi args below meth cd ls A Q hQ hx hb hml hr hts hown hlk hnm hK hP hD hS hA hl
  have hKa := hK.1
  have hl : lv_has ls 1 [(0, .ref a)] := hl
  refine lv_aload_n hx hb dX8_restore_0 rfl (lv_at hl 0 rfl) ?_
  refine va_get (D := D) (ci := 8) (v := .int (nI fb)) (C := RX8) (T := TX8) (N := 18) hx hb hts iw_X8_restore_X8 hown hKa hP 0 rfl rfl 4 (by decide) (hts (.fieldLink RX8 129 "ColourPatchesModel" "isKept" "Z") (by decide +kernel)) (fun _ h9 => h9) rfl dX8_restore_1 ?_
  refine gn_if_ne hx hb (by omega) (tgt := 11) dX8_restore_4 (by decide) (fun c_4 => ?_) (fun c_4 => ?_)
  · refine lv_aload_n hx hb dX8_restore_11 rfl (lv_at hl 0 rfl) ?_
    have hPc := hP.sub (ws' := [(a, .inr (8, [.ref g0, .ref g1, .ref g2, .ref g3, .int (nI fb), .int (nI rb), .int (nI n), .ref g4, .int ty, .ref g5, .ref g6, .int sp, .int fr, .int re, .int cau, .int co, .int cm, .ref g7])), (g0, .inl (cI, 240, .inl (MA G))), (g1, .inl (cI, 960, .inl (QA P)))]) [0, 1, 2] rfl
    have hDc := hD.sub (ws' := [(a, .inr (8, [.ref g0, .ref g1, .ref g2, .ref g3, .int (nI fb), .int (nI rb), .int (nI n), .ref g4, .int ty, .ref g5, .ref g6, .int sp, .int fr, .int re, .int cau, .int co, .int cm, .ref g7])), (g0, .inl (cI, 240, .inl (MA G))), (g1, .inl (cI, 960, .inl (QA P)))]) [0, 1, 2] (by decide) rfl
    refine clV (wc := [(a, .inr (8, [.ref g0, .ref g1, .ref g2, .ref g3, .int (nI fb), .int (nI rb), .int (nI n), .ref g4, .int ty, .ref g5, .ref g6, .int sp, .int fr, .int re, .int cau, .int co, .int cm, .ref g7])), (g0, .inl (cI, 240, .inl (MA G))), (g1, .inl (cI, 960, .inl (QA P)))]) (w1 := fun (u_12 : Unit) => [(a, .inr (8, [.ref g0, .ref g1, .ref g2, .ref g3, .int (nI fb), .int (nI rb), .int (nI (pN rb n)), .ref g4, .int ty, .ref g5, .ref g6, .int sp, .int fr, .int re, .int cau, .int co, .int cm, .ref g7])), (g0, .inl (cI, 240, .inl (MA G))), (g1, .inl (cI, 960, .inl (QA (pC rb P n G))))]) (wr := [(g2, .inl (cI, 240, .inl (MA K)))]) (wn := fun (u_12 : Unit) => [(a, .inr (8, [.ref g0, .ref g1, .ref g2, .ref g3, .int (nI fb), .int (nI rb), .int (nI (pN rb n)), .ref g4, .int ty, .ref g5, .ref g6, .int sp, .int fr, .int re, .int cau, .int co, .int cm, .ref g7])), (g0, .inl (cI, 240, .inl (MA G))), (g1, .inl (cI, 960, .inl (QA (pC rb P n G)))), (g2, .inl (cI, 240, .inl (MA K)))]) hP hD hS hA [0, 1, 2] [3] [1, 2, 3, 0] rfl rfl rfl rfl (by decide) (fun _ => rfl) (fun _ => rfl) (fun _ => rfl) (va_runV (As := []) (rest := []) ⟨hx, hb, hml, hown, hts⟩ (c_X8_changes l D cI cC cQ a g0 g1 g2 g3 g4 g5 g6 g7 (nI fb) rb n ty sp fr re cau co cm P G s.heap.size (by first | assumption | omega) (by first | assumption | omega)) (cwV (rm := rmX8_changes) 0 hts gX8_restore_X8_changes rfl rfl rfl (by decide +kernel) ⟨Nat.le_of_ble_eq_true rfl, Nat.le_of_ble_eq_true rfl⟩) ⟨PW.blind, va_recv hKa hPc (ci := 8) (q0 := 0) rfl rfl, PW.go hPc hK hDc⟩ rfl rfl hl.1 rfl (lv_room (Nat.le_of_ble_eq_true rfl)) dX8_restore_12 ⟨Nat.le_of_ble_eq_true rfl, Nat.le_of_ble_eq_true rfl⟩) (fun u_12 H locs h_12 hP hD hS => ?_)
    have hP : va_P D vwCl [(a, .inr (8, [.ref g0, .ref g1, .ref g2, .ref g3, .int (nI fb), .int (nI rb), .int (nI (pN rb n)), .ref g4, .int ty, .ref g5, .ref g6, .int sp, .int fr, .int re, .int cau, .int co, .int cm, .ref g7])), (g0, .inl (cI, 240, .inl (MA G))), (g1, .inl (cI, 960, .inl (QA (pC rb P n G)))), (g2, .inl (cI, 240, .inl (MA K)))] H := hP
    have hD : va_D A [(a, .inr (8, [.ref g0, .ref g1, .ref g2, .ref g3, .int (nI fb), .int (nI rb), .int (nI (pN rb n)), .ref g4, .int ty, .ref g5, .ref g6, .int sp, .int fr, .int re, .int cau, .int co, .int cm, .ref g7])), (g0, .inl (cI, 240, .inl (MA G))), (g1, .inl (cI, 960, .inl (QA (pC rb P n G)))), (g2, .inl (cI, 240, .inl (MA K)))] := hD
    refine lv_aload_n hx hb dX8_restore_15 rfl (lv_at hl 0 rfl) ?_
    refine va_get (D := D) (ci := 8) (v := .ref g2) (C := RX8) (T := TX8) (N := 18) hx hb hts iw_X8_restore_X8 hown hKa hP 0 rfl rfl 2 (by decide) (hts (.fieldLink RX8 16 "ColourPatchesModel" "kept" "[I") (by decide +kernel)) (fun _ h9 => h9) rfl dX8_restore_16 ?_
    refine lv_aload_n hx hb dX8_restore_19 rfl (lv_at hl 0 rfl) ?_
    refine va_get (D := D) (ci := 8) (v := .ref g0) (C := RX8) (T := TX8) (N := 18) hx hb hts iw_X8_restore_X8 hown hKa hP 0 rfl rfl 0 (by decide) (hts (.fieldLink RX8 7 "ColourPatchesModel" "s" "[I") (by decide +kernel)) (fun _ h9 => h9) rfl dX8_restore_20 ?_
    have hPc := hP.sub (ws' := [(g2, .inl (cI, 240, .inl (MA K))), (g0, .inl (cI, 240, .inl (MA G)))]) [3, 1] rfl
    have hDc := hD.sub (ws' := [(g2, .inl (cI, 240, .inl (MA K))), (g0, .inl (cI, 240, .inl (MA G)))]) [3, 1] (by decide) rfl
    refine clV (wc := [(g2, .inl (cI, 240, .inl (MA K))), (g0, .inl (cI, 240, .inl (MA G)))]) (w1 := fun (u_23 : Unit) => [(g2, .inl (cI, 240, .inl (MA K))), (g0, .inl (cI, 240, .inl (MA K)))]) (wr := [(a, .inr (8, [.ref g0, .ref g1, .ref g2, .ref g3, .int (nI fb), .int (nI rb), .int (nI (pN rb n)), .ref g4, .int ty, .ref g5, .ref g6, .int sp, .int fr, .int re, .int cau, .int co, .int cm, .ref g7])), (g1, .inl (cI, 960, .inl (QA (pC rb P n G))))]) (wn := fun (u_23 : Unit) => [(a, .inr (8, [.ref g0, .ref g1, .ref g2, .ref g3, .int (nI fb), .int (nI rb), .int (nI (pN rb n)), .ref g4, .int ty, .ref g5, .ref g6, .int sp, .int fr, .int re, .int cau, .int co, .int cm, .ref g7])), (g0, .inl (cI, 240, .inl (MA K))), (g1, .inl (cI, 960, .inl (QA (pC rb P n G)))), (g2, .inl (cI, 240, .inl (MA K)))]) hP hD hS hA [3, 1] [0, 2] [0, 3, 1, 2] rfl rfl rfl rfl (by decide) (fun _ => rfl) (fun _ => rfl) (fun _ => rfl) (va_runS (As := [.ref g2, .ref g0]) (rest := []) ⟨hx, hb, hml, hown, hts⟩ (c_X8_copies l D cI cC cQ g2 g0 (MA K) (MA G) H.size ) (va_cwS (rm := rmX8_copies) 2 hts gX8_restore_X8_copies rfl rfl rfl (by decide +kernel) ⟨Nat.le_of_ble_eq_true rfl, Nat.le_of_ble_eq_true rfl⟩) ⟨PW.blind, PW.go hPc hK hDc⟩ rfl rfl hl.1 rfl (lv_room (Nat.le_of_ble_eq_true rfl)) dX8_restore_23 ⟨Nat.le_of_ble_eq_true rfl, Nat.le_of_ble_eq_true rfl⟩) (fun u_23 H locs h_23 hP hD hS => ?_)
    have hP : va_P D vwCl [(a, .inr (8, [.ref g0, .ref g1, .ref g2, .ref g3, .int (nI fb), .int (nI rb), .int (nI (pN rb n)), .ref g4, .int ty, .ref g5, .ref g6, .int sp, .int fr, .int re, .int cau, .int co, .int cm, .ref g7])), (g0, .inl (cI, 240, .inl (MA K))), (g1, .inl (cI, 960, .inl (QA (pC rb P n G)))), (g2, .inl (cI, 240, .inl (MA K)))] H := hP
    have hD : va_D A [(a, .inr (8, [.ref g0, .ref g1, .ref g2, .ref g3, .int (nI fb), .int (nI rb), .int (nI (pN rb n)), .ref g4, .int ty, .ref g5, .ref g6, .int sp, .int fr, .int re, .int cau, .int co, .int cm, .ref g7])), (g0, .inl (cI, 240, .inl (MA K))), (g1, .inl (cI, 960, .inl (QA (pC rb P n G)))), (g2, .inl (cI, 240, .inl (MA K)))] := hD
    refine lv_aload_n hx hb dX8_restore_26 rfl (lv_at hl 0 rfl) ?_
    have hPc := hP.sub (ws' := [(a, .inr (8, [.ref g0, .ref g1, .ref g2, .ref g3, .int (nI fb), .int (nI rb), .int (nI (pN rb n)), .ref g4, .int ty, .ref g5, .ref g6, .int sp, .int fr, .int re, .int cau, .int co, .int cm, .ref g7])), (g0, .inl (cI, 240, .inl (MA K)))]) [0, 1] rfl
    refine clRe (E := sumI (HA K) 20) (va_runV (As := []) (rest := []) ⟨hx, hb, hml, hown, hts⟩ (c_X8_heldCorners l D cI cC cQ a g0 g1 g2 g3 g4 g5 g6 g7 (nI fb) (nI rb) (nI (pN rb n)) ty sp fr re cau co cm K ) (cwV (rm := rmX8_heldCorners) 0 hts gX8_restore_X8_heldCorners rfl rfl rfl (by decide +kernel) ⟨Nat.le_of_ble_eq_true rfl, Nat.le_of_ble_eq_true rfl⟩) ⟨PR.blind, va_recv hKa hPc (ci := 8) (q0 := 0) rfl rfl, PR.go hPc hK⟩ rfl rfl hl.1 rfl (lv_room (Nat.le_of_ble_eq_true rfl)) dX8_restore_27 ⟨Nat.le_of_ble_eq_true rfl, Nat.le_of_ble_eq_true rfl⟩) ?_
    have hok : nzB fb = true := decide_eq_true c_4
    have eG : cG (nzB fb) K G = K := (cG_t hok)
    have eP : pcB (nzB fb) rb P n G = pC rb P n G := pcB_t hok
    have eN : pnB (nzB fb) rb n = pN rb n := pnB_t hok
    have hP : va_P D vwCl [(a, .inr (8, [.ref g0, .ref g1, .ref g2, .ref g3, .int (nI fb), .int (nI rb), .int (nI (pnB (nzB fb) rb n)), .ref g4, .int ty, .ref g5, .ref g6, .int sp, .int fr, .int re, .int cau, .int co, .int cm, .ref g7])), (g0, .inl (cI, 240, .inl (MA (cG (nzB fb) K G)))), (g1, .inl (cI, 960, .inl (QA (pcB (nzB fb) rb P n G)))), (g2, .inl (cI, 240, .inl (MA K)))] H := by rw [eG, eP, eN]; exact hP
    exact rtW_i () hQ hx hb hr hlk hS hP dX8_restore_30 (by rw [hok]; rfl)
  · refine lv_sipush (v := (-1002)) hx hb dX8_restore_7 (by decide) ?_
    have hok : nzB fb = false := decide_eq_false (fun q => q c_4)
    have eG : cG (nzB fb) K G = G := cG_f hok
    have eP : pcB (nzB fb) rb P n G = P := pcB_f hok
    have eN : pnB (nzB fb) rb n = n := pnB_f hok
    have hP : va_P D vwCl [(a, .inr (8, [.ref g0, .ref g1, .ref g2, .ref g3, .int (nI fb), .int (nI rb), .int (nI (pnB (nzB fb) rb n)), .ref g4, .int ty, .ref g5, .ref g6, .int sp, .int fr, .int re, .int cau, .int co, .int cm, .ref g7])), (g0, .inl (cI, 240, .inl (MA (cG (nzB fb) K G)))), (g1, .inl (cI, 960, .inl (QA (pcB (nzB fb) rb P n G)))), (g2, .inl (cI, 240, .inl (MA K)))] s.heap := by rw [eG, eP, eN]; exact hP
    exact rtW_i () hQ hx hb hr hlk hS hP dX8_restore_10 (by rw [hok]; rfl)
abbrev rmX8_undo : Room := { frames := 0, cells := 0, slots := 0, locals := 0 }
set_option maxRecDepth 20000 in
theorem iw_X8_undo_X8 : ∀ w ∈ u_ws RX8 TX8 18, w ∈ wsX8_undo := by decide +kernel
set_option maxHeartbeats 4000000 in
set_option maxRecDepth 100000 in
theorem c_X8_undo (l : Launch) (D : va_G) (cI cC cQ : ClassId) (a g0 g1 g2 g3 g4 g5 g6 g7 : Nat) (ik : Int32) (rb n : Nat) (ty sp fr re cau co cm : Int32) (P : Nat → Nat → Nat → Int32) (G : Nat → Nat → Int32) (sz : Nat) (hrb : rb ≤ 1) (hn : n ≤ 4) : Met l yX8_undo wsX8_undo rmX8_undo (PW D cI cC cQ [.ref a] [(a, .inr (8, [.ref g0, .ref g1, .ref g2, .ref g3, .int ik, .int (nI rb), .int (nI n), .ref g4, .int ty, .ref g5, .ref g6, .int sp, .int fr, .int re, .int cau, .int co, .int cm, .ref g7])), (g0, .inl (cI, 240, .inl (MA G))), (g1, .inl (cI, 960, .inl (QA P)))] sz) (va_Qi (fun (z : Int32) (u : Unit) => z = fz (nzB n) (nI (n - 1))) (fun (u : Unit) t9 => va_P D vwCl [(a, .inr (8, [.ref g0, .ref g1, .ref g2, .ref g3, .int ik, .int (nI rb), .int (nI (n - 1)), .ref g4, .int ty, .ref g5, .ref g6, .int sp, .int fr, .int re, .int cau, .int co, .int cm, .ref g7])), (g0, .inl (cI, 240, .inl (MA (cG (nzB n) (P (n - 1)) G)))), (g1, .inl (cI, 960, .inl (QA P)))] t9.heap) (va_A [(a, .inr (8, [.ref g0, .ref g1, .ref g2, .ref g3, .int ik, .int (nI rb), .int (nI n), .ref g4, .int ty, .ref g5, .ref g6, .int sp, .int fr, .int re, .int cau, .int co, .int cm, .ref g7])), (g0, .inl (cI, 240, .inl (MA G))), (g1, .inl (cI, 960, .inl (QA P)))] sz)) 0 0 (va_A [(a, .inr (8, [.ref g0, .ref g1, .ref g2, .ref g3, .int ik, .int (nI rb), .int (nI n), .ref g4, .int ty, .ref g5, .ref g6, .int sp, .int fr, .int re, .int cau, .int co, .int cm, .ref g7])), (g0, .inl (cI, 240, .inl (MA G))), (g1, .inl (cI, 960, .inl (QA P)))] sz) := by
  refine metW (y := yX8_undo) (ws := wsX8_undo) (rm := rmX8_undo) (D := D) (cI := cI) (cC := cC) (cQ := cQ) (av := [.ref a]) (wd := [(a, .inr (8, [.ref g0, .ref g1, .ref g2, .ref g3, .int ik, .int (nI rb), .int (nI n), .ref g4, .int ty, .ref g5, .ref g6, .int sp, .int fr, .int re, .int cau, .int co, .int cm, .ref g7])), (g0, .inl (cI, 240, .inl (MA G))), (g1, .inl (cI, 960, .inl (QA P)))]) (sz := sz) (Qf := fun A => va_Qi (fun (z : Int32) (u : Unit) => z = fz (nzB n) (nI (n - 1))) (fun (u : Unit) t9 => va_P D vwCl [(a, .inr (8, [.ref g0, .ref g1, .ref g2, .ref g3, .int ik, .int (nI rb), .int (nI (n - 1)), .ref g4, .int ty, .ref g5, .ref g6, .int sp, .int fr, .int re, .int cau, .int co, .int cm, .ref g7])), (g0, .inl (cI, 240, .inl (MA (cG (nzB n) (P (n - 1)) G)))), (g1, .inl (cI, 960, .inl (QA P)))] t9.heap) A) (cc := cX8_undo) (maxL := 2) (ret := (some .int)) (by decide) rfl (Nat.le_of_ble_eq_true rfl) ?_
  intro pg ev s mi args below meth cd ls A Q hQ hx hb hml hr hts hown hlk hnm hK hP hD hS hA hl
  have hKa := hK.1
  have hl : lv_has ls 2 [(0, .ref a)] := hl
  refine lv_aload_n hx hb dX8_undo_0 rfl (lv_at hl 0 rfl) ?_
  refine va_get (D := D) (ci := 8) (v := .int (nI n)) (C := RX8) (T := TX8) (N := 18) hx hb hts iw_X8_undo_X8 hown hKa hP 0 rfl rfl 6 (by decide) (hts (.fieldLink RX8 38 "ColourPatchesModel" "pasts" "I") (by decide +kernel)) (fun _ h9 => h9) rfl dX8_undo_1 ?_
  refine gn_if_ne hx hb (by omega) (tgt := 11) dX8_undo_4 (by decide) (fun c_4 => ?_) (fun c_4 => ?_)
  · refine lv_aload_n hx hb dX8_undo_11 rfl (lv_at hl 0 rfl) ?_
    refine lv_dup hx hb dX8_undo_12 rfl ?_
    refine va_get (D := D) (ci := 8) (v := .int (nI n)) (C := RX8) (T := TX8) (N := 18) hx hb hts iw_X8_undo_X8 hown hKa hP 0 rfl rfl 6 (by decide) (hts (.fieldLink RX8 38 "ColourPatchesModel" "pasts" "I") (by decide +kernel)) (fun _ h9 => h9) rfl dX8_undo_13 ?_
    refine lv_iconst (v := nI 1) hx hb dX8_undo_16 (by decide) ?_
    refine gn_sub hx hb (by omega) dX8_undo_17 ?_
    refine va_put (D := D) (ci := 8) (v := .int (nI (n - 1))) (ty := .int) (C := RX8) (T := TX8) (N := 18) hx hb hts iw_X8_undo_X8 tyX8 tyX8_ok nmX8 hown hKa hP hD hS 0 rfl rfl 6 (by decide) (hts (.fieldLink RX8 38 "ColourPatchesModel" "pasts" "I") (by decide +kernel)) (fun _ h9 => h9) rfl (by decide +kernel) rfl rfl (Nat.le_of_ble_eq_true rfl) dX8_undo_18 (fun H locs hP hD hS => ?_)
    have hP : va_P D vwCl [(a, .inr (8, [.ref g0, .ref g1, .ref g2, .ref g3, .int ik, .int (nI rb), .int (nI (n - 1)), .ref g4, .int ty, .ref g5, .ref g6, .int sp, .int fr, .int re, .int cau, .int co, .int cm, .ref g7])), (g0, .inl (cI, 240, .inl (MA G))), (g1, .inl (cI, 960, .inl (QA P)))] H := hP
    have hD : va_D A [(a, .inr (8, [.ref g0, .ref g1, .ref g2, .ref g3, .int ik, .int (nI rb), .int (nI (n - 1)), .ref g4, .int ty, .ref g5, .ref g6, .int sp, .int fr, .int re, .int cau, .int co, .int cm, .ref g7])), (g0, .inl (cI, 240, .inl (MA G))), (g1, .inl (cI, 960, .inl (QA P)))] := hD
    refine lv_iconst (v := nI 0) hx hb dX8_undo_21 (by decide) ?_
    refine lv_istore_n (lv' := [(1, .int (nI 0)), (0, .ref a)]) hx hb dX8_undo_22 rfl hl (by decide) rfl (fun ls hl => ?_)
    have L23 : ∀ (nn : Nat) (k : Nat) (hk : k ≤ 240) (_ : 240 - k < nn) (H : Heap) (locs : List Loc) (hP : va_P D vwCl [(a, .inr (8, [.ref g0, .ref g1, .ref g2, .ref g3, .int ik, .int (nI rb), .int (nI (n - 1)), .ref g4, .int ty, .ref g5, .ref g6, .int sp, .int fr, .int re, .int cau, .int co, .int cm, .ref g7])), (g0, .inl (cI, 240, .inl (mixF (MA (P (n - 1))) (MA G) k))), (g1, .inl (cI, 960, .inl (QA P)))] H) (hD : va_D A [(a, .inr (8, [.ref g0, .ref g1, .ref g2, .ref g3, .int ik, .int (nI rb), .int (nI (n - 1)), .ref g4, .int ty, .ref g5, .ref g6, .int sp, .int fr, .int re, .int cau, .int co, .int cm, .ref g7])), (g0, .inl (cI, 240, .inl (mixF (MA (P (n - 1))) (MA G) k))), (g1, .inl (cI, 960, .inl (QA P)))]) (hS : va_S A s.heap H locs) (ls : Array Slot) (_ : lv_has ls 2 [(1, .int (nI k)), (0, .ref a)]), W pg l ev (headSpec wsX8_undo rmX8_undo).room s mi args below meth cd H locs 0 0 Q (F0 mi 23 ls []) := by
      intro nn
      induction nn with
      | zero =>
        intro k hk hmeas
        exact absurd hmeas (Nat.not_lt_zero _)
      | succ nn ih23 =>
        intro k hk hmeas H locs hP hD hS ls hl
        refine lv_iload_n hx hb dX8_undo_23 rfl (lv_at hl 0 rfl) ?_
        refine lv_sipush (v := nI 240) hx hb dX8_undo_24 (by decide) ?_
        refine gn_icmp_ge hx hb (by omega) (by decide) (tgt := 57) dX8_undo_27 (by decide) (fun c_27 => ?_) (fun c_27 => ?_)
        · refine lv_aload_n hx hb dX8_undo_57 rfl (lv_at hl 1 rfl) ?_
          refine va_get (D := D) (ci := 8) (v := .int (nI (n - 1))) (C := RX8) (T := TX8) (N := 18) hx hb hts iw_X8_undo_X8 hown hKa hP 0 rfl rfl 6 (by decide) (hts (.fieldLink RX8 38 "ColourPatchesModel" "pasts" "I") (by decide +kernel)) (fun _ h9 => h9) rfl dX8_undo_58 ?_
          have hok : nzB n = true := decide_eq_true c_4
          have hP : va_P D vwCl [(a, .inr (8, [.ref g0, .ref g1, .ref g2, .ref g3, .int ik, .int (nI rb), .int (nI (n - 1)), .ref g4, .int ty, .ref g5, .ref g6, .int sp, .int fr, .int re, .int cau, .int co, .int cm, .ref g7])), (g0, .inl (cI, 240, .inl (MA (P (n - 1))))), (g1, .inl (cI, 960, .inl (QA P)))] H := (hP.fn 1 rfl (g := MA (P (n - 1))) (fun q hq => by rw [show k = 240 by omega]; exact mixF_n _ _ hq) rfl)
          have hD : va_D A [(a, .inr (8, [.ref g0, .ref g1, .ref g2, .ref g3, .int ik, .int (nI rb), .int (nI (n - 1)), .ref g4, .int ty, .ref g5, .ref g6, .int sp, .int fr, .int re, .int cau, .int co, .int cm, .ref g7])), (g0, .inl (cI, 240, .inl (MA (P (n - 1))))), (g1, .inl (cI, 960, .inl (QA P)))] := hD.addr rfl
          have eG : cG (nzB n) (P (n - 1)) G = P (n - 1) := cG_t hok
          have hP : va_P D vwCl [(a, .inr (8, [.ref g0, .ref g1, .ref g2, .ref g3, .int ik, .int (nI rb), .int (nI (n - 1)), .ref g4, .int ty, .ref g5, .ref g6, .int sp, .int fr, .int re, .int cau, .int co, .int cm, .ref g7])), (g0, .inl (cI, 240, .inl (MA (cG (nzB n) (P (n - 1)) G)))), (g1, .inl (cI, 960, .inl (QA P)))] H := by rw [eG]; exact hP
          exact rtW_i () hQ hx hb hr hlk hS hP dX8_undo_61 (by rw [hok]; rfl)
        · refine lv_aload_n hx hb dX8_undo_30 rfl (lv_at hl 1 rfl) ?_
          refine va_get (D := D) (ci := 8) (v := .ref g0) (C := RX8) (T := TX8) (N := 18) hx hb hts iw_X8_undo_X8 hown hKa hP 0 rfl rfl 0 (by decide) (hts (.fieldLink RX8 7 "ColourPatchesModel" "s" "[I") (by decide +kernel)) (fun _ h9 => h9) rfl dX8_undo_31 ?_
          refine lv_iload_n hx hb dX8_undo_34 rfl (lv_at hl 0 rfl) ?_
          refine lv_aload_n hx hb dX8_undo_35 rfl (lv_at hl 1 rfl) ?_
          refine va_get (D := D) (ci := 8) (v := .ref g1) (C := RX8) (T := TX8) (N := 18) hx hb hts iw_X8_undo_X8 hown hKa hP 0 rfl rfl 1 (by decide) (hts (.fieldLink RX8 13 "ColourPatchesModel" "past" "[I") (by decide +kernel)) (fun _ h9 => h9) rfl dX8_undo_36 ?_
          refine lv_sipush (v := nI 240) hx hb dX8_undo_39 (by decide) ?_
          refine lv_aload_n hx hb dX8_undo_42 rfl (lv_at hl 1 rfl) ?_
          refine va_get (D := D) (ci := 8) (v := .int (nI (n - 1))) (C := RX8) (T := TX8) (N := 18) hx hb hts iw_X8_undo_X8 hown hKa hP 0 rfl rfl 6 (by decide) (hts (.fieldLink RX8 38 "ColourPatchesModel" "pasts" "I") (by decide +kernel)) (fun _ h9 => h9) rfl dX8_undo_43 ?_
          refine gn_mul hx hb dX8_undo_46 ?_
          refine lv_iload_n hx hb dX8_undo_47 rfl (lv_at hl 0 rfl) ?_
          refine gn_add hx hb dX8_undo_48 ?_
          refine gn_iald hx hb hKa hP 2 0 rfl rfl (k := (240 * (n - 1)) + k) (by omega) (by omega) dX8_undo_49 ?_
          refine W.eq (g2 := F0 mi 50 ls [.int ((QA P) ((240 * (n - 1)) + k)), .int (nI k), .ref g0]) rfl ?_
          refine gn_iast (ws' := [(a, .inr (8, [.ref g0, .ref g1, .ref g2, .ref g3, .int ik, .int (nI rb), .int (nI (n - 1)), .ref g4, .int ty, .ref g5, .ref g6, .int sp, .int fr, .int re, .int cau, .int co, .int cm, .ref g7])), (g0, .inl (cI, 240, .inl (upd (mixF (MA (P (n - 1))) (MA G) k) k ((QA P) ((240 * (n - 1)) + k))))), (g1, .inl (cI, 960, .inl (QA P)))]) hx hb hKa hP hD hS 1 0 rfl rfl (k := k) (by omega) (by omega) dX8_undo_50 rfl (fun H locs hP hD hS => ?_)
          refine gn_iinc (lv' := [(1, .int (nI (k + 1))), (0, .ref a)]) hx hb dX8_undo_51 hl (k := 0) rfl (by decide) rfl (fun ls hl => ?_)
          refine lv_goto (tgt := 23) hx hb dX8_undo_54 (by decide) ?_
          have hP : va_P D vwCl [(a, .inr (8, [.ref g0, .ref g1, .ref g2, .ref g3, .int ik, .int (nI rb), .int (nI (n - 1)), .ref g4, .int ty, .ref g5, .ref g6, .int sp, .int fr, .int re, .int cau, .int co, .int cm, .ref g7])), (g0, .inl (cI, 240, .inl (mixF (MA (P (n - 1))) (MA G) (k + 1)))), (g1, .inl (cI, 960, .inl (QA P)))] H := (hP.fn 1 rfl (g := mixF (MA (P (n - 1))) (MA G) (k + 1)) (fun q _ => mixF_s _ _ k (QA_at P (n - 1) c_27) q) rfl)
          have hD : va_D A [(a, .inr (8, [.ref g0, .ref g1, .ref g2, .ref g3, .int ik, .int (nI rb), .int (nI (n - 1)), .ref g4, .int ty, .ref g5, .ref g6, .int sp, .int fr, .int re, .int cau, .int co, .int cm, .ref g7])), (g0, .inl (cI, 240, .inl (mixF (MA (P (n - 1))) (MA G) (k + 1)))), (g1, .inl (cI, 960, .inl (QA P)))] := hD.addr rfl
          exact ih23 (k + 1) (show (k + 1) ≤ 240 from by first | omega | assumption | rfl) (by first | omega | assumption) H locs hP hD hS _ (lv_sub hl [0, 1] rfl)
    have hP : va_P D vwCl [(a, .inr (8, [.ref g0, .ref g1, .ref g2, .ref g3, .int ik, .int (nI rb), .int (nI (n - 1)), .ref g4, .int ty, .ref g5, .ref g6, .int sp, .int fr, .int re, .int cau, .int co, .int cm, .ref g7])), (g0, .inl (cI, 240, .inl (mixF (MA (P (n - 1))) (MA G) 0))), (g1, .inl (cI, 960, .inl (QA P)))] H := (hP.fn 1 rfl (g := mixF (MA (P (n - 1))) (MA G) 0) (fun q _ => mixF_0 _ _ q) rfl)
    have hD : va_D A [(a, .inr (8, [.ref g0, .ref g1, .ref g2, .ref g3, .int ik, .int (nI rb), .int (nI (n - 1)), .ref g4, .int ty, .ref g5, .ref g6, .int sp, .int fr, .int re, .int cau, .int co, .int cm, .ref g7])), (g0, .inl (cI, 240, .inl (mixF (MA (P (n - 1))) (MA G) 0))), (g1, .inl (cI, 960, .inl (QA P)))] := hD.addr rfl
    exact L23 ((240 - 0) + 1) 0 (show 0 ≤ 240 from by first | omega | assumption | rfl) (Nat.lt_succ_self _) H locs hP hD hS _ (lv_sub hl [0, 1] rfl)
  · refine lv_sipush (v := (-1002)) hx hb dX8_undo_7 (by decide) ?_
    have hok : nzB n = false := decide_eq_false (fun q => q c_4)
    have eG : cG (nzB n) (P (n - 1)) G = G := cG_f hok
    have eN : n - 1 = n := by omega
    have hP : va_P D vwCl [(a, .inr (8, [.ref g0, .ref g1, .ref g2, .ref g3, .int ik, .int (nI rb), .int (nI (n - 1)), .ref g4, .int ty, .ref g5, .ref g6, .int sp, .int fr, .int re, .int cau, .int co, .int cm, .ref g7])), (g0, .inl (cI, 240, .inl (MA (cG (nzB n) (P (n - 1)) G)))), (g1, .inl (cI, 960, .inl (QA P)))] s.heap := by rw [eG, eN]; exact hP
    exact rtW_i () hQ hx hb hr hlk hS hP dX8_undo_10 (by rw [hok]; rfl)
abbrev rmX8_type : Room := { frames := 1, cells := 0, slots := 0, locals := 22 }
set_option maxRecDepth 20000 in
theorem iw_X8_type_X8 : ∀ w ∈ u_ws RX8 TX8 18, w ∈ wsX8_type := by decide +kernel
set_option maxHeartbeats 4000000 in
set_option maxRecDepth 100000 in
theorem c_X8_type (l : Launch) (D : va_G) (cI cC cQ : ClassId) (a g0 g1 g2 g3 g4 g5 g6 g7 : Nat) (ik rn ps : Int32) (len : Nat) (sp fr re cau co cm : Int32) (T : Nat → Nat) (ch : Int32) (sz : Nat) (hlen : len ≤ 60) : Met l yX8_type wsX8_type rmX8_type (PW D cI cC cQ [.ref a, .int ch] [(a, .inr (8, [.ref g0, .ref g1, .ref g2, .ref g3, .int ik, .int rn, .int ps, .ref g4, .int (nI len), .ref g5, .ref g6, .int sp, .int fr, .int re, .int cau, .int co, .int cm, .ref g7])), (g4, .inl (cI, 60, .inl (TA T)))] sz) (va_Qi (fun (z : Int32) (u : Unit) => z = cz2 (okTy ch) (fullB len) (-1003) (nI (len + 1))) (fun (u : Unit) t9 => va_P D vwCl [(a, .inr (8, [.ref g0, .ref g1, .ref g2, .ref g3, .int ik, .int rn, .int ps, .ref g4, .int (nI (tyN (okTy ch && fullB len) len)), .ref g5, .ref g6, .int sp, .int fr, .int re, .int cau, .int co, .int cm, .ref g7])), (g4, .inl (cI, 60, .inl (TA (tyT (okTy ch && fullB len) T len (tn ch)))))] t9.heap) (va_A [(a, .inr (8, [.ref g0, .ref g1, .ref g2, .ref g3, .int ik, .int rn, .int ps, .ref g4, .int (nI len), .ref g5, .ref g6, .int sp, .int fr, .int re, .int cau, .int co, .int cm, .ref g7])), (g4, .inl (cI, 60, .inl (TA T)))] sz)) 0 0 (va_A [(a, .inr (8, [.ref g0, .ref g1, .ref g2, .ref g3, .int ik, .int rn, .int ps, .ref g4, .int (nI len), .ref g5, .ref g6, .int sp, .int fr, .int re, .int cau, .int co, .int cm, .ref g7])), (g4, .inl (cI, 60, .inl (TA T)))] sz) := by
  refine metW (y := yX8_type) (ws := wsX8_type) (rm := rmX8_type) (D := D) (cI := cI) (cC := cC) (cQ := cQ) (av := [.ref a, .int ch]) (wd := [(a, .inr (8, [.ref g0, .ref g1, .ref g2, .ref g3, .int ik, .int rn, .int ps, .ref g4, .int (nI len), .ref g5, .ref g6, .int sp, .int fr, .int re, .int cau, .int co, .int cm, .ref g7])), (g4, .inl (cI, 60, .inl (TA T)))]) (sz := sz) (Qf := fun A => va_Qi (fun (z : Int32) (u : Unit) => z = cz2 (okTy ch) (fullB len) (-1003) (nI (len + 1))) (fun (u : Unit) t9 => va_P D vwCl [(a, .inr (8, [.ref g0, .ref g1, .ref g2, .ref g3, .int ik, .int rn, .int ps, .ref g4, .int (nI (tyN (okTy ch && fullB len) len)), .ref g5, .ref g6, .int sp, .int fr, .int re, .int cau, .int co, .int cm, .ref g7])), (g4, .inl (cI, 60, .inl (TA (tyT (okTy ch && fullB len) T len (tn ch)))))] t9.heap) A) (cc := cX8_type) (maxL := 2) (ret := (some .int)) (by decide) rfl (Nat.le_of_ble_eq_true rfl) ?_
  intro pg ev s mi args below meth cd ls A Q hQ hx hb hml hr hts hown hlk hnm hK hP hD hS hA hl
  have hKa := hK.1
  have hl : lv_has ls 2 [(0, .ref a), (1, .int ch)] := hl
  refine lv_iload_n hx hb dX8_type_0 rfl (lv_at hl 1 rfl) ?_
  refine lv_bipush (v := nI 32) hx hb dX8_type_1 (by decide) ?_
  refine lv_bipush (v := nI 126) hx hb dX8_type_3 (by decide) ?_
  have hPc := hP.sub (ws' := []) [] rfl
  refine clR (va_runS (As := [.int ch, .int (nI 32), .int (nI 126)]) (rest := []) ⟨hx, hb, hml, hown, hts⟩ (c_X8_in l D cI cC cQ ch (nI 32) (nI 126) ) (va_cwS (rm := rmX8_in) 3 hts gX8_type_X8_in rfl rfl rfl (by decide +kernel) ⟨Nat.le_of_ble_eq_true rfl, Nat.le_of_ble_eq_true rfl⟩) ⟨PR.blind, PR.go hPc hK⟩ rfl rfl hl.1 rfl (lv_room (Nat.le_of_ble_eq_true rfl)) dX8_type_5 ⟨Nat.le_of_ble_eq_true rfl, Nat.le_of_ble_eq_true rfl⟩) (fun r_5 h_5 => ?_)
  rcases h_5 with ⟨b_5, rfl⟩ | ⟨b_5, rfl⟩
  · obtain ⟨q, hq, rfl⟩ := in_nat (x := ch) (M := 126) (by decide) ⟨Int32.le_trans (nI_le (Nat.zero_le 32) (by decide)) b_5.1, b_5.2⟩
    refine gn_if_ne hx hb (by decide) (tgt := 15) dX8_type_8 (by decide) (fun cq => ?_) (fun cq => absurd cq (by decide))
    refine lv_aload_n hx hb dX8_type_15 rfl (lv_at hl 0 rfl) ?_
    refine va_get (D := D) (ci := 8) (v := .int (nI len)) (C := RX8) (T := TX8) (N := 18) hx hb hts iw_X8_type_X8 hown hKa hP 0 rfl rfl 8 (by decide) (hts (.fieldLink RX8 126 "ColourPatchesModel" "typed" "I") (by decide +kernel)) (fun _ h9 => h9) rfl dX8_type_16 ?_
    refine lv_bipush (v := nI 60) hx hb dX8_type_19 (by decide) ?_
    refine gn_icmp_ne hx hb (by omega) (by decide) (tgt := 28) dX8_type_21 (by decide) (fun c_21 => ?_) (fun c_21 => ?_)
    · refine lv_aload_n hx hb dX8_type_28 rfl (lv_at hl 0 rfl) ?_
      refine va_get (D := D) (ci := 8) (v := .ref g4) (C := RX8) (T := TX8) (N := 18) hx hb hts iw_X8_type_X8 hown hKa hP 0 rfl rfl 7 (by decide) (hts (.fieldLink RX8 22 "ColourPatchesModel" "text" "[I") (by decide +kernel)) (fun _ h9 => h9) rfl dX8_type_29 ?_
      refine lv_aload_n hx hb dX8_type_32 rfl (lv_at hl 0 rfl) ?_
      refine va_get (D := D) (ci := 8) (v := .int (nI len)) (C := RX8) (T := TX8) (N := 18) hx hb hts iw_X8_type_X8 hown hKa hP 0 rfl rfl 8 (by decide) (hts (.fieldLink RX8 126 "ColourPatchesModel" "typed" "I") (by decide +kernel)) (fun _ h9 => h9) rfl dX8_type_33 ?_
      refine lv_iload_n hx hb dX8_type_36 rfl (lv_at hl 1 rfl) ?_
      refine gn_iast (ws' := [(a, .inr (8, [.ref g0, .ref g1, .ref g2, .ref g3, .int ik, .int rn, .int ps, .ref g4, .int (nI len), .ref g5, .ref g6, .int sp, .int fr, .int re, .int cau, .int co, .int cm, .ref g7])), (g4, .inl (cI, 60, .inl (upd (TA T) len (nI q))))]) hx hb hKa hP hD hS 1 0 rfl rfl (k := len) (by omega) (by omega) dX8_type_37 rfl (fun H locs hP hD hS => ?_)
      refine lv_aload_n hx hb dX8_type_38 rfl (lv_at hl 0 rfl) ?_
      refine lv_dup hx hb dX8_type_39 rfl ?_
      refine va_get (D := D) (ci := 8) (v := .int (nI len)) (C := RX8) (T := TX8) (N := 18) hx hb hts iw_X8_type_X8 hown hKa hP 0 rfl rfl 8 (by decide) (hts (.fieldLink RX8 126 "ColourPatchesModel" "typed" "I") (by decide +kernel)) (fun _ h9 => h9) rfl dX8_type_40 ?_
      refine lv_iconst (v := nI 1) hx hb dX8_type_43 (by decide) ?_
      refine gn_add hx hb dX8_type_44 ?_
      refine va_put (D := D) (ci := 8) (v := .int (nI (len + 1))) (ty := .int) (C := RX8) (T := TX8) (N := 18) hx hb hts iw_X8_type_X8 tyX8 tyX8_ok nmX8 hown hKa hP hD hS 0 rfl rfl 8 (by decide) (hts (.fieldLink RX8 126 "ColourPatchesModel" "typed" "I") (by decide +kernel)) (fun _ h9 => h9) rfl (by decide +kernel) rfl rfl (Nat.le_of_ble_eq_true rfl) dX8_type_45 (fun H locs hP hD hS => ?_)
      have hP : va_P D vwCl [(a, .inr (8, [.ref g0, .ref g1, .ref g2, .ref g3, .int ik, .int rn, .int ps, .ref g4, .int (nI (len + 1)), .ref g5, .ref g6, .int sp, .int fr, .int re, .int cau, .int co, .int cm, .ref g7])), (g4, .inl (cI, 60, .inl (upd (TA T) len (nI q))))] H := hP
      have hD : va_D A [(a, .inr (8, [.ref g0, .ref g1, .ref g2, .ref g3, .int ik, .int rn, .int ps, .ref g4, .int (nI (len + 1)), .ref g5, .ref g6, .int sp, .int fr, .int re, .int cau, .int co, .int cm, .ref g7])), (g4, .inl (cI, 60, .inl (upd (TA T) len (nI q))))] := hD
      refine lv_aload_n hx hb dX8_type_48 rfl (lv_at hl 0 rfl) ?_
      refine va_get (D := D) (ci := 8) (v := .int (nI (len + 1))) (C := RX8) (T := TX8) (N := 18) hx hb hts iw_X8_type_X8 hown hKa hP 0 rfl rfl 8 (by decide) (hts (.fieldLink RX8 126 "ColourPatchesModel" "typed" "I") (by decide +kernel)) (fun _ h9 => h9) rfl dX8_type_49 ?_
      have hok : okTy (nI q) = true := decide_eq_true b_5
      have hok2 : fullB len = true := decide_eq_true (by omega)
      have hb3 : (okTy (nI q) && fullB len) = true := by rw [hok, hok2]; rfl
      have eN : tyN (okTy (nI q) && fullB len) len = len + 1 := by rw [hb3]; rfl
      have hP : va_P D vwCl [(a, .inr (8, [.ref g0, .ref g1, .ref g2, .ref g3, .int ik, .int rn, .int ps, .ref g4, .int (nI (len + 1)), .ref g5, .ref g6, .int sp, .int fr, .int re, .int cau, .int co, .int cm, .ref g7])), (g4, .inl (cI, 60, .inl (TA (updT T len q))))] H := (hP.fn 1 rfl (g := TA (updT T len q)) (fun j _ => updT_s T len q j) rfl)
      have hD : va_D A [(a, .inr (8, [.ref g0, .ref g1, .ref g2, .ref g3, .int ik, .int rn, .int ps, .ref g4, .int (nI (len + 1)), .ref g5, .ref g6, .int sp, .int fr, .int re, .int cau, .int co, .int cm, .ref g7])), (g4, .inl (cI, 60, .inl (TA (updT T len q))))] := hD.addr rfl
      have eT : tyT (okTy (nI q) && fullB len) T len (tn (nI q)) = updT T len q := by rw [hb3]; exact congrArg (updT T len) (tn_nI (by omega))
      have hP : va_P D vwCl [(a, .inr (8, [.ref g0, .ref g1, .ref g2, .ref g3, .int ik, .int rn, .int ps, .ref g4, .int (nI (tyN (okTy (nI q) && fullB len) len)), .ref g5, .ref g6, .int sp, .int fr, .int re, .int cau, .int co, .int cm, .ref g7])), (g4, .inl (cI, 60, .inl (TA (tyT (okTy (nI q) && fullB len) T len (tn (nI q))))))] H := by rw [eN, eT]; exact hP
      exact rtW_i () hQ hx hb hr hlk hS hP dX8_type_52 (by rw [cz2_t hok hok2])
    · refine lv_sipush (v := (-1003)) hx hb dX8_type_24 (by decide) ?_
      have hok : okTy (nI q) = true := decide_eq_true b_5
      have hok2 : fullB len = false := decide_eq_false (by omega)
      have hb3 : (okTy (nI q) && fullB len) = false := by rw [hok, hok2]; rfl
      have eN : tyN (okTy (nI q) && fullB len) len = len := by rw [hb3]; rfl
      have eT : tyT (okTy (nI q) && fullB len) T len (tn (nI q)) = T := by rw [hb3]; rfl
      have hP : va_P D vwCl [(a, .inr (8, [.ref g0, .ref g1, .ref g2, .ref g3, .int ik, .int rn, .int ps, .ref g4, .int (nI (tyN (okTy (nI q) && fullB len) len)), .ref g5, .ref g6, .int sp, .int fr, .int re, .int cau, .int co, .int cm, .ref g7])), (g4, .inl (cI, 60, .inl (TA (tyT (okTy (nI q) && fullB len) T len (tn (nI q))))))] s.heap := by rw [eN, eT]; exact hP
      exact rtW_i () hQ hx hb hr hlk hS hP dX8_type_27 ((cz2_n hok hok2).symm)
  · refine gn_if_ne hx hb (by decide) (tgt := 15) dX8_type_8 (by decide) (fun cq => absurd cq (by decide)) (fun cq => ?_)
    refine lv_sipush (v := (-1001)) hx hb dX8_type_11 (by decide) ?_
    have hok : okTy ch = false := decide_eq_false b_5
    have hb3 : (okTy ch && fullB len) = false := by rw [hok]; rfl
    have eN : tyN (okTy ch && fullB len) len = len := by rw [hb3]; rfl
    have eT : tyT (okTy ch && fullB len) T len (tn ch) = T := by rw [hb3]; rfl
    have hP : va_P D vwCl [(a, .inr (8, [.ref g0, .ref g1, .ref g2, .ref g3, .int ik, .int rn, .int ps, .ref g4, .int (nI (tyN (okTy ch && fullB len) len)), .ref g5, .ref g6, .int sp, .int fr, .int re, .int cau, .int co, .int cm, .ref g7])), (g4, .inl (cI, 60, .inl (TA (tyT (okTy ch && fullB len) T len (tn ch)))))] s.heap := by rw [eN, eT]; exact hP
    exact rtW_i () hQ hx hb hr hlk hS hP dX8_type_14 ((cz2_f hok).symm)
abbrev rmX8_clearText : Room := { frames := 0, cells := 0, slots := 0, locals := 0 }
set_option maxRecDepth 20000 in
theorem iw_X8_clearText_X8 : ∀ w ∈ u_ws RX8 TX8 18, w ∈ wsX8_clearText := by decide +kernel
set_option maxHeartbeats 4000000 in
set_option maxRecDepth 100000 in
theorem c_X8_clearText (l : Launch) (D : va_G) (cI cC cQ : ClassId) (a g0 g1 g2 g3 g4 g5 g6 g7 : Nat) (ik rn ps : Int32) (len : Nat) (sp fr re cau co cm : Int32) (sz : Nat) : Met l yX8_clearText wsX8_clearText rmX8_clearText (PW D cI cC cQ [.ref a] [(a, .inr (8, [.ref g0, .ref g1, .ref g2, .ref g3, .int ik, .int rn, .int ps, .ref g4, .int (nI len), .ref g5, .ref g6, .int sp, .int fr, .int re, .int cau, .int co, .int cm, .ref g7]))] sz) (va_Qi (fun (z : Int32) (u : Unit) => z = nI len) (fun (u : Unit) t9 => va_P D vwCl [(a, .inr (8, [.ref g0, .ref g1, .ref g2, .ref g3, .int ik, .int rn, .int ps, .ref g4, .int (nI 0), .ref g5, .ref g6, .int sp, .int fr, .int re, .int cau, .int co, .int cm, .ref g7]))] t9.heap) (va_A [(a, .inr (8, [.ref g0, .ref g1, .ref g2, .ref g3, .int ik, .int rn, .int ps, .ref g4, .int (nI len), .ref g5, .ref g6, .int sp, .int fr, .int re, .int cau, .int co, .int cm, .ref g7]))] sz)) 0 0 (va_A [(a, .inr (8, [.ref g0, .ref g1, .ref g2, .ref g3, .int ik, .int rn, .int ps, .ref g4, .int (nI len), .ref g5, .ref g6, .int sp, .int fr, .int re, .int cau, .int co, .int cm, .ref g7]))] sz) := by
  refine metW (y := yX8_clearText) (ws := wsX8_clearText) (rm := rmX8_clearText) (D := D) (cI := cI) (cC := cC) (cQ := cQ) (av := [.ref a]) (wd := [(a, .inr (8, [.ref g0, .ref g1, .ref g2, .ref g3, .int ik, .int rn, .int ps, .ref g4, .int (nI len), .ref g5, .ref g6, .int sp, .int fr, .int re, .int cau, .int co, .int cm, .ref g7]))]) (sz := sz) (Qf := fun A => va_Qi (fun (z : Int32) (u : Unit) => z = nI len) (fun (u : Unit) t9 => va_P D vwCl [(a, .inr (8, [.ref g0, .ref g1, .ref g2, .ref g3, .int ik, .int rn, .int ps, .ref g4, .int (nI 0), .ref g5, .ref g6, .int sp, .int fr, .int re, .int cau, .int co, .int cm, .ref g7]))] t9.heap) A) (cc := cX8_clearText) (maxL := 2) (ret := (some .int)) (by decide) rfl (Nat.le_of_ble_eq_true rfl) ?_
  intro pg ev s mi args below meth cd ls A Q hQ hx hb hml hr hts hown hlk hnm hK hP hD hS hA hl
  have hKa := hK.1
  have hl : lv_has ls 2 [(0, .ref a)] := hl
  refine lv_aload_n hx hb dX8_clearText_0 rfl (lv_at hl 0 rfl) ?_
  refine va_get (D := D) (ci := 8) (v := .int (nI len)) (C := RX8) (T := TX8) (N := 18) hx hb hts iw_X8_clearText_X8 hown hKa hP 0 rfl rfl 8 (by decide) (hts (.fieldLink RX8 126 "ColourPatchesModel" "typed" "I") (by decide +kernel)) (fun _ h9 => h9) rfl dX8_clearText_1 ?_
  refine lv_istore_n (lv' := [(1, .int (nI len)), (0, .ref a)]) hx hb dX8_clearText_4 rfl hl (by decide) rfl (fun ls hl => ?_)
  refine lv_aload_n hx hb dX8_clearText_5 rfl (lv_at hl 1 rfl) ?_
  refine lv_iconst (v := nI 0) hx hb dX8_clearText_6 (by decide) ?_
  refine va_put (D := D) (ci := 8) (v := .int (nI 0)) (ty := .int) (C := RX8) (T := TX8) (N := 18) hx hb hts iw_X8_clearText_X8 tyX8 tyX8_ok nmX8 hown hKa hP hD hS 0 rfl rfl 8 (by decide) (hts (.fieldLink RX8 126 "ColourPatchesModel" "typed" "I") (by decide +kernel)) (fun _ h9 => h9) rfl (by decide +kernel) rfl rfl (Nat.le_of_ble_eq_true rfl) dX8_clearText_7 (fun H locs hP hD hS => ?_)
  have hP : va_P D vwCl [(a, .inr (8, [.ref g0, .ref g1, .ref g2, .ref g3, .int ik, .int rn, .int ps, .ref g4, .int (nI 0), .ref g5, .ref g6, .int sp, .int fr, .int re, .int cau, .int co, .int cm, .ref g7]))] H := hP
  have hD : va_D A [(a, .inr (8, [.ref g0, .ref g1, .ref g2, .ref g3, .int ik, .int rn, .int ps, .ref g4, .int (nI 0), .ref g5, .ref g6, .int sp, .int fr, .int re, .int cau, .int co, .int cm, .ref g7]))] := hD
  refine lv_iload_n hx hb dX8_clearText_10 rfl (lv_at hl 0 rfl) ?_
  exact rtW_i () hQ hx hb hr hlk hS hP dX8_clearText_11 (rfl)
