abbrev rmX8_changes : Room := { frames := 0, cells := 0, slots := 0, locals := 0 }
set_option maxRecDepth 20000 in
theorem iw_X8_changes_X8 : ∀ w ∈ u_ws RX8 TX8 18, w ∈ wsX8_changes := by decide +kernel
set_option maxHeartbeats 4000000 in
set_option maxRecDepth 100000 in
theorem c_X8_changes (l : Launch) (D : va_G) (cI cC cQ : ClassId) (a g0 g1 g2 g3 g4 g5 g6 g7 : Nat) (ik : Int32) (rb n : Nat) (ty sp fr re cau co cm : Int32) (P : Nat → Nat → Nat → Int32) (G : Nat → Nat → Int32) (sz : Nat) (hrb : rb ≤ 1) (hn : n ≤ 4) : Met l yX8_changes wsX8_changes rmX8_changes (PW D cI cC cQ [.ref a] [(a, .inr (8, [.ref g0, .ref g1, .ref g2, .ref g3, .int ik, .int (nI rb), .int (nI n), .ref g4, .int ty, .ref g5, .ref g6, .int sp, .int fr, .int re, .int cau, .int co, .int cm, .ref g7])), (g0, .inl (cI, 240, .inl (MA G))), (g1, .inl (cI, 960, .inl (QA P)))] sz) (va_Qv (fun (u : Unit) => True) (fun (u : Unit) t9 => va_P D vwCl [(a, .inr (8, [.ref g0, .ref g1, .ref g2, .ref g3, .int ik, .int (nI rb), .int (nI (pN rb n)), .ref g4, .int ty, .ref g5, .ref g6, .int sp, .int fr, .int re, .int cau, .int co, .int cm, .ref g7])), (g0, .inl (cI, 240, .inl (MA G))), (g1, .inl (cI, 960, .inl (QA (pC rb P n G))))] t9.heap) (va_A [(a, .inr (8, [.ref g0, .ref g1, .ref g2, .ref g3, .int ik, .int (nI rb), .int (nI n), .ref g4, .int ty, .ref g5, .ref g6, .int sp, .int fr, .int re, .int cau, .int co, .int cm, .ref g7])), (g0, .inl (cI, 240, .inl (MA G))), (g1, .inl (cI, 960, .inl (QA P)))] sz)) 0 0 (va_A [(a, .inr (8, [.ref g0, .ref g1, .ref g2, .ref g3, .int ik, .int (nI rb), .int (nI n), .ref g4, .int ty, .ref g5, .ref g6, .int sp, .int fr, .int re, .int cau, .int co, .int cm, .ref g7])), (g0, .inl (cI, 240, .inl (MA G))), (g1, .inl (cI, 960, .inl (QA P)))] sz) := by
  refine metW (y := yX8_changes) (ws := wsX8_changes) (rm := rmX8_changes) (D := D) (cI := cI) (cC := cC) (cQ := cQ) (av := [.ref a]) (wd := [(a, .inr (8, [.ref g0, .ref g1, .ref g2, .ref g3, .int ik, .int (nI rb), .int (nI n), .ref g4, .int ty, .ref g5, .ref g6, .int sp, .int fr, .int re, .int cau, .int co, .int cm, .ref g7])), (g0, .inl (cI, 240, .inl (MA G))), (g1, .inl (cI, 960, .inl (QA P)))]) (sz := sz) (Qf := fun A => va_Qv (fun (u : Unit) => True) (fun (u : Unit) t9 => va_P D vwCl [(a, .inr (8, [.ref g0, .ref g1, .ref g2, .ref g3, .int ik, .int (nI rb), .int (nI (pN rb n)), .ref g4, .int ty, .ref g5, .ref g6, .int sp, .int fr, .int re, .int cau, .int co, .int cm, .ref g7])), (g0, .inl (cI, 240, .inl (MA G))), (g1, .inl (cI, 960, .inl (QA (pC rb P n G))))] t9.heap) A) (cc := cX8_changes) (maxL := 2) (ret := none) (by decide) rfl (Nat.le_of_ble_eq_true rfl) ?_
  intro pg ev s mi args below meth cd ls A Q hQ hx hb hml hr hts hown hlk hnm hK hP hD hS hA hl
  have hKa := hK.1
  have hl : lv_has ls 2 [(0, .ref a)] := hl
  refine lv_aload_n hx hb dX8_changes_0 rfl (lv_at hl 0 rfl) ?_
  refine va_get (D := D) (ci := 8) (v := .int (nI rb)) (C := RX8) (T := TX8) (N := 18) hx hb hts iw_X8_changes_X8 hown hKa hP 0 rfl rfl 5 (by decide) (hts (.fieldLink RX8 34 "ColourPatchesModel" "runs" "Z") (by decide +kernel)) (fun _ h9 => h9) rfl dX8_changes_1 ?_
  refine gn_if_eq hx hb (by omega) (tgt := 8) dX8_changes_4 (by decide) (fun c_4 => ?_) (fun c_4 => ?_)
  · have hrb0 : rb = 0 := c_4
    refine lv_aload_n hx hb dX8_changes_8 rfl (lv_at hl 0 rfl) ?_
    refine va_get (D := D) (ci := 8) (v := .int (nI n)) (C := RX8) (T := TX8) (N := 18) hx hb hts iw_X8_changes_X8 hown hKa hP 0 rfl rfl 6 (by decide) (hts (.fieldLink RX8 38 "ColourPatchesModel" "pasts" "I") (by decide +kernel)) (fun _ h9 => h9) rfl dX8_changes_9 ?_
    refine lv_iconst (v := nI 4) hx hb dX8_changes_12 (by decide) ?_
    refine gn_icmp_ne hx hb (by omega) (by decide) (tgt := 57) dX8_changes_13 (by decide) (fun c_13 => ?_) (fun c_13 => ?_)
    · refine lv_iconst (v := nI 0) hx hb dX8_changes_57 (by decide) ?_
      refine lv_istore_n (lv' := [(1, .int (nI 0)), (0, .ref a)]) hx hb dX8_changes_58 rfl hl (by decide) rfl (fun ls hl => ?_)
      have L59 : ∀ (nn : Nat) (k : Nat) (m : Nat) (f : Nat → Int32) (hk : k ≤ 240) (hm : m ≤ 3) (hch : chI P n m f) (_ : 240 - k < nn) (H : Heap) (locs : List Loc) (hP : va_P D vwCl [(a, .inr (8, [.ref g0, .ref g1, .ref g2, .ref g3, .int ik, .int (nI rb), .int (nI m), .ref g4, .int ty, .ref g5, .ref g6, .int sp, .int fr, .int re, .int cau, .int co, .int cm, .ref g7])), (g0, .inl (cI, 240, .inl (MA G))), (g1, .inl (cI, 960, .inl (updW f m (MA G) k)))] H) (hD : va_D A [(a, .inr (8, [.ref g0, .ref g1, .ref g2, .ref g3, .int ik, .int (nI rb), .int (nI m), .ref g4, .int ty, .ref g5, .ref g6, .int sp, .int fr, .int re, .int cau, .int co, .int cm, .ref g7])), (g0, .inl (cI, 240, .inl (MA G))), (g1, .inl (cI, 960, .inl (updW f m (MA G) k)))]) (hS : va_S A s.heap H locs) (ls : Array Slot) (_ : lv_has ls 2 [(1, .int (nI k)), (0, .ref a)]), W pg l ev (headSpec wsX8_changes rmX8_changes).room s mi args below meth cd H locs 0 0 Q (F0 mi 59 ls []) := by
        intro nn
        induction nn with
        | zero =>
          intro k m f hk hm hch hmeas
          exact absurd hmeas (Nat.not_lt_zero _)
        | succ nn ih59 =>
          intro k m f hk hm hch hmeas H locs hP hD hS ls hl
          refine lv_iload_n hx hb dX8_changes_59 rfl (lv_at hl 0 rfl) ?_
          refine lv_sipush (v := nI 240) hx hb dX8_changes_60 (by decide) ?_
          refine gn_icmp_ge hx hb (by omega) (by decide) (tgt := 93) dX8_changes_63 (by decide) (fun c_63 => ?_) (fun c_63 => ?_)
          · refine lv_aload_n hx hb dX8_changes_93 rfl (lv_at hl 1 rfl) ?_
            refine lv_dup hx hb dX8_changes_94 rfl ?_
            refine va_get (D := D) (ci := 8) (v := .int (nI m)) (C := RX8) (T := TX8) (N := 18) hx hb hts iw_X8_changes_X8 hown hKa hP 0 rfl rfl 6 (by decide) (hts (.fieldLink RX8 38 "ColourPatchesModel" "pasts" "I") (by decide +kernel)) (fun _ h9 => h9) rfl dX8_changes_95 ?_
            refine lv_iconst (v := nI 1) hx hb dX8_changes_98 (by decide) ?_
            refine gn_add hx hb dX8_changes_99 ?_
            refine va_put (D := D) (ci := 8) (v := .int (nI (m + 1))) (ty := .int) (C := RX8) (T := TX8) (N := 18) hx hb hts iw_X8_changes_X8 tyX8 tyX8_ok nmX8 hown hKa hP hD hS 0 rfl rfl 6 (by decide) (hts (.fieldLink RX8 38 "ColourPatchesModel" "pasts" "I") (by decide +kernel)) (fun _ h9 => h9) rfl (by decide +kernel) rfl rfl (Nat.le_of_ble_eq_true rfl) dX8_changes_100 (fun H locs hP hD hS => ?_)
            have hP : va_P D vwCl [(a, .inr (8, [.ref g0, .ref g1, .ref g2, .ref g3, .int ik, .int (nI rb), .int (nI (m + 1)), .ref g4, .int ty, .ref g5, .ref g6, .int sp, .int fr, .int re, .int cau, .int co, .int cm, .ref g7])), (g0, .inl (cI, 240, .inl (MA G))), (g1, .inl (cI, 960, .inl (updW f m (MA G) k)))] H := hP
            have hD : va_D A [(a, .inr (8, [.ref g0, .ref g1, .ref g2, .ref g3, .int ik, .int (nI rb), .int (nI (m + 1)), .ref g4, .int ty, .ref g5, .ref g6, .int sp, .int fr, .int re, .int cau, .int co, .int cm, .ref g7])), (g0, .inl (cI, 240, .inl (MA G))), (g1, .inl (cI, 960, .inl (updW f m (MA G) k)))] := hD
            have hP : va_P D vwCl [(a, .inr (8, [.ref g0, .ref g1, .ref g2, .ref g3, .int ik, .int (nI rb), .int (nI (m + 1)), .ref g4, .int ty, .ref g5, .ref g6, .int sp, .int fr, .int re, .int cau, .int co, .int cm, .ref g7])), (g0, .inl (cI, 240, .inl (MA G))), (g1, .inl (cI, 960, .inl (QA (pcP P n G))))] H := (hP.fn 2 rfl (g := QA (pcP P n G)) (fun q hq => by rw [show k = 240 by omega]; exact ch_fin hch hq) rfl)
            have hD : va_D A [(a, .inr (8, [.ref g0, .ref g1, .ref g2, .ref g3, .int ik, .int (nI rb), .int (nI (m + 1)), .ref g4, .int ty, .ref g5, .ref g6, .int sp, .int fr, .int re, .int cau, .int co, .int cm, .ref g7])), (g0, .inl (cI, 240, .inl (MA G))), (g1, .inl (cI, 960, .inl (QA (pcP P n G))))] := hD.addr rfl
            have eP : pC rb P n G = pcP P n G := if_pos hrb0
            have eN : pN rb n = m + 1 := (if_pos hrb0).trans (ch_n hch).1
            have hP : va_P D vwCl [(a, .inr (8, [.ref g0, .ref g1, .ref g2, .ref g3, .int ik, .int (nI rb), .int (nI (pN rb n)), .ref g4, .int ty, .ref g5, .ref g6, .int sp, .int fr, .int re, .int cau, .int co, .int cm, .ref g7])), (g0, .inl (cI, 240, .inl (MA G))), (g1, .inl (cI, 960, .inl (QA (pC rb P n G))))] H := by rw [eP, eN]; exact hP
            exact rtW_v () hQ hx hb hr hlk hS hP dX8_changes_103 (trivial)
          · refine lv_aload_n hx hb dX8_changes_66 rfl (lv_at hl 1 rfl) ?_
            refine va_get (D := D) (ci := 8) (v := .ref g1) (C := RX8) (T := TX8) (N := 18) hx hb hts iw_X8_changes_X8 hown hKa hP 0 rfl rfl 1 (by decide) (hts (.fieldLink RX8 13 "ColourPatchesModel" "past" "[I") (by decide +kernel)) (fun _ h9 => h9) rfl dX8_changes_67 ?_
            refine lv_sipush (v := nI 240) hx hb dX8_changes_70 (by decide) ?_
            refine lv_aload_n hx hb dX8_changes_73 rfl (lv_at hl 1 rfl) ?_
            refine va_get (D := D) (ci := 8) (v := .int (nI m)) (C := RX8) (T := TX8) (N := 18) hx hb hts iw_X8_changes_X8 hown hKa hP 0 rfl rfl 6 (by decide) (hts (.fieldLink RX8 38 "ColourPatchesModel" "pasts" "I") (by decide +kernel)) (fun _ h9 => h9) rfl dX8_changes_74 ?_
            refine gn_mul hx hb dX8_changes_77 ?_
            refine lv_iload_n hx hb dX8_changes_78 rfl (lv_at hl 0 rfl) ?_
            refine gn_add hx hb dX8_changes_79 ?_
            refine lv_aload_n hx hb dX8_changes_80 rfl (lv_at hl 1 rfl) ?_
            refine va_get (D := D) (ci := 8) (v := .ref g0) (C := RX8) (T := TX8) (N := 18) hx hb hts iw_X8_changes_X8 hown hKa hP 0 rfl rfl 0 (by decide) (hts (.fieldLink RX8 7 "ColourPatchesModel" "s" "[I") (by decide +kernel)) (fun _ h9 => h9) rfl dX8_changes_81 ?_
            refine lv_iload_n hx hb dX8_changes_84 rfl (lv_at hl 0 rfl) ?_
            refine gn_iald hx hb hKa hP 1 0 rfl rfl (k := k) (by omega) (by omega) dX8_changes_85 ?_
            refine W.eq (g2 := F0 mi 86 ls [.int ((MA G) k), .int (nI ((240 * m) + k)), .ref g1]) rfl ?_
            refine gn_iast (ws' := [(a, .inr (8, [.ref g0, .ref g1, .ref g2, .ref g3, .int ik, .int (nI rb), .int (nI m), .ref g4, .int ty, .ref g5, .ref g6, .int sp, .int fr, .int re, .int cau, .int co, .int cm, .ref g7])), (g0, .inl (cI, 240, .inl (MA G))), (g1, .inl (cI, 960, .inl (upd (updW f m (MA G) k) ((240 * m) + k) ((MA G) k))))]) hx hb hKa hP hD hS 2 0 rfl rfl (k := (240 * m) + k) (by omega) (by omega) dX8_changes_86 rfl (fun H locs hP hD hS => ?_)
            refine gn_iinc (lv' := [(1, .int (nI (k + 1))), (0, .ref a)]) hx hb dX8_changes_87 hl (k := 0) rfl (by decide) rfl (fun ls hl => ?_)
            refine lv_goto (tgt := 59) hx hb dX8_changes_90 (by decide) ?_
            have hP : va_P D vwCl [(a, .inr (8, [.ref g0, .ref g1, .ref g2, .ref g3, .int ik, .int (nI rb), .int (nI m), .ref g4, .int ty, .ref g5, .ref g6, .int sp, .int fr, .int re, .int cau, .int co, .int cm, .ref g7])), (g0, .inl (cI, 240, .inl (MA G))), (g1, .inl (cI, 960, .inl (updW f m (MA G) (k + 1))))] H := (hP.fn 2 rfl (g := updW f m (MA G) (k + 1)) (fun q _ => updW_s f m (MA G) k q) rfl)
            have hD : va_D A [(a, .inr (8, [.ref g0, .ref g1, .ref g2, .ref g3, .int ik, .int (nI rb), .int (nI m), .ref g4, .int ty, .ref g5, .ref g6, .int sp, .int fr, .int re, .int cau, .int co, .int cm, .ref g7])), (g0, .inl (cI, 240, .inl (MA G))), (g1, .inl (cI, 960, .inl (updW f m (MA G) (k + 1))))] := hD.addr rfl
            exact ih59 (k + 1) m f (show (k + 1) ≤ 240 from by first | omega | assumption | rfl) (show m ≤ 3 from by first | omega | assumption | rfl) (show chI P n m f from hch) (by first | omega | assumption) H locs hP hD hS _ (lv_sub hl [0, 1] rfl)
      have hP : va_P D vwCl [(a, .inr (8, [.ref g0, .ref g1, .ref g2, .ref g3, .int ik, .int (nI rb), .int (nI n), .ref g4, .int ty, .ref g5, .ref g6, .int sp, .int fr, .int re, .int cau, .int co, .int cm, .ref g7])), (g0, .inl (cI, 240, .inl (MA G))), (g1, .inl (cI, 960, .inl (updW (QA P) n (MA G) 0)))] s.heap := (hP.fn 2 rfl (g := updW (QA P) n (MA G) 0) (fun q _ => updW_0 _ _ _ q) rfl)
      have hD : va_D A [(a, .inr (8, [.ref g0, .ref g1, .ref g2, .ref g3, .int ik, .int (nI rb), .int (nI n), .ref g4, .int ty, .ref g5, .ref g6, .int sp, .int fr, .int re, .int cau, .int co, .int cm, .ref g7])), (g0, .inl (cI, 240, .inl (MA G))), (g1, .inl (cI, 960, .inl (updW (QA P) n (MA G) 0)))] := hD.addr rfl
      exact L59 ((240 - 0) + 1) 0 n (QA P) (show 0 ≤ 240 from by first | omega | assumption | rfl) (show n ≤ 3 from by first | omega | assumption | rfl) (show chI P n n (QA P) from Or.inr ⟨by omega, rfl, rfl⟩) (Nat.lt_succ_self _) s.heap [] hP hD hS _ (lv_sub hl [0, 1] rfl)
    · refine lv_iconst (v := nI 0) hx hb dX8_changes_16 (by decide) ?_
      refine lv_istore_n (lv' := [(1, .int (nI 0)), (0, .ref a)]) hx hb dX8_changes_17 rfl hl (by decide) rfl (fun ls hl => ?_)
      have L18 : ∀ (nn : Nat) (k : Nat) (hk : k ≤ 720) (_ : 720 - k < nn) (H : Heap) (locs : List Loc) (hP : va_P D vwCl [(a, .inr (8, [.ref g0, .ref g1, .ref g2, .ref g3, .int ik, .int (nI rb), .int (nI n), .ref g4, .int ty, .ref g5, .ref g6, .int sp, .int fr, .int re, .int cau, .int co, .int cm, .ref g7])), (g0, .inl (cI, 240, .inl (MA G))), (g1, .inl (cI, 960, .inl (mixF (QA (shP P)) (QA P) k)))] H) (hD : va_D A [(a, .inr (8, [.ref g0, .ref g1, .ref g2, .ref g3, .int ik, .int (nI rb), .int (nI n), .ref g4, .int ty, .ref g5, .ref g6, .int sp, .int fr, .int re, .int cau, .int co, .int cm, .ref g7])), (g0, .inl (cI, 240, .inl (MA G))), (g1, .inl (cI, 960, .inl (mixF (QA (shP P)) (QA P) k)))]) (hS : va_S A s.heap H locs) (ls : Array Slot) (_ : lv_has ls 2 [(1, .int (nI k)), (0, .ref a)]), W pg l ev (headSpec wsX8_changes rmX8_changes).room s mi args below meth cd H locs 0 0 Q (F0 mi 18 ls []) := by
        intro nn
        induction nn with
        | zero =>
          intro k hk hmeas
          exact absurd hmeas (Nat.not_lt_zero _)
        | succ nn ih18 =>
          intro k hk hmeas H locs hP hD hS ls hl
          refine lv_iload_n hx hb dX8_changes_18 rfl (lv_at hl 0 rfl) ?_
          refine lv_sipush (v := nI 720) hx hb dX8_changes_19 (by decide) ?_
          refine gn_icmp_ge hx hb (by omega) (by decide) (tgt := 47) dX8_changes_22 (by decide) (fun c_22 => ?_) (fun c_22 => ?_)
          · refine lv_aload_n hx hb dX8_changes_47 rfl (lv_at hl 1 rfl) ?_
            refine lv_dup hx hb dX8_changes_48 rfl ?_
            refine va_get (D := D) (ci := 8) (v := .int (nI n)) (C := RX8) (T := TX8) (N := 18) hx hb hts iw_X8_changes_X8 hown hKa hP 0 rfl rfl 6 (by decide) (hts (.fieldLink RX8 38 "ColourPatchesModel" "pasts" "I") (by decide +kernel)) (fun _ h9 => h9) rfl dX8_changes_49 ?_
            refine lv_iconst (v := nI 1) hx hb dX8_changes_52 (by decide) ?_
            refine gn_sub hx hb (by omega) dX8_changes_53 ?_
            refine va_put (D := D) (ci := 8) (v := .int (nI (n - 1))) (ty := .int) (C := RX8) (T := TX8) (N := 18) hx hb hts iw_X8_changes_X8 tyX8 tyX8_ok nmX8 hown hKa hP hD hS 0 rfl rfl 6 (by decide) (hts (.fieldLink RX8 38 "ColourPatchesModel" "pasts" "I") (by decide +kernel)) (fun _ h9 => h9) rfl (by decide +kernel) rfl rfl (Nat.le_of_ble_eq_true rfl) dX8_changes_54 (fun H locs hP hD hS => ?_)
            have hP : va_P D vwCl [(a, .inr (8, [.ref g0, .ref g1, .ref g2, .ref g3, .int ik, .int (nI rb), .int (nI (n - 1)), .ref g4, .int ty, .ref g5, .ref g6, .int sp, .int fr, .int re, .int cau, .int co, .int cm, .ref g7])), (g0, .inl (cI, 240, .inl (MA G))), (g1, .inl (cI, 960, .inl (mixF (QA (shP P)) (QA P) k)))] H := hP
            have hD : va_D A [(a, .inr (8, [.ref g0, .ref g1, .ref g2, .ref g3, .int ik, .int (nI rb), .int (nI (n - 1)), .ref g4, .int ty, .ref g5, .ref g6, .int sp, .int fr, .int re, .int cau, .int co, .int cm, .ref g7])), (g0, .inl (cI, 240, .inl (MA G))), (g1, .inl (cI, 960, .inl (mixF (QA (shP P)) (QA P) k)))] := hD
            refine lv_iconst (v := nI 0) hx hb dX8_changes_57 (by decide) ?_
            refine lv_istore_n (lv' := [(1, .int (nI 0)), (0, .ref a)]) hx hb dX8_changes_58 rfl hl (by decide) rfl (fun ls hl => ?_)
            have L59 : ∀ (nn : Nat) (k : Nat) (m : Nat) (f : Nat → Int32) (hk : k ≤ 240) (hm : m ≤ 3) (hch : chI P n m f) (_ : 240 - k < nn) (H : Heap) (locs : List Loc) (hP : va_P D vwCl [(a, .inr (8, [.ref g0, .ref g1, .ref g2, .ref g3, .int ik, .int (nI rb), .int (nI m), .ref g4, .int ty, .ref g5, .ref g6, .int sp, .int fr, .int re, .int cau, .int co, .int cm, .ref g7])), (g0, .inl (cI, 240, .inl (MA G))), (g1, .inl (cI, 960, .inl (updW f m (MA G) k)))] H) (hD : va_D A [(a, .inr (8, [.ref g0, .ref g1, .ref g2, .ref g3, .int ik, .int (nI rb), .int (nI m), .ref g4, .int ty, .ref g5, .ref g6, .int sp, .int fr, .int re, .int cau, .int co, .int cm, .ref g7])), (g0, .inl (cI, 240, .inl (MA G))), (g1, .inl (cI, 960, .inl (updW f m (MA G) k)))]) (hS : va_S A s.heap H locs) (ls : Array Slot) (_ : lv_has ls 2 [(1, .int (nI k)), (0, .ref a)]), W pg l ev (headSpec wsX8_changes rmX8_changes).room s mi args below meth cd H locs 0 0 Q (F0 mi 59 ls []) := by
              intro nn
              induction nn with
              | zero =>
                intro k m f hk hm hch hmeas
                exact absurd hmeas (Nat.not_lt_zero _)
              | succ nn ih59 =>
                intro k m f hk hm hch hmeas H locs hP hD hS ls hl
                refine lv_iload_n hx hb dX8_changes_59 rfl (lv_at hl 0 rfl) ?_
                refine lv_sipush (v := nI 240) hx hb dX8_changes_60 (by decide) ?_
                refine gn_icmp_ge hx hb (by omega) (by decide) (tgt := 93) dX8_changes_63 (by decide) (fun c_63 => ?_) (fun c_63 => ?_)
                · refine lv_aload_n hx hb dX8_changes_93 rfl (lv_at hl 1 rfl) ?_
                  refine lv_dup hx hb dX8_changes_94 rfl ?_
                  refine va_get (D := D) (ci := 8) (v := .int (nI m)) (C := RX8) (T := TX8) (N := 18) hx hb hts iw_X8_changes_X8 hown hKa hP 0 rfl rfl 6 (by decide) (hts (.fieldLink RX8 38 "ColourPatchesModel" "pasts" "I") (by decide +kernel)) (fun _ h9 => h9) rfl dX8_changes_95 ?_
                  refine lv_iconst (v := nI 1) hx hb dX8_changes_98 (by decide) ?_
                  refine gn_add hx hb dX8_changes_99 ?_
                  refine va_put (D := D) (ci := 8) (v := .int (nI (m + 1))) (ty := .int) (C := RX8) (T := TX8) (N := 18) hx hb hts iw_X8_changes_X8 tyX8 tyX8_ok nmX8 hown hKa hP hD hS 0 rfl rfl 6 (by decide) (hts (.fieldLink RX8 38 "ColourPatchesModel" "pasts" "I") (by decide +kernel)) (fun _ h9 => h9) rfl (by decide +kernel) rfl rfl (Nat.le_of_ble_eq_true rfl) dX8_changes_100 (fun H locs hP hD hS => ?_)
                  have hP : va_P D vwCl [(a, .inr (8, [.ref g0, .ref g1, .ref g2, .ref g3, .int ik, .int (nI rb), .int (nI (m + 1)), .ref g4, .int ty, .ref g5, .ref g6, .int sp, .int fr, .int re, .int cau, .int co, .int cm, .ref g7])), (g0, .inl (cI, 240, .inl (MA G))), (g1, .inl (cI, 960, .inl (updW f m (MA G) k)))] H := hP
                  have hD : va_D A [(a, .inr (8, [.ref g0, .ref g1, .ref g2, .ref g3, .int ik, .int (nI rb), .int (nI (m + 1)), .ref g4, .int ty, .ref g5, .ref g6, .int sp, .int fr, .int re, .int cau, .int co, .int cm, .ref g7])), (g0, .inl (cI, 240, .inl (MA G))), (g1, .inl (cI, 960, .inl (updW f m (MA G) k)))] := hD
                  have hP : va_P D vwCl [(a, .inr (8, [.ref g0, .ref g1, .ref g2, .ref g3, .int ik, .int (nI rb), .int (nI (m + 1)), .ref g4, .int ty, .ref g5, .ref g6, .int sp, .int fr, .int re, .int cau, .int co, .int cm, .ref g7])), (g0, .inl (cI, 240, .inl (MA G))), (g1, .inl (cI, 960, .inl (QA (pcP P n G))))] H := (hP.fn 2 rfl (g := QA (pcP P n G)) (fun q hq => by rw [show k = 240 by omega]; exact ch_fin hch hq) rfl)
                  have hD : va_D A [(a, .inr (8, [.ref g0, .ref g1, .ref g2, .ref g3, .int ik, .int (nI rb), .int (nI (m + 1)), .ref g4, .int ty, .ref g5, .ref g6, .int sp, .int fr, .int re, .int cau, .int co, .int cm, .ref g7])), (g0, .inl (cI, 240, .inl (MA G))), (g1, .inl (cI, 960, .inl (QA (pcP P n G))))] := hD.addr rfl
                  have eP : pC rb P n G = pcP P n G := if_pos hrb0
                  have eN : pN rb n = m + 1 := (if_pos hrb0).trans (ch_n hch).1
                  have hP : va_P D vwCl [(a, .inr (8, [.ref g0, .ref g1, .ref g2, .ref g3, .int ik, .int (nI rb), .int (nI (pN rb n)), .ref g4, .int ty, .ref g5, .ref g6, .int sp, .int fr, .int re, .int cau, .int co, .int cm, .ref g7])), (g0, .inl (cI, 240, .inl (MA G))), (g1, .inl (cI, 960, .inl (QA (pC rb P n G))))] H := by rw [eP, eN]; exact hP
                  exact rtW_v () hQ hx hb hr hlk hS hP dX8_changes_103 (trivial)
                · refine lv_aload_n hx hb dX8_changes_66 rfl (lv_at hl 1 rfl) ?_
                  refine va_get (D := D) (ci := 8) (v := .ref g1) (C := RX8) (T := TX8) (N := 18) hx hb hts iw_X8_changes_X8 hown hKa hP 0 rfl rfl 1 (by decide) (hts (.fieldLink RX8 13 "ColourPatchesModel" "past" "[I") (by decide +kernel)) (fun _ h9 => h9) rfl dX8_changes_67 ?_
                  refine lv_sipush (v := nI 240) hx hb dX8_changes_70 (by decide) ?_
                  refine lv_aload_n hx hb dX8_changes_73 rfl (lv_at hl 1 rfl) ?_
                  refine va_get (D := D) (ci := 8) (v := .int (nI m)) (C := RX8) (T := TX8) (N := 18) hx hb hts iw_X8_changes_X8 hown hKa hP 0 rfl rfl 6 (by decide) (hts (.fieldLink RX8 38 "ColourPatchesModel" "pasts" "I") (by decide +kernel)) (fun _ h9 => h9) rfl dX8_changes_74 ?_
                  refine gn_mul hx hb dX8_changes_77 ?_
                  refine lv_iload_n hx hb dX8_changes_78 rfl (lv_at hl 0 rfl) ?_
                  refine gn_add hx hb dX8_changes_79 ?_
                  refine lv_aload_n hx hb dX8_changes_80 rfl (lv_at hl 1 rfl) ?_
                  refine va_get (D := D) (ci := 8) (v := .ref g0) (C := RX8) (T := TX8) (N := 18) hx hb hts iw_X8_changes_X8 hown hKa hP 0 rfl rfl 0 (by decide) (hts (.fieldLink RX8 7 "ColourPatchesModel" "s" "[I") (by decide +kernel)) (fun _ h9 => h9) rfl dX8_changes_81 ?_
                  refine lv_iload_n hx hb dX8_changes_84 rfl (lv_at hl 0 rfl) ?_
                  refine gn_iald hx hb hKa hP 1 0 rfl rfl (k := k) (by omega) (by omega) dX8_changes_85 ?_
                  refine W.eq (g2 := F0 mi 86 ls [.int ((MA G) k), .int (nI ((240 * m) + k)), .ref g1]) rfl ?_
                  refine gn_iast (ws' := [(a, .inr (8, [.ref g0, .ref g1, .ref g2, .ref g3, .int ik, .int (nI rb), .int (nI m), .ref g4, .int ty, .ref g5, .ref g6, .int sp, .int fr, .int re, .int cau, .int co, .int cm, .ref g7])), (g0, .inl (cI, 240, .inl (MA G))), (g1, .inl (cI, 960, .inl (upd (updW f m (MA G) k) ((240 * m) + k) ((MA G) k))))]) hx hb hKa hP hD hS 2 0 rfl rfl (k := (240 * m) + k) (by omega) (by omega) dX8_changes_86 rfl (fun H locs hP hD hS => ?_)
                  refine gn_iinc (lv' := [(1, .int (nI (k + 1))), (0, .ref a)]) hx hb dX8_changes_87 hl (k := 0) rfl (by decide) rfl (fun ls hl => ?_)
                  refine lv_goto (tgt := 59) hx hb dX8_changes_90 (by decide) ?_
                  have hP : va_P D vwCl [(a, .inr (8, [.ref g0, .ref g1, .ref g2, .ref g3, .int ik, .int (nI rb), .int (nI m), .ref g4, .int ty, .ref g5, .ref g6, .int sp, .int fr, .int re, .int cau, .int co, .int cm, .ref g7])), (g0, .inl (cI, 240, .inl (MA G))), (g1, .inl (cI, 960, .inl (updW f m (MA G) (k + 1))))] H := (hP.fn 2 rfl (g := updW f m (MA G) (k + 1)) (fun q _ => updW_s f m (MA G) k q) rfl)
                  have hD : va_D A [(a, .inr (8, [.ref g0, .ref g1, .ref g2, .ref g3, .int ik, .int (nI rb), .int (nI m), .ref g4, .int ty, .ref g5, .ref g6, .int sp, .int fr, .int re, .int cau, .int co, .int cm, .ref g7])), (g0, .inl (cI, 240, .inl (MA G))), (g1, .inl (cI, 960, .inl (updW f m (MA G) (k + 1))))] := hD.addr rfl
                  exact ih59 (k + 1) m f (show (k + 1) ≤ 240 from by first | omega | assumption | rfl) (show m ≤ 3 from by first | omega | assumption | rfl) (show chI P n m f from hch) (by first | omega | assumption) H locs hP hD hS _ (lv_sub hl [0, 1] rfl)
            have hP : va_P D vwCl [(a, .inr (8, [.ref g0, .ref g1, .ref g2, .ref g3, .int ik, .int (nI rb), .int (nI (n - 1)), .ref g4, .int ty, .ref g5, .ref g6, .int sp, .int fr, .int re, .int cau, .int co, .int cm, .ref g7])), (g0, .inl (cI, 240, .inl (MA G))), (g1, .inl (cI, 960, .inl (updW (mixF (QA (shP P)) (QA P) k) (n - 1) (MA G) 0)))] H := (hP.fn 2 rfl (g := updW (mixF (QA (shP P)) (QA P) k) (n - 1) (MA G) 0) (fun q _ => updW_0 _ _ _ q) rfl)
            have hD : va_D A [(a, .inr (8, [.ref g0, .ref g1, .ref g2, .ref g3, .int ik, .int (nI rb), .int (nI (n - 1)), .ref g4, .int ty, .ref g5, .ref g6, .int sp, .int fr, .int re, .int cau, .int co, .int cm, .ref g7])), (g0, .inl (cI, 240, .inl (MA G))), (g1, .inl (cI, 960, .inl (updW (mixF (QA (shP P)) (QA P) k) (n - 1) (MA G) 0)))] := hD.addr rfl
            exact L59 ((240 - 0) + 1) 0 (n - 1) (mixF (QA (shP P)) (QA P) k) (show 0 ≤ 240 from by first | omega | assumption | rfl) (show (n - 1) ≤ 3 from by first | omega | assumption | rfl) (show chI P n (n - 1) (mixF (QA (shP P)) (QA P) k) from Or.inl ⟨c_13, by omega, fun q hq => by rw [show k = 720 by omega]; exact mixF_n _ _ hq⟩) (Nat.lt_succ_self _) H locs hP hD hS _ (lv_sub hl [0, 1] rfl)
          · refine lv_aload_n hx hb dX8_changes_25 rfl (lv_at hl 1 rfl) ?_
            refine va_get (D := D) (ci := 8) (v := .ref g1) (C := RX8) (T := TX8) (N := 18) hx hb hts iw_X8_changes_X8 hown hKa hP 0 rfl rfl 1 (by decide) (hts (.fieldLink RX8 13 "ColourPatchesModel" "past" "[I") (by decide +kernel)) (fun _ h9 => h9) rfl dX8_changes_26 ?_
            refine lv_iload_n hx hb dX8_changes_29 rfl (lv_at hl 0 rfl) ?_
            refine lv_aload_n hx hb dX8_changes_30 rfl (lv_at hl 1 rfl) ?_
            refine va_get (D := D) (ci := 8) (v := .ref g1) (C := RX8) (T := TX8) (N := 18) hx hb hts iw_X8_changes_X8 hown hKa hP 0 rfl rfl 1 (by decide) (hts (.fieldLink RX8 13 "ColourPatchesModel" "past" "[I") (by decide +kernel)) (fun _ h9 => h9) rfl dX8_changes_31 ?_
            refine lv_iload_n hx hb dX8_changes_34 rfl (lv_at hl 0 rfl) ?_
            refine lv_sipush (v := nI 240) hx hb dX8_changes_35 (by decide) ?_
            refine gn_add hx hb dX8_changes_38 ?_
            refine gn_iald hx hb hKa hP 2 0 rfl rfl (k := k + 240) (by omega) (by omega) dX8_changes_39 ?_
            refine W.eq (g2 := F0 mi 40 ls [.int ((mixF (QA (shP P)) (QA P) k) (k + 240)), .int (nI k), .ref g1]) rfl ?_
            refine gn_iast (ws' := [(a, .inr (8, [.ref g0, .ref g1, .ref g2, .ref g3, .int ik, .int (nI rb), .int (nI n), .ref g4, .int ty, .ref g5, .ref g6, .int sp, .int fr, .int re, .int cau, .int co, .int cm, .ref g7])), (g0, .inl (cI, 240, .inl (MA G))), (g1, .inl (cI, 960, .inl (upd (mixF (QA (shP P)) (QA P) k) k ((mixF (QA (shP P)) (QA P) k) (k + 240)))))]) hx hb hKa hP hD hS 2 0 rfl rfl (k := k) (by omega) (by omega) dX8_changes_40 rfl (fun H locs hP hD hS => ?_)
            refine gn_iinc (lv' := [(1, .int (nI (k + 1))), (0, .ref a)]) hx hb dX8_changes_41 hl (k := 0) rfl (by decide) rfl (fun ls hl => ?_)
            refine lv_goto (tgt := 18) hx hb dX8_changes_44 (by decide) ?_
            have hP : va_P D vwCl [(a, .inr (8, [.ref g0, .ref g1, .ref g2, .ref g3, .int ik, .int (nI rb), .int (nI n), .ref g4, .int ty, .ref g5, .ref g6, .int sp, .int fr, .int re, .int cau, .int co, .int cm, .ref g7])), (g0, .inl (cI, 240, .inl (MA G))), (g1, .inl (cI, 960, .inl (mixF (QA (shP P)) (QA P) (k + 1))))] H := (hP.fn 2 rfl (g := mixF (QA (shP P)) (QA P) (k + 1)) (fun q _ => mixF_s _ _ k (sh_eq P k) q) rfl)
            have hD : va_D A [(a, .inr (8, [.ref g0, .ref g1, .ref g2, .ref g3, .int ik, .int (nI rb), .int (nI n), .ref g4, .int ty, .ref g5, .ref g6, .int sp, .int fr, .int re, .int cau, .int co, .int cm, .ref g7])), (g0, .inl (cI, 240, .inl (MA G))), (g1, .inl (cI, 960, .inl (mixF (QA (shP P)) (QA P) (k + 1))))] := hD.addr rfl
            exact ih18 (k + 1) (show (k + 1) ≤ 720 from by first | omega | assumption | rfl) (by first | omega | assumption) H locs hP hD hS _ (lv_sub hl [0, 1] rfl)
      have hP : va_P D vwCl [(a, .inr (8, [.ref g0, .ref g1, .ref g2, .ref g3, .int ik, .int (nI rb), .int (nI n), .ref g4, .int ty, .ref g5, .ref g6, .int sp, .int fr, .int re, .int cau, .int co, .int cm, .ref g7])), (g0, .inl (cI, 240, .inl (MA G))), (g1, .inl (cI, 960, .inl (mixF (QA (shP P)) (QA P) 0)))] s.heap := (hP.fn 2 rfl (g := mixF (QA (shP P)) (QA P) 0) (fun q _ => mixF_0 _ _ q) rfl)
      have hD : va_D A [(a, .inr (8, [.ref g0, .ref g1, .ref g2, .ref g3, .int ik, .int (nI rb), .int (nI n), .ref g4, .int ty, .ref g5, .ref g6, .int sp, .int fr, .int re, .int cau, .int co, .int cm, .ref g7])), (g0, .inl (cI, 240, .inl (MA G))), (g1, .inl (cI, 960, .inl (mixF (QA (shP P)) (QA P) 0)))] := hD.addr rfl
      exact L18 ((720 - 0) + 1) 0 (show 0 ≤ 720 from by first | omega | assumption | rfl) (Nat.lt_succ_self _) s.heap [] hP hD hS _ (lv_sub hl [0, 1] rfl)
  · have eP : pC rb P n G = P := if_neg (by omega)
    have eN : pN rb n = n := if_neg (by omega)
    have hP : va_P D vwCl [(a, .inr (8, [.ref g0, .ref g1, .ref g2, .ref g3, .int ik, .int (nI rb), .int (nI (pN rb n)), .ref g4, .int ty, .ref g5, .ref g6, .int sp, .int fr, .int re, .int cau, .int co, .int cm, .ref g7])), (g0, .inl (cI, 240, .inl (MA G))), (g1, .inl (cI, 960, .inl (QA (pC rb P n G))))] s.heap := by rw [eP, eN]; exact hP
    exact rtW_v () hQ hx hb hr hlk hS hP dX8_changes_7 (trivial)
abbrev rmX8_hold : Room := { frames := 2, cells := 0, slots := 0, locals := 43 }
set_option maxRecDepth 20000 in
theorem iw_X8_hold_X8 : ∀ w ∈ u_ws RX8 TX8 18, w ∈ wsX8_hold := by decide +kernel
set_option maxHeartbeats 4000000 in
set_option maxRecDepth 100000 in
theorem c_X8_hold (l : Launch) (D : va_G) (cI cC cQ : ClassId) (a g0 g1 g2 g3 g4 g5 g6 g7 : Nat) (ik : Int32) (rb n : Nat) (ty sp fr re cau co cm : Int32) (P : Nat → Nat → Nat → Int32) (G : Nat → Nat → Int32) (c r x y v : Int32) (sz : Nat) (hrb : rb ≤ 1) (hn : n ≤ 4) : Met l yX8_hold wsX8_hold rmX8_hold (PW D cI cC cQ [.ref a, .int c, .int r, .int x, .int y, .int v] [(a, .inr (8, [.ref g0, .ref g1, .ref g2, .ref g3, .int ik, .int (nI rb), .int (nI n), .ref g4, .int ty, .ref g5, .ref g6, .int sp, .int fr, .int re, .int cau, .int co, .int cm, .ref g7])), (g0, .inl (cI, 240, .inl (MA G))), (g1, .inl (cI, 960, .inl (QA P)))] sz) (va_Qi (fun (z : Int32) (u : Unit) => z = cz (okH c r x y v) (HA G (cn c r))) (fun (u : Unit) t9 => va_P D vwCl [(a, .inr (8, [.ref g0, .ref g1, .ref g2, .ref g3, .int ik, .int (nI rb), .int (nI (pnB (okH c r x y v) rb n)), .ref g4, .int ty, .ref g5, .ref g6, .int sp, .int fr, .int re, .int cau, .int co, .int cm, .ref g7])), (g0, .inl (cI, 240, .inl (MA (cG (okH c r x y v) (holdG G (cn c r) x y v) G)))), (g1, .inl (cI, 960, .inl (QA (pcB (okH c r x y v) rb P n G))))] t9.heap) (va_A [(a, .inr (8, [.ref g0, .ref g1, .ref g2, .ref g3, .int ik, .int (nI rb), .int (nI n), .ref g4, .int ty, .ref g5, .ref g6, .int sp, .int fr, .int re, .int cau, .int co, .int cm, .ref g7])), (g0, .inl (cI, 240, .inl (MA G))), (g1, .inl (cI, 960, .inl (QA P)))] sz)) 0 0 (va_A [(a, .inr (8, [.ref g0, .ref g1, .ref g2, .ref g3, .int ik, .int (nI rb), .int (nI n), .ref g4, .int ty, .ref g5, .ref g6, .int sp, .int fr, .int re, .int cau, .int co, .int cm, .ref g7])), (g0, .inl (cI, 240, .inl (MA G))), (g1, .inl (cI, 960, .inl (QA P)))] sz) := by
  refine metW (y := yX8_hold) (ws := wsX8_hold) (rm := rmX8_hold) (D := D) (cI := cI) (cC := cC) (cQ := cQ) (av := [.ref a, .int c, .int r, .int x, .int y, .int v]) (wd := [(a, .inr (8, [.ref g0, .ref g1, .ref g2, .ref g3, .int ik, .int (nI rb), .int (nI n), .ref g4, .int ty, .ref g5, .ref g6, .int sp, .int fr, .int re, .int cau, .int co, .int cm, .ref g7])), (g0, .inl (cI, 240, .inl (MA G))), (g1, .inl (cI, 960, .inl (QA P)))]) (sz := sz) (Qf := fun A => va_Qi (fun (z : Int32) (u : Unit) => z = cz (okH c r x y v) (HA G (cn c r))) (fun (u : Unit) t9 => va_P D vwCl [(a, .inr (8, [.ref g0, .ref g1, .ref g2, .ref g3, .int ik, .int (nI rb), .int (nI (pnB (okH c r x y v) rb n)), .ref g4, .int ty, .ref g5, .ref g6, .int sp, .int fr, .int re, .int cau, .int co, .int cm, .ref g7])), (g0, .inl (cI, 240, .inl (MA (cG (okH c r x y v) (holdG G (cn c r) x y v) G)))), (g1, .inl (cI, 960, .inl (QA (pcB (okH c r x y v) rb P n G))))] t9.heap) A) (cc := cX8_hold) (maxL := 8) (ret := (some .int)) (by decide) rfl (Nat.le_of_ble_eq_true rfl) ?_
  intro pg ev s mi args below meth cd ls A Q hQ hx hb hml hr hts hown hlk hnm hK hP hD hS hA hl
  have hKa := hK.1
  have hl : lv_has ls 8 [(0, .ref a), (1, .int c), (2, .int r), (3, .int x), (4, .int y), (5, .int v)] := hl
  refine lv_iload_n hx hb dX8_hold_0 rfl (lv_at hl 1 rfl) ?_
  refine lv_iload_n hx hb dX8_hold_1 rfl (lv_at hl 2 rfl) ?_
  have hPc := hP.sub (ws' := []) [] rfl
  refine clR (va_runS (As := [.int c, .int r]) (rest := []) ⟨hx, hb, hml, hown, hts⟩ (c_X8_isCorner l D cI cC cQ c r ) (va_cwS (rm := rmX8_isCorner) 2 hts gX8_hold_X8_isCorner rfl rfl rfl (by decide +kernel) ⟨Nat.le_of_ble_eq_true rfl, Nat.le_of_ble_eq_true rfl⟩) ⟨PR.blind, PR.go hPc hK⟩ rfl rfl hl.1 rfl (lv_room (Nat.le_of_ble_eq_true rfl)) dX8_hold_2 ⟨Nat.le_of_ble_eq_true rfl, Nat.le_of_ble_eq_true rfl⟩) (fun r_2 h_2 => ?_)
  rcases h_2 with ⟨b_2, rfl⟩ | ⟨b_2, rfl⟩
  · obtain ⟨i, j, hi, hj, rfl, rfl⟩ := isC_nat b_2
    refine gn_if_eq hx hb (by decide) (tgt := 43) dX8_hold_5 (by decide) (fun cq => absurd cq (by decide)) (fun cq => ?_)
    refine lv_iload_n hx hb dX8_hold_8 rfl (lv_at hl 3 rfl) ?_
    refine lv_iconst (v := nI 0) hx hb dX8_hold_9 (by decide) ?_
    refine lv_sipush (v := nI 255) hx hb dX8_hold_10 (by decide) ?_
    have hPc := hP.sub (ws' := []) [] rfl
    refine clR (va_runS (As := [.int x, .int (nI 0), .int (nI 255)]) (rest := []) ⟨hx, hb, hml, hown, hts⟩ (c_X8_in l D cI cC cQ x (nI 0) (nI 255) ) (va_cwS (rm := rmX8_in) 3 hts gX8_hold_X8_in rfl rfl rfl (by decide +kernel) ⟨Nat.le_of_ble_eq_true rfl, Nat.le_of_ble_eq_true rfl⟩) ⟨PR.blind, PR.go hPc hK⟩ rfl rfl hl.1 rfl (lv_room (Nat.le_of_ble_eq_true rfl)) dX8_hold_13 ⟨Nat.le_of_ble_eq_true rfl, Nat.le_of_ble_eq_true rfl⟩) (fun r_13 h_13 => ?_)
    rcases h_13 with ⟨b_13, rfl⟩ | ⟨b_13, rfl⟩
    · refine gn_if_eq hx hb (by decide) (tgt := 43) dX8_hold_16 (by decide) (fun cq => absurd cq (by decide)) (fun cq => ?_)
      refine lv_iload hx hb dX8_hold_19 (lv_at hl 4 rfl) ?_
      refine lv_iconst (v := nI 0) hx hb dX8_hold_21 (by decide) ?_
      refine lv_sipush (v := nI 255) hx hb dX8_hold_22 (by decide) ?_
      have hPc := hP.sub (ws' := []) [] rfl
      refine clR (va_runS (As := [.int y, .int (nI 0), .int (nI 255)]) (rest := []) ⟨hx, hb, hml, hown, hts⟩ (c_X8_in l D cI cC cQ y (nI 0) (nI 255) ) (va_cwS (rm := rmX8_in) 3 hts gX8_hold_X8_in rfl rfl rfl (by decide +kernel) ⟨Nat.le_of_ble_eq_true rfl, Nat.le_of_ble_eq_true rfl⟩) ⟨PR.blind, PR.go hPc hK⟩ rfl rfl hl.1 rfl (lv_room (Nat.le_of_ble_eq_true rfl)) dX8_hold_25 ⟨Nat.le_of_ble_eq_true rfl, Nat.le_of_ble_eq_true rfl⟩) (fun r_25 h_25 => ?_)
      rcases h_25 with ⟨b_25, rfl⟩ | ⟨b_25, rfl⟩
      · refine gn_if_eq hx hb (by decide) (tgt := 43) dX8_hold_28 (by decide) (fun cq => absurd cq (by decide)) (fun cq => ?_)
        refine lv_iload hx hb dX8_hold_31 (lv_at hl 5 rfl) ?_
        refine lv_iconst (v := nI 0) hx hb dX8_hold_33 (by decide) ?_
        refine lv_sipush (v := nI 255) hx hb dX8_hold_34 (by decide) ?_
        have hPc := hP.sub (ws' := []) [] rfl
        refine clR (va_runS (As := [.int v, .int (nI 0), .int (nI 255)]) (rest := []) ⟨hx, hb, hml, hown, hts⟩ (c_X8_in l D cI cC cQ v (nI 0) (nI 255) ) (va_cwS (rm := rmX8_in) 3 hts gX8_hold_X8_in rfl rfl rfl (by decide +kernel) ⟨Nat.le_of_ble_eq_true rfl, Nat.le_of_ble_eq_true rfl⟩) ⟨PR.blind, PR.go hPc hK⟩ rfl rfl hl.1 rfl (lv_room (Nat.le_of_ble_eq_true rfl)) dX8_hold_37 ⟨Nat.le_of_ble_eq_true rfl, Nat.le_of_ble_eq_true rfl⟩) (fun r_37 h_37 => ?_)
        rcases h_37 with ⟨b_37, rfl⟩ | ⟨b_37, rfl⟩
        · refine gn_if_ne hx hb (by decide) (tgt := 47) dX8_hold_40 (by decide) (fun cq => ?_) (fun cq => absurd cq (by decide))
          refine lv_aload_n hx hb dX8_hold_47 rfl (lv_at hl 0 rfl) ?_
          have hPc := hP.sub (ws' := [(a, .inr (8, [.ref g0, .ref g1, .ref g2, .ref g3, .int ik, .int (nI rb), .int (nI n), .ref g4, .int ty, .ref g5, .ref g6, .int sp, .int fr, .int re, .int cau, .int co, .int cm, .ref g7])), (g0, .inl (cI, 240, .inl (MA G))), (g1, .inl (cI, 960, .inl (QA P)))]) [0, 1, 2] rfl
          have hDc := hD.sub (ws' := [(a, .inr (8, [.ref g0, .ref g1, .ref g2, .ref g3, .int ik, .int (nI rb), .int (nI n), .ref g4, .int ty, .ref g5, .ref g6, .int sp, .int fr, .int re, .int cau, .int co, .int cm, .ref g7])), (g0, .inl (cI, 240, .inl (MA G))), (g1, .inl (cI, 960, .inl (QA P)))]) [0, 1, 2] (by decide) rfl
          refine clV (wc := [(a, .inr (8, [.ref g0, .ref g1, .ref g2, .ref g3, .int ik, .int (nI rb), .int (nI n), .ref g4, .int ty, .ref g5, .ref g6, .int sp, .int fr, .int re, .int cau, .int co, .int cm, .ref g7])), (g0, .inl (cI, 240, .inl (MA G))), (g1, .inl (cI, 960, .inl (QA P)))]) (w1 := fun (u_48 : Unit) => [(a, .inr (8, [.ref g0, .ref g1, .ref g2, .ref g3, .int ik, .int (nI rb), .int (nI (pN rb n)), .ref g4, .int ty, .ref g5, .ref g6, .int sp, .int fr, .int re, .int cau, .int co, .int cm, .ref g7])), (g0, .inl (cI, 240, .inl (MA G))), (g1, .inl (cI, 960, .inl (QA (pC rb P n G))))]) (wr := []) (wn := fun (u_48 : Unit) => [(a, .inr (8, [.ref g0, .ref g1, .ref g2, .ref g3, .int ik, .int (nI rb), .int (nI (pN rb n)), .ref g4, .int ty, .ref g5, .ref g6, .int sp, .int fr, .int re, .int cau, .int co, .int cm, .ref g7])), (g0, .inl (cI, 240, .inl (MA G))), (g1, .inl (cI, 960, .inl (QA (pC rb P n G))))]) hP hD hS hA [0, 1, 2] [] [0, 1, 2] rfl rfl rfl rfl (by decide) (fun _ => rfl) (fun _ => rfl) (fun _ => rfl) (va_runV (As := []) (rest := []) ⟨hx, hb, hml, hown, hts⟩ (c_X8_changes l D cI cC cQ a g0 g1 g2 g3 g4 g5 g6 g7 ik rb n ty sp fr re cau co cm P G s.heap.size (by first | assumption | omega) (by first | assumption | omega)) (cwV (rm := rmX8_changes) 0 hts gX8_hold_X8_changes rfl rfl rfl (by decide +kernel) ⟨Nat.le_of_ble_eq_true rfl, Nat.le_of_ble_eq_true rfl⟩) ⟨PW.blind, va_recv hKa hPc (ci := 8) (q0 := 0) rfl rfl, PW.go hPc hK hDc⟩ rfl rfl hl.1 rfl (lv_room (Nat.le_of_ble_eq_true rfl)) dX8_hold_48 ⟨Nat.le_of_ble_eq_true rfl, Nat.le_of_ble_eq_true rfl⟩) (fun u_48 H locs h_48 hP hD hS => ?_)
          have hP : va_P D vwCl [(a, .inr (8, [.ref g0, .ref g1, .ref g2, .ref g3, .int ik, .int (nI rb), .int (nI (pN rb n)), .ref g4, .int ty, .ref g5, .ref g6, .int sp, .int fr, .int re, .int cau, .int co, .int cm, .ref g7])), (g0, .inl (cI, 240, .inl (MA G))), (g1, .inl (cI, 960, .inl (QA (pC rb P n G))))] H := hP
          have hD : va_D A [(a, .inr (8, [.ref g0, .ref g1, .ref g2, .ref g3, .int ik, .int (nI rb), .int (nI (pN rb n)), .ref g4, .int ty, .ref g5, .ref g6, .int sp, .int fr, .int re, .int cau, .int co, .int cm, .ref g7])), (g0, .inl (cI, 240, .inl (MA G))), (g1, .inl (cI, 960, .inl (QA (pC rb P n G))))] := hD
          refine lv_iload_n hx hb dX8_hold_51 rfl (lv_at hl 1 rfl) ?_
          refine lv_iload_n hx hb dX8_hold_52 rfl (lv_at hl 2 rfl) ?_
          have hPc := hP.sub (ws' := []) [] rfl
          refine clRe (E := nI (12 * (5 * j + i))) (va_runS (As := [.int (nI i), .int (nI j)]) (rest := []) ⟨hx, hb, hml, hown, hts⟩ (c_X8_at l D cI cC cQ i j ) (va_cwS (rm := rmX8_at) 2 hts gX8_hold_X8_at rfl rfl rfl (by decide +kernel) ⟨Nat.le_of_ble_eq_true rfl, Nat.le_of_ble_eq_true rfl⟩) ⟨PR.blind, PR.go hPc hK⟩ rfl rfl hl.1 rfl (lv_room (Nat.le_of_ble_eq_true rfl)) dX8_hold_53 ⟨Nat.le_of_ble_eq_true rfl, Nat.le_of_ble_eq_true rfl⟩) ?_
          refine lv_istore (lv' := [(6, .int (nI (12 * (5 * j + i)))), (0, .ref a), (1, .int (nI i)), (2, .int (nI j)), (3, .int x), (4, .int y), (5, .int v)]) hx hb dX8_hold_56 hl (by decide) rfl (fun ls hl => ?_)
          refine lv_aload_n hx hb dX8_hold_58 rfl (lv_at hl 1 rfl) ?_
          refine va_get (D := D) (ci := 8) (v := .ref g0) (C := RX8) (T := TX8) (N := 18) hx hb hts iw_X8_hold_X8 hown hKa hP 0 rfl rfl 0 (by decide) (hts (.fieldLink RX8 7 "ColourPatchesModel" "s" "[I") (by decide +kernel)) (fun _ h9 => h9) rfl dX8_hold_59 ?_
          refine lv_iload hx hb dX8_hold_62 (lv_at hl 0 rfl) ?_
          refine lv_iconst (v := nI 5) hx hb dX8_hold_64 (by decide) ?_
          refine gn_add hx hb dX8_hold_65 ?_
          refine gn_iald hx hb hKa hP 1 0 rfl rfl (k := (12 * (5 * j + i)) + 5) (by omega) (by omega) dX8_hold_66 ?_
          rw [show MA G ((12 * (5 * j + i)) + 5) = G (j * 5 + i) 5 from MA_at _ _ _ _ (by omega) (by omega)]
          refine lv_istore (lv' := [(7, .int (G (j * 5 + i) 5)), (6, .int (nI (12 * (5 * j + i)))), (0, .ref a), (1, .int (nI i)), (2, .int (nI j)), (3, .int x), (4, .int y), (5, .int v)]) hx hb dX8_hold_67 hl (by decide) rfl (fun ls hl => ?_)
          refine lv_aload_n hx hb dX8_hold_69 rfl (lv_at hl 2 rfl) ?_
          refine va_get (D := D) (ci := 8) (v := .ref g0) (C := RX8) (T := TX8) (N := 18) hx hb hts iw_X8_hold_X8 hown hKa hP 0 rfl rfl 0 (by decide) (hts (.fieldLink RX8 7 "ColourPatchesModel" "s" "[I") (by decide +kernel)) (fun _ h9 => h9) rfl dX8_hold_70 ?_
          refine lv_iload hx hb dX8_hold_73 (lv_at hl 1 rfl) ?_
          refine lv_iconst (v := nI 2) hx hb dX8_hold_75 (by decide) ?_
          refine gn_add hx hb dX8_hold_76 ?_
          refine lv_iload_n hx hb dX8_hold_77 rfl (lv_at hl 5 rfl) ?_
          refine gn_iast (ws' := [(a, .inr (8, [.ref g0, .ref g1, .ref g2, .ref g3, .int ik, .int (nI rb), .int (nI (pN rb n)), .ref g4, .int ty, .ref g5, .ref g6, .int sp, .int fr, .int re, .int cau, .int co, .int cm, .ref g7])), (g0, .inl (cI, 240, .inl (upd (MA G) ((12 * (5 * j + i)) + 2) x))), (g1, .inl (cI, 960, .inl (QA (pC rb P n G))))]) hx hb hKa hP hD hS 1 0 rfl rfl (k := (12 * (5 * j + i)) + 2) (by omega) (by omega) dX8_hold_78 rfl (fun H locs hP hD hS => ?_)
          rw [show upd (MA G) ((12 * (5 * j + i)) + 2) x = MA (set1 G (j * 5 + i) 2 x) from MA_set _ _ _ _ _ (by omega) (by omega)] at hP
          have hD : va_D A [(a, .inr (8, [.ref g0, .ref g1, .ref g2, .ref g3, .int ik, .int (nI rb), .int (nI (pN rb n)), .ref g4, .int ty, .ref g5, .ref g6, .int sp, .int fr, .int re, .int cau, .int co, .int cm, .ref g7])), (g0, .inl (cI, 240, .inl (MA (set1 G (j * 5 + i) 2 x)))), (g1, .inl (cI, 960, .inl (QA (pC rb P n G))))] := hD.addr rfl
          refine lv_aload_n hx hb dX8_hold_79 rfl (lv_at hl 2 rfl) ?_
          refine va_get (D := D) (ci := 8) (v := .ref g0) (C := RX8) (T := TX8) (N := 18) hx hb hts iw_X8_hold_X8 hown hKa hP 0 rfl rfl 0 (by decide) (hts (.fieldLink RX8 7 "ColourPatchesModel" "s" "[I") (by decide +kernel)) (fun _ h9 => h9) rfl dX8_hold_80 ?_
          refine lv_iload hx hb dX8_hold_83 (lv_at hl 1 rfl) ?_
          refine lv_iconst (v := nI 2) hx hb dX8_hold_85 (by decide) ?_
          refine gn_add hx hb dX8_hold_86 ?_
          refine lv_iconst (v := nI 1) hx hb dX8_hold_87 (by decide) ?_
          refine gn_add hx hb dX8_hold_88 ?_
          refine lv_iload hx hb dX8_hold_89 (lv_at hl 6 rfl) ?_
          refine gn_iast (ws' := [(a, .inr (8, [.ref g0, .ref g1, .ref g2, .ref g3, .int ik, .int (nI rb), .int (nI (pN rb n)), .ref g4, .int ty, .ref g5, .ref g6, .int sp, .int fr, .int re, .int cau, .int co, .int cm, .ref g7])), (g0, .inl (cI, 240, .inl (upd (MA (set1 G (j * 5 + i) 2 x)) (((12 * (5 * j + i)) + 2) + 1) y))), (g1, .inl (cI, 960, .inl (QA (pC rb P n G))))]) hx hb hKa hP hD hS 1 0 rfl rfl (k := ((12 * (5 * j + i)) + 2) + 1) (by omega) (by omega) dX8_hold_91 rfl (fun H locs hP hD hS => ?_)
          rw [show upd (MA (set1 G (j * 5 + i) 2 x)) (((12 * (5 * j + i)) + 2) + 1) y = MA (set1 (set1 G (j * 5 + i) 2 x) (j * 5 + i) 3 y) from MA_set _ _ _ _ _ (by omega) (by omega)] at hP
          have hD : va_D A [(a, .inr (8, [.ref g0, .ref g1, .ref g2, .ref g3, .int ik, .int (nI rb), .int (nI (pN rb n)), .ref g4, .int ty, .ref g5, .ref g6, .int sp, .int fr, .int re, .int cau, .int co, .int cm, .ref g7])), (g0, .inl (cI, 240, .inl (MA (set1 (set1 G (j * 5 + i) 2 x) (j * 5 + i) 3 y)))), (g1, .inl (cI, 960, .inl (QA (pC rb P n G))))] := hD.addr rfl
          refine lv_aload_n hx hb dX8_hold_92 rfl (lv_at hl 2 rfl) ?_
          refine va_get (D := D) (ci := 8) (v := .ref g0) (C := RX8) (T := TX8) (N := 18) hx hb hts iw_X8_hold_X8 hown hKa hP 0 rfl rfl 0 (by decide) (hts (.fieldLink RX8 7 "ColourPatchesModel" "s" "[I") (by decide +kernel)) (fun _ h9 => h9) rfl dX8_hold_93 ?_
          refine lv_iload hx hb dX8_hold_96 (lv_at hl 1 rfl) ?_
          refine lv_iconst (v := nI 2) hx hb dX8_hold_98 (by decide) ?_
          refine gn_add hx hb dX8_hold_99 ?_
          refine lv_iconst (v := nI 2) hx hb dX8_hold_100 (by decide) ?_
          refine gn_add hx hb dX8_hold_101 ?_
          refine lv_iload hx hb dX8_hold_102 (lv_at hl 7 rfl) ?_
          refine gn_iast (ws' := [(a, .inr (8, [.ref g0, .ref g1, .ref g2, .ref g3, .int ik, .int (nI rb), .int (nI (pN rb n)), .ref g4, .int ty, .ref g5, .ref g6, .int sp, .int fr, .int re, .int cau, .int co, .int cm, .ref g7])), (g0, .inl (cI, 240, .inl (upd (MA (set1 (set1 G (j * 5 + i) 2 x) (j * 5 + i) 3 y)) (((12 * (5 * j + i)) + 2) + 2) v))), (g1, .inl (cI, 960, .inl (QA (pC rb P n G))))]) hx hb hKa hP hD hS 1 0 rfl rfl (k := ((12 * (5 * j + i)) + 2) + 2) (by omega) (by omega) dX8_hold_104 rfl (fun H locs hP hD hS => ?_)
          rw [show upd (MA (set1 (set1 G (j * 5 + i) 2 x) (j * 5 + i) 3 y)) (((12 * (5 * j + i)) + 2) + 2) v = MA (set1 (set1 (set1 G (j * 5 + i) 2 x) (j * 5 + i) 3 y) (j * 5 + i) 4 v) from MA_set _ _ _ _ _ (by omega) (by omega)] at hP
          have hD : va_D A [(a, .inr (8, [.ref g0, .ref g1, .ref g2, .ref g3, .int ik, .int (nI rb), .int (nI (pN rb n)), .ref g4, .int ty, .ref g5, .ref g6, .int sp, .int fr, .int re, .int cau, .int co, .int cm, .ref g7])), (g0, .inl (cI, 240, .inl (MA (set1 (set1 (set1 G (j * 5 + i) 2 x) (j * 5 + i) 3 y) (j * 5 + i) 4 v)))), (g1, .inl (cI, 960, .inl (QA (pC rb P n G))))] := hD.addr rfl
          refine lv_aload_n hx hb dX8_hold_105 rfl (lv_at hl 2 rfl) ?_
          refine va_get (D := D) (ci := 8) (v := .ref g0) (C := RX8) (T := TX8) (N := 18) hx hb hts iw_X8_hold_X8 hown hKa hP 0 rfl rfl 0 (by decide) (hts (.fieldLink RX8 7 "ColourPatchesModel" "s" "[I") (by decide +kernel)) (fun _ h9 => h9) rfl dX8_hold_106 ?_
          refine lv_iload hx hb dX8_hold_109 (lv_at hl 1 rfl) ?_
          refine lv_iconst (v := nI 5) hx hb dX8_hold_111 (by decide) ?_
          refine gn_add hx hb dX8_hold_112 ?_
          refine lv_iconst (v := nI 1) hx hb dX8_hold_113 (by decide) ?_
          refine gn_iast (ws' := [(a, .inr (8, [.ref g0, .ref g1, .ref g2, .ref g3, .int ik, .int (nI rb), .int (nI (pN rb n)), .ref g4, .int ty, .ref g5, .ref g6, .int sp, .int fr, .int re, .int cau, .int co, .int cm, .ref g7])), (g0, .inl (cI, 240, .inl (upd (MA (set1 (set1 (set1 G (j * 5 + i) 2 x) (j * 5 + i) 3 y) (j * 5 + i) 4 v)) ((12 * (5 * j + i)) + 5) (nI 1)))), (g1, .inl (cI, 960, .inl (QA (pC rb P n G))))]) hx hb hKa hP hD hS 1 0 rfl rfl (k := (12 * (5 * j + i)) + 5) (by omega) (by omega) dX8_hold_114 rfl (fun H locs hP hD hS => ?_)
          rw [show upd (MA (set1 (set1 (set1 G (j * 5 + i) 2 x) (j * 5 + i) 3 y) (j * 5 + i) 4 v)) ((12 * (5 * j + i)) + 5) (nI 1) = MA (set1 (set1 (set1 (set1 G (j * 5 + i) 2 x) (j * 5 + i) 3 y) (j * 5 + i) 4 v) (j * 5 + i) 5 (nI 1)) from MA_set _ _ _ _ _ (by omega) (by omega)] at hP
          have hD : va_D A [(a, .inr (8, [.ref g0, .ref g1, .ref g2, .ref g3, .int ik, .int (nI rb), .int (nI (pN rb n)), .ref g4, .int ty, .ref g5, .ref g6, .int sp, .int fr, .int re, .int cau, .int co, .int cm, .ref g7])), (g0, .inl (cI, 240, .inl (MA (set1 (set1 (set1 (set1 G (j * 5 + i) 2 x) (j * 5 + i) 3 y) (j * 5 + i) 4 v) (j * 5 + i) 5 (nI 1))))), (g1, .inl (cI, 960, .inl (QA (pC rb P n G))))] := hD.addr rfl
          refine lv_iload hx hb dX8_hold_115 (lv_at hl 0 rfl) ?_
          have hP : va_P D vwCl [(a, .inr (8, [.ref g0, .ref g1, .ref g2, .ref g3, .int ik, .int (nI rb), .int (nI (pN rb n)), .ref g4, .int ty, .ref g5, .ref g6, .int sp, .int fr, .int re, .int cau, .int co, .int cm, .ref g7])), (g0, .inl (cI, 240, .inl (MA (holdG G (j * 5 + i) x y v)))), (g1, .inl (cI, 960, .inl (QA (pC rb P n G))))] H := (hP.fn 1 rfl (g := MA (holdG G (j * 5 + i) x y v)) (fun q _ => by rw [set_hold]) rfl)
          have hD : va_D A [(a, .inr (8, [.ref g0, .ref g1, .ref g2, .ref g3, .int ik, .int (nI rb), .int (nI (pN rb n)), .ref g4, .int ty, .ref g5, .ref g6, .int sp, .int fr, .int re, .int cau, .int co, .int cm, .ref g7])), (g0, .inl (cI, 240, .inl (MA (holdG G (j * 5 + i) x y v)))), (g1, .inl (cI, 960, .inl (QA (pC rb P n G))))] := hD.addr rfl
          have hok : okH (nI i) (nI j) x y v = true := decide_eq_true ⟨⟨⟨b_2, b_13⟩, b_25⟩, b_37⟩
          have eG : cG (okH (nI i) (nI j) x y v) (holdG G (cn (nI i) (nI j)) x y v) G = holdG G (j * 5 + i) x y v := (cG_t hok).trans (by rw [cn_nI hi hj])
          have eP : pcB (okH (nI i) (nI j) x y v) rb P n G = pC rb P n G := pcB_t hok
          have eN : pnB (okH (nI i) (nI j) x y v) rb n = pN rb n := pnB_t hok
          have hP : va_P D vwCl [(a, .inr (8, [.ref g0, .ref g1, .ref g2, .ref g3, .int ik, .int (nI rb), .int (nI (pnB (okH (nI i) (nI j) x y v) rb n)), .ref g4, .int ty, .ref g5, .ref g6, .int sp, .int fr, .int re, .int cau, .int co, .int cm, .ref g7])), (g0, .inl (cI, 240, .inl (MA (cG (okH (nI i) (nI j) x y v) (holdG G (cn (nI i) (nI j)) x y v) G)))), (g1, .inl (cI, 960, .inl (QA (pcB (okH (nI i) (nI j) x y v) rb P n G))))] H := by rw [eG, eP, eN]; exact hP
          exact rtW_i () hQ hx hb hr hlk hS hP dX8_hold_117 (by rw [cz_t hok, cn_nI hi hj]; rfl)
        · refine gn_if_ne hx hb (by decide) (tgt := 47) dX8_hold_40 (by decide) (fun cq => absurd cq (by decide)) (fun cq => ?_)
          refine lv_sipush (v := (-1001)) hx hb dX8_hold_43 (by decide) ?_
          have hok : okH (nI i) (nI j) x y v = false := decide_eq_false (fun q => b_37 q.2)
          have eG : cG (okH (nI i) (nI j) x y v) (holdG G (cn (nI i) (nI j)) x y v) G = G := cG_f hok
          have eP : pcB (okH (nI i) (nI j) x y v) rb P n G = P := pcB_f hok
          have eN : pnB (okH (nI i) (nI j) x y v) rb n = n := pnB_f hok
          have hP : va_P D vwCl [(a, .inr (8, [.ref g0, .ref g1, .ref g2, .ref g3, .int ik, .int (nI rb), .int (nI (pnB (okH (nI i) (nI j) x y v) rb n)), .ref g4, .int ty, .ref g5, .ref g6, .int sp, .int fr, .int re, .int cau, .int co, .int cm, .ref g7])), (g0, .inl (cI, 240, .inl (MA (cG (okH (nI i) (nI j) x y v) (holdG G (cn (nI i) (nI j)) x y v) G)))), (g1, .inl (cI, 960, .inl (QA (pcB (okH (nI i) (nI j) x y v) rb P n G))))] s.heap := by rw [eG, eP, eN]; exact hP
          exact rtW_i () hQ hx hb hr hlk hS hP dX8_hold_46 ((cz_f hok).symm)
      · refine gn_if_eq hx hb (by decide) (tgt := 43) dX8_hold_28 (by decide) (fun cq => ?_) (fun cq => absurd cq (by decide))
        refine lv_sipush (v := (-1001)) hx hb dX8_hold_43 (by decide) ?_
        have hok : okH (nI i) (nI j) x y v = false := decide_eq_false (fun q => b_25 q.1.2)
        have eG : cG (okH (nI i) (nI j) x y v) (holdG G (cn (nI i) (nI j)) x y v) G = G := cG_f hok
        have eP : pcB (okH (nI i) (nI j) x y v) rb P n G = P := pcB_f hok
        have eN : pnB (okH (nI i) (nI j) x y v) rb n = n := pnB_f hok
        have hP : va_P D vwCl [(a, .inr (8, [.ref g0, .ref g1, .ref g2, .ref g3, .int ik, .int (nI rb), .int (nI (pnB (okH (nI i) (nI j) x y v) rb n)), .ref g4, .int ty, .ref g5, .ref g6, .int sp, .int fr, .int re, .int cau, .int co, .int cm, .ref g7])), (g0, .inl (cI, 240, .inl (MA (cG (okH (nI i) (nI j) x y v) (holdG G (cn (nI i) (nI j)) x y v) G)))), (g1, .inl (cI, 960, .inl (QA (pcB (okH (nI i) (nI j) x y v) rb P n G))))] s.heap := by rw [eG, eP, eN]; exact hP
        exact rtW_i () hQ hx hb hr hlk hS hP dX8_hold_46 ((cz_f hok).symm)
    · refine gn_if_eq hx hb (by decide) (tgt := 43) dX8_hold_16 (by decide) (fun cq => ?_) (fun cq => absurd cq (by decide))
      refine lv_sipush (v := (-1001)) hx hb dX8_hold_43 (by decide) ?_
      have hok : okH (nI i) (nI j) x y v = false := decide_eq_false (fun q => b_13 q.1.1.2)
      have eG : cG (okH (nI i) (nI j) x y v) (holdG G (cn (nI i) (nI j)) x y v) G = G := cG_f hok
      have eP : pcB (okH (nI i) (nI j) x y v) rb P n G = P := pcB_f hok
      have eN : pnB (okH (nI i) (nI j) x y v) rb n = n := pnB_f hok
      have hP : va_P D vwCl [(a, .inr (8, [.ref g0, .ref g1, .ref g2, .ref g3, .int ik, .int (nI rb), .int (nI (pnB (okH (nI i) (nI j) x y v) rb n)), .ref g4, .int ty, .ref g5, .ref g6, .int sp, .int fr, .int re, .int cau, .int co, .int cm, .ref g7])), (g0, .inl (cI, 240, .inl (MA (cG (okH (nI i) (nI j) x y v) (holdG G (cn (nI i) (nI j)) x y v) G)))), (g1, .inl (cI, 960, .inl (QA (pcB (okH (nI i) (nI j) x y v) rb P n G))))] s.heap := by rw [eG, eP, eN]; exact hP
      exact rtW_i () hQ hx hb hr hlk hS hP dX8_hold_46 ((cz_f hok).symm)
  · refine gn_if_eq hx hb (by decide) (tgt := 43) dX8_hold_5 (by decide) (fun cq => ?_) (fun cq => absurd cq (by decide))
    refine lv_sipush (v := (-1001)) hx hb dX8_hold_43 (by decide) ?_
    have hok : okH c r x y v = false := decide_eq_false (fun q => b_2 q.1.1.1)
    have eG : cG (okH c r x y v) (holdG G (cn c r) x y v) G = G := cG_f hok
    have eP : pcB (okH c r x y v) rb P n G = P := pcB_f hok
    have eN : pnB (okH c r x y v) rb n = n := pnB_f hok
    have hP : va_P D vwCl [(a, .inr (8, [.ref g0, .ref g1, .ref g2, .ref g3, .int ik, .int (nI rb), .int (nI (pnB (okH c r x y v) rb n)), .ref g4, .int ty, .ref g5, .ref g6, .int sp, .int fr, .int re, .int cau, .int co, .int cm, .ref g7])), (g0, .inl (cI, 240, .inl (MA (cG (okH c r x y v) (holdG G (cn c r) x y v) G)))), (g1, .inl (cI, 960, .inl (QA (pcB (okH c r x y v) rb P n G))))] s.heap := by rw [eG, eP, eN]; exact hP
    exact rtW_i () hQ hx hb hr hlk hS hP dX8_hold_46 ((cz_f hok).symm)
abbrev rmX8_free : Room := { frames := 2, cells := 0, slots := 0, locals := 43 }
set_option maxRecDepth 20000 in
theorem iw_X8_free_X8 : ∀ w ∈ u_ws RX8 TX8 18, w ∈ wsX8_free := by decide +kernel
set_option maxHeartbeats 4000000 in
set_option maxRecDepth 100000 in
theorem c_X8_free (l : Launch) (D : va_G) (cI cC cQ : ClassId) (a g0 g1 g2 g3 g4 g5 g6 g7 : Nat) (ik : Int32) (rb n : Nat) (ty sp fr re cau co cm : Int32) (P : Nat → Nat → Nat → Int32) (G : Nat → Nat → Int32) (c r : Int32) (sz : Nat) (hG : OKG G) (hrb : rb ≤ 1) (hn : n ≤ 4) : Met l yX8_free wsX8_free rmX8_free (PW D cI cC cQ [.ref a, .int c, .int r] [(a, .inr (8, [.ref g0, .ref g1, .ref g2, .ref g3, .int ik, .int (nI rb), .int (nI n), .ref g4, .int ty, .ref g5, .ref g6, .int sp, .int fr, .int re, .int cau, .int co, .int cm, .ref g7])), (g0, .inl (cI, 240, .inl (MA G))), (g1, .inl (cI, 960, .inl (QA P)))] sz) (va_Qi (fun (z : Int32) (u : Unit) => z = if rfB G c r = true then sumI (HA (freeG G (cn c r))) 20 else rfz G c r) (fun (u : Unit) t9 => va_P D vwCl [(a, .inr (8, [.ref g0, .ref g1, .ref g2, .ref g3, .int ik, .int (nI rb), .int (nI (pnB (rfB G c r) rb n)), .ref g4, .int ty, .ref g5, .ref g6, .int sp, .int fr, .int re, .int cau, .int co, .int cm, .ref g7])), (g0, .inl (cI, 240, .inl (MA (cG (rfB G c r) (freeG G (cn c r)) G)))), (g1, .inl (cI, 960, .inl (QA (pcB (rfB G c r) rb P n G))))] t9.heap) (va_A [(a, .inr (8, [.ref g0, .ref g1, .ref g2, .ref g3, .int ik, .int (nI rb), .int (nI n), .ref g4, .int ty, .ref g5, .ref g6, .int sp, .int fr, .int re, .int cau, .int co, .int cm, .ref g7])), (g0, .inl (cI, 240, .inl (MA G))), (g1, .inl (cI, 960, .inl (QA P)))] sz)) 0 0 (va_A [(a, .inr (8, [.ref g0, .ref g1, .ref g2, .ref g3, .int ik, .int (nI rb), .int (nI n), .ref g4, .int ty, .ref g5, .ref g6, .int sp, .int fr, .int re, .int cau, .int co, .int cm, .ref g7])), (g0, .inl (cI, 240, .inl (MA G))), (g1, .inl (cI, 960, .inl (QA P)))] sz) := by
  refine metW (y := yX8_free) (ws := wsX8_free) (rm := rmX8_free) (D := D) (cI := cI) (cC := cC) (cQ := cQ) (av := [.ref a, .int c, .int r]) (wd := [(a, .inr (8, [.ref g0, .ref g1, .ref g2, .ref g3, .int ik, .int (nI rb), .int (nI n), .ref g4, .int ty, .ref g5, .ref g6, .int sp, .int fr, .int re, .int cau, .int co, .int cm, .ref g7])), (g0, .inl (cI, 240, .inl (MA G))), (g1, .inl (cI, 960, .inl (QA P)))]) (sz := sz) (Qf := fun A => va_Qi (fun (z : Int32) (u : Unit) => z = if rfB G c r = true then sumI (HA (freeG G (cn c r))) 20 else rfz G c r) (fun (u : Unit) t9 => va_P D vwCl [(a, .inr (8, [.ref g0, .ref g1, .ref g2, .ref g3, .int ik, .int (nI rb), .int (nI (pnB (rfB G c r) rb n)), .ref g4, .int ty, .ref g5, .ref g6, .int sp, .int fr, .int re, .int cau, .int co, .int cm, .ref g7])), (g0, .inl (cI, 240, .inl (MA (cG (rfB G c r) (freeG G (cn c r)) G)))), (g1, .inl (cI, 960, .inl (QA (pcB (rfB G c r) rb P n G))))] t9.heap) A) (cc := cX8_free) (maxL := 3) (ret := (some .int)) (by decide) rfl (Nat.le_of_ble_eq_true rfl) ?_
  intro pg ev s mi args below meth cd ls A Q hQ hx hb hml hr hts hown hlk hnm hK hP hD hS hA hl
  have hKa := hK.1
  have hl : lv_has ls 3 [(0, .ref a), (1, .int c), (2, .int r)] := hl
  refine lv_iload_n hx hb dX8_free_0 rfl (lv_at hl 1 rfl) ?_
  refine lv_iload_n hx hb dX8_free_1 rfl (lv_at hl 2 rfl) ?_
  have hPc := hP.sub (ws' := []) [] rfl
  refine clR (va_runS (As := [.int c, .int r]) (rest := []) ⟨hx, hb, hml, hown, hts⟩ (c_X8_isCorner l D cI cC cQ c r ) (va_cwS (rm := rmX8_isCorner) 2 hts gX8_free_X8_isCorner rfl rfl rfl (by decide +kernel) ⟨Nat.le_of_ble_eq_true rfl, Nat.le_of_ble_eq_true rfl⟩) ⟨PR.blind, PR.go hPc hK⟩ rfl rfl hl.1 rfl (lv_room (Nat.le_of_ble_eq_true rfl)) dX8_free_2 ⟨Nat.le_of_ble_eq_true rfl, Nat.le_of_ble_eq_true rfl⟩) (fun r_2 h_2 => ?_)
  rcases h_2 with ⟨b_2, rfl⟩ | ⟨b_2, rfl⟩
  · obtain ⟨i, j, hi, hj, rfl, rfl⟩ := isC_nat b_2
    refine gn_if_ne hx hb (by decide) (tgt := 12) dX8_free_5 (by decide) (fun cq => ?_) (fun cq => absurd cq (by decide))
    refine lv_aload_n hx hb dX8_free_12 rfl (lv_at hl 0 rfl) ?_
    refine va_get (D := D) (ci := 8) (v := .ref g0) (C := RX8) (T := TX8) (N := 18) hx hb hts iw_X8_free_X8 hown hKa hP 0 rfl rfl 0 (by decide) (hts (.fieldLink RX8 7 "ColourPatchesModel" "s" "[I") (by decide +kernel)) (fun _ h9 => h9) rfl dX8_free_13 ?_
    refine lv_iload_n hx hb dX8_free_16 rfl (lv_at hl 1 rfl) ?_
    refine lv_iload_n hx hb dX8_free_17 rfl (lv_at hl 2 rfl) ?_
    have hPc := hP.sub (ws' := []) [] rfl
    refine clRe (E := nI (12 * (5 * j + i))) (va_runS (As := [.int (nI i), .int (nI j)]) (rest := [.ref g0]) ⟨hx, hb, hml, hown, hts⟩ (c_X8_at l D cI cC cQ i j ) (va_cwS (rm := rmX8_at) 2 hts gX8_free_X8_at rfl rfl rfl (by decide +kernel) ⟨Nat.le_of_ble_eq_true rfl, Nat.le_of_ble_eq_true rfl⟩) ⟨PR.blind, PR.go hPc hK⟩ rfl rfl hl.1 rfl (lv_room (Nat.le_of_ble_eq_true rfl)) dX8_free_18 ⟨Nat.le_of_ble_eq_true rfl, Nat.le_of_ble_eq_true rfl⟩) ?_
    refine lv_iconst (v := nI 5) hx hb dX8_free_21 (by decide) ?_
    refine gn_add hx hb dX8_free_22 ?_
    refine gn_iald hx hb hKa hP 1 0 rfl rfl (k := (12 * (5 * j + i)) + 5) (by omega) (by omega) dX8_free_23 ?_
    rw [show MA G ((12 * (5 * j + i)) + 5) = G (j * 5 + i) 5 from MA_at _ _ _ _ (by omega) (by omega)]
    refine lv_if_ne hx hb (tgt := 31) dX8_free_24 (by decide) (fun c_24 => ?_) (fun c_24 => ?_)
    · refine lv_aload_n hx hb dX8_free_31 rfl (lv_at hl 0 rfl) ?_
      have hPc := hP.sub (ws' := [(a, .inr (8, [.ref g0, .ref g1, .ref g2, .ref g3, .int ik, .int (nI rb), .int (nI n), .ref g4, .int ty, .ref g5, .ref g6, .int sp, .int fr, .int re, .int cau, .int co, .int cm, .ref g7])), (g0, .inl (cI, 240, .inl (MA G))), (g1, .inl (cI, 960, .inl (QA P)))]) [0, 1, 2] rfl
      have hDc := hD.sub (ws' := [(a, .inr (8, [.ref g0, .ref g1, .ref g2, .ref g3, .int ik, .int (nI rb), .int (nI n), .ref g4, .int ty, .ref g5, .ref g6, .int sp, .int fr, .int re, .int cau, .int co, .int cm, .ref g7])), (g0, .inl (cI, 240, .inl (MA G))), (g1, .inl (cI, 960, .inl (QA P)))]) [0, 1, 2] (by decide) rfl
      refine clV (wc := [(a, .inr (8, [.ref g0, .ref g1, .ref g2, .ref g3, .int ik, .int (nI rb), .int (nI n), .ref g4, .int ty, .ref g5, .ref g6, .int sp, .int fr, .int re, .int cau, .int co, .int cm, .ref g7])), (g0, .inl (cI, 240, .inl (MA G))), (g1, .inl (cI, 960, .inl (QA P)))]) (w1 := fun (u_32 : Unit) => [(a, .inr (8, [.ref g0, .ref g1, .ref g2, .ref g3, .int ik, .int (nI rb), .int (nI (pN rb n)), .ref g4, .int ty, .ref g5, .ref g6, .int sp, .int fr, .int re, .int cau, .int co, .int cm, .ref g7])), (g0, .inl (cI, 240, .inl (MA G))), (g1, .inl (cI, 960, .inl (QA (pC rb P n G))))]) (wr := []) (wn := fun (u_32 : Unit) => [(a, .inr (8, [.ref g0, .ref g1, .ref g2, .ref g3, .int ik, .int (nI rb), .int (nI (pN rb n)), .ref g4, .int ty, .ref g5, .ref g6, .int sp, .int fr, .int re, .int cau, .int co, .int cm, .ref g7])), (g0, .inl (cI, 240, .inl (MA G))), (g1, .inl (cI, 960, .inl (QA (pC rb P n G))))]) hP hD hS hA [0, 1, 2] [] [0, 1, 2] rfl rfl rfl rfl (by decide) (fun _ => rfl) (fun _ => rfl) (fun _ => rfl) (va_runV (As := []) (rest := []) ⟨hx, hb, hml, hown, hts⟩ (c_X8_changes l D cI cC cQ a g0 g1 g2 g3 g4 g5 g6 g7 ik rb n ty sp fr re cau co cm P G s.heap.size (by first | assumption | omega) (by first | assumption | omega)) (cwV (rm := rmX8_changes) 0 hts gX8_free_X8_changes rfl rfl rfl (by decide +kernel) ⟨Nat.le_of_ble_eq_true rfl, Nat.le_of_ble_eq_true rfl⟩) ⟨PW.blind, va_recv hKa hPc (ci := 8) (q0 := 0) rfl rfl, PW.go hPc hK hDc⟩ rfl rfl hl.1 rfl (lv_room (Nat.le_of_ble_eq_true rfl)) dX8_free_32 ⟨Nat.le_of_ble_eq_true rfl, Nat.le_of_ble_eq_true rfl⟩) (fun u_32 H locs h_32 hP hD hS => ?_)
      have hP : va_P D vwCl [(a, .inr (8, [.ref g0, .ref g1, .ref g2, .ref g3, .int ik, .int (nI rb), .int (nI (pN rb n)), .ref g4, .int ty, .ref g5, .ref g6, .int sp, .int fr, .int re, .int cau, .int co, .int cm, .ref g7])), (g0, .inl (cI, 240, .inl (MA G))), (g1, .inl (cI, 960, .inl (QA (pC rb P n G))))] H := hP
      have hD : va_D A [(a, .inr (8, [.ref g0, .ref g1, .ref g2, .ref g3, .int ik, .int (nI rb), .int (nI (pN rb n)), .ref g4, .int ty, .ref g5, .ref g6, .int sp, .int fr, .int re, .int cau, .int co, .int cm, .ref g7])), (g0, .inl (cI, 240, .inl (MA G))), (g1, .inl (cI, 960, .inl (QA (pC rb P n G))))] := hD
      refine lv_aload_n hx hb dX8_free_35 rfl (lv_at hl 0 rfl) ?_
      refine va_get (D := D) (ci := 8) (v := .ref g0) (C := RX8) (T := TX8) (N := 18) hx hb hts iw_X8_free_X8 hown hKa hP 0 rfl rfl 0 (by decide) (hts (.fieldLink RX8 7 "ColourPatchesModel" "s" "[I") (by decide +kernel)) (fun _ h9 => h9) rfl dX8_free_36 ?_
      refine lv_iload_n hx hb dX8_free_39 rfl (lv_at hl 1 rfl) ?_
      refine lv_iload_n hx hb dX8_free_40 rfl (lv_at hl 2 rfl) ?_
      have hPc := hP.sub (ws' := []) [] rfl
      refine clRe (E := nI (12 * (5 * j + i))) (va_runS (As := [.int (nI i), .int (nI j)]) (rest := [.ref g0]) ⟨hx, hb, hml, hown, hts⟩ (c_X8_at l D cI cC cQ i j ) (va_cwS (rm := rmX8_at) 2 hts gX8_free_X8_at rfl rfl rfl (by decide +kernel) ⟨Nat.le_of_ble_eq_true rfl, Nat.le_of_ble_eq_true rfl⟩) ⟨PR.blind, PR.go hPc hK⟩ rfl rfl hl.1 rfl (lv_room (Nat.le_of_ble_eq_true rfl)) dX8_free_41 ⟨Nat.le_of_ble_eq_true rfl, Nat.le_of_ble_eq_true rfl⟩) ?_
      refine lv_iconst (v := nI 5) hx hb dX8_free_44 (by decide) ?_
      refine gn_add hx hb dX8_free_45 ?_
      refine lv_iconst (v := nI 0) hx hb dX8_free_46 (by decide) ?_
      refine gn_iast (ws' := [(a, .inr (8, [.ref g0, .ref g1, .ref g2, .ref g3, .int ik, .int (nI rb), .int (nI (pN rb n)), .ref g4, .int ty, .ref g5, .ref g6, .int sp, .int fr, .int re, .int cau, .int co, .int cm, .ref g7])), (g0, .inl (cI, 240, .inl (upd (MA G) ((12 * (5 * j + i)) + 5) (nI 0)))), (g1, .inl (cI, 960, .inl (QA (pC rb P n G))))]) hx hb hKa hP hD hS 1 0 rfl rfl (k := (12 * (5 * j + i)) + 5) (by omega) (by omega) dX8_free_47 rfl (fun H locs hP hD hS => ?_)
      rw [show upd (MA G) ((12 * (5 * j + i)) + 5) (nI 0) = MA (set1 G (j * 5 + i) 5 (nI 0)) from MA_set _ _ _ _ _ (by omega) (by omega)] at hP
      have hD : va_D A [(a, .inr (8, [.ref g0, .ref g1, .ref g2, .ref g3, .int ik, .int (nI rb), .int (nI (pN rb n)), .ref g4, .int ty, .ref g5, .ref g6, .int sp, .int fr, .int re, .int cau, .int co, .int cm, .ref g7])), (g0, .inl (cI, 240, .inl (MA (set1 G (j * 5 + i) 5 (nI 0))))), (g1, .inl (cI, 960, .inl (QA (pC rb P n G))))] := hD.addr rfl
      have hP : va_P D vwCl [(a, .inr (8, [.ref g0, .ref g1, .ref g2, .ref g3, .int ik, .int (nI rb), .int (nI (pN rb n)), .ref g4, .int ty, .ref g5, .ref g6, .int sp, .int fr, .int re, .int cau, .int co, .int cm, .ref g7])), (g0, .inl (cI, 240, .inl (MA (freeG G (j * 5 + i))))), (g1, .inl (cI, 960, .inl (QA (pC rb P n G))))] H := (hP.fn 1 rfl (g := MA (freeG G (j * 5 + i))) (fun q _ => by rw [set_free]) rfl)
      have hD : va_D A [(a, .inr (8, [.ref g0, .ref g1, .ref g2, .ref g3, .int ik, .int (nI rb), .int (nI (pN rb n)), .ref g4, .int ty, .ref g5, .ref g6, .int sp, .int fr, .int re, .int cau, .int co, .int cm, .ref g7])), (g0, .inl (cI, 240, .inl (MA (freeG G (j * 5 + i))))), (g1, .inl (cI, 960, .inl (QA (pC rb P n G))))] := hD.addr rfl
      refine lv_aload_n hx hb dX8_free_48 rfl (lv_at hl 0 rfl) ?_
      have hPc := hP.sub (ws' := [(a, .inr (8, [.ref g0, .ref g1, .ref g2, .ref g3, .int ik, .int (nI rb), .int (nI (pN rb n)), .ref g4, .int ty, .ref g5, .ref g6, .int sp, .int fr, .int re, .int cau, .int co, .int cm, .ref g7])), (g0, .inl (cI, 240, .inl (MA (freeG G (j * 5 + i)))))]) [0, 1] rfl
      refine clRe (E := sumI (HA (freeG G (j * 5 + i))) 20) (va_runV (As := []) (rest := []) ⟨hx, hb, hml, hown, hts⟩ (c_X8_heldCorners l D cI cC cQ a g0 g1 g2 g3 g4 g5 g6 g7 ik (nI rb) (nI (pN rb n)) ty sp fr re cau co cm (freeG G (j * 5 + i)) ) (cwV (rm := rmX8_heldCorners) 0 hts gX8_free_X8_heldCorners rfl rfl rfl (by decide +kernel) ⟨Nat.le_of_ble_eq_true rfl, Nat.le_of_ble_eq_true rfl⟩) ⟨PR.blind, va_recv hKa hPc (ci := 8) (q0 := 0) rfl rfl, PR.go hPc hK⟩ rfl rfl hl.1 rfl (lv_room (Nat.le_of_ble_eq_true rfl)) dX8_free_49 ⟨Nat.le_of_ble_eq_true rfl, Nat.le_of_ble_eq_true rfl⟩) ?_
      have hok : rfB G (nI i) (nI j) = true := decide_eq_true (rfz_y hG hi hj c_24)
      have eG : cG (rfB G (nI i) (nI j)) (freeG G (cn (nI i) (nI j))) G = freeG G (j * 5 + i) := (cG_t hok).trans (by rw [cn_nI hi hj])
      have eP : pcB (rfB G (nI i) (nI j)) rb P n G = pC rb P n G := pcB_t hok
      have eN : pnB (rfB G (nI i) (nI j)) rb n = pN rb n := pnB_t hok
      have hP : va_P D vwCl [(a, .inr (8, [.ref g0, .ref g1, .ref g2, .ref g3, .int ik, .int (nI rb), .int (nI (pnB (rfB G (nI i) (nI j)) rb n)), .ref g4, .int ty, .ref g5, .ref g6, .int sp, .int fr, .int re, .int cau, .int co, .int cm, .ref g7])), (g0, .inl (cI, 240, .inl (MA (cG (rfB G (nI i) (nI j)) (freeG G (cn (nI i) (nI j))) G)))), (g1, .inl (cI, 960, .inl (QA (pcB (rfB G (nI i) (nI j)) rb P n G))))] H := by rw [eG, eP, eN]; exact hP
      exact rtW_i () hQ hx hb hr hlk hS hP dX8_free_52 (by rw [if_pos hok, cn_nI hi hj])
    · refine lv_sipush (v := (-1002)) hx hb dX8_free_27 (by decide) ?_
      have hok : rfB G (nI i) (nI j) = false := decide_eq_false (fun q => rfz_n0 hi hj c_24 q)
      have eG : cG (rfB G (nI i) (nI j)) (freeG G (cn (nI i) (nI j))) G = G := cG_f hok
      have eP : pcB (rfB G (nI i) (nI j)) rb P n G = P := pcB_f hok
      have eN : pnB (rfB G (nI i) (nI j)) rb n = n := pnB_f hok
      have hP : va_P D vwCl [(a, .inr (8, [.ref g0, .ref g1, .ref g2, .ref g3, .int ik, .int (nI rb), .int (nI (pnB (rfB G (nI i) (nI j)) rb n)), .ref g4, .int ty, .ref g5, .ref g6, .int sp, .int fr, .int re, .int cau, .int co, .int cm, .ref g7])), (g0, .inl (cI, 240, .inl (MA (cG (rfB G (nI i) (nI j)) (freeG G (cn (nI i) (nI j))) G)))), (g1, .inl (cI, 960, .inl (QA (pcB (rfB G (nI i) (nI j)) rb P n G))))] s.heap := by rw [eG, eP, eN]; exact hP
      exact rtW_i () hQ hx hb hr hlk hS hP dX8_free_30 (by rw [if_neg (by rw [hok]; decide)]; rw [rfz_in G hi hj, if_neg (show ¬ HA G (j * 5 + i) = nI 1 from fun q => absurd (c_24.symm.trans q) (by decide))])
  · refine gn_if_ne hx hb (by decide) (tgt := 12) dX8_free_5 (by decide) (fun cq => absurd cq (by decide)) (fun cq => ?_)
    refine lv_sipush (v := (-1001)) hx hb dX8_free_8 (by decide) ?_
    have hok : rfB G c r = false := decide_eq_false (fun q => rfz_no b_2 q)
    have eG : cG (rfB G c r) (freeG G (cn c r)) G = G := cG_f hok
    have eP : pcB (rfB G c r) rb P n G = P := pcB_f hok
    have eN : pnB (rfB G c r) rb n = n := pnB_f hok
    have hP : va_P D vwCl [(a, .inr (8, [.ref g0, .ref g1, .ref g2, .ref g3, .int ik, .int (nI rb), .int (nI (pnB (rfB G c r) rb n)), .ref g4, .int ty, .ref g5, .ref g6, .int sp, .int fr, .int re, .int cau, .int co, .int cm, .ref g7])), (g0, .inl (cI, 240, .inl (MA (cG (rfB G c r) (freeG G (cn c r)) G)))), (g1, .inl (cI, 960, .inl (QA (pcB (rfB G c r) rb P n G))))] s.heap := by rw [eG, eP, eN]; exact hP
    exact rtW_i () hQ hx hb hr hlk hS hP dX8_free_11 (by rw [if_neg (by rw [hok]; decide)]; unfold rfz; rw [if_neg b_2])
abbrev rmX8_move : Room := { frames := 4, cells := 0, slots := 0, locals := 92 }
set_option maxRecDepth 20000 in
theorem iw_X8_move_X8 : ∀ w ∈ u_ws RX8 TX8 18, w ∈ wsX8_move := by decide +kernel
set_option maxHeartbeats 4000000 in
set_option maxRecDepth 100000 in
theorem c_X8_move (l : Launch) (D : va_G) (cI cC cQ : ClassId) (a g0 g1 g2 g3 g4 g5 g6 g7 : Nat) (ik : Int32) (rb n : Nat) (ty sp fr re cau co cm : Int32) (P : Nat → Nat → Nat → Int32) (G : Nat → Nat → Int32) (c r x y : Int32) (sz : Nat) (hrb : rb ≤ 1) (hn : n ≤ 4) : Met l yX8_move wsX8_move rmX8_move (PW D cI cC cQ [.ref a, .int c, .int r, .int x, .int y] [(a, .inr (8, [.ref g0, .ref g1, .ref g2, .ref g3, .int ik, .int (nI rb), .int (nI n), .ref g4, .int ty, .ref g5, .ref g6, .int sp, .int fr, .int re, .int cau, .int co, .int cm, .ref g7])), (g0, .inl (cI, 240, .inl (MA G))), (g1, .inl (cI, 960, .inl (QA P)))] sz) (va_Qi (fun (z : Int32) (u : Unit) => z = cz (okM c r x y) (nI (sumN (foldN (moveG G (cn c r) x y)) 12))) (fun (u : Unit) t9 => va_P D vwCl [(a, .inr (8, [.ref g0, .ref g1, .ref g2, .ref g3, .int ik, .int (nI rb), .int (nI (pnB (okM c r x y) rb n)), .ref g4, .int ty, .ref g5, .ref g6, .int sp, .int fr, .int re, .int cau, .int co, .int cm, .ref g7])), (g0, .inl (cI, 240, .inl (MA (cG (okM c r x y) (moveG G (cn c r) x y) G)))), (g1, .inl (cI, 960, .inl (QA (pcB (okM c r x y) rb P n G))))] t9.heap) (va_A [(a, .inr (8, [.ref g0, .ref g1, .ref g2, .ref g3, .int ik, .int (nI rb), .int (nI n), .ref g4, .int ty, .ref g5, .ref g6, .int sp, .int fr, .int re, .int cau, .int co, .int cm, .ref g7])), (g0, .inl (cI, 240, .inl (MA G))), (g1, .inl (cI, 960, .inl (QA P)))] sz)) 0 0 (va_A [(a, .inr (8, [.ref g0, .ref g1, .ref g2, .ref g3, .int ik, .int (nI rb), .int (nI n), .ref g4, .int ty, .ref g5, .ref g6, .int sp, .int fr, .int re, .int cau, .int co, .int cm, .ref g7])), (g0, .inl (cI, 240, .inl (MA G))), (g1, .inl (cI, 960, .inl (QA P)))] sz) := by
  refine metW (y := yX8_move) (ws := wsX8_move) (rm := rmX8_move) (D := D) (cI := cI) (cC := cC) (cQ := cQ) (av := [.ref a, .int c, .int r, .int x, .int y]) (wd := [(a, .inr (8, [.ref g0, .ref g1, .ref g2, .ref g3, .int ik, .int (nI rb), .int (nI n), .ref g4, .int ty, .ref g5, .ref g6, .int sp, .int fr, .int re, .int cau, .int co, .int cm, .ref g7])), (g0, .inl (cI, 240, .inl (MA G))), (g1, .inl (cI, 960, .inl (QA P)))]) (sz := sz) (Qf := fun A => va_Qi (fun (z : Int32) (u : Unit) => z = cz (okM c r x y) (nI (sumN (foldN (moveG G (cn c r) x y)) 12))) (fun (u : Unit) t9 => va_P D vwCl [(a, .inr (8, [.ref g0, .ref g1, .ref g2, .ref g3, .int ik, .int (nI rb), .int (nI (pnB (okM c r x y) rb n)), .ref g4, .int ty, .ref g5, .ref g6, .int sp, .int fr, .int re, .int cau, .int co, .int cm, .ref g7])), (g0, .inl (cI, 240, .inl (MA (cG (okM c r x y) (moveG G (cn c r) x y) G)))), (g1, .inl (cI, 960, .inl (QA (pcB (okM c r x y) rb P n G))))] t9.heap) A) (cc := cX8_move) (maxL := 5) (ret := (some .int)) (by decide) rfl (Nat.le_of_ble_eq_true rfl) ?_
  intro pg ev s mi args below meth cd ls A Q hQ hx hb hml hr hts hown hlk hnm hK hP hD hS hA hl
  have hKa := hK.1
  have hl : lv_has ls 5 [(0, .ref a), (1, .int c), (2, .int r), (3, .int x), (4, .int y)] := hl
  refine lv_iload_n hx hb dX8_move_0 rfl (lv_at hl 1 rfl) ?_
  refine lv_iload_n hx hb dX8_move_1 rfl (lv_at hl 2 rfl) ?_
  have hPc := hP.sub (ws' := []) [] rfl
  refine clR (va_runS (As := [.int c, .int r]) (rest := []) ⟨hx, hb, hml, hown, hts⟩ (c_X8_isCorner l D cI cC cQ c r ) (va_cwS (rm := rmX8_isCorner) 2 hts gX8_move_X8_isCorner rfl rfl rfl (by decide +kernel) ⟨Nat.le_of_ble_eq_true rfl, Nat.le_of_ble_eq_true rfl⟩) ⟨PR.blind, PR.go hPc hK⟩ rfl rfl hl.1 rfl (lv_room (Nat.le_of_ble_eq_true rfl)) dX8_move_2 ⟨Nat.le_of_ble_eq_true rfl, Nat.le_of_ble_eq_true rfl⟩) (fun r_2 h_2 => ?_)
  rcases h_2 with ⟨b_2, rfl⟩ | ⟨b_2, rfl⟩
  · obtain ⟨i, j, hi, hj, rfl, rfl⟩ := isC_nat b_2
    refine gn_if_eq hx hb (by decide) (tgt := 31) dX8_move_5 (by decide) (fun cq => absurd cq (by decide)) (fun cq => ?_)
    refine lv_iload_n hx hb dX8_move_8 rfl (lv_at hl 3 rfl) ?_
    refine lv_iconst (v := nI 0) hx hb dX8_move_9 (by decide) ?_
    refine lv_sipush (v := nI 999) hx hb dX8_move_10 (by decide) ?_
    have hPc := hP.sub (ws' := []) [] rfl
    refine clR (va_runS (As := [.int x, .int (nI 0), .int (nI 999)]) (rest := []) ⟨hx, hb, hml, hown, hts⟩ (c_X8_in l D cI cC cQ x (nI 0) (nI 999) ) (va_cwS (rm := rmX8_in) 3 hts gX8_move_X8_in rfl rfl rfl (by decide +kernel) ⟨Nat.le_of_ble_eq_true rfl, Nat.le_of_ble_eq_true rfl⟩) ⟨PR.blind, PR.go hPc hK⟩ rfl rfl hl.1 rfl (lv_room (Nat.le_of_ble_eq_true rfl)) dX8_move_13 ⟨Nat.le_of_ble_eq_true rfl, Nat.le_of_ble_eq_true rfl⟩) (fun r_13 h_13 => ?_)
    rcases h_13 with ⟨b_13, rfl⟩ | ⟨b_13, rfl⟩
    · refine gn_if_eq hx hb (by decide) (tgt := 31) dX8_move_16 (by decide) (fun cq => absurd cq (by decide)) (fun cq => ?_)
      refine lv_iload hx hb dX8_move_19 (lv_at hl 4 rfl) ?_
      refine lv_iconst (v := nI 0) hx hb dX8_move_21 (by decide) ?_
      refine lv_sipush (v := nI 999) hx hb dX8_move_22 (by decide) ?_
      have hPc := hP.sub (ws' := []) [] rfl
      refine clR (va_runS (As := [.int y, .int (nI 0), .int (nI 999)]) (rest := []) ⟨hx, hb, hml, hown, hts⟩ (c_X8_in l D cI cC cQ y (nI 0) (nI 999) ) (va_cwS (rm := rmX8_in) 3 hts gX8_move_X8_in rfl rfl rfl (by decide +kernel) ⟨Nat.le_of_ble_eq_true rfl, Nat.le_of_ble_eq_true rfl⟩) ⟨PR.blind, PR.go hPc hK⟩ rfl rfl hl.1 rfl (lv_room (Nat.le_of_ble_eq_true rfl)) dX8_move_25 ⟨Nat.le_of_ble_eq_true rfl, Nat.le_of_ble_eq_true rfl⟩) (fun r_25 h_25 => ?_)
      rcases h_25 with ⟨b_25, rfl⟩ | ⟨b_25, rfl⟩
      · refine gn_if_ne hx hb (by decide) (tgt := 35) dX8_move_28 (by decide) (fun cq => ?_) (fun cq => absurd cq (by decide))
        refine lv_aload_n hx hb dX8_move_35 rfl (lv_at hl 0 rfl) ?_
        have hPc := hP.sub (ws' := [(a, .inr (8, [.ref g0, .ref g1, .ref g2, .ref g3, .int ik, .int (nI rb), .int (nI n), .ref g4, .int ty, .ref g5, .ref g6, .int sp, .int fr, .int re, .int cau, .int co, .int cm, .ref g7])), (g0, .inl (cI, 240, .inl (MA G))), (g1, .inl (cI, 960, .inl (QA P)))]) [0, 1, 2] rfl
        have hDc := hD.sub (ws' := [(a, .inr (8, [.ref g0, .ref g1, .ref g2, .ref g3, .int ik, .int (nI rb), .int (nI n), .ref g4, .int ty, .ref g5, .ref g6, .int sp, .int fr, .int re, .int cau, .int co, .int cm, .ref g7])), (g0, .inl (cI, 240, .inl (MA G))), (g1, .inl (cI, 960, .inl (QA P)))]) [0, 1, 2] (by decide) rfl
        refine clV (wc := [(a, .inr (8, [.ref g0, .ref g1, .ref g2, .ref g3, .int ik, .int (nI rb), .int (nI n), .ref g4, .int ty, .ref g5, .ref g6, .int sp, .int fr, .int re, .int cau, .int co, .int cm, .ref g7])), (g0, .inl (cI, 240, .inl (MA G))), (g1, .inl (cI, 960, .inl (QA P)))]) (w1 := fun (u_36 : Unit) => [(a, .inr (8, [.ref g0, .ref g1, .ref g2, .ref g3, .int ik, .int (nI rb), .int (nI (pN rb n)), .ref g4, .int ty, .ref g5, .ref g6, .int sp, .int fr, .int re, .int cau, .int co, .int cm, .ref g7])), (g0, .inl (cI, 240, .inl (MA G))), (g1, .inl (cI, 960, .inl (QA (pC rb P n G))))]) (wr := []) (wn := fun (u_36 : Unit) => [(a, .inr (8, [.ref g0, .ref g1, .ref g2, .ref g3, .int ik, .int (nI rb), .int (nI (pN rb n)), .ref g4, .int ty, .ref g5, .ref g6, .int sp, .int fr, .int re, .int cau, .int co, .int cm, .ref g7])), (g0, .inl (cI, 240, .inl (MA G))), (g1, .inl (cI, 960, .inl (QA (pC rb P n G))))]) hP hD hS hA [0, 1, 2] [] [0, 1, 2] rfl rfl rfl rfl (by decide) (fun _ => rfl) (fun _ => rfl) (fun _ => rfl) (va_runV (As := []) (rest := []) ⟨hx, hb, hml, hown, hts⟩ (c_X8_changes l D cI cC cQ a g0 g1 g2 g3 g4 g5 g6 g7 ik rb n ty sp fr re cau co cm P G s.heap.size (by first | assumption | omega) (by first | assumption | omega)) (cwV (rm := rmX8_changes) 0 hts gX8_move_X8_changes rfl rfl rfl (by decide +kernel) ⟨Nat.le_of_ble_eq_true rfl, Nat.le_of_ble_eq_true rfl⟩) ⟨PW.blind, va_recv hKa hPc (ci := 8) (q0 := 0) rfl rfl, PW.go hPc hK hDc⟩ rfl rfl hl.1 rfl (lv_room (Nat.le_of_ble_eq_true rfl)) dX8_move_36 ⟨Nat.le_of_ble_eq_true rfl, Nat.le_of_ble_eq_true rfl⟩) (fun u_36 H locs h_36 hP hD hS => ?_)
        have hP : va_P D vwCl [(a, .inr (8, [.ref g0, .ref g1, .ref g2, .ref g3, .int ik, .int (nI rb), .int (nI (pN rb n)), .ref g4, .int ty, .ref g5, .ref g6, .int sp, .int fr, .int re, .int cau, .int co, .int cm, .ref g7])), (g0, .inl (cI, 240, .inl (MA G))), (g1, .inl (cI, 960, .inl (QA (pC rb P n G))))] H := hP
        have hD : va_D A [(a, .inr (8, [.ref g0, .ref g1, .ref g2, .ref g3, .int ik, .int (nI rb), .int (nI (pN rb n)), .ref g4, .int ty, .ref g5, .ref g6, .int sp, .int fr, .int re, .int cau, .int co, .int cm, .ref g7])), (g0, .inl (cI, 240, .inl (MA G))), (g1, .inl (cI, 960, .inl (QA (pC rb P n G))))] := hD
        refine lv_aload_n hx hb dX8_move_39 rfl (lv_at hl 0 rfl) ?_
        refine va_get (D := D) (ci := 8) (v := .ref g0) (C := RX8) (T := TX8) (N := 18) hx hb hts iw_X8_move_X8 hown hKa hP 0 rfl rfl 0 (by decide) (hts (.fieldLink RX8 7 "ColourPatchesModel" "s" "[I") (by decide +kernel)) (fun _ h9 => h9) rfl dX8_move_40 ?_
        refine lv_iload_n hx hb dX8_move_43 rfl (lv_at hl 1 rfl) ?_
        refine lv_iload_n hx hb dX8_move_44 rfl (lv_at hl 2 rfl) ?_
        have hPc := hP.sub (ws' := []) [] rfl
        refine clRe (E := nI (12 * (5 * j + i))) (va_runS (As := [.int (nI i), .int (nI j)]) (rest := [.ref g0]) ⟨hx, hb, hml, hown, hts⟩ (c_X8_at l D cI cC cQ i j ) (va_cwS (rm := rmX8_at) 2 hts gX8_move_X8_at rfl rfl rfl (by decide +kernel) ⟨Nat.le_of_ble_eq_true rfl, Nat.le_of_ble_eq_true rfl⟩) ⟨PR.blind, PR.go hPc hK⟩ rfl rfl hl.1 rfl (lv_room (Nat.le_of_ble_eq_true rfl)) dX8_move_45 ⟨Nat.le_of_ble_eq_true rfl, Nat.le_of_ble_eq_true rfl⟩) ?_
        refine lv_iconst (v := nI 0) hx hb dX8_move_48 (by decide) ?_
        refine gn_add hx hb dX8_move_49 ?_
        refine lv_iload_n hx hb dX8_move_50 rfl (lv_at hl 3 rfl) ?_
        refine gn_iast (ws' := [(a, .inr (8, [.ref g0, .ref g1, .ref g2, .ref g3, .int ik, .int (nI rb), .int (nI (pN rb n)), .ref g4, .int ty, .ref g5, .ref g6, .int sp, .int fr, .int re, .int cau, .int co, .int cm, .ref g7])), (g0, .inl (cI, 240, .inl (upd (MA G) ((12 * (5 * j + i)) + 0) x))), (g1, .inl (cI, 960, .inl (QA (pC rb P n G))))]) hx hb hKa hP hD hS 1 0 rfl rfl (k := (12 * (5 * j + i)) + 0) (by omega) (by omega) dX8_move_51 rfl (fun H locs hP hD hS => ?_)
        rw [show upd (MA G) ((12 * (5 * j + i)) + 0) x = MA (set1 G (j * 5 + i) 0 x) from MA_set _ _ _ _ _ (by omega) (by omega)] at hP
        have hD : va_D A [(a, .inr (8, [.ref g0, .ref g1, .ref g2, .ref g3, .int ik, .int (nI rb), .int (nI (pN rb n)), .ref g4, .int ty, .ref g5, .ref g6, .int sp, .int fr, .int re, .int cau, .int co, .int cm, .ref g7])), (g0, .inl (cI, 240, .inl (MA (set1 G (j * 5 + i) 0 x)))), (g1, .inl (cI, 960, .inl (QA (pC rb P n G))))] := hD.addr rfl
        refine lv_aload_n hx hb dX8_move_52 rfl (lv_at hl 0 rfl) ?_
        refine va_get (D := D) (ci := 8) (v := .ref g0) (C := RX8) (T := TX8) (N := 18) hx hb hts iw_X8_move_X8 hown hKa hP 0 rfl rfl 0 (by decide) (hts (.fieldLink RX8 7 "ColourPatchesModel" "s" "[I") (by decide +kernel)) (fun _ h9 => h9) rfl dX8_move_53 ?_
        refine lv_iload_n hx hb dX8_move_56 rfl (lv_at hl 1 rfl) ?_
        refine lv_iload_n hx hb dX8_move_57 rfl (lv_at hl 2 rfl) ?_
        have hPc := hP.sub (ws' := []) [] rfl
        refine clRe (E := nI (12 * (5 * j + i))) (va_runS (As := [.int (nI i), .int (nI j)]) (rest := [.ref g0]) ⟨hx, hb, hml, hown, hts⟩ (c_X8_at l D cI cC cQ i j ) (va_cwS (rm := rmX8_at) 2 hts gX8_move_X8_at rfl rfl rfl (by decide +kernel) ⟨Nat.le_of_ble_eq_true rfl, Nat.le_of_ble_eq_true rfl⟩) ⟨PR.blind, PR.go hPc hK⟩ rfl rfl hl.1 rfl (lv_room (Nat.le_of_ble_eq_true rfl)) dX8_move_58 ⟨Nat.le_of_ble_eq_true rfl, Nat.le_of_ble_eq_true rfl⟩) ?_
        refine lv_iconst (v := nI 1) hx hb dX8_move_61 (by decide) ?_
        refine gn_add hx hb dX8_move_62 ?_
        refine lv_iload hx hb dX8_move_63 (lv_at hl 4 rfl) ?_
        refine gn_iast (ws' := [(a, .inr (8, [.ref g0, .ref g1, .ref g2, .ref g3, .int ik, .int (nI rb), .int (nI (pN rb n)), .ref g4, .int ty, .ref g5, .ref g6, .int sp, .int fr, .int re, .int cau, .int co, .int cm, .ref g7])), (g0, .inl (cI, 240, .inl (upd (MA (set1 G (j * 5 + i) 0 x)) ((12 * (5 * j + i)) + 1) y))), (g1, .inl (cI, 960, .inl (QA (pC rb P n G))))]) hx hb hKa hP hD hS 1 0 rfl rfl (k := (12 * (5 * j + i)) + 1) (by omega) (by omega) dX8_move_65 rfl (fun H locs hP hD hS => ?_)
        rw [show upd (MA (set1 G (j * 5 + i) 0 x)) ((12 * (5 * j + i)) + 1) y = MA (set1 (set1 G (j * 5 + i) 0 x) (j * 5 + i) 1 y) from MA_set _ _ _ _ _ (by omega) (by omega)] at hP
        have hD : va_D A [(a, .inr (8, [.ref g0, .ref g1, .ref g2, .ref g3, .int ik, .int (nI rb), .int (nI (pN rb n)), .ref g4, .int ty, .ref g5, .ref g6, .int sp, .int fr, .int re, .int cau, .int co, .int cm, .ref g7])), (g0, .inl (cI, 240, .inl (MA (set1 (set1 G (j * 5 + i) 0 x) (j * 5 + i) 1 y)))), (g1, .inl (cI, 960, .inl (QA (pC rb P n G))))] := hD.addr rfl
        have hP : va_P D vwCl [(a, .inr (8, [.ref g0, .ref g1, .ref g2, .ref g3, .int ik, .int (nI rb), .int (nI (pN rb n)), .ref g4, .int ty, .ref g5, .ref g6, .int sp, .int fr, .int re, .int cau, .int co, .int cm, .ref g7])), (g0, .inl (cI, 240, .inl (MA (moveG G (j * 5 + i) x y)))), (g1, .inl (cI, 960, .inl (QA (pC rb P n G))))] H := (hP.fn 1 rfl (g := MA (moveG G (j * 5 + i) x y)) (fun q _ => by rw [set_move]) rfl)
        have hD : va_D A [(a, .inr (8, [.ref g0, .ref g1, .ref g2, .ref g3, .int ik, .int (nI rb), .int (nI (pN rb n)), .ref g4, .int ty, .ref g5, .ref g6, .int sp, .int fr, .int re, .int cau, .int co, .int cm, .ref g7])), (g0, .inl (cI, 240, .inl (MA (moveG G (j * 5 + i) x y)))), (g1, .inl (cI, 960, .inl (QA (pC rb P n G))))] := hD.addr rfl
        refine lv_aload_n hx hb dX8_move_66 rfl (lv_at hl 0 rfl) ?_
        have hPc := hP.sub (ws' := [(a, .inr (8, [.ref g0, .ref g1, .ref g2, .ref g3, .int ik, .int (nI rb), .int (nI (pN rb n)), .ref g4, .int ty, .ref g5, .ref g6, .int sp, .int fr, .int re, .int cau, .int co, .int cm, .ref g7])), (g0, .inl (cI, 240, .inl (MA (moveG G (j * 5 + i) x y))))]) [0, 1] rfl
        refine clRe (E := nI (sumN (foldN (moveG G (j * 5 + i) x y)) 12)) (va_runV (As := []) (rest := []) ⟨hx, hb, hml, hown, hts⟩ (c_X8_folded l D cI cC cQ a g0 g1 g2 g3 g4 g5 g6 g7 ik (nI rb) (nI (pN rb n)) ty sp fr re cau co cm (moveG G (j * 5 + i) x y) ) (cwV (rm := rmX8_folded) 0 hts gX8_move_X8_folded rfl rfl rfl (by decide +kernel) ⟨Nat.le_of_ble_eq_true rfl, Nat.le_of_ble_eq_true rfl⟩) ⟨PR.blind, va_recv hKa hPc (ci := 8) (q0 := 0) rfl rfl, PR.go hPc hK⟩ rfl rfl hl.1 rfl (lv_room (Nat.le_of_ble_eq_true rfl)) dX8_move_67 ⟨Nat.le_of_ble_eq_true rfl, Nat.le_of_ble_eq_true rfl⟩) ?_
        have hok : okM (nI i) (nI j) x y = true := decide_eq_true ⟨b_2, b_13, b_25⟩
        have eG : cG (okM (nI i) (nI j) x y) (moveG G (cn (nI i) (nI j)) x y) G = moveG G (j * 5 + i) x y := (cG_t hok).trans (by rw [cn_nI hi hj])
        have eP : pcB (okM (nI i) (nI j) x y) rb P n G = pC rb P n G := pcB_t hok
        have eN : pnB (okM (nI i) (nI j) x y) rb n = pN rb n := pnB_t hok
        have hP : va_P D vwCl [(a, .inr (8, [.ref g0, .ref g1, .ref g2, .ref g3, .int ik, .int (nI rb), .int (nI (pnB (okM (nI i) (nI j) x y) rb n)), .ref g4, .int ty, .ref g5, .ref g6, .int sp, .int fr, .int re, .int cau, .int co, .int cm, .ref g7])), (g0, .inl (cI, 240, .inl (MA (cG (okM (nI i) (nI j) x y) (moveG G (cn (nI i) (nI j)) x y) G)))), (g1, .inl (cI, 960, .inl (QA (pcB (okM (nI i) (nI j) x y) rb P n G))))] H := by rw [eG, eP, eN]; exact hP
        exact rtW_i () hQ hx hb hr hlk hS hP dX8_move_70 (by rw [cz_t hok, cn_nI hi hj])
      · refine gn_if_ne hx hb (by decide) (tgt := 35) dX8_move_28 (by decide) (fun cq => absurd cq (by decide)) (fun cq => ?_)
        refine lv_sipush (v := (-1001)) hx hb dX8_move_31 (by decide) ?_
        have hok : okM (nI i) (nI j) x y = false := decide_eq_false (fun q => b_25 q.2.2)
        have eG : cG (okM (nI i) (nI j) x y) (moveG G (cn (nI i) (nI j)) x y) G = G := cG_f hok
        have eP : pcB (okM (nI i) (nI j) x y) rb P n G = P := pcB_f hok
        have eN : pnB (okM (nI i) (nI j) x y) rb n = n := pnB_f hok
        have hP : va_P D vwCl [(a, .inr (8, [.ref g0, .ref g1, .ref g2, .ref g3, .int ik, .int (nI rb), .int (nI (pnB (okM (nI i) (nI j) x y) rb n)), .ref g4, .int ty, .ref g5, .ref g6, .int sp, .int fr, .int re, .int cau, .int co, .int cm, .ref g7])), (g0, .inl (cI, 240, .inl (MA (cG (okM (nI i) (nI j) x y) (moveG G (cn (nI i) (nI j)) x y) G)))), (g1, .inl (cI, 960, .inl (QA (pcB (okM (nI i) (nI j) x y) rb P n G))))] s.heap := by rw [eG, eP, eN]; exact hP
        exact rtW_i () hQ hx hb hr hlk hS hP dX8_move_34 ((cz_f hok).symm)
    · refine gn_if_eq hx hb (by decide) (tgt := 31) dX8_move_16 (by decide) (fun cq => ?_) (fun cq => absurd cq (by decide))
      refine lv_sipush (v := (-1001)) hx hb dX8_move_31 (by decide) ?_
      have hok : okM (nI i) (nI j) x y = false := decide_eq_false (fun q => b_13 q.2.1)
      have eG : cG (okM (nI i) (nI j) x y) (moveG G (cn (nI i) (nI j)) x y) G = G := cG_f hok
      have eP : pcB (okM (nI i) (nI j) x y) rb P n G = P := pcB_f hok
      have eN : pnB (okM (nI i) (nI j) x y) rb n = n := pnB_f hok
      have hP : va_P D vwCl [(a, .inr (8, [.ref g0, .ref g1, .ref g2, .ref g3, .int ik, .int (nI rb), .int (nI (pnB (okM (nI i) (nI j) x y) rb n)), .ref g4, .int ty, .ref g5, .ref g6, .int sp, .int fr, .int re, .int cau, .int co, .int cm, .ref g7])), (g0, .inl (cI, 240, .inl (MA (cG (okM (nI i) (nI j) x y) (moveG G (cn (nI i) (nI j)) x y) G)))), (g1, .inl (cI, 960, .inl (QA (pcB (okM (nI i) (nI j) x y) rb P n G))))] s.heap := by rw [eG, eP, eN]; exact hP
      exact rtW_i () hQ hx hb hr hlk hS hP dX8_move_34 ((cz_f hok).symm)
  · refine gn_if_eq hx hb (by decide) (tgt := 31) dX8_move_5 (by decide) (fun cq => ?_) (fun cq => absurd cq (by decide))
    refine lv_sipush (v := (-1001)) hx hb dX8_move_31 (by decide) ?_
    have hok : okM c r x y = false := decide_eq_false (fun q => b_2 q.1)
    have eG : cG (okM c r x y) (moveG G (cn c r) x y) G = G := cG_f hok
    have eP : pcB (okM c r x y) rb P n G = P := pcB_f hok
    have eN : pnB (okM c r x y) rb n = n := pnB_f hok
    have hP : va_P D vwCl [(a, .inr (8, [.ref g0, .ref g1, .ref g2, .ref g3, .int ik, .int (nI rb), .int (nI (pnB (okM c r x y) rb n)), .ref g4, .int ty, .ref g5, .ref g6, .int sp, .int fr, .int re, .int cau, .int co, .int cm, .ref g7])), (g0, .inl (cI, 240, .inl (MA (cG (okM c r x y) (moveG G (cn c r) x y) G)))), (g1, .inl (cI, 960, .inl (QA (pcB (okM c r x y) rb P n G))))] s.heap := by rw [eG, eP, eN]; exact hP
    exact rtW_i () hQ hx hb hr hlk hS hP dX8_move_34 ((cz_f hok).symm)
abbrev rmX8_slope : Room := { frames := 2, cells := 0, slots := 0, locals := 53 }
set_option maxRecDepth 20000 in
theorem iw_X8_slope_X8 : ∀ w ∈ u_ws RX8 TX8 18, w ∈ wsX8_slope := by decide +kernel
set_option maxHeartbeats 4000000 in
set_option maxRecDepth 100000 in
theorem c_X8_slope (l : Launch) (D : va_G) (cI cC cQ : ClassId) (a g0 g1 g2 g3 g4 g5 g6 g7 : Nat) (ik : Int32) (rb n : Nat) (ty sp fr re cau co cm : Int32) (P : Nat → Nat → Nat → Int32) (G : Nat → Nat → Int32) (c r d t v : Int32) (sz : Nat) (hG : OKG G) (hrb : rb ≤ 1) (hn : n ≤ 4) : Met l yX8_slope wsX8_slope rmX8_slope (PW D cI cC cQ [.ref a, .int c, .int r, .int d, .int t, .int v] [(a, .inr (8, [.ref g0, .ref g1, .ref g2, .ref g3, .int ik, .int (nI rb), .int (nI n), .ref g4, .int ty, .ref g5, .ref g6, .int sp, .int fr, .int re, .int cau, .int co, .int cm, .ref g7])), (g0, .inl (cI, 240, .inl (MA G))), (g1, .inl (cI, 960, .inl (QA P)))] sz) (va_Qi (fun (z : Int32) (u : Unit) => z = cz (okS c r d t v) (slk G (cn c r) (tn d) (tn t))) (fun (u : Unit) t9 => va_P D vwCl [(a, .inr (8, [.ref g0, .ref g1, .ref g2, .ref g3, .int ik, .int (nI rb), .int (nI (pnB (okS c r d t v) rb n)), .ref g4, .int ty, .ref g5, .ref g6, .int sp, .int fr, .int re, .int cau, .int co, .int cm, .ref g7])), (g0, .inl (cI, 240, .inl (MA (cG (okS c r d t v) (slopeG G (cn c r) (tn d * 3 + tn t) v) G)))), (g1, .inl (cI, 960, .inl (QA (pcB (okS c r d t v) rb P n G))))] t9.heap) (va_A [(a, .inr (8, [.ref g0, .ref g1, .ref g2, .ref g3, .int ik, .int (nI rb), .int (nI n), .ref g4, .int ty, .ref g5, .ref g6, .int sp, .int fr, .int re, .int cau, .int co, .int cm, .ref g7])), (g0, .inl (cI, 240, .inl (MA G))), (g1, .inl (cI, 960, .inl (QA P)))] sz)) 0 0 (va_A [(a, .inr (8, [.ref g0, .ref g1, .ref g2, .ref g3, .int ik, .int (nI rb), .int (nI n), .ref g4, .int ty, .ref g5, .ref g6, .int sp, .int fr, .int re, .int cau, .int co, .int cm, .ref g7])), (g0, .inl (cI, 240, .inl (MA G))), (g1, .inl (cI, 960, .inl (QA P)))] sz) := by
  refine metW (y := yX8_slope) (ws := wsX8_slope) (rm := rmX8_slope) (D := D) (cI := cI) (cC := cC) (cQ := cQ) (av := [.ref a, .int c, .int r, .int d, .int t, .int v]) (wd := [(a, .inr (8, [.ref g0, .ref g1, .ref g2, .ref g3, .int ik, .int (nI rb), .int (nI n), .ref g4, .int ty, .ref g5, .ref g6, .int sp, .int fr, .int re, .int cau, .int co, .int cm, .ref g7])), (g0, .inl (cI, 240, .inl (MA G))), (g1, .inl (cI, 960, .inl (QA P)))]) (sz := sz) (Qf := fun A => va_Qi (fun (z : Int32) (u : Unit) => z = cz (okS c r d t v) (slk G (cn c r) (tn d) (tn t))) (fun (u : Unit) t9 => va_P D vwCl [(a, .inr (8, [.ref g0, .ref g1, .ref g2, .ref g3, .int ik, .int (nI rb), .int (nI (pnB (okS c r d t v) rb n)), .ref g4, .int ty, .ref g5, .ref g6, .int sp, .int fr, .int re, .int cau, .int co, .int cm, .ref g7])), (g0, .inl (cI, 240, .inl (MA (cG (okS c r d t v) (slopeG G (cn c r) (tn d * 3 + tn t) v) G)))), (g1, .inl (cI, 960, .inl (QA (pcB (okS c r d t v) rb P n G))))] t9.heap) A) (cc := cX8_slope) (maxL := 7) (ret := (some .int)) (by decide) rfl (Nat.le_of_ble_eq_true rfl) ?_
  intro pg ev s mi args below meth cd ls A Q hQ hx hb hml hr hts hown hlk hnm hK hP hD hS hA hl
  have hKa := hK.1
  have hl : lv_has ls 7 [(0, .ref a), (1, .int c), (2, .int r), (3, .int d), (4, .int t), (5, .int v)] := hl
  refine lv_iload_n hx hb dX8_slope_0 rfl (lv_at hl 1 rfl) ?_
  refine lv_iload_n hx hb dX8_slope_1 rfl (lv_at hl 2 rfl) ?_
  have hPc := hP.sub (ws' := []) [] rfl
  refine clR (va_runS (As := [.int c, .int r]) (rest := []) ⟨hx, hb, hml, hown, hts⟩ (c_X8_isCorner l D cI cC cQ c r ) (va_cwS (rm := rmX8_isCorner) 2 hts gX8_slope_X8_isCorner rfl rfl rfl (by decide +kernel) ⟨Nat.le_of_ble_eq_true rfl, Nat.le_of_ble_eq_true rfl⟩) ⟨PR.blind, PR.go hPc hK⟩ rfl rfl hl.1 rfl (lv_room (Nat.le_of_ble_eq_true rfl)) dX8_slope_2 ⟨Nat.le_of_ble_eq_true rfl, Nat.le_of_ble_eq_true rfl⟩) (fun r_2 h_2 => ?_)
  rcases h_2 with ⟨b_2, rfl⟩ | ⟨b_2, rfl⟩
  · obtain ⟨i, j, hi, hj, rfl, rfl⟩ := isC_nat b_2
    refine gn_if_eq hx hb (by decide) (tgt := 41) dX8_slope_5 (by decide) (fun cq => absurd cq (by decide)) (fun cq => ?_)
    refine lv_iload_n hx hb dX8_slope_8 rfl (lv_at hl 3 rfl) ?_
    refine lv_iconst (v := nI 0) hx hb dX8_slope_9 (by decide) ?_
    refine lv_iconst (v := nI 1) hx hb dX8_slope_10 (by decide) ?_
    have hPc := hP.sub (ws' := []) [] rfl
    refine clR (va_runS (As := [.int d, .int (nI 0), .int (nI 1)]) (rest := []) ⟨hx, hb, hml, hown, hts⟩ (c_X8_in l D cI cC cQ d (nI 0) (nI 1) ) (va_cwS (rm := rmX8_in) 3 hts gX8_slope_X8_in rfl rfl rfl (by decide +kernel) ⟨Nat.le_of_ble_eq_true rfl, Nat.le_of_ble_eq_true rfl⟩) ⟨PR.blind, PR.go hPc hK⟩ rfl rfl hl.1 rfl (lv_room (Nat.le_of_ble_eq_true rfl)) dX8_slope_11 ⟨Nat.le_of_ble_eq_true rfl, Nat.le_of_ble_eq_true rfl⟩) (fun r_11 h_11 => ?_)
    rcases h_11 with ⟨b_11, rfl⟩ | ⟨b_11, rfl⟩
    · obtain ⟨al, hal, rfl⟩ := in_nat (M := 1) (by decide) b_11
      refine gn_if_eq hx hb (by decide) (tgt := 41) dX8_slope_14 (by decide) (fun cq => absurd cq (by decide)) (fun cq => ?_)
      refine lv_iload hx hb dX8_slope_17 (lv_at hl 4 rfl) ?_
      refine lv_iconst (v := nI 0) hx hb dX8_slope_19 (by decide) ?_
      refine lv_iconst (v := nI 2) hx hb dX8_slope_20 (by decide) ?_
      have hPc := hP.sub (ws' := []) [] rfl
      refine clR (va_runS (As := [.int t, .int (nI 0), .int (nI 2)]) (rest := []) ⟨hx, hb, hml, hown, hts⟩ (c_X8_in l D cI cC cQ t (nI 0) (nI 2) ) (va_cwS (rm := rmX8_in) 3 hts gX8_slope_X8_in rfl rfl rfl (by decide +kernel) ⟨Nat.le_of_ble_eq_true rfl, Nat.le_of_ble_eq_true rfl⟩) ⟨PR.blind, PR.go hPc hK⟩ rfl rfl hl.1 rfl (lv_room (Nat.le_of_ble_eq_true rfl)) dX8_slope_21 ⟨Nat.le_of_ble_eq_true rfl, Nat.le_of_ble_eq_true rfl⟩) (fun r_21 h_21 => ?_)
      rcases h_21 with ⟨b_21, rfl⟩ | ⟨b_21, rfl⟩
      · obtain ⟨pt, hpt, rfl⟩ := in_nat (M := 2) (by decide) b_21
        refine gn_if_eq hx hb (by decide) (tgt := 41) dX8_slope_24 (by decide) (fun cq => absurd cq (by decide)) (fun cq => ?_)
        refine lv_iload hx hb dX8_slope_27 (lv_at hl 5 rfl) ?_
        refine lv_sipush (v := (-255)) hx hb dX8_slope_29 (by decide) ?_
        refine lv_sipush (v := nI 255) hx hb dX8_slope_32 (by decide) ?_
        have hPc := hP.sub (ws' := []) [] rfl
        refine clR (va_runS (As := [.int v, .int (-255), .int (nI 255)]) (rest := []) ⟨hx, hb, hml, hown, hts⟩ (c_X8_in l D cI cC cQ v (-255) (nI 255) ) (va_cwS (rm := rmX8_in) 3 hts gX8_slope_X8_in rfl rfl rfl (by decide +kernel) ⟨Nat.le_of_ble_eq_true rfl, Nat.le_of_ble_eq_true rfl⟩) ⟨PR.blind, PR.go hPc hK⟩ rfl rfl hl.1 rfl (lv_room (Nat.le_of_ble_eq_true rfl)) dX8_slope_35 ⟨Nat.le_of_ble_eq_true rfl, Nat.le_of_ble_eq_true rfl⟩) (fun r_35 h_35 => ?_)
        rcases h_35 with ⟨b_35, rfl⟩ | ⟨b_35, rfl⟩
        · refine gn_if_ne hx hb (by decide) (tgt := 45) dX8_slope_38 (by decide) (fun cq => ?_) (fun cq => absurd cq (by decide))
          rcases (show al = 0 ∨ al = 1 by omega) with rfl | rfl
          · refine lv_aload_n hx hb dX8_slope_45 rfl (lv_at hl 0 rfl) ?_
            have hPc := hP.sub (ws' := [(a, .inr (8, [.ref g0, .ref g1, .ref g2, .ref g3, .int ik, .int (nI rb), .int (nI n), .ref g4, .int ty, .ref g5, .ref g6, .int sp, .int fr, .int re, .int cau, .int co, .int cm, .ref g7])), (g0, .inl (cI, 240, .inl (MA G))), (g1, .inl (cI, 960, .inl (QA P)))]) [0, 1, 2] rfl
            have hDc := hD.sub (ws' := [(a, .inr (8, [.ref g0, .ref g1, .ref g2, .ref g3, .int ik, .int (nI rb), .int (nI n), .ref g4, .int ty, .ref g5, .ref g6, .int sp, .int fr, .int re, .int cau, .int co, .int cm, .ref g7])), (g0, .inl (cI, 240, .inl (MA G))), (g1, .inl (cI, 960, .inl (QA P)))]) [0, 1, 2] (by decide) rfl
            refine clV (wc := [(a, .inr (8, [.ref g0, .ref g1, .ref g2, .ref g3, .int ik, .int (nI rb), .int (nI n), .ref g4, .int ty, .ref g5, .ref g6, .int sp, .int fr, .int re, .int cau, .int co, .int cm, .ref g7])), (g0, .inl (cI, 240, .inl (MA G))), (g1, .inl (cI, 960, .inl (QA P)))]) (w1 := fun (u_46 : Unit) => [(a, .inr (8, [.ref g0, .ref g1, .ref g2, .ref g3, .int ik, .int (nI rb), .int (nI (pN rb n)), .ref g4, .int ty, .ref g5, .ref g6, .int sp, .int fr, .int re, .int cau, .int co, .int cm, .ref g7])), (g0, .inl (cI, 240, .inl (MA G))), (g1, .inl (cI, 960, .inl (QA (pC rb P n G))))]) (wr := []) (wn := fun (u_46 : Unit) => [(a, .inr (8, [.ref g0, .ref g1, .ref g2, .ref g3, .int ik, .int (nI rb), .int (nI (pN rb n)), .ref g4, .int ty, .ref g5, .ref g6, .int sp, .int fr, .int re, .int cau, .int co, .int cm, .ref g7])), (g0, .inl (cI, 240, .inl (MA G))), (g1, .inl (cI, 960, .inl (QA (pC rb P n G))))]) hP hD hS hA [0, 1, 2] [] [0, 1, 2] rfl rfl rfl rfl (by decide) (fun _ => rfl) (fun _ => rfl) (fun _ => rfl) (va_runV (As := []) (rest := []) ⟨hx, hb, hml, hown, hts⟩ (c_X8_changes l D cI cC cQ a g0 g1 g2 g3 g4 g5 g6 g7 ik rb n ty sp fr re cau co cm P G s.heap.size (by first | assumption | omega) (by first | assumption | omega)) (cwV (rm := rmX8_changes) 0 hts gX8_slope_X8_changes rfl rfl rfl (by decide +kernel) ⟨Nat.le_of_ble_eq_true rfl, Nat.le_of_ble_eq_true rfl⟩) ⟨PW.blind, va_recv hKa hPc (ci := 8) (q0 := 0) rfl rfl, PW.go hPc hK hDc⟩ rfl rfl hl.1 rfl (lv_room (Nat.le_of_ble_eq_true rfl)) dX8_slope_46 ⟨Nat.le_of_ble_eq_true rfl, Nat.le_of_ble_eq_true rfl⟩) (fun u_46 H locs h_46 hP hD hS => ?_)
            have hP : va_P D vwCl [(a, .inr (8, [.ref g0, .ref g1, .ref g2, .ref g3, .int ik, .int (nI rb), .int (nI (pN rb n)), .ref g4, .int ty, .ref g5, .ref g6, .int sp, .int fr, .int re, .int cau, .int co, .int cm, .ref g7])), (g0, .inl (cI, 240, .inl (MA G))), (g1, .inl (cI, 960, .inl (QA (pC rb P n G))))] H := hP
            have hD : va_D A [(a, .inr (8, [.ref g0, .ref g1, .ref g2, .ref g3, .int ik, .int (nI rb), .int (nI (pN rb n)), .ref g4, .int ty, .ref g5, .ref g6, .int sp, .int fr, .int re, .int cau, .int co, .int cm, .ref g7])), (g0, .inl (cI, 240, .inl (MA G))), (g1, .inl (cI, 960, .inl (QA (pC rb P n G))))] := hD
            refine lv_aload_n hx hb dX8_slope_49 rfl (lv_at hl 0 rfl) ?_
            refine lv_iload_n hx hb dX8_slope_50 rfl (lv_at hl 1 rfl) ?_
            refine lv_iload_n hx hb dX8_slope_51 rfl (lv_at hl 2 rfl) ?_
            refine lv_iload_n hx hb dX8_slope_52 rfl (lv_at hl 3 rfl) ?_
            refine lv_iload hx hb dX8_slope_53 (lv_at hl 4 rfl) ?_
            have hPc := hP.sub (ws' := [(a, .inr (8, [.ref g0, .ref g1, .ref g2, .ref g3, .int ik, .int (nI rb), .int (nI (pN rb n)), .ref g4, .int ty, .ref g5, .ref g6, .int sp, .int fr, .int re, .int cau, .int co, .int cm, .ref g7])), (g0, .inl (cI, 240, .inl (MA G)))]) [0, 1] rfl
            refine clRe (E := slk G (j * 5 + i) 0 pt) (va_runV (As := [.int (nI i), .int (nI j), .int (nI 0), .int (nI pt)]) (rest := []) ⟨hx, hb, hml, hown, hts⟩ (c_X8_slopeOf0 l D cI cC cQ a g0 g1 g2 g3 g4 g5 g6 g7 ik (nI rb) (nI (pN rb n)) ty sp fr re cau co cm G i j pt (by first | assumption | omega) (by first | assumption | omega) (by first | assumption | omega) (by first | assumption | omega)) (cwV (rm := rmX8_slopeOf0) 4 hts gX8_slope_X8_slopeOf rfl rfl rfl (by decide +kernel) ⟨Nat.le_of_ble_eq_true rfl, Nat.le_of_ble_eq_true rfl⟩) ⟨PR.blind, va_recv hKa hPc (ci := 8) (q0 := 0) rfl rfl, PR.go hPc hK⟩ rfl rfl hl.1 rfl (lv_room (Nat.le_of_ble_eq_true rfl)) dX8_slope_55 ⟨Nat.le_of_ble_eq_true rfl, Nat.le_of_ble_eq_true rfl⟩) ?_
            refine lv_istore (lv' := [(6, .int (slk G (j * 5 + i) 0 pt)), (0, .ref a), (1, .int (nI i)), (2, .int (nI j)), (3, .int (nI 0)), (4, .int (nI pt)), (5, .int v)]) hx hb dX8_slope_58 hl (by decide) rfl (fun ls hl => ?_)
            refine lv_aload_n hx hb dX8_slope_60 rfl (lv_at hl 1 rfl) ?_
            refine va_get (D := D) (ci := 8) (v := .ref g0) (C := RX8) (T := TX8) (N := 18) hx hb hts iw_X8_slope_X8 hown hKa hP 0 rfl rfl 0 (by decide) (hts (.fieldLink RX8 7 "ColourPatchesModel" "s" "[I") (by decide +kernel)) (fun _ h9 => h9) rfl dX8_slope_61 ?_
            refine lv_iload_n hx hb dX8_slope_64 rfl (lv_at hl 2 rfl) ?_
            refine lv_iload_n hx hb dX8_slope_65 rfl (lv_at hl 3 rfl) ?_
            have hPc := hP.sub (ws' := []) [] rfl
            refine clRe (E := nI (12 * (5 * j + i))) (va_runS (As := [.int (nI i), .int (nI j)]) (rest := [.ref g0]) ⟨hx, hb, hml, hown, hts⟩ (c_X8_at l D cI cC cQ i j ) (va_cwS (rm := rmX8_at) 2 hts gX8_slope_X8_at rfl rfl rfl (by decide +kernel) ⟨Nat.le_of_ble_eq_true rfl, Nat.le_of_ble_eq_true rfl⟩) ⟨PR.blind, PR.go hPc hK⟩ rfl rfl hl.1 rfl (lv_room (Nat.le_of_ble_eq_true rfl)) dX8_slope_66 ⟨Nat.le_of_ble_eq_true rfl, Nat.le_of_ble_eq_true rfl⟩) ?_
            refine lv_bipush (v := nI 6) hx hb dX8_slope_69 (by decide) ?_
            refine gn_add hx hb dX8_slope_71 ?_
            refine lv_iconst (v := nI 3) hx hb dX8_slope_72 (by decide) ?_
            refine lv_iload_n hx hb dX8_slope_73 rfl (lv_at hl 4 rfl) ?_
            refine gn_mul hx hb dX8_slope_74 ?_
            refine gn_add hx hb dX8_slope_75 ?_
            refine lv_iload hx hb dX8_slope_76 (lv_at hl 5 rfl) ?_
            refine gn_add hx hb dX8_slope_78 ?_
            refine lv_iload hx hb dX8_slope_79 (lv_at hl 6 rfl) ?_
            refine gn_iast (ws' := [(a, .inr (8, [.ref g0, .ref g1, .ref g2, .ref g3, .int ik, .int (nI rb), .int (nI (pN rb n)), .ref g4, .int ty, .ref g5, .ref g6, .int sp, .int fr, .int re, .int cau, .int co, .int cm, .ref g7])), (g0, .inl (cI, 240, .inl (upd (MA G) ((((12 * (5 * j + i)) + 6) + (3 * 0)) + pt) v))), (g1, .inl (cI, 960, .inl (QA (pC rb P n G))))]) hx hb hKa hP hD hS 1 0 rfl rfl (k := (((12 * (5 * j + i)) + 6) + (3 * 0)) + pt) (by omega) (by omega) dX8_slope_81 rfl (fun H locs hP hD hS => ?_)
            rw [show upd (MA G) ((((12 * (5 * j + i)) + 6) + (3 * 0)) + pt) v = MA (set1 G (j * 5 + i) (6 + (0 * 3 + pt)) v) from MA_set _ _ _ _ _ (by omega) (by omega)] at hP
            have hD : va_D A [(a, .inr (8, [.ref g0, .ref g1, .ref g2, .ref g3, .int ik, .int (nI rb), .int (nI (pN rb n)), .ref g4, .int ty, .ref g5, .ref g6, .int sp, .int fr, .int re, .int cau, .int co, .int cm, .ref g7])), (g0, .inl (cI, 240, .inl (MA (set1 G (j * 5 + i) (6 + (0 * 3 + pt)) v)))), (g1, .inl (cI, 960, .inl (QA (pC rb P n G))))] := hD.addr rfl
            refine lv_iload hx hb dX8_slope_82 (lv_at hl 0 rfl) ?_
            have hP : va_P D vwCl [(a, .inr (8, [.ref g0, .ref g1, .ref g2, .ref g3, .int ik, .int (nI rb), .int (nI (pN rb n)), .ref g4, .int ty, .ref g5, .ref g6, .int sp, .int fr, .int re, .int cau, .int co, .int cm, .ref g7])), (g0, .inl (cI, 240, .inl (MA (slopeG G (j * 5 + i) (0 * 3 + pt) v)))), (g1, .inl (cI, 960, .inl (QA (pC rb P n G))))] H := (hP.fn 1 rfl (g := MA (slopeG G (j * 5 + i) (0 * 3 + pt) v)) (fun q _ => by rw [set_slope]) rfl)
            have hD : va_D A [(a, .inr (8, [.ref g0, .ref g1, .ref g2, .ref g3, .int ik, .int (nI rb), .int (nI (pN rb n)), .ref g4, .int ty, .ref g5, .ref g6, .int sp, .int fr, .int re, .int cau, .int co, .int cm, .ref g7])), (g0, .inl (cI, 240, .inl (MA (slopeG G (j * 5 + i) (0 * 3 + pt) v)))), (g1, .inl (cI, 960, .inl (QA (pC rb P n G))))] := hD.addr rfl
            have hok : okS (nI i) (nI j) (nI 0) (nI pt) v = true := decide_eq_true ⟨⟨⟨b_2, b_11⟩, b_21⟩, b_35⟩
            have eG : cG (okS (nI i) (nI j) (nI 0) (nI pt) v) (slopeG G (cn (nI i) (nI j)) (tn (nI 0) * 3 + tn (nI pt)) v) G = slopeG G (j * 5 + i) (0 * 3 + pt) v := (cG_t hok).trans (by rw [cn_nI hi hj, tn_nI (by omega), tn_nI (by omega)])
            have eP : pcB (okS (nI i) (nI j) (nI 0) (nI pt) v) rb P n G = pC rb P n G := pcB_t hok
            have eN : pnB (okS (nI i) (nI j) (nI 0) (nI pt) v) rb n = pN rb n := pnB_t hok
            have hP : va_P D vwCl [(a, .inr (8, [.ref g0, .ref g1, .ref g2, .ref g3, .int ik, .int (nI rb), .int (nI (pnB (okS (nI i) (nI j) (nI 0) (nI pt) v) rb n)), .ref g4, .int ty, .ref g5, .ref g6, .int sp, .int fr, .int re, .int cau, .int co, .int cm, .ref g7])), (g0, .inl (cI, 240, .inl (MA (cG (okS (nI i) (nI j) (nI 0) (nI pt) v) (slopeG G (cn (nI i) (nI j)) (tn (nI 0) * 3 + tn (nI pt)) v) G)))), (g1, .inl (cI, 960, .inl (QA (pcB (okS (nI i) (nI j) (nI 0) (nI pt) v) rb P n G))))] H := by rw [eG, eP, eN]; exact hP
            exact rtW_i () hQ hx hb hr hlk hS hP dX8_slope_84 (by rw [cz_t hok, cn_nI hi hj, tn_nI (by omega), tn_nI (by omega)])
          · refine lv_aload_n hx hb dX8_slope_45 rfl (lv_at hl 0 rfl) ?_
            have hPc := hP.sub (ws' := [(a, .inr (8, [.ref g0, .ref g1, .ref g2, .ref g3, .int ik, .int (nI rb), .int (nI n), .ref g4, .int ty, .ref g5, .ref g6, .int sp, .int fr, .int re, .int cau, .int co, .int cm, .ref g7])), (g0, .inl (cI, 240, .inl (MA G))), (g1, .inl (cI, 960, .inl (QA P)))]) [0, 1, 2] rfl
            have hDc := hD.sub (ws' := [(a, .inr (8, [.ref g0, .ref g1, .ref g2, .ref g3, .int ik, .int (nI rb), .int (nI n), .ref g4, .int ty, .ref g5, .ref g6, .int sp, .int fr, .int re, .int cau, .int co, .int cm, .ref g7])), (g0, .inl (cI, 240, .inl (MA G))), (g1, .inl (cI, 960, .inl (QA P)))]) [0, 1, 2] (by decide) rfl
            refine clV (wc := [(a, .inr (8, [.ref g0, .ref g1, .ref g2, .ref g3, .int ik, .int (nI rb), .int (nI n), .ref g4, .int ty, .ref g5, .ref g6, .int sp, .int fr, .int re, .int cau, .int co, .int cm, .ref g7])), (g0, .inl (cI, 240, .inl (MA G))), (g1, .inl (cI, 960, .inl (QA P)))]) (w1 := fun (u_46 : Unit) => [(a, .inr (8, [.ref g0, .ref g1, .ref g2, .ref g3, .int ik, .int (nI rb), .int (nI (pN rb n)), .ref g4, .int ty, .ref g5, .ref g6, .int sp, .int fr, .int re, .int cau, .int co, .int cm, .ref g7])), (g0, .inl (cI, 240, .inl (MA G))), (g1, .inl (cI, 960, .inl (QA (pC rb P n G))))]) (wr := []) (wn := fun (u_46 : Unit) => [(a, .inr (8, [.ref g0, .ref g1, .ref g2, .ref g3, .int ik, .int (nI rb), .int (nI (pN rb n)), .ref g4, .int ty, .ref g5, .ref g6, .int sp, .int fr, .int re, .int cau, .int co, .int cm, .ref g7])), (g0, .inl (cI, 240, .inl (MA G))), (g1, .inl (cI, 960, .inl (QA (pC rb P n G))))]) hP hD hS hA [0, 1, 2] [] [0, 1, 2] rfl rfl rfl rfl (by decide) (fun _ => rfl) (fun _ => rfl) (fun _ => rfl) (va_runV (As := []) (rest := []) ⟨hx, hb, hml, hown, hts⟩ (c_X8_changes l D cI cC cQ a g0 g1 g2 g3 g4 g5 g6 g7 ik rb n ty sp fr re cau co cm P G s.heap.size (by first | assumption | omega) (by first | assumption | omega)) (cwV (rm := rmX8_changes) 0 hts gX8_slope_X8_changes rfl rfl rfl (by decide +kernel) ⟨Nat.le_of_ble_eq_true rfl, Nat.le_of_ble_eq_true rfl⟩) ⟨PW.blind, va_recv hKa hPc (ci := 8) (q0 := 0) rfl rfl, PW.go hPc hK hDc⟩ rfl rfl hl.1 rfl (lv_room (Nat.le_of_ble_eq_true rfl)) dX8_slope_46 ⟨Nat.le_of_ble_eq_true rfl, Nat.le_of_ble_eq_true rfl⟩) (fun u_46 H locs h_46 hP hD hS => ?_)
            have hP : va_P D vwCl [(a, .inr (8, [.ref g0, .ref g1, .ref g2, .ref g3, .int ik, .int (nI rb), .int (nI (pN rb n)), .ref g4, .int ty, .ref g5, .ref g6, .int sp, .int fr, .int re, .int cau, .int co, .int cm, .ref g7])), (g0, .inl (cI, 240, .inl (MA G))), (g1, .inl (cI, 960, .inl (QA (pC rb P n G))))] H := hP
            have hD : va_D A [(a, .inr (8, [.ref g0, .ref g1, .ref g2, .ref g3, .int ik, .int (nI rb), .int (nI (pN rb n)), .ref g4, .int ty, .ref g5, .ref g6, .int sp, .int fr, .int re, .int cau, .int co, .int cm, .ref g7])), (g0, .inl (cI, 240, .inl (MA G))), (g1, .inl (cI, 960, .inl (QA (pC rb P n G))))] := hD
            refine lv_aload_n hx hb dX8_slope_49 rfl (lv_at hl 0 rfl) ?_
            refine lv_iload_n hx hb dX8_slope_50 rfl (lv_at hl 1 rfl) ?_
            refine lv_iload_n hx hb dX8_slope_51 rfl (lv_at hl 2 rfl) ?_
            refine lv_iload_n hx hb dX8_slope_52 rfl (lv_at hl 3 rfl) ?_
            refine lv_iload hx hb dX8_slope_53 (lv_at hl 4 rfl) ?_
            have hPc := hP.sub (ws' := [(a, .inr (8, [.ref g0, .ref g1, .ref g2, .ref g3, .int ik, .int (nI rb), .int (nI (pN rb n)), .ref g4, .int ty, .ref g5, .ref g6, .int sp, .int fr, .int re, .int cau, .int co, .int cm, .ref g7])), (g0, .inl (cI, 240, .inl (MA G)))]) [0, 1] rfl
            refine clRe (E := slk G (j * 5 + i) 1 pt) (va_runV (As := [.int (nI i), .int (nI j), .int (nI 1), .int (nI pt)]) (rest := []) ⟨hx, hb, hml, hown, hts⟩ (c_X8_slopeOf1 l D cI cC cQ a g0 g1 g2 g3 g4 g5 g6 g7 ik (nI rb) (nI (pN rb n)) ty sp fr re cau co cm G i j pt (by first | assumption | omega) (by first | assumption | omega) (by first | assumption | omega) (by first | assumption | omega)) (cwV (rm := rmX8_slopeOf1) 4 hts gX8_slope_X8_slopeOf rfl rfl rfl (by decide +kernel) ⟨Nat.le_of_ble_eq_true rfl, Nat.le_of_ble_eq_true rfl⟩) ⟨PR.blind, va_recv hKa hPc (ci := 8) (q0 := 0) rfl rfl, PR.go hPc hK⟩ rfl rfl hl.1 rfl (lv_room (Nat.le_of_ble_eq_true rfl)) dX8_slope_55 ⟨Nat.le_of_ble_eq_true rfl, Nat.le_of_ble_eq_true rfl⟩) ?_
            refine lv_istore (lv' := [(6, .int (slk G (j * 5 + i) 1 pt)), (0, .ref a), (1, .int (nI i)), (2, .int (nI j)), (3, .int (nI 1)), (4, .int (nI pt)), (5, .int v)]) hx hb dX8_slope_58 hl (by decide) rfl (fun ls hl => ?_)
            refine lv_aload_n hx hb dX8_slope_60 rfl (lv_at hl 1 rfl) ?_
            refine va_get (D := D) (ci := 8) (v := .ref g0) (C := RX8) (T := TX8) (N := 18) hx hb hts iw_X8_slope_X8 hown hKa hP 0 rfl rfl 0 (by decide) (hts (.fieldLink RX8 7 "ColourPatchesModel" "s" "[I") (by decide +kernel)) (fun _ h9 => h9) rfl dX8_slope_61 ?_
            refine lv_iload_n hx hb dX8_slope_64 rfl (lv_at hl 2 rfl) ?_
            refine lv_iload_n hx hb dX8_slope_65 rfl (lv_at hl 3 rfl) ?_
            have hPc := hP.sub (ws' := []) [] rfl
            refine clRe (E := nI (12 * (5 * j + i))) (va_runS (As := [.int (nI i), .int (nI j)]) (rest := [.ref g0]) ⟨hx, hb, hml, hown, hts⟩ (c_X8_at l D cI cC cQ i j ) (va_cwS (rm := rmX8_at) 2 hts gX8_slope_X8_at rfl rfl rfl (by decide +kernel) ⟨Nat.le_of_ble_eq_true rfl, Nat.le_of_ble_eq_true rfl⟩) ⟨PR.blind, PR.go hPc hK⟩ rfl rfl hl.1 rfl (lv_room (Nat.le_of_ble_eq_true rfl)) dX8_slope_66 ⟨Nat.le_of_ble_eq_true rfl, Nat.le_of_ble_eq_true rfl⟩) ?_
            refine lv_bipush (v := nI 6) hx hb dX8_slope_69 (by decide) ?_
            refine gn_add hx hb dX8_slope_71 ?_
            refine lv_iconst (v := nI 3) hx hb dX8_slope_72 (by decide) ?_
            refine lv_iload_n hx hb dX8_slope_73 rfl (lv_at hl 4 rfl) ?_
            refine gn_mul hx hb dX8_slope_74 ?_
            refine gn_add hx hb dX8_slope_75 ?_
            refine lv_iload hx hb dX8_slope_76 (lv_at hl 5 rfl) ?_
            refine gn_add hx hb dX8_slope_78 ?_
            refine lv_iload hx hb dX8_slope_79 (lv_at hl 6 rfl) ?_
            refine gn_iast (ws' := [(a, .inr (8, [.ref g0, .ref g1, .ref g2, .ref g3, .int ik, .int (nI rb), .int (nI (pN rb n)), .ref g4, .int ty, .ref g5, .ref g6, .int sp, .int fr, .int re, .int cau, .int co, .int cm, .ref g7])), (g0, .inl (cI, 240, .inl (upd (MA G) ((((12 * (5 * j + i)) + 6) + (3 * 1)) + pt) v))), (g1, .inl (cI, 960, .inl (QA (pC rb P n G))))]) hx hb hKa hP hD hS 1 0 rfl rfl (k := (((12 * (5 * j + i)) + 6) + (3 * 1)) + pt) (by omega) (by omega) dX8_slope_81 rfl (fun H locs hP hD hS => ?_)
            rw [show upd (MA G) ((((12 * (5 * j + i)) + 6) + (3 * 1)) + pt) v = MA (set1 G (j * 5 + i) (6 + (1 * 3 + pt)) v) from MA_set _ _ _ _ _ (by omega) (by omega)] at hP
            have hD : va_D A [(a, .inr (8, [.ref g0, .ref g1, .ref g2, .ref g3, .int ik, .int (nI rb), .int (nI (pN rb n)), .ref g4, .int ty, .ref g5, .ref g6, .int sp, .int fr, .int re, .int cau, .int co, .int cm, .ref g7])), (g0, .inl (cI, 240, .inl (MA (set1 G (j * 5 + i) (6 + (1 * 3 + pt)) v)))), (g1, .inl (cI, 960, .inl (QA (pC rb P n G))))] := hD.addr rfl
            refine lv_iload hx hb dX8_slope_82 (lv_at hl 0 rfl) ?_
            have hP : va_P D vwCl [(a, .inr (8, [.ref g0, .ref g1, .ref g2, .ref g3, .int ik, .int (nI rb), .int (nI (pN rb n)), .ref g4, .int ty, .ref g5, .ref g6, .int sp, .int fr, .int re, .int cau, .int co, .int cm, .ref g7])), (g0, .inl (cI, 240, .inl (MA (slopeG G (j * 5 + i) (1 * 3 + pt) v)))), (g1, .inl (cI, 960, .inl (QA (pC rb P n G))))] H := (hP.fn 1 rfl (g := MA (slopeG G (j * 5 + i) (1 * 3 + pt) v)) (fun q _ => by rw [set_slope]) rfl)
            have hD : va_D A [(a, .inr (8, [.ref g0, .ref g1, .ref g2, .ref g3, .int ik, .int (nI rb), .int (nI (pN rb n)), .ref g4, .int ty, .ref g5, .ref g6, .int sp, .int fr, .int re, .int cau, .int co, .int cm, .ref g7])), (g0, .inl (cI, 240, .inl (MA (slopeG G (j * 5 + i) (1 * 3 + pt) v)))), (g1, .inl (cI, 960, .inl (QA (pC rb P n G))))] := hD.addr rfl
            have hok : okS (nI i) (nI j) (nI 1) (nI pt) v = true := decide_eq_true ⟨⟨⟨b_2, b_11⟩, b_21⟩, b_35⟩
            have eG : cG (okS (nI i) (nI j) (nI 1) (nI pt) v) (slopeG G (cn (nI i) (nI j)) (tn (nI 1) * 3 + tn (nI pt)) v) G = slopeG G (j * 5 + i) (1 * 3 + pt) v := (cG_t hok).trans (by rw [cn_nI hi hj, tn_nI (by omega), tn_nI (by omega)])
            have eP : pcB (okS (nI i) (nI j) (nI 1) (nI pt) v) rb P n G = pC rb P n G := pcB_t hok
            have eN : pnB (okS (nI i) (nI j) (nI 1) (nI pt) v) rb n = pN rb n := pnB_t hok
            have hP : va_P D vwCl [(a, .inr (8, [.ref g0, .ref g1, .ref g2, .ref g3, .int ik, .int (nI rb), .int (nI (pnB (okS (nI i) (nI j) (nI 1) (nI pt) v) rb n)), .ref g4, .int ty, .ref g5, .ref g6, .int sp, .int fr, .int re, .int cau, .int co, .int cm, .ref g7])), (g0, .inl (cI, 240, .inl (MA (cG (okS (nI i) (nI j) (nI 1) (nI pt) v) (slopeG G (cn (nI i) (nI j)) (tn (nI 1) * 3 + tn (nI pt)) v) G)))), (g1, .inl (cI, 960, .inl (QA (pcB (okS (nI i) (nI j) (nI 1) (nI pt) v) rb P n G))))] H := by rw [eG, eP, eN]; exact hP
            exact rtW_i () hQ hx hb hr hlk hS hP dX8_slope_84 (by rw [cz_t hok, cn_nI hi hj, tn_nI (by omega), tn_nI (by omega)])
        · refine gn_if_ne hx hb (by decide) (tgt := 45) dX8_slope_38 (by decide) (fun cq => absurd cq (by decide)) (fun cq => ?_)
          refine lv_sipush (v := (-1001)) hx hb dX8_slope_41 (by decide) ?_
          have hok : okS (nI i) (nI j) (nI al) (nI pt) v = false := decide_eq_false (fun q => b_35 q.2)
          have eG : cG (okS (nI i) (nI j) (nI al) (nI pt) v) (slopeG G (cn (nI i) (nI j)) (tn (nI al) * 3 + tn (nI pt)) v) G = G := cG_f hok
          have eP : pcB (okS (nI i) (nI j) (nI al) (nI pt) v) rb P n G = P := pcB_f hok
          have eN : pnB (okS (nI i) (nI j) (nI al) (nI pt) v) rb n = n := pnB_f hok
          have hP : va_P D vwCl [(a, .inr (8, [.ref g0, .ref g1, .ref g2, .ref g3, .int ik, .int (nI rb), .int (nI (pnB (okS (nI i) (nI j) (nI al) (nI pt) v) rb n)), .ref g4, .int ty, .ref g5, .ref g6, .int sp, .int fr, .int re, .int cau, .int co, .int cm, .ref g7])), (g0, .inl (cI, 240, .inl (MA (cG (okS (nI i) (nI j) (nI al) (nI pt) v) (slopeG G (cn (nI i) (nI j)) (tn (nI al) * 3 + tn (nI pt)) v) G)))), (g1, .inl (cI, 960, .inl (QA (pcB (okS (nI i) (nI j) (nI al) (nI pt) v) rb P n G))))] s.heap := by rw [eG, eP, eN]; exact hP
          exact rtW_i () hQ hx hb hr hlk hS hP dX8_slope_44 ((cz_f hok).symm)
      · refine gn_if_eq hx hb (by decide) (tgt := 41) dX8_slope_24 (by decide) (fun cq => ?_) (fun cq => absurd cq (by decide))
        refine lv_sipush (v := (-1001)) hx hb dX8_slope_41 (by decide) ?_
        have hok : okS (nI i) (nI j) (nI al) t v = false := decide_eq_false (fun q => b_21 q.1.2)
        have eG : cG (okS (nI i) (nI j) (nI al) t v) (slopeG G (cn (nI i) (nI j)) (tn (nI al) * 3 + tn t) v) G = G := cG_f hok
        have eP : pcB (okS (nI i) (nI j) (nI al) t v) rb P n G = P := pcB_f hok
        have eN : pnB (okS (nI i) (nI j) (nI al) t v) rb n = n := pnB_f hok
        have hP : va_P D vwCl [(a, .inr (8, [.ref g0, .ref g1, .ref g2, .ref g3, .int ik, .int (nI rb), .int (nI (pnB (okS (nI i) (nI j) (nI al) t v) rb n)), .ref g4, .int ty, .ref g5, .ref g6, .int sp, .int fr, .int re, .int cau, .int co, .int cm, .ref g7])), (g0, .inl (cI, 240, .inl (MA (cG (okS (nI i) (nI j) (nI al) t v) (slopeG G (cn (nI i) (nI j)) (tn (nI al) * 3 + tn t) v) G)))), (g1, .inl (cI, 960, .inl (QA (pcB (okS (nI i) (nI j) (nI al) t v) rb P n G))))] s.heap := by rw [eG, eP, eN]; exact hP
        exact rtW_i () hQ hx hb hr hlk hS hP dX8_slope_44 ((cz_f hok).symm)
    · refine gn_if_eq hx hb (by decide) (tgt := 41) dX8_slope_14 (by decide) (fun cq => ?_) (fun cq => absurd cq (by decide))
      refine lv_sipush (v := (-1001)) hx hb dX8_slope_41 (by decide) ?_
      have hok : okS (nI i) (nI j) d t v = false := decide_eq_false (fun q => b_11 q.1.1.2)
      have eG : cG (okS (nI i) (nI j) d t v) (slopeG G (cn (nI i) (nI j)) (tn d * 3 + tn t) v) G = G := cG_f hok
      have eP : pcB (okS (nI i) (nI j) d t v) rb P n G = P := pcB_f hok
      have eN : pnB (okS (nI i) (nI j) d t v) rb n = n := pnB_f hok
      have hP : va_P D vwCl [(a, .inr (8, [.ref g0, .ref g1, .ref g2, .ref g3, .int ik, .int (nI rb), .int (nI (pnB (okS (nI i) (nI j) d t v) rb n)), .ref g4, .int ty, .ref g5, .ref g6, .int sp, .int fr, .int re, .int cau, .int co, .int cm, .ref g7])), (g0, .inl (cI, 240, .inl (MA (cG (okS (nI i) (nI j) d t v) (slopeG G (cn (nI i) (nI j)) (tn d * 3 + tn t) v) G)))), (g1, .inl (cI, 960, .inl (QA (pcB (okS (nI i) (nI j) d t v) rb P n G))))] s.heap := by rw [eG, eP, eN]; exact hP
      exact rtW_i () hQ hx hb hr hlk hS hP dX8_slope_44 ((cz_f hok).symm)
  · refine gn_if_eq hx hb (by decide) (tgt := 41) dX8_slope_5 (by decide) (fun cq => ?_) (fun cq => absurd cq (by decide))
    refine lv_sipush (v := (-1001)) hx hb dX8_slope_41 (by decide) ?_
    have hok : okS c r d t v = false := decide_eq_false (fun q => b_2 q.1.1.1)
    have eG : cG (okS c r d t v) (slopeG G (cn c r) (tn d * 3 + tn t) v) G = G := cG_f hok
    have eP : pcB (okS c r d t v) rb P n G = P := pcB_f hok
    have eN : pnB (okS c r d t v) rb n = n := pnB_f hok
    have hP : va_P D vwCl [(a, .inr (8, [.ref g0, .ref g1, .ref g2, .ref g3, .int ik, .int (nI rb), .int (nI (pnB (okS c r d t v) rb n)), .ref g4, .int ty, .ref g5, .ref g6, .int sp, .int fr, .int re, .int cau, .int co, .int cm, .ref g7])), (g0, .inl (cI, 240, .inl (MA (cG (okS c r d t v) (slopeG G (cn c r) (tn d * 3 + tn t) v) G)))), (g1, .inl (cI, 960, .inl (QA (pcB (okS c r d t v) rb P n G))))] s.heap := by rw [eG, eP, eN]; exact hP
    exact rtW_i () hQ hx hb hr hlk hS hP dX8_slope_44 ((cz_f hok).symm)
abbrev rmX8_loose : Room := { frames := 2, cells := 0, slots := 0, locals := 45 }
set_option maxRecDepth 20000 in
theorem iw_X8_loose_X8 : ∀ w ∈ u_ws RX8 TX8 18, w ∈ wsX8_loose := by decide +kernel
set_option maxHeartbeats 4000000 in
set_option maxRecDepth 100000 in
theorem c_X8_loose (l : Launch) (D : va_G) (cI cC cQ : ClassId) (a g0 g1 g2 g3 g4 g5 g6 g7 : Nat) (ik : Int32) (rb n : Nat) (ty sp fr re cau co cm : Int32) (P : Nat → Nat → Nat → Int32) (G : Nat → Nat → Int32) (c r : Int32) (sz : Nat) (hrb : rb ≤ 1) (hn : n ≤ 4) : Met l yX8_loose wsX8_loose rmX8_loose (PW D cI cC cQ [.ref a, .int c, .int r] [(a, .inr (8, [.ref g0, .ref g1, .ref g2, .ref g3, .int ik, .int (nI rb), .int (nI n), .ref g4, .int ty, .ref g5, .ref g6, .int sp, .int fr, .int re, .int cau, .int co, .int cm, .ref g7])), (g0, .inl (cI, 240, .inl (MA G))), (g1, .inl (cI, 960, .inl (QA P)))] sz) (va_Qi (fun (z : Int32) (u : Unit) => z = cz2 (okC c r) (tdB G (cn c r)) (-1002) (nI (toldK G (cn c r)))) (fun (u : Unit) t9 => va_P D vwCl [(a, .inr (8, [.ref g0, .ref g1, .ref g2, .ref g3, .int ik, .int (nI rb), .int (nI (pnB (okC c r && tdB G (cn c r)) rb n)), .ref g4, .int ty, .ref g5, .ref g6, .int sp, .int fr, .int re, .int cau, .int co, .int cm, .ref g7])), (g0, .inl (cI, 240, .inl (MA (cG (okC c r && tdB G (cn c r)) (looseG G (cn c r)) G)))), (g1, .inl (cI, 960, .inl (QA (pcB (okC c r && tdB G (cn c r)) rb P n G))))] t9.heap) (va_A [(a, .inr (8, [.ref g0, .ref g1, .ref g2, .ref g3, .int ik, .int (nI rb), .int (nI n), .ref g4, .int ty, .ref g5, .ref g6, .int sp, .int fr, .int re, .int cau, .int co, .int cm, .ref g7])), (g0, .inl (cI, 240, .inl (MA G))), (g1, .inl (cI, 960, .inl (QA P)))] sz)) 0 0 (va_A [(a, .inr (8, [.ref g0, .ref g1, .ref g2, .ref g3, .int ik, .int (nI rb), .int (nI n), .ref g4, .int ty, .ref g5, .ref g6, .int sp, .int fr, .int re, .int cau, .int co, .int cm, .ref g7])), (g0, .inl (cI, 240, .inl (MA G))), (g1, .inl (cI, 960, .inl (QA P)))] sz) := by
  refine metW (y := yX8_loose) (ws := wsX8_loose) (rm := rmX8_loose) (D := D) (cI := cI) (cC := cC) (cQ := cQ) (av := [.ref a, .int c, .int r]) (wd := [(a, .inr (8, [.ref g0, .ref g1, .ref g2, .ref g3, .int ik, .int (nI rb), .int (nI n), .ref g4, .int ty, .ref g5, .ref g6, .int sp, .int fr, .int re, .int cau, .int co, .int cm, .ref g7])), (g0, .inl (cI, 240, .inl (MA G))), (g1, .inl (cI, 960, .inl (QA P)))]) (sz := sz) (Qf := fun A => va_Qi (fun (z : Int32) (u : Unit) => z = cz2 (okC c r) (tdB G (cn c r)) (-1002) (nI (toldK G (cn c r)))) (fun (u : Unit) t9 => va_P D vwCl [(a, .inr (8, [.ref g0, .ref g1, .ref g2, .ref g3, .int ik, .int (nI rb), .int (nI (pnB (okC c r && tdB G (cn c r)) rb n)), .ref g4, .int ty, .ref g5, .ref g6, .int sp, .int fr, .int re, .int cau, .int co, .int cm, .ref g7])), (g0, .inl (cI, 240, .inl (MA (cG (okC c r && tdB G (cn c r)) (looseG G (cn c r)) G)))), (g1, .inl (cI, 960, .inl (QA (pcB (okC c r && tdB G (cn c r)) rb P n G))))] t9.heap) A) (cc := cX8_loose) (maxL := 5) (ret := (some .int)) (by decide) rfl (Nat.le_of_ble_eq_true rfl) ?_
  intro pg ev s mi args below meth cd ls A Q hQ hx hb hml hr hts hown hlk hnm hK hP hD hS hA hl
  have hKa := hK.1
  have hl : lv_has ls 5 [(0, .ref a), (1, .int c), (2, .int r)] := hl
  refine lv_iload_n hx hb dX8_loose_0 rfl (lv_at hl 1 rfl) ?_
  refine lv_iload_n hx hb dX8_loose_1 rfl (lv_at hl 2 rfl) ?_
  have hPc := hP.sub (ws' := []) [] rfl
  refine clR (va_runS (As := [.int c, .int r]) (rest := []) ⟨hx, hb, hml, hown, hts⟩ (c_X8_isCorner l D cI cC cQ c r ) (va_cwS (rm := rmX8_isCorner) 2 hts gX8_loose_X8_isCorner rfl rfl rfl (by decide +kernel) ⟨Nat.le_of_ble_eq_true rfl, Nat.le_of_ble_eq_true rfl⟩) ⟨PR.blind, PR.go hPc hK⟩ rfl rfl hl.1 rfl (lv_room (Nat.le_of_ble_eq_true rfl)) dX8_loose_2 ⟨Nat.le_of_ble_eq_true rfl, Nat.le_of_ble_eq_true rfl⟩) (fun r_2 h_2 => ?_)
  rcases h_2 with ⟨b_2, rfl⟩ | ⟨b_2, rfl⟩
  · obtain ⟨i, j, hi, hj, rfl, rfl⟩ := isC_nat b_2
    refine gn_if_ne hx hb (by decide) (tgt := 12) dX8_loose_5 (by decide) (fun cq => ?_) (fun cq => absurd cq (by decide))
    refine lv_aload_n hx hb dX8_loose_12 rfl (lv_at hl 0 rfl) ?_
    refine lv_iload_n hx hb dX8_loose_13 rfl (lv_at hl 1 rfl) ?_
    refine lv_iload_n hx hb dX8_loose_14 rfl (lv_at hl 2 rfl) ?_
    have hPc := hP.sub (ws' := [(a, .inr (8, [.ref g0, .ref g1, .ref g2, .ref g3, .int ik, .int (nI rb), .int (nI n), .ref g4, .int ty, .ref g5, .ref g6, .int sp, .int fr, .int re, .int cau, .int co, .int cm, .ref g7])), (g0, .inl (cI, 240, .inl (MA G)))]) [0, 1] rfl
    refine clRe (E := nI (toldK G (j * 5 + i))) (va_runV (As := [.int (nI i), .int (nI j)]) (rest := []) ⟨hx, hb, hml, hown, hts⟩ (c_X8_told l D cI cC cQ a g0 g1 g2 g3 g4 g5 g6 g7 ik (nI rb) (nI n) ty sp fr re cau co cm G i j (by first | assumption | omega) (by first | assumption | omega)) (cwV (rm := rmX8_told) 2 hts gX8_loose_X8_told rfl rfl rfl (by decide +kernel) ⟨Nat.le_of_ble_eq_true rfl, Nat.le_of_ble_eq_true rfl⟩) ⟨PR.blind, va_recv hKa hPc (ci := 8) (q0 := 0) rfl rfl, PR.go hPc hK⟩ rfl rfl hl.1 rfl (lv_room (Nat.le_of_ble_eq_true rfl)) dX8_loose_15 ⟨Nat.le_of_ble_eq_true rfl, Nat.le_of_ble_eq_true rfl⟩) ?_
    have htk_15 : toldK G (j * 5 + i) < 7 := toldK_lt G _
    refine lv_istore_n (lv' := [(3, .int (nI (toldK G (j * 5 + i)))), (0, .ref a), (1, .int (nI i)), (2, .int (nI j))]) hx hb dX8_loose_18 rfl hl (by decide) rfl (fun ls hl => ?_)
    refine lv_iload_n hx hb dX8_loose_19 rfl (lv_at hl 0 rfl) ?_
    refine gn_if_ne hx hb (by omega) (tgt := 27) dX8_loose_20 (by decide) (fun c_20 => ?_) (fun c_20 => ?_)
    · have htd : tdB G (cn (nI i) (nI j)) = true := by rw [cn_nI hi hj]; exact decide_eq_true c_20
      refine lv_aload_n hx hb dX8_loose_27 rfl (lv_at hl 1 rfl) ?_
      have hPc := hP.sub (ws' := [(a, .inr (8, [.ref g0, .ref g1, .ref g2, .ref g3, .int ik, .int (nI rb), .int (nI n), .ref g4, .int ty, .ref g5, .ref g6, .int sp, .int fr, .int re, .int cau, .int co, .int cm, .ref g7])), (g0, .inl (cI, 240, .inl (MA G))), (g1, .inl (cI, 960, .inl (QA P)))]) [0, 1, 2] rfl
      have hDc := hD.sub (ws' := [(a, .inr (8, [.ref g0, .ref g1, .ref g2, .ref g3, .int ik, .int (nI rb), .int (nI n), .ref g4, .int ty, .ref g5, .ref g6, .int sp, .int fr, .int re, .int cau, .int co, .int cm, .ref g7])), (g0, .inl (cI, 240, .inl (MA G))), (g1, .inl (cI, 960, .inl (QA P)))]) [0, 1, 2] (by decide) rfl
      refine clV (wc := [(a, .inr (8, [.ref g0, .ref g1, .ref g2, .ref g3, .int ik, .int (nI rb), .int (nI n), .ref g4, .int ty, .ref g5, .ref g6, .int sp, .int fr, .int re, .int cau, .int co, .int cm, .ref g7])), (g0, .inl (cI, 240, .inl (MA G))), (g1, .inl (cI, 960, .inl (QA P)))]) (w1 := fun (u_28 : Unit) => [(a, .inr (8, [.ref g0, .ref g1, .ref g2, .ref g3, .int ik, .int (nI rb), .int (nI (pN rb n)), .ref g4, .int ty, .ref g5, .ref g6, .int sp, .int fr, .int re, .int cau, .int co, .int cm, .ref g7])), (g0, .inl (cI, 240, .inl (MA G))), (g1, .inl (cI, 960, .inl (QA (pC rb P n G))))]) (wr := []) (wn := fun (u_28 : Unit) => [(a, .inr (8, [.ref g0, .ref g1, .ref g2, .ref g3, .int ik, .int (nI rb), .int (nI (pN rb n)), .ref g4, .int ty, .ref g5, .ref g6, .int sp, .int fr, .int re, .int cau, .int co, .int cm, .ref g7])), (g0, .inl (cI, 240, .inl (MA G))), (g1, .inl (cI, 960, .inl (QA (pC rb P n G))))]) hP hD hS hA [0, 1, 2] [] [0, 1, 2] rfl rfl rfl rfl (by decide) (fun _ => rfl) (fun _ => rfl) (fun _ => rfl) (va_runV (As := []) (rest := []) ⟨hx, hb, hml, hown, hts⟩ (c_X8_changes l D cI cC cQ a g0 g1 g2 g3 g4 g5 g6 g7 ik rb n ty sp fr re cau co cm P G s.heap.size (by first | assumption | omega) (by first | assumption | omega)) (cwV (rm := rmX8_changes) 0 hts gX8_loose_X8_changes rfl rfl rfl (by decide +kernel) ⟨Nat.le_of_ble_eq_true rfl, Nat.le_of_ble_eq_true rfl⟩) ⟨PW.blind, va_recv hKa hPc (ci := 8) (q0 := 0) rfl rfl, PW.go hPc hK hDc⟩ rfl rfl hl.1 rfl (lv_room (Nat.le_of_ble_eq_true rfl)) dX8_loose_28 ⟨Nat.le_of_ble_eq_true rfl, Nat.le_of_ble_eq_true rfl⟩) (fun u_28 H locs h_28 hP hD hS => ?_)
      have hP : va_P D vwCl [(a, .inr (8, [.ref g0, .ref g1, .ref g2, .ref g3, .int ik, .int (nI rb), .int (nI (pN rb n)), .ref g4, .int ty, .ref g5, .ref g6, .int sp, .int fr, .int re, .int cau, .int co, .int cm, .ref g7])), (g0, .inl (cI, 240, .inl (MA G))), (g1, .inl (cI, 960, .inl (QA (pC rb P n G))))] H := hP
      have hD : va_D A [(a, .inr (8, [.ref g0, .ref g1, .ref g2, .ref g3, .int ik, .int (nI rb), .int (nI (pN rb n)), .ref g4, .int ty, .ref g5, .ref g6, .int sp, .int fr, .int re, .int cau, .int co, .int cm, .ref g7])), (g0, .inl (cI, 240, .inl (MA G))), (g1, .inl (cI, 960, .inl (QA (pC rb P n G))))] := hD
      refine lv_iconst (v := nI 0) hx hb dX8_loose_31 (by decide) ?_
      refine lv_istore (lv' := [(4, .int (nI 0)), (3, .int (nI (toldK G (j * 5 + i)))), (0, .ref a), (1, .int (nI i)), (2, .int (nI j))]) hx hb dX8_loose_32 hl (by decide) rfl (fun ls hl => ?_)
      have L34 : ∀ (nn : Nat) (y : Nat) (hy : y ≤ 6) (_ : 6 - y < nn) (H : Heap) (locs : List Loc) (hP : va_P D vwCl [(a, .inr (8, [.ref g0, .ref g1, .ref g2, .ref g3, .int ik, .int (nI rb), .int (nI (pN rb n)), .ref g4, .int ty, .ref g5, .ref g6, .int sp, .int fr, .int re, .int cau, .int co, .int cm, .ref g7])), (g0, .inl (cI, 240, .inl (MA (looS G (j * 5 + i) y)))), (g1, .inl (cI, 960, .inl (QA (pC rb P n G))))] H) (hD : va_D A [(a, .inr (8, [.ref g0, .ref g1, .ref g2, .ref g3, .int ik, .int (nI rb), .int (nI (pN rb n)), .ref g4, .int ty, .ref g5, .ref g6, .int sp, .int fr, .int re, .int cau, .int co, .int cm, .ref g7])), (g0, .inl (cI, 240, .inl (MA (looS G (j * 5 + i) y)))), (g1, .inl (cI, 960, .inl (QA (pC rb P n G))))]) (hS : va_S A s.heap H locs) (ls : Array Slot) (_ : lv_has ls 5 [(4, .int (nI y)), (3, .int (nI (toldK G (j * 5 + i)))), (0, .ref a), (1, .int (nI i)), (2, .int (nI j))]), W pg l ev (headSpec wsX8_loose rmX8_loose).room s mi args below meth cd H locs 0 0 Q (F0 mi 34 ls []) := by
        intro nn
        induction nn with
        | zero =>
          intro y hy hmeas
          exact absurd hmeas (Nat.not_lt_zero _)
        | succ nn ih34 =>
          intro y hy hmeas H locs hP hD hS ls hl
          refine lv_iload hx hb dX8_loose_34 (lv_at hl 0 rfl) ?_
          refine lv_bipush (v := nI 6) hx hb dX8_loose_36 (by decide) ?_
          refine gn_icmp_ge hx hb (by omega) (by decide) (tgt := 66) dX8_loose_38 (by decide) (fun c_38 => ?_) (fun c_38 => ?_)
          · refine lv_iload_n hx hb dX8_loose_66 rfl (lv_at hl 1 rfl) ?_
            have hP : va_P D vwCl [(a, .inr (8, [.ref g0, .ref g1, .ref g2, .ref g3, .int ik, .int (nI rb), .int (nI (pN rb n)), .ref g4, .int ty, .ref g5, .ref g6, .int sp, .int fr, .int re, .int cau, .int co, .int cm, .ref g7])), (g0, .inl (cI, 240, .inl (MA (looseG G (j * 5 + i))))), (g1, .inl (cI, 960, .inl (QA (pC rb P n G))))] H := (hP.fn 1 rfl (g := MA (looseG G (j * 5 + i))) (fun q _ => by rw [show y = 6 by omega]; exact looS_6 G _ q) rfl)
            have hD : va_D A [(a, .inr (8, [.ref g0, .ref g1, .ref g2, .ref g3, .int ik, .int (nI rb), .int (nI (pN rb n)), .ref g4, .int ty, .ref g5, .ref g6, .int sp, .int fr, .int re, .int cau, .int co, .int cm, .ref g7])), (g0, .inl (cI, 240, .inl (MA (looseG G (j * 5 + i))))), (g1, .inl (cI, 960, .inl (QA (pC rb P n G))))] := hD.addr rfl
            have hok : (okC (nI i) (nI j) && tdB G (cn (nI i) (nI j))) = true := by rw [show okC (nI i) (nI j) = true from decide_eq_true b_2, htd]; rfl
            have eG : cG (okC (nI i) (nI j) && tdB G (cn (nI i) (nI j))) (looseG G (cn (nI i) (nI j))) G = looseG G (j * 5 + i) := (cG_t hok).trans (by rw [cn_nI hi hj])
            have eP : pcB (okC (nI i) (nI j) && tdB G (cn (nI i) (nI j))) rb P n G = pC rb P n G := pcB_t hok
            have eN : pnB (okC (nI i) (nI j) && tdB G (cn (nI i) (nI j))) rb n = pN rb n := pnB_t hok
            have hP : va_P D vwCl [(a, .inr (8, [.ref g0, .ref g1, .ref g2, .ref g3, .int ik, .int (nI rb), .int (nI (pnB (okC (nI i) (nI j) && tdB G (cn (nI i) (nI j))) rb n)), .ref g4, .int ty, .ref g5, .ref g6, .int sp, .int fr, .int re, .int cau, .int co, .int cm, .ref g7])), (g0, .inl (cI, 240, .inl (MA (cG (okC (nI i) (nI j) && tdB G (cn (nI i) (nI j))) (looseG G (cn (nI i) (nI j))) G)))), (g1, .inl (cI, 960, .inl (QA (pcB (okC (nI i) (nI j) && tdB G (cn (nI i) (nI j))) rb P n G))))] H := by rw [eG, eP, eN]; exact hP
            exact rtW_i () hQ hx hb hr hlk hS hP dX8_loose_67 (by rw [cz2_t (show okC (nI i) (nI j) = true from decide_eq_true b_2) htd, cn_nI hi hj])
          · refine lv_aload_n hx hb dX8_loose_41 rfl (lv_at hl 2 rfl) ?_
            refine va_get (D := D) (ci := 8) (v := .ref g0) (C := RX8) (T := TX8) (N := 18) hx hb hts iw_X8_loose_X8 hown hKa hP 0 rfl rfl 0 (by decide) (hts (.fieldLink RX8 7 "ColourPatchesModel" "s" "[I") (by decide +kernel)) (fun _ h9 => h9) rfl dX8_loose_42 ?_
            refine lv_iload_n hx hb dX8_loose_45 rfl (lv_at hl 3 rfl) ?_
            refine lv_iload_n hx hb dX8_loose_46 rfl (lv_at hl 4 rfl) ?_
            have hPc := hP.sub (ws' := []) [] rfl
            refine clRe (E := nI (12 * (5 * j + i))) (va_runS (As := [.int (nI i), .int (nI j)]) (rest := [.ref g0]) ⟨hx, hb, hml, hown, hts⟩ (c_X8_at l D cI cC cQ i j ) (va_cwS (rm := rmX8_at) 2 hts gX8_loose_X8_at rfl rfl rfl (by decide +kernel) ⟨Nat.le_of_ble_eq_true rfl, Nat.le_of_ble_eq_true rfl⟩) ⟨PR.blind, PR.go hPc hK⟩ rfl rfl hl.1 rfl (lv_room (Nat.le_of_ble_eq_true rfl)) dX8_loose_47 ⟨Nat.le_of_ble_eq_true rfl, Nat.le_of_ble_eq_true rfl⟩) ?_
            refine lv_bipush (v := nI 6) hx hb dX8_loose_50 (by decide) ?_
            refine gn_add hx hb dX8_loose_52 ?_
            refine lv_iload hx hb dX8_loose_53 (lv_at hl 0 rfl) ?_
            refine gn_add hx hb dX8_loose_55 ?_
            refine lv_sipush (v := nI 999) hx hb dX8_loose_56 (by decide) ?_
            refine gn_iast (ws' := [(a, .inr (8, [.ref g0, .ref g1, .ref g2, .ref g3, .int ik, .int (nI rb), .int (nI (pN rb n)), .ref g4, .int ty, .ref g5, .ref g6, .int sp, .int fr, .int re, .int cau, .int co, .int cm, .ref g7])), (g0, .inl (cI, 240, .inl (upd (MA (looS G (j * 5 + i) y)) (((12 * (5 * j + i)) + 6) + y) (nI 999)))), (g1, .inl (cI, 960, .inl (QA (pC rb P n G))))]) hx hb hKa hP hD hS 1 0 rfl rfl (k := ((12 * (5 * j + i)) + 6) + y) (by omega) (by omega) dX8_loose_59 rfl (fun H locs hP hD hS => ?_)
            rw [show upd (MA (looS G (j * 5 + i) y)) (((12 * (5 * j + i)) + 6) + y) (nI 999) = MA (set1 (looS G (j * 5 + i) y) (j * 5 + i) (6 + y) (nI 999)) from MA_set _ _ _ _ _ (by omega) (by omega)] at hP
            have hD : va_D A [(a, .inr (8, [.ref g0, .ref g1, .ref g2, .ref g3, .int ik, .int (nI rb), .int (nI (pN rb n)), .ref g4, .int ty, .ref g5, .ref g6, .int sp, .int fr, .int re, .int cau, .int co, .int cm, .ref g7])), (g0, .inl (cI, 240, .inl (MA (set1 (looS G (j * 5 + i) y) (j * 5 + i) (6 + y) (nI 999))))), (g1, .inl (cI, 960, .inl (QA (pC rb P n G))))] := hD.addr rfl
            refine gn_iinc (lv' := [(4, .int (nI (y + 1))), (3, .int (nI (toldK G (j * 5 + i)))), (0, .ref a), (1, .int (nI i)), (2, .int (nI j))]) hx hb dX8_loose_60 hl (k := 0) rfl (by decide) rfl (fun ls hl => ?_)
            refine lv_goto (tgt := 34) hx hb dX8_loose_63 (by decide) ?_
            have hP : va_P D vwCl [(a, .inr (8, [.ref g0, .ref g1, .ref g2, .ref g3, .int ik, .int (nI rb), .int (nI (pN rb n)), .ref g4, .int ty, .ref g5, .ref g6, .int sp, .int fr, .int re, .int cau, .int co, .int cm, .ref g7])), (g0, .inl (cI, 240, .inl (MA (looS G (j * 5 + i) (y + 1))))), (g1, .inl (cI, 960, .inl (QA (pC rb P n G))))] H := (hP.fn 1 rfl (g := MA (looS G (j * 5 + i) (y + 1))) (fun q _ => by rw [looS_s]) rfl)
            have hD : va_D A [(a, .inr (8, [.ref g0, .ref g1, .ref g2, .ref g3, .int ik, .int (nI rb), .int (nI (pN rb n)), .ref g4, .int ty, .ref g5, .ref g6, .int sp, .int fr, .int re, .int cau, .int co, .int cm, .ref g7])), (g0, .inl (cI, 240, .inl (MA (looS G (j * 5 + i) (y + 1))))), (g1, .inl (cI, 960, .inl (QA (pC rb P n G))))] := hD.addr rfl
            exact ih34 (y + 1) (show (y + 1) ≤ 6 from by first | omega | assumption | rfl) (by first | omega | assumption) H locs hP hD hS _ (lv_sub hl [0, 1, 2, 3, 4] rfl)
      have hP : va_P D vwCl [(a, .inr (8, [.ref g0, .ref g1, .ref g2, .ref g3, .int ik, .int (nI rb), .int (nI (pN rb n)), .ref g4, .int ty, .ref g5, .ref g6, .int sp, .int fr, .int re, .int cau, .int co, .int cm, .ref g7])), (g0, .inl (cI, 240, .inl (MA (looS G (j * 5 + i) 0)))), (g1, .inl (cI, 960, .inl (QA (pC rb P n G))))] H := (hP.fn 1 rfl (g := MA (looS G (j * 5 + i) 0)) (fun q _ => by rw [looS_0]) rfl)
      have hD : va_D A [(a, .inr (8, [.ref g0, .ref g1, .ref g2, .ref g3, .int ik, .int (nI rb), .int (nI (pN rb n)), .ref g4, .int ty, .ref g5, .ref g6, .int sp, .int fr, .int re, .int cau, .int co, .int cm, .ref g7])), (g0, .inl (cI, 240, .inl (MA (looS G (j * 5 + i) 0)))), (g1, .inl (cI, 960, .inl (QA (pC rb P n G))))] := hD.addr rfl
      exact L34 ((6 - 0) + 1) 0 (show 0 ≤ 6 from by first | omega | assumption | rfl) (Nat.lt_succ_self _) H locs hP hD hS _ (lv_sub hl [0, 1, 2, 3, 4] rfl)
    · have htd : tdB G (cn (nI i) (nI j)) = false := by rw [cn_nI hi hj]; exact decide_eq_false (fun q => q c_20)
      refine lv_sipush (v := (-1002)) hx hb dX8_loose_23 (by decide) ?_
      have hok : (okC (nI i) (nI j) && tdB G (cn (nI i) (nI j))) = false := by rw [htd]; exact Bool.and_false _
      have eG : cG (okC (nI i) (nI j) && tdB G (cn (nI i) (nI j))) (looseG G (cn (nI i) (nI j))) G = G := cG_f hok
      have eP : pcB (okC (nI i) (nI j) && tdB G (cn (nI i) (nI j))) rb P n G = P := pcB_f hok
      have eN : pnB (okC (nI i) (nI j) && tdB G (cn (nI i) (nI j))) rb n = n := pnB_f hok
      have hP : va_P D vwCl [(a, .inr (8, [.ref g0, .ref g1, .ref g2, .ref g3, .int ik, .int (nI rb), .int (nI (pnB (okC (nI i) (nI j) && tdB G (cn (nI i) (nI j))) rb n)), .ref g4, .int ty, .ref g5, .ref g6, .int sp, .int fr, .int re, .int cau, .int co, .int cm, .ref g7])), (g0, .inl (cI, 240, .inl (MA (cG (okC (nI i) (nI j) && tdB G (cn (nI i) (nI j))) (looseG G (cn (nI i) (nI j))) G)))), (g1, .inl (cI, 960, .inl (QA (pcB (okC (nI i) (nI j) && tdB G (cn (nI i) (nI j))) rb P n G))))] s.heap := by rw [eG, eP, eN]; exact hP
      exact rtW_i () hQ hx hb hr hlk hS hP dX8_loose_26 ((cz2_n (show okC (nI i) (nI j) = true from decide_eq_true b_2) htd).symm)
  · refine gn_if_ne hx hb (by decide) (tgt := 12) dX8_loose_5 (by decide) (fun cq => absurd cq (by decide)) (fun cq => ?_)
    refine lv_sipush (v := (-1001)) hx hb dX8_loose_8 (by decide) ?_
    have hok : (okC c r && tdB G (cn c r)) = false := by rw [show okC c r = false from decide_eq_false b_2]; rfl
    have eG : cG (okC c r && tdB G (cn c r)) (looseG G (cn c r)) G = G := cG_f hok
    have eP : pcB (okC c r && tdB G (cn c r)) rb P n G = P := pcB_f hok
    have eN : pnB (okC c r && tdB G (cn c r)) rb n = n := pnB_f hok
    have hP : va_P D vwCl [(a, .inr (8, [.ref g0, .ref g1, .ref g2, .ref g3, .int ik, .int (nI rb), .int (nI (pnB (okC c r && tdB G (cn c r)) rb n)), .ref g4, .int ty, .ref g5, .ref g6, .int sp, .int fr, .int re, .int cau, .int co, .int cm, .ref g7])), (g0, .inl (cI, 240, .inl (MA (cG (okC c r && tdB G (cn c r)) (looseG G (cn c r)) G)))), (g1, .inl (cI, 960, .inl (QA (pcB (okC c r && tdB G (cn c r)) rb P n G))))] s.heap := by rw [eG, eP, eN]; exact hP
    exact rtW_i () hQ hx hb hr hlk hS hP dX8_loose_11 ((cz2_f (show okC c r = false from decide_eq_false b_2)).symm)
