abbrev rmX8_sum1 : Room := { frames := 0, cells := 0, slots := 0, locals := 0 }
set_option maxRecDepth 20000 in
theorem iw_X8_sum1_X8 : ∀ w ∈ u_ws RX8 TX8 18, w ∈ wsX8_sum := by decide +kernel
set_option maxHeartbeats 4000000 in
set_option maxRecDepth 100000 in
theorem c_X8_sum1 (l : Launch) (D : va_G) (cI cC cQ : ClassId) (a g0 g1 g2 g3 g4 g5 g6 g7 : Nat) (ik rn ps ty sp fr re cau co cm : Int32) (G : Nat → Nat → Int32) (p : Nat) : Met l yX8_sum wsX8_sum rmX8_sum1 (PR D cI cC cQ [.ref a, .int (nI 1)] [(a, .inr (8, [.ref g0, .ref g1, .ref g2, .ref g3, .int ik, .int rn, .int ps, .ref g4, .int ty, .ref g5, .ref g6, .int sp, .int fr, .int re, .int cau, .int co, .int cm, .ref g7])), (g6, .inl (cI, 81, .inl (lkF G p)))]) (vp_Si (fun z => z = maxI (palS G p 3) 81)) 0 0 (fun _ => False) := by
  refine metR (cc := cX8_sum) (maxL := 5) (ret := (some .int)) (by decide) rfl (Nat.le_of_ble_eq_true rfl) ?_
  intro pg ev s mi args below meth cd ls Q hQ hx hb hml hr hts hown hlk hK hP hl
  have hKa := hK.1
  have hl : lv_has ls 5 [(0, .ref a), (1, .int (nI 1))] := hl
  refine lv_sipush (v := (-1004)) hx hb dX8_sum_0 (by decide) ?_
  refine lv_istore_n (lv' := [(2, .int (-1004)), (0, .ref a), (1, .int (nI 1))]) hx hb dX8_sum_3 rfl hl (by decide) rfl (fun ls hl => ?_)
  refine lv_iconst (v := nI 0) hx hb dX8_sum_4 (by decide) ?_
  refine lv_istore_n (lv' := [(3, .int (nI 0)), (2, .int (-1004)), (0, .ref a), (1, .int (nI 1))]) hx hb dX8_sum_5 rfl hl (by decide) rfl (fun ls hl => ?_)
  have L6 : ∀ (nn : Nat) (k : Nat) (x : Int32) (hk : k ≤ 81) (hxr : smInv maxI (palS G p 3) k x) (_ : 81 - k < nn) (ls : Array Slot) (_ : lv_has ls 5 [(2, .int x), (3, .int (nI k)), (0, .ref a), (1, .int (nI 1))]), W pg l ev (headSpec wsX8_sum rmX8_sum1).room s mi args below meth cd s.heap [] 0 0 Q (F0 mi 6 ls []) := by
    intro nn
    induction nn with
    | zero =>
      intro k x hk hxr hmeas
      exact absurd hmeas (Nat.not_lt_zero _)
    | succ nn ih6 =>
      intro k x hk hxr hmeas  ls hl
      refine lv_iload_n hx hb dX8_sum_6 rfl (lv_at hl 1 rfl) ?_
      refine lv_bipush (v := nI 81) hx hb dX8_sum_7 (by decide) ?_
      refine gn_icmp_ge hx hb (by omega) (by decide) (tgt := 85) dX8_sum_9 (by decide) (fun c_9 => ?_) (fun c_9 => ?_)
      · refine lv_iload_n hx hb dX8_sum_85 rfl (lv_at hl 0 rfl) ?_
        exact rtR_i hQ hx hb hr hlk dX8_sum_86 (sm_end hxr (by omega))
      · refine lv_aload_n hx hb dX8_sum_12 rfl (lv_at hl 2 rfl) ?_
        refine va_get (D := D) (ci := 8) (v := .ref g6) (C := RX8) (T := TX8) (N := 18) hx hb hts iw_X8_sum1_X8 hown hKa hP 0 rfl rfl 10 (by decide) (hts (.fieldLink RX8 28 "ColourPatchesModel" "seen" "[I") (by decide +kernel)) (fun _ h9 => h9) rfl dX8_sum_13 ?_
        refine lv_iload_n hx hb dX8_sum_16 rfl (lv_at hl 1 rfl) ?_
        refine gn_iald hx hb hKa hP 1 0 rfl rfl (k := k) (by omega) (by omega) dX8_sum_17 ?_
        refine W.eq (g2 := F0 mi 18 ls [.int ((lkF G p) k)]) rfl ?_
        refine lv_ldc (v := nI 65536) hx hb hown (hts (.constant RX8 104 (nI 65536)) (by decide +kernel)) dX8_sum_18 ?_
        refine lv_idiv hx hb dX8_sum_20 (by decide) ?_
        refine lv_aload_n hx hb dX8_sum_21 rfl (lv_at hl 2 rfl) ?_
        refine va_get (D := D) (ci := 8) (v := .ref g6) (C := RX8) (T := TX8) (N := 18) hx hb hts iw_X8_sum1_X8 hown hKa hP 0 rfl rfl 10 (by decide) (hts (.fieldLink RX8 28 "ColourPatchesModel" "seen" "[I") (by decide +kernel)) (fun _ h9 => h9) rfl dX8_sum_22 ?_
        refine lv_iload_n hx hb dX8_sum_25 rfl (lv_at hl 1 rfl) ?_
        refine gn_iald hx hb hKa hP 1 0 rfl rfl (k := k) (by omega) (by omega) dX8_sum_26 ?_
        refine W.eq (g2 := F0 mi 27 ls [.int ((lkF G p) k), .int (((lkF G p) k) / (nI 65536))]) rfl ?_
        refine lv_sipush (v := nI 256) hx hb dX8_sum_27 (by decide) ?_
        refine lv_idiv hx hb dX8_sum_30 (by decide) ?_
        refine lv_sipush (v := nI 256) hx hb dX8_sum_31 (by decide) ?_
        refine lv_irem hx hb dX8_sum_34 (by decide) ?_
        refine lv_iadd hx hb dX8_sum_35 ?_
        refine lv_aload_n hx hb dX8_sum_36 rfl (lv_at hl 2 rfl) ?_
        refine va_get (D := D) (ci := 8) (v := .ref g6) (C := RX8) (T := TX8) (N := 18) hx hb hts iw_X8_sum1_X8 hown hKa hP 0 rfl rfl 10 (by decide) (hts (.fieldLink RX8 28 "ColourPatchesModel" "seen" "[I") (by decide +kernel)) (fun _ h9 => h9) rfl dX8_sum_37 ?_
        refine lv_iload_n hx hb dX8_sum_40 rfl (lv_at hl 1 rfl) ?_
        refine gn_iald hx hb hKa hP 1 0 rfl rfl (k := k) (by omega) (by omega) dX8_sum_41 ?_
        refine W.eq (g2 := F0 mi 42 ls [.int ((lkF G p) k), .int ((((lkF G p) k) / (nI 65536)) + ((((lkF G p) k) / (nI 256)) - (((lkF G p) k) / (nI 256)) / (nI 256) * (nI 256)))]) rfl ?_
        refine lv_sipush (v := nI 256) hx hb dX8_sum_42 (by decide) ?_
        refine lv_irem hx hb dX8_sum_45 (by decide) ?_
        refine lv_iadd hx hb dX8_sum_46 ?_
        refine lv_istore (lv' := [(4, .int (((((lkF G p) k) / (nI 65536)) + ((((lkF G p) k) / (nI 256)) - (((lkF G p) k) / (nI 256)) / (nI 256) * (nI 256))) + (((lkF G p) k) - ((lkF G p) k) / (nI 256) * (nI 256)))), (2, .int x), (3, .int (nI k)), (0, .ref a), (1, .int (nI 1))]) hx hb dX8_sum_47 hl (by decide) rfl (fun ls hl => ?_)
        refine lv_iload_n hx hb dX8_sum_49 rfl (lv_at hl 1 rfl) ?_
        refine lv_if_lt hx hb (tgt := 72) dX8_sum_50 (by decide) (fun c_50 => ?_) (fun c_50 => ?_)
        · refine lv_iload hx hb dX8_sum_72 (lv_at hl 0 rfl) ?_
          refine lv_goto (tgt := 78) hx hb dX8_sum_74 (by decide) ?_
          refine lv_istore_n (lv' := [(2, .int (((((lkF G p) k) / (nI 65536)) + ((((lkF G p) k) / (nI 256)) - (((lkF G p) k) / (nI 256)) / (nI 256) * (nI 256))) + (((lkF G p) k) - ((lkF G p) k) / (nI 256) * (nI 256)))), (4, .int (((((lkF G p) k) / (nI 65536)) + ((((lkF G p) k) / (nI 256)) - (((lkF G p) k) / (nI 256)) / (nI 256) * (nI 256))) + (((lkF G p) k) - ((lkF G p) k) / (nI 256) * (nI 256)))), (3, .int (nI k)), (0, .ref a), (1, .int (nI 1))]) hx hb dX8_sum_78 rfl hl (by decide) rfl (fun ls hl => ?_)
          refine gn_iinc (lv' := [(3, .int (nI (k + 1))), (2, .int (((((lkF G p) k) / (nI 65536)) + ((((lkF G p) k) / (nI 256)) - (((lkF G p) k) / (nI 256)) / (nI 256) * (nI 256))) + (((lkF G p) k) - ((lkF G p) k) / (nI 256) * (nI 256)))), (4, .int (((((lkF G p) k) / (nI 65536)) + ((((lkF G p) k) / (nI 256)) - (((lkF G p) k) / (nI 256)) / (nI 256) * (nI 256))) + (((lkF G p) k) - ((lkF G p) k) / (nI 256) * (nI 256)))), (0, .ref a), (1, .int (nI 1))]) hx hb dX8_sum_79 hl (k := 2) rfl (by decide) rfl (fun ls hl => ?_)
          refine lv_goto (tgt := 6) hx hb dX8_sum_82 (by decide) ?_
          exact ih6 (k + 1) (((((lkF G p) k) / (nI 65536)) + ((((lkF G p) k) / (nI 256)) - (((lkF G p) k) / (nI 256)) / (nI 256) * (nI 256))) + (((lkF G p) k) - ((lkF G p) k) / (nI 256) * (nI 256))) (show (k + 1) ≤ 81 from by first | omega | assumption | rfl) (show smInv maxI (palS G p 3) (k + 1) (((((lkF G p) k) / (nI 65536)) + ((((lkF G p) k) / (nI 256)) - (((lkF G p) k) / (nI 256)) / (nI 256) * (nI 256))) + (((lkF G p) k) - ((lkF G p) k) / (nI 256) * (nI 256))) from sm_first (fun k => (palS_lk G p k).2) hxr (palS_lk G p k).1 c_50) (by first | omega | assumption) _ (lv_sub hl [1, 0, 3, 4] rfl)
        · refine lv_iload_n hx hb dX8_sum_53 rfl (lv_at hl 4 rfl) ?_
          refine gn_if_eq hx hb (by decide) (tgt := 66) dX8_sum_54 (by decide) (fun cq => absurd cq (by decide)) (fun cq => ?_)
          refine lv_iload hx hb dX8_sum_57 (lv_at hl 0 rfl) ?_
          refine lv_iload_n hx hb dX8_sum_59 rfl (lv_at hl 1 rfl) ?_
          refine lv_icmp_le hx hb (tgt := 77) dX8_sum_60 (by decide) (fun c_60 => ?_) (fun c_60 => ?_)
          · refine lv_iload_n hx hb dX8_sum_77 rfl (lv_at hl 1 rfl) ?_
            refine lv_istore_n (lv' := [(2, .int x), (4, .int (((((lkF G p) k) / (nI 65536)) + ((((lkF G p) k) / (nI 256)) - (((lkF G p) k) / (nI 256)) / (nI 256) * (nI 256))) + (((lkF G p) k) - ((lkF G p) k) / (nI 256) * (nI 256)))), (3, .int (nI k)), (0, .ref a), (1, .int (nI 1))]) hx hb dX8_sum_78 rfl hl (by decide) rfl (fun ls hl => ?_)
            refine gn_iinc (lv' := [(3, .int (nI (k + 1))), (2, .int x), (4, .int (((((lkF G p) k) / (nI 65536)) + ((((lkF G p) k) / (nI 256)) - (((lkF G p) k) / (nI 256)) / (nI 256) * (nI 256))) + (((lkF G p) k) - ((lkF G p) k) / (nI 256) * (nI 256)))), (0, .ref a), (1, .int (nI 1))]) hx hb dX8_sum_79 hl (k := 2) rfl (by decide) rfl (fun ls hl => ?_)
            refine lv_goto (tgt := 6) hx hb dX8_sum_82 (by decide) ?_
            exact ih6 (k + 1) x (show (k + 1) ≤ 81 from by first | omega | assumption | rfl) (show smInv maxI (palS G p 3) (k + 1) x from sm_keep hxr (palS_lk G p k).1 c_50 c_60) (by first | omega | assumption) _ (lv_sub hl [1, 0, 3, 4] rfl)
          · refine lv_goto (tgt := 72) hx hb dX8_sum_63 (by decide) ?_
            refine lv_iload hx hb dX8_sum_72 (lv_at hl 0 rfl) ?_
            refine lv_goto (tgt := 78) hx hb dX8_sum_74 (by decide) ?_
            refine lv_istore_n (lv' := [(2, .int (((((lkF G p) k) / (nI 65536)) + ((((lkF G p) k) / (nI 256)) - (((lkF G p) k) / (nI 256)) / (nI 256) * (nI 256))) + (((lkF G p) k) - ((lkF G p) k) / (nI 256) * (nI 256)))), (4, .int (((((lkF G p) k) / (nI 65536)) + ((((lkF G p) k) / (nI 256)) - (((lkF G p) k) / (nI 256)) / (nI 256) * (nI 256))) + (((lkF G p) k) - ((lkF G p) k) / (nI 256) * (nI 256)))), (3, .int (nI k)), (0, .ref a), (1, .int (nI 1))]) hx hb dX8_sum_78 rfl hl (by decide) rfl (fun ls hl => ?_)
            refine gn_iinc (lv' := [(3, .int (nI (k + 1))), (2, .int (((((lkF G p) k) / (nI 65536)) + ((((lkF G p) k) / (nI 256)) - (((lkF G p) k) / (nI 256)) / (nI 256) * (nI 256))) + (((lkF G p) k) - ((lkF G p) k) / (nI 256) * (nI 256)))), (4, .int (((((lkF G p) k) / (nI 65536)) + ((((lkF G p) k) / (nI 256)) - (((lkF G p) k) / (nI 256)) / (nI 256) * (nI 256))) + (((lkF G p) k) - ((lkF G p) k) / (nI 256) * (nI 256)))), (0, .ref a), (1, .int (nI 1))]) hx hb dX8_sum_79 hl (k := 2) rfl (by decide) rfl (fun ls hl => ?_)
            refine lv_goto (tgt := 6) hx hb dX8_sum_82 (by decide) ?_
            exact ih6 (k + 1) (((((lkF G p) k) / (nI 65536)) + ((((lkF G p) k) / (nI 256)) - (((lkF G p) k) / (nI 256)) / (nI 256) * (nI 256))) + (((lkF G p) k) - ((lkF G p) k) / (nI 256) * (nI 256))) (show (k + 1) ≤ 81 from by first | omega | assumption | rfl) (show smInv maxI (palS G p 3) (k + 1) (((((lkF G p) k) / (nI 65536)) + ((((lkF G p) k) / (nI 256)) - (((lkF G p) k) / (nI 256)) / (nI 256) * (nI 256))) + (((lkF G p) k) - ((lkF G p) k) / (nI 256) * (nI 256))) from sm_up hxr (palS_lk G p k).1 c_50 c_60) (by first | omega | assumption) _ (lv_sub hl [1, 0, 3, 4] rfl)
  exact L6 ((81 - 0) + 1) 0 (-1004) (show 0 ≤ 81 from by first | omega | assumption | rfl) (show smInv maxI (palS G p 3) 0 (-1004) from Or.inl ⟨rfl, rfl⟩) (Nat.lt_succ_self _) _ (lv_sub hl [1, 0, 2, 3] rfl)
abbrev rmX8_sum0 : Room := { frames := 0, cells := 0, slots := 0, locals := 0 }
set_option maxRecDepth 20000 in
theorem iw_X8_sum0_X8 : ∀ w ∈ u_ws RX8 TX8 18, w ∈ wsX8_sum := by decide +kernel
set_option maxHeartbeats 4000000 in
set_option maxRecDepth 100000 in
theorem c_X8_sum0 (l : Launch) (D : va_G) (cI cC cQ : ClassId) (a g0 g1 g2 g3 g4 g5 g6 g7 : Nat) (ik rn ps ty sp fr re cau co cm : Int32) (G : Nat → Nat → Int32) (p : Nat) : Met l yX8_sum wsX8_sum rmX8_sum0 (PR D cI cC cQ [.ref a, .int (nI 0)] [(a, .inr (8, [.ref g0, .ref g1, .ref g2, .ref g3, .int ik, .int rn, .int ps, .ref g4, .int ty, .ref g5, .ref g6, .int sp, .int fr, .int re, .int cau, .int co, .int cm, .ref g7])), (g6, .inl (cI, 81, .inl (lkF G p)))]) (vp_Si (fun z => z = minI (palS G p 3) 81)) 0 0 (fun _ => False) := by
  refine metR (cc := cX8_sum) (maxL := 5) (ret := (some .int)) (by decide) rfl (Nat.le_of_ble_eq_true rfl) ?_
  intro pg ev s mi args below meth cd ls Q hQ hx hb hml hr hts hown hlk hK hP hl
  have hKa := hK.1
  have hl : lv_has ls 5 [(0, .ref a), (1, .int (nI 0))] := hl
  refine lv_sipush (v := (-1004)) hx hb dX8_sum_0 (by decide) ?_
  refine lv_istore_n (lv' := [(2, .int (-1004)), (0, .ref a), (1, .int (nI 0))]) hx hb dX8_sum_3 rfl hl (by decide) rfl (fun ls hl => ?_)
  refine lv_iconst (v := nI 0) hx hb dX8_sum_4 (by decide) ?_
  refine lv_istore_n (lv' := [(3, .int (nI 0)), (2, .int (-1004)), (0, .ref a), (1, .int (nI 0))]) hx hb dX8_sum_5 rfl hl (by decide) rfl (fun ls hl => ?_)
  have L6 : ∀ (nn : Nat) (k : Nat) (x : Int32) (hk : k ≤ 81) (hxr : smInv minI (palS G p 3) k x) (_ : 81 - k < nn) (ls : Array Slot) (_ : lv_has ls 5 [(2, .int x), (3, .int (nI k)), (0, .ref a), (1, .int (nI 0))]), W pg l ev (headSpec wsX8_sum rmX8_sum0).room s mi args below meth cd s.heap [] 0 0 Q (F0 mi 6 ls []) := by
    intro nn
    induction nn with
    | zero =>
      intro k x hk hxr hmeas
      exact absurd hmeas (Nat.not_lt_zero _)
    | succ nn ih6 =>
      intro k x hk hxr hmeas  ls hl
      refine lv_iload_n hx hb dX8_sum_6 rfl (lv_at hl 1 rfl) ?_
      refine lv_bipush (v := nI 81) hx hb dX8_sum_7 (by decide) ?_
      refine gn_icmp_ge hx hb (by omega) (by decide) (tgt := 85) dX8_sum_9 (by decide) (fun c_9 => ?_) (fun c_9 => ?_)
      · refine lv_iload_n hx hb dX8_sum_85 rfl (lv_at hl 0 rfl) ?_
        exact rtR_i hQ hx hb hr hlk dX8_sum_86 (sm_end hxr (by omega))
      · refine lv_aload_n hx hb dX8_sum_12 rfl (lv_at hl 2 rfl) ?_
        refine va_get (D := D) (ci := 8) (v := .ref g6) (C := RX8) (T := TX8) (N := 18) hx hb hts iw_X8_sum0_X8 hown hKa hP 0 rfl rfl 10 (by decide) (hts (.fieldLink RX8 28 "ColourPatchesModel" "seen" "[I") (by decide +kernel)) (fun _ h9 => h9) rfl dX8_sum_13 ?_
        refine lv_iload_n hx hb dX8_sum_16 rfl (lv_at hl 1 rfl) ?_
        refine gn_iald hx hb hKa hP 1 0 rfl rfl (k := k) (by omega) (by omega) dX8_sum_17 ?_
        refine W.eq (g2 := F0 mi 18 ls [.int ((lkF G p) k)]) rfl ?_
        refine lv_ldc (v := nI 65536) hx hb hown (hts (.constant RX8 104 (nI 65536)) (by decide +kernel)) dX8_sum_18 ?_
        refine lv_idiv hx hb dX8_sum_20 (by decide) ?_
        refine lv_aload_n hx hb dX8_sum_21 rfl (lv_at hl 2 rfl) ?_
        refine va_get (D := D) (ci := 8) (v := .ref g6) (C := RX8) (T := TX8) (N := 18) hx hb hts iw_X8_sum0_X8 hown hKa hP 0 rfl rfl 10 (by decide) (hts (.fieldLink RX8 28 "ColourPatchesModel" "seen" "[I") (by decide +kernel)) (fun _ h9 => h9) rfl dX8_sum_22 ?_
        refine lv_iload_n hx hb dX8_sum_25 rfl (lv_at hl 1 rfl) ?_
        refine gn_iald hx hb hKa hP 1 0 rfl rfl (k := k) (by omega) (by omega) dX8_sum_26 ?_
        refine W.eq (g2 := F0 mi 27 ls [.int ((lkF G p) k), .int (((lkF G p) k) / (nI 65536))]) rfl ?_
        refine lv_sipush (v := nI 256) hx hb dX8_sum_27 (by decide) ?_
        refine lv_idiv hx hb dX8_sum_30 (by decide) ?_
        refine lv_sipush (v := nI 256) hx hb dX8_sum_31 (by decide) ?_
        refine lv_irem hx hb dX8_sum_34 (by decide) ?_
        refine lv_iadd hx hb dX8_sum_35 ?_
        refine lv_aload_n hx hb dX8_sum_36 rfl (lv_at hl 2 rfl) ?_
        refine va_get (D := D) (ci := 8) (v := .ref g6) (C := RX8) (T := TX8) (N := 18) hx hb hts iw_X8_sum0_X8 hown hKa hP 0 rfl rfl 10 (by decide) (hts (.fieldLink RX8 28 "ColourPatchesModel" "seen" "[I") (by decide +kernel)) (fun _ h9 => h9) rfl dX8_sum_37 ?_
        refine lv_iload_n hx hb dX8_sum_40 rfl (lv_at hl 1 rfl) ?_
        refine gn_iald hx hb hKa hP 1 0 rfl rfl (k := k) (by omega) (by omega) dX8_sum_41 ?_
        refine W.eq (g2 := F0 mi 42 ls [.int ((lkF G p) k), .int ((((lkF G p) k) / (nI 65536)) + ((((lkF G p) k) / (nI 256)) - (((lkF G p) k) / (nI 256)) / (nI 256) * (nI 256)))]) rfl ?_
        refine lv_sipush (v := nI 256) hx hb dX8_sum_42 (by decide) ?_
        refine lv_irem hx hb dX8_sum_45 (by decide) ?_
        refine lv_iadd hx hb dX8_sum_46 ?_
        refine lv_istore (lv' := [(4, .int (((((lkF G p) k) / (nI 65536)) + ((((lkF G p) k) / (nI 256)) - (((lkF G p) k) / (nI 256)) / (nI 256) * (nI 256))) + (((lkF G p) k) - ((lkF G p) k) / (nI 256) * (nI 256)))), (2, .int x), (3, .int (nI k)), (0, .ref a), (1, .int (nI 0))]) hx hb dX8_sum_47 hl (by decide) rfl (fun ls hl => ?_)
        refine lv_iload_n hx hb dX8_sum_49 rfl (lv_at hl 1 rfl) ?_
        refine lv_if_lt hx hb (tgt := 72) dX8_sum_50 (by decide) (fun c_50 => ?_) (fun c_50 => ?_)
        · refine lv_iload hx hb dX8_sum_72 (lv_at hl 0 rfl) ?_
          refine lv_goto (tgt := 78) hx hb dX8_sum_74 (by decide) ?_
          refine lv_istore_n (lv' := [(2, .int (((((lkF G p) k) / (nI 65536)) + ((((lkF G p) k) / (nI 256)) - (((lkF G p) k) / (nI 256)) / (nI 256) * (nI 256))) + (((lkF G p) k) - ((lkF G p) k) / (nI 256) * (nI 256)))), (4, .int (((((lkF G p) k) / (nI 65536)) + ((((lkF G p) k) / (nI 256)) - (((lkF G p) k) / (nI 256)) / (nI 256) * (nI 256))) + (((lkF G p) k) - ((lkF G p) k) / (nI 256) * (nI 256)))), (3, .int (nI k)), (0, .ref a), (1, .int (nI 0))]) hx hb dX8_sum_78 rfl hl (by decide) rfl (fun ls hl => ?_)
          refine gn_iinc (lv' := [(3, .int (nI (k + 1))), (2, .int (((((lkF G p) k) / (nI 65536)) + ((((lkF G p) k) / (nI 256)) - (((lkF G p) k) / (nI 256)) / (nI 256) * (nI 256))) + (((lkF G p) k) - ((lkF G p) k) / (nI 256) * (nI 256)))), (4, .int (((((lkF G p) k) / (nI 65536)) + ((((lkF G p) k) / (nI 256)) - (((lkF G p) k) / (nI 256)) / (nI 256) * (nI 256))) + (((lkF G p) k) - ((lkF G p) k) / (nI 256) * (nI 256)))), (0, .ref a), (1, .int (nI 0))]) hx hb dX8_sum_79 hl (k := 2) rfl (by decide) rfl (fun ls hl => ?_)
          refine lv_goto (tgt := 6) hx hb dX8_sum_82 (by decide) ?_
          exact ih6 (k + 1) (((((lkF G p) k) / (nI 65536)) + ((((lkF G p) k) / (nI 256)) - (((lkF G p) k) / (nI 256)) / (nI 256) * (nI 256))) + (((lkF G p) k) - ((lkF G p) k) / (nI 256) * (nI 256))) (show (k + 1) ≤ 81 from by first | omega | assumption | rfl) (show smInv minI (palS G p 3) (k + 1) (((((lkF G p) k) / (nI 65536)) + ((((lkF G p) k) / (nI 256)) - (((lkF G p) k) / (nI 256)) / (nI 256) * (nI 256))) + (((lkF G p) k) - ((lkF G p) k) / (nI 256) * (nI 256))) from sm_firstm (fun k => (palS_lk G p k).2) hxr (palS_lk G p k).1 c_50) (by first | omega | assumption) _ (lv_sub hl [1, 0, 3, 4] rfl)
        · refine lv_iload_n hx hb dX8_sum_53 rfl (lv_at hl 4 rfl) ?_
          refine gn_if_eq hx hb (by decide) (tgt := 66) dX8_sum_54 (by decide) (fun cq => ?_) (fun cq => absurd cq (by decide))
          refine lv_iload hx hb dX8_sum_66 (lv_at hl 0 rfl) ?_
          refine lv_iload_n hx hb dX8_sum_68 rfl (lv_at hl 1 rfl) ?_
          refine lv_icmp_ge hx hb (tgt := 77) dX8_sum_69 (by decide) (fun c_69 => ?_) (fun c_69 => ?_)
          · refine lv_iload_n hx hb dX8_sum_77 rfl (lv_at hl 1 rfl) ?_
            refine lv_istore_n (lv' := [(2, .int x), (4, .int (((((lkF G p) k) / (nI 65536)) + ((((lkF G p) k) / (nI 256)) - (((lkF G p) k) / (nI 256)) / (nI 256) * (nI 256))) + (((lkF G p) k) - ((lkF G p) k) / (nI 256) * (nI 256)))), (3, .int (nI k)), (0, .ref a), (1, .int (nI 0))]) hx hb dX8_sum_78 rfl hl (by decide) rfl (fun ls hl => ?_)
            refine gn_iinc (lv' := [(3, .int (nI (k + 1))), (2, .int x), (4, .int (((((lkF G p) k) / (nI 65536)) + ((((lkF G p) k) / (nI 256)) - (((lkF G p) k) / (nI 256)) / (nI 256) * (nI 256))) + (((lkF G p) k) - ((lkF G p) k) / (nI 256) * (nI 256)))), (0, .ref a), (1, .int (nI 0))]) hx hb dX8_sum_79 hl (k := 2) rfl (by decide) rfl (fun ls hl => ?_)
            refine lv_goto (tgt := 6) hx hb dX8_sum_82 (by decide) ?_
            exact ih6 (k + 1) x (show (k + 1) ≤ 81 from by first | omega | assumption | rfl) (show smInv minI (palS G p 3) (k + 1) x from sm_keepm hxr (palS_lk G p k).1 c_50 c_69) (by first | omega | assumption) _ (lv_sub hl [1, 0, 3, 4] rfl)
          · refine lv_iload hx hb dX8_sum_72 (lv_at hl 0 rfl) ?_
            refine lv_goto (tgt := 78) hx hb dX8_sum_74 (by decide) ?_
            refine lv_istore_n (lv' := [(2, .int (((((lkF G p) k) / (nI 65536)) + ((((lkF G p) k) / (nI 256)) - (((lkF G p) k) / (nI 256)) / (nI 256) * (nI 256))) + (((lkF G p) k) - ((lkF G p) k) / (nI 256) * (nI 256)))), (4, .int (((((lkF G p) k) / (nI 65536)) + ((((lkF G p) k) / (nI 256)) - (((lkF G p) k) / (nI 256)) / (nI 256) * (nI 256))) + (((lkF G p) k) - ((lkF G p) k) / (nI 256) * (nI 256)))), (3, .int (nI k)), (0, .ref a), (1, .int (nI 0))]) hx hb dX8_sum_78 rfl hl (by decide) rfl (fun ls hl => ?_)
            refine gn_iinc (lv' := [(3, .int (nI (k + 1))), (2, .int (((((lkF G p) k) / (nI 65536)) + ((((lkF G p) k) / (nI 256)) - (((lkF G p) k) / (nI 256)) / (nI 256) * (nI 256))) + (((lkF G p) k) - ((lkF G p) k) / (nI 256) * (nI 256)))), (4, .int (((((lkF G p) k) / (nI 65536)) + ((((lkF G p) k) / (nI 256)) - (((lkF G p) k) / (nI 256)) / (nI 256) * (nI 256))) + (((lkF G p) k) - ((lkF G p) k) / (nI 256) * (nI 256)))), (0, .ref a), (1, .int (nI 0))]) hx hb dX8_sum_79 hl (k := 2) rfl (by decide) rfl (fun ls hl => ?_)
            refine lv_goto (tgt := 6) hx hb dX8_sum_82 (by decide) ?_
            exact ih6 (k + 1) (((((lkF G p) k) / (nI 65536)) + ((((lkF G p) k) / (nI 256)) - (((lkF G p) k) / (nI 256)) / (nI 256) * (nI 256))) + (((lkF G p) k) - ((lkF G p) k) / (nI 256) * (nI 256))) (show (k + 1) ≤ 81 from by first | omega | assumption | rfl) (show smInv minI (palS G p 3) (k + 1) (((((lkF G p) k) / (nI 65536)) + ((((lkF G p) k) / (nI 256)) - (((lkF G p) k) / (nI 256)) / (nI 256) * (nI 256))) + (((lkF G p) k) - ((lkF G p) k) / (nI 256) * (nI 256))) from sm_upm hxr (palS_lk G p k).1 c_50 c_69) (by first | omega | assumption) _ (lv_sub hl [1, 0, 3, 4] rfl)
  exact L6 ((81 - 0) + 1) 0 (-1004) (show 0 ≤ 81 from by first | omega | assumption | rfl) (show smInv minI (palS G p 3) 0 (-1004) from Or.inl ⟨rfl, rfl⟩) (Nat.lt_succ_self _) _ (lv_sub hl [1, 0, 2, 3] rfl)
abbrev rmX8_patchOf : Room := { frames := 4, cells := 0, slots := 0, locals := 105 }
set_option maxHeartbeats 4000000 in
set_option maxRecDepth 100000 in
theorem c_X8_patchOf (l : Launch) (D : va_G) (cI cC cQ : ClassId) (a g0 g1 g2 g3 g4 g5 g6 g7 : Nat) (ik rn ps ty sp fr re cau co cm : Int32) (G : Nat → Nat → Int32) (f : Nat → Int32) (p w2 : Int32) (sz : Nat) (hG : OKG G) : Met l yX8_patchOf wsX8_patchOf rmX8_patchOf (PW D cI cC cQ [.ref a, .int p, .int w2] [(a, .inr (8, [.ref g0, .ref g1, .ref g2, .ref g3, .int ik, .int rn, .int ps, .ref g4, .int ty, .ref g5, .ref g6, .int sp, .int fr, .int re, .int cau, .int co, .int cm, .ref g7])), (g0, .inl (cI, 240, .inl (MA G))), (g6, .inl (cI, 81, .inl f))] sz) (va_Qi (fun (z : Int32) (u : Nat → Int32) => z = cz (okPo p w2) (poof G (tn p) (tn w2))) (fun (u : Nat → Int32) t9 => va_P D vwCl [(a, .inr (8, [.ref g0, .ref g1, .ref g2, .ref g3, .int ik, .int rn, .int ps, .ref g4, .int ty, .ref g5, .ref g6, .int sp, .int fr, .int re, .int cau, .int co, .int cm, .ref g7])), (g0, .inl (cI, 240, .inl (MA G))), (g6, .inl (cI, 81, .inl u))] t9.heap) (va_A [(a, .inr (8, [.ref g0, .ref g1, .ref g2, .ref g3, .int ik, .int rn, .int ps, .ref g4, .int ty, .ref g5, .ref g6, .int sp, .int fr, .int re, .int cau, .int co, .int cm, .ref g7])), (g0, .inl (cI, 240, .inl (MA G))), (g6, .inl (cI, 81, .inl f))] sz)) 0 0 (va_A [(a, .inr (8, [.ref g0, .ref g1, .ref g2, .ref g3, .int ik, .int rn, .int ps, .ref g4, .int ty, .ref g5, .ref g6, .int sp, .int fr, .int re, .int cau, .int co, .int cm, .ref g7])), (g0, .inl (cI, 240, .inl (MA G))), (g6, .inl (cI, 81, .inl f))] sz) := by
  refine metW (y := yX8_patchOf) (ws := wsX8_patchOf) (rm := rmX8_patchOf) (D := D) (cI := cI) (cC := cC) (cQ := cQ) (av := [.ref a, .int p, .int w2]) (wd := [(a, .inr (8, [.ref g0, .ref g1, .ref g2, .ref g3, .int ik, .int rn, .int ps, .ref g4, .int ty, .ref g5, .ref g6, .int sp, .int fr, .int re, .int cau, .int co, .int cm, .ref g7])), (g0, .inl (cI, 240, .inl (MA G))), (g6, .inl (cI, 81, .inl f))]) (sz := sz) (Qf := fun A => va_Qi (fun (z : Int32) (u : Nat → Int32) => z = cz (okPo p w2) (poof G (tn p) (tn w2))) (fun (u : Nat → Int32) t9 => va_P D vwCl [(a, .inr (8, [.ref g0, .ref g1, .ref g2, .ref g3, .int ik, .int rn, .int ps, .ref g4, .int ty, .ref g5, .ref g6, .int sp, .int fr, .int re, .int cau, .int co, .int cm, .ref g7])), (g0, .inl (cI, 240, .inl (MA G))), (g6, .inl (cI, 81, .inl u))] t9.heap) A) (cc := cX8_patchOf) (maxL := 3) (ret := (some .int)) (by decide) rfl (Nat.le_of_ble_eq_true rfl) ?_
  intro pg ev s mi args below meth cd ls A Q hQ hx hb hml hr hts hown hlk hnm hK hP hD hS hA hl
  have hKa := hK.1
  have hl : lv_has ls 3 [(0, .ref a), (1, .int p), (2, .int w2)] := hl
  refine lv_iload_n hx hb dX8_patchOf_0 rfl (lv_at hl 1 rfl) ?_
  have hPc := hP.sub (ws' := []) [] rfl
  refine clR (va_runS (As := [.int p]) (rest := []) ⟨hx, hb, hml, hown, hts⟩ (c_X8_isPatch l D cI cC cQ p ) (va_cwS (rm := rmX8_isPatch) 1 hts gX8_patchOf_X8_isPatch rfl rfl rfl (by decide +kernel) ⟨Nat.le_of_ble_eq_true rfl, Nat.le_of_ble_eq_true rfl⟩) ⟨PR.blind, PR.go hPc hK⟩ rfl rfl hl.1 rfl (lv_room (Nat.le_of_ble_eq_true rfl)) dX8_patchOf_1 ⟨Nat.le_of_ble_eq_true rfl, Nat.le_of_ble_eq_true rfl⟩) (fun r_1 h_1 => ?_)
  rcases h_1 with ⟨b_1, rfl⟩ | ⟨b_1, rfl⟩
  · obtain ⟨p0, hp0, rfl⟩ := in_nat (M := 11) (by decide) b_1
    refine gn_if_eq hx hb (by decide) (tgt := 16) dX8_patchOf_4 (by decide) (fun cq => absurd cq (by decide)) (fun cq => ?_)
    refine lv_iload_n hx hb dX8_patchOf_7 rfl (lv_at hl 2 rfl) ?_
    refine lv_iconst (v := nI 0) hx hb dX8_patchOf_8 (by decide) ?_
    refine lv_iconst (v := nI 5) hx hb dX8_patchOf_9 (by decide) ?_
    have hPc := hP.sub (ws' := []) [] rfl
    refine clR (va_runS (As := [.int w2, .int (nI 0), .int (nI 5)]) (rest := []) ⟨hx, hb, hml, hown, hts⟩ (c_X8_in l D cI cC cQ w2 (nI 0) (nI 5) ) (va_cwS (rm := rmX8_in) 3 hts gX8_patchOf_X8_in rfl rfl rfl (by decide +kernel) ⟨Nat.le_of_ble_eq_true rfl, Nat.le_of_ble_eq_true rfl⟩) ⟨PR.blind, PR.go hPc hK⟩ rfl rfl hl.1 rfl (lv_room (Nat.le_of_ble_eq_true rfl)) dX8_patchOf_10 ⟨Nat.le_of_ble_eq_true rfl, Nat.le_of_ble_eq_true rfl⟩) (fun r_10 h_10 => ?_)
    rcases h_10 with ⟨b_10, rfl⟩ | ⟨b_10, rfl⟩
    · obtain ⟨w0, hw0, rfl⟩ := in_nat (M := 5) (by decide) b_10
      refine gn_if_ne hx hb (by decide) (tgt := 20) dX8_patchOf_13 (by decide) (fun cq => ?_) (fun cq => absurd cq (by decide))
      refine lv_aload_n hx hb dX8_patchOf_20 rfl (lv_at hl 0 rfl) ?_
      refine lv_iload_n hx hb dX8_patchOf_21 rfl (lv_at hl 1 rfl) ?_
      have hPc := hP.sub (ws' := [(a, .inr (8, [.ref g0, .ref g1, .ref g2, .ref g3, .int ik, .int rn, .int ps, .ref g4, .int ty, .ref g5, .ref g6, .int sp, .int fr, .int re, .int cau, .int co, .int cm, .ref g7])), (g0, .inl (cI, 240, .inl (MA G))), (g6, .inl (cI, 81, .inl f))]) [0, 1, 2] rfl
      have hDc := hD.sub (ws' := [(a, .inr (8, [.ref g0, .ref g1, .ref g2, .ref g3, .int ik, .int rn, .int ps, .ref g4, .int ty, .ref g5, .ref g6, .int sp, .int fr, .int re, .int cau, .int co, .int cm, .ref g7])), (g0, .inl (cI, 240, .inl (MA G))), (g6, .inl (cI, 81, .inl f))]) [0, 1, 2] (by decide) rfl
      refine clV (wc := [(a, .inr (8, [.ref g0, .ref g1, .ref g2, .ref g3, .int ik, .int rn, .int ps, .ref g4, .int ty, .ref g5, .ref g6, .int sp, .int fr, .int re, .int cau, .int co, .int cm, .ref g7])), (g0, .inl (cI, 240, .inl (MA G))), (g6, .inl (cI, 81, .inl f))]) (w1 := fun (u_22 : Unit) => [(a, .inr (8, [.ref g0, .ref g1, .ref g2, .ref g3, .int ik, .int rn, .int ps, .ref g4, .int ty, .ref g5, .ref g6, .int sp, .int fr, .int re, .int cau, .int co, .int cm, .ref g7])), (g0, .inl (cI, 240, .inl (MA G))), (g6, .inl (cI, 81, .inl (lkF G p0)))]) (wr := []) (wn := fun (u_22 : Unit) => [(a, .inr (8, [.ref g0, .ref g1, .ref g2, .ref g3, .int ik, .int rn, .int ps, .ref g4, .int ty, .ref g5, .ref g6, .int sp, .int fr, .int re, .int cau, .int co, .int cm, .ref g7])), (g0, .inl (cI, 240, .inl (MA G))), (g6, .inl (cI, 81, .inl (lkF G p0)))]) hP hD hS hA [0, 1, 2] [] [0, 1, 2] rfl rfl rfl rfl (by decide) (fun _ => rfl) (fun _ => rfl) (fun _ => rfl) (va_runV (As := [.int (nI p0)]) (rest := []) ⟨hx, hb, hml, hown, hts⟩ (c_X8_looks l D cI cC cQ a g0 g1 g2 g3 g4 g5 g6 g7 ik rn ps ty sp fr re cau co cm G f p0 s.heap.size (by first | assumption | omega) (by first | assumption | omega)) (cwV (rm := rmX8_looks) 1 hts gX8_patchOf_X8_looks rfl rfl rfl (by decide +kernel) ⟨Nat.le_of_ble_eq_true rfl, Nat.le_of_ble_eq_true rfl⟩) ⟨PW.blind, va_recv hKa hPc (ci := 8) (q0 := 0) rfl rfl, PW.go hPc hK hDc⟩ rfl rfl hl.1 rfl (lv_room (Nat.le_of_ble_eq_true rfl)) dX8_patchOf_22 ⟨Nat.le_of_ble_eq_true rfl, Nat.le_of_ble_eq_true rfl⟩) (fun u_22 H locs h_22 hP hD hS => ?_)
      have hP : va_P D vwCl [(a, .inr (8, [.ref g0, .ref g1, .ref g2, .ref g3, .int ik, .int rn, .int ps, .ref g4, .int ty, .ref g5, .ref g6, .int sp, .int fr, .int re, .int cau, .int co, .int cm, .ref g7])), (g0, .inl (cI, 240, .inl (MA G))), (g6, .inl (cI, 81, .inl (lkF G p0)))] H := hP
      have hD : va_D A [(a, .inr (8, [.ref g0, .ref g1, .ref g2, .ref g3, .int ik, .int rn, .int ps, .ref g4, .int ty, .ref g5, .ref g6, .int sp, .int fr, .int re, .int cau, .int co, .int cm, .ref g7])), (g0, .inl (cI, 240, .inl (MA G))), (g6, .inl (cI, 81, .inl (lkF G p0)))] := hD
      refine lv_iload_n hx hb dX8_patchOf_25 rfl (lv_at hl 2 rfl) ?_
      rcases (show w0 = 0 ∨ w0 = 1 ∨ w0 = 2 ∨ w0 = 3 ∨ w0 = 4 ∨ w0 = 5 by omega) with rfl | rfl | rfl | rfl | rfl | rfl
      · refine lv_tableIn (off := 34) (tgt := 60) hx hb dX8_patchOf_26 (by decide) (by decide) (by decide +kernel) (by decide) ?_
        refine lv_aload_n hx hb dX8_patchOf_60 rfl (lv_at hl 0 rfl) ?_
        refine lv_iload_n hx hb dX8_patchOf_61 rfl (lv_at hl 1 rfl) ?_
        have hPc := hP.sub (ws' := [(a, .inr (8, [.ref g0, .ref g1, .ref g2, .ref g3, .int ik, .int rn, .int ps, .ref g4, .int ty, .ref g5, .ref g6, .int sp, .int fr, .int re, .int cau, .int co, .int cm, .ref g7])), (g0, .inl (cI, 240, .inl (MA G)))]) [0, 1] rfl
        refine clR (va_runV (As := [.int (nI p0)]) (rest := []) ⟨hx, hb, hml, hown, hts⟩ (c_X8_isFolded l D cI cC cQ a g0 g1 g2 g3 g4 g5 g6 g7 ik rn ps ty sp fr re cau co cm G p0 (by first | assumption | omega)) (cwV (rm := rmX8_isFolded) 1 hts gX8_patchOf_X8_isFolded rfl rfl rfl (by decide +kernel) ⟨Nat.le_of_ble_eq_true rfl, Nat.le_of_ble_eq_true rfl⟩) ⟨PR.blind, va_recv hKa hPc (ci := 8) (q0 := 0) rfl rfl, PR.go hPc hK⟩ rfl rfl hl.1 rfl (lv_room (Nat.le_of_ble_eq_true rfl)) dX8_patchOf_62 ⟨Nat.le_of_ble_eq_true rfl, Nat.le_of_ble_eq_true rfl⟩) (fun r_62 h_62 => ?_)
        rcases h_62 with ⟨b_62, rfl⟩ | ⟨b_62, rfl⟩
        · refine gn_if_eq hx hb (by decide) (tgt := 72) dX8_patchOf_65 (by decide) (fun cq => absurd cq (by decide)) (fun cq => ?_)
          refine lv_iconst (v := nI 1) hx hb dX8_patchOf_68 (by decide) ?_
          refine lv_goto (tgt := 73) hx hb dX8_patchOf_69 (by decide) ?_
          have hok : okPo (nI p0) (nI 0) = true := decide_eq_true (⟨b_1, b_10⟩)
          exact rtW_i (lkF G p0) hQ hx hb hr hlk hS hP dX8_patchOf_73 (by rw [cz_t hok, tn_nI (by omega), tn_nI (by omega)]; unfold poof; rw [if_pos rfl]; unfold b2i; rw [if_pos b_62])
        · refine gn_if_eq hx hb (by decide) (tgt := 72) dX8_patchOf_65 (by decide) (fun cq => ?_) (fun cq => absurd cq (by decide))
          refine lv_iconst (v := nI 0) hx hb dX8_patchOf_72 (by decide) ?_
          have hok : okPo (nI p0) (nI 0) = true := decide_eq_true (⟨b_1, b_10⟩)
          exact rtW_i (lkF G p0) hQ hx hb hr hlk hS hP dX8_patchOf_73 (by rw [cz_t hok, tn_nI (by omega), tn_nI (by omega)]; unfold poof; rw [if_pos rfl]; unfold b2i; rw [if_neg b_62])
      · refine lv_tableIn (off := 48) (tgt := 74) hx hb dX8_patchOf_26 (by decide) (by decide) (by decide +kernel) (by decide) ?_
        refine lv_aload_n hx hb dX8_patchOf_74 rfl (lv_at hl 0 rfl) ?_
        refine lv_bipush (v := nI 81) hx hb dX8_patchOf_75 (by decide) ?_
        have hPc := hP.sub (ws' := [(a, .inr (8, [.ref g0, .ref g1, .ref g2, .ref g3, .int ik, .int rn, .int ps, .ref g4, .int ty, .ref g5, .ref g6, .int sp, .int fr, .int re, .int cau, .int co, .int cm, .ref g7])), (g6, .inl (cI, 81, .inl (lkF G p0)))]) [0, 2] rfl
        refine clRe (E := nI (sumN (nwN (lkF G p0)) 81)) (va_runV (As := [.int (nI 81)]) (rest := []) ⟨hx, hb, hml, hown, hts⟩ (c_X8_unlike l D cI cC cQ a g0 g1 g2 g3 g4 g5 g6 g7 ik rn ps ty sp fr re cau co cm (lkF G p0) 81 (by first | assumption | omega)) (cwV (rm := rmX8_unlike) 1 hts gX8_patchOf_X8_unlike rfl rfl rfl (by decide +kernel) ⟨Nat.le_of_ble_eq_true rfl, Nat.le_of_ble_eq_true rfl⟩) ⟨PR.blind, va_recv hKa hPc (ci := 8) (q0 := 0) rfl rfl, PR.go hPc hK⟩ rfl rfl hl.1 rfl (lv_room (Nat.le_of_ble_eq_true rfl)) dX8_patchOf_77 ⟨Nat.le_of_ble_eq_true rfl, Nat.le_of_ble_eq_true rfl⟩) ?_
        have hok : okPo (nI p0) (nI 1) = true := decide_eq_true (⟨b_1, b_10⟩)
        exact rtW_i (lkF G p0) hQ hx hb hr hlk hS hP dX8_patchOf_80 (by rw [cz_t hok, tn_nI (by omega), tn_nI (by omega)]; unfold poof; rw [if_neg (by decide), if_neg (by decide), if_neg (by decide), if_pos rfl]; exact congrArg nI (nw_congr 81 (fun k _ => (palC_lk G p0 k).symm)))
      · refine lv_tableIn (off := 55) (tgt := 81) hx hb dX8_patchOf_26 (by decide) (by decide) (by decide +kernel) (by decide) ?_
        refine lv_aload_n hx hb dX8_patchOf_81 rfl (lv_at hl 0 rfl) ?_
        refine lv_iload_n hx hb dX8_patchOf_82 rfl (lv_at hl 2 rfl) ?_
        refine lv_iconst (v := nI 2) hx hb dX8_patchOf_83 (by decide) ?_
        refine gn_icmp_ne hx hb (by decide) (by decide) (tgt := 91) dX8_patchOf_84 (by decide) (fun cq => absurd cq (by decide)) (fun cq => ?_)
        refine lv_iconst (v := nI 1) hx hb dX8_patchOf_87 (by decide) ?_
        refine lv_goto (tgt := 92) hx hb dX8_patchOf_88 (by decide) ?_
        have hPc := hP.sub (ws' := [(a, .inr (8, [.ref g0, .ref g1, .ref g2, .ref g3, .int ik, .int rn, .int ps, .ref g4, .int ty, .ref g5, .ref g6, .int sp, .int fr, .int re, .int cau, .int co, .int cm, .ref g7])), (g6, .inl (cI, 81, .inl (lkF G p0)))]) [0, 2] rfl
        refine clRe (E := maxI (palS G p0 3) 81) (va_runV (As := [.int (nI 1)]) (rest := []) ⟨hx, hb, hml, hown, hts⟩ (c_X8_sum1 l D cI cC cQ a g0 g1 g2 g3 g4 g5 g6 g7 ik rn ps ty sp fr re cau co cm G p0 ) (cwV (rm := rmX8_sum1) 1 hts gX8_patchOf_X8_sum rfl rfl rfl (by decide +kernel) ⟨Nat.le_of_ble_eq_true rfl, Nat.le_of_ble_eq_true rfl⟩) ⟨PR.blind, va_recv hKa hPc (ci := 8) (q0 := 0) rfl rfl, PR.go hPc hK⟩ rfl rfl hl.1 rfl (lv_room (Nat.le_of_ble_eq_true rfl)) dX8_patchOf_92 ⟨Nat.le_of_ble_eq_true rfl, Nat.le_of_ble_eq_true rfl⟩) ?_
        have hok : okPo (nI p0) (nI 2) = true := decide_eq_true (⟨b_1, b_10⟩)
        exact rtW_i (lkF G p0) hQ hx hb hr hlk hS hP dX8_patchOf_95 (by rw [cz_t hok, tn_nI (by omega), tn_nI (by omega)]; unfold poof; rw [if_neg (by decide), if_neg (by decide), if_neg (by decide), if_neg (by decide), if_pos rfl])
      · refine lv_tableIn (off := 55) (tgt := 81) hx hb dX8_patchOf_26 (by decide) (by decide) (by decide +kernel) (by decide) ?_
        refine lv_aload_n hx hb dX8_patchOf_81 rfl (lv_at hl 0 rfl) ?_
        refine lv_iload_n hx hb dX8_patchOf_82 rfl (lv_at hl 2 rfl) ?_
        refine lv_iconst (v := nI 2) hx hb dX8_patchOf_83 (by decide) ?_
        refine gn_icmp_ne hx hb (by decide) (by decide) (tgt := 91) dX8_patchOf_84 (by decide) (fun cq => ?_) (fun cq => absurd cq (by decide))
        refine lv_iconst (v := nI 0) hx hb dX8_patchOf_91 (by decide) ?_
        have hPc := hP.sub (ws' := [(a, .inr (8, [.ref g0, .ref g1, .ref g2, .ref g3, .int ik, .int rn, .int ps, .ref g4, .int ty, .ref g5, .ref g6, .int sp, .int fr, .int re, .int cau, .int co, .int cm, .ref g7])), (g6, .inl (cI, 81, .inl (lkF G p0)))]) [0, 2] rfl
        refine clRe (E := minI (palS G p0 3) 81) (va_runV (As := [.int (nI 0)]) (rest := []) ⟨hx, hb, hml, hown, hts⟩ (c_X8_sum0 l D cI cC cQ a g0 g1 g2 g3 g4 g5 g6 g7 ik rn ps ty sp fr re cau co cm G p0 ) (cwV (rm := rmX8_sum0) 1 hts gX8_patchOf_X8_sum rfl rfl rfl (by decide +kernel) ⟨Nat.le_of_ble_eq_true rfl, Nat.le_of_ble_eq_true rfl⟩) ⟨PR.blind, va_recv hKa hPc (ci := 8) (q0 := 0) rfl rfl, PR.go hPc hK⟩ rfl rfl hl.1 rfl (lv_room (Nat.le_of_ble_eq_true rfl)) dX8_patchOf_92 ⟨Nat.le_of_ble_eq_true rfl, Nat.le_of_ble_eq_true rfl⟩) ?_
        have hok : okPo (nI p0) (nI 3) = true := decide_eq_true (⟨b_1, b_10⟩)
        exact rtW_i (lkF G p0) hQ hx hb hr hlk hS hP dX8_patchOf_95 (by rw [cz_t hok, tn_nI (by omega), tn_nI (by omega)]; unfold poof; rw [if_neg (by decide), if_neg (by decide), if_neg (by decide), if_neg (by decide), if_neg (by decide)])
      · refine lv_tableIn (off := 70) (tgt := 96) hx hb dX8_patchOf_26 (by decide) (by decide) (by decide +kernel) (by decide) ?_
        refine lv_aload_n hx hb dX8_patchOf_96 rfl (lv_at hl 0 rfl) ?_
        refine lv_iload_n hx hb dX8_patchOf_97 rfl (lv_at hl 1 rfl) ?_
        have hPc := hP.sub (ws' := [(a, .inr (8, [.ref g0, .ref g1, .ref g2, .ref g3, .int ik, .int rn, .int ps, .ref g4, .int ty, .ref g5, .ref g6, .int sp, .int fr, .int re, .int cau, .int co, .int cm, .ref g7])), (g0, .inl (cI, 240, .inl (MA G)))]) [0, 1] rfl
        refine clRe (E := sumI (fun k => HA G (ca p0 k)) 4) (va_runV (As := [.int (nI p0)]) (rest := []) ⟨hx, hb, hml, hown, hts⟩ (c_X8_heldOf l D cI cC cQ a g0 g1 g2 g3 g4 g5 g6 g7 ik rn ps ty sp fr re cau co cm G p0 (by first | assumption | omega)) (cwV (rm := rmX8_heldOf) 1 hts gX8_patchOf_X8_heldOf rfl rfl rfl (by decide +kernel) ⟨Nat.le_of_ble_eq_true rfl, Nat.le_of_ble_eq_true rfl⟩) ⟨PR.blind, va_recv hKa hPc (ci := 8) (q0 := 0) rfl rfl, PR.go hPc hK⟩ rfl rfl hl.1 rfl (lv_room (Nat.le_of_ble_eq_true rfl)) dX8_patchOf_98 ⟨Nat.le_of_ble_eq_true rfl, Nat.le_of_ble_eq_true rfl⟩) ?_
        have hok : okPo (nI p0) (nI 4) = true := decide_eq_true (⟨b_1, b_10⟩)
        exact rtW_i (lkF G p0) hQ hx hb hr hlk hS hP dX8_patchOf_101 (by rw [cz_t hok, tn_nI (by omega), tn_nI (by omega)]; unfold poof; rw [if_neg (by decide), if_pos rfl]; exact held_eq G p0)
      · refine lv_tableOut (tgt := 102) hx hb dX8_patchOf_26 (by decide) (by decide) ?_
        refine lv_aload_n hx hb dX8_patchOf_102 rfl (lv_at hl 0 rfl) ?_
        refine lv_iload_n hx hb dX8_patchOf_103 rfl (lv_at hl 1 rfl) ?_
        have hPc := hP.sub (ws' := [(a, .inr (8, [.ref g0, .ref g1, .ref g2, .ref g3, .int ik, .int rn, .int ps, .ref g4, .int ty, .ref g5, .ref g6, .int sp, .int fr, .int re, .int cau, .int co, .int cm, .ref g7])), (g0, .inl (cI, 240, .inl (MA G)))]) [0, 1] rfl
        refine clRe (E := absI (sumI (areaT G p0) 4)) (va_runV (As := [.int (nI p0)]) (rest := []) ⟨hx, hb, hml, hown, hts⟩ (c_X8_area l D cI cC cQ a g0 g1 g2 g3 g4 g5 g6 g7 ik rn ps ty sp fr re cau co cm G p0 (by first | assumption | omega)) (cwV (rm := rmX8_area) 1 hts gX8_patchOf_X8_area rfl rfl rfl (by decide +kernel) ⟨Nat.le_of_ble_eq_true rfl, Nat.le_of_ble_eq_true rfl⟩) ⟨PR.blind, va_recv hKa hPc (ci := 8) (q0 := 0) rfl rfl, PR.go hPc hK⟩ rfl rfl hl.1 rfl (lv_room (Nat.le_of_ble_eq_true rfl)) dX8_patchOf_104 ⟨Nat.le_of_ble_eq_true rfl, Nat.le_of_ble_eq_true rfl⟩) ?_
        have hok : okPo (nI p0) (nI 5) = true := decide_eq_true (⟨b_1, b_10⟩)
        exact rtW_i (lkF G p0) hQ hx hb hr hlk hS hP dX8_patchOf_107 (by rw [cz_t hok, tn_nI (by omega), tn_nI (by omega)]; unfold poof; rw [if_neg (by decide), if_neg (by decide), if_pos rfl])
    · refine gn_if_ne hx hb (by decide) (tgt := 20) dX8_patchOf_13 (by decide) (fun cq => absurd cq (by decide)) (fun cq => ?_)
      refine lv_sipush (v := (-1001)) hx hb dX8_patchOf_16 (by decide) ?_
      have hok : okPo (nI p0) w2 = false := decide_eq_false (fun q => b_10 q.2)
      exact rtW_i f hQ hx hb hr hlk hS hP dX8_patchOf_19 ((cz_f hok).symm)
  · refine gn_if_eq hx hb (by decide) (tgt := 16) dX8_patchOf_4 (by decide) (fun cq => ?_) (fun cq => absurd cq (by decide))
    refine lv_sipush (v := (-1001)) hx hb dX8_patchOf_16 (by decide) ?_
    have hok : okPo p w2 = false := decide_eq_false (fun q => b_1 q.1)
    exact rtW_i f hQ hx hb hr hlk hS hP dX8_patchOf_19 ((cz_f hok).symm)
abbrev rmX8_unlikeCorners : Room := { frames := 1, cells := 0, slots := 0, locals := 25 }
set_option maxRecDepth 20000 in
theorem iw_X8_unlikeCorners_X8 : ∀ w ∈ u_ws RX8 TX8 18, w ∈ wsX8_unlikeCorners := by decide +kernel
set_option maxHeartbeats 4000000 in
set_option maxRecDepth 100000 in
theorem c_X8_unlikeCorners (l : Launch) (D : va_G) (cI cC cQ : ClassId) (a g0 g1 g2 g3 g4 g5 g6 g7 : Nat) (ik rn ps ty sp fr re cau co cm : Int32) (G : Nat → Nat → Int32) (f : Nat → Int32) (sz : Nat) : Met l yX8_unlikeCorners wsX8_unlikeCorners rmX8_unlikeCorners (PW D cI cC cQ [.ref a] [(a, .inr (8, [.ref g0, .ref g1, .ref g2, .ref g3, .int ik, .int rn, .int ps, .ref g4, .int ty, .ref g5, .ref g6, .int sp, .int fr, .int re, .int cau, .int co, .int cm, .ref g7])), (g0, .inl (cI, 240, .inl (MA G))), (g6, .inl (cI, 81, .inl f))] sz) (va_Qi (fun (z : Int32) (u : Unit) => z = nI (sumN (nwN (kcG G)) 20)) (fun (u : Unit) t9 => va_P D vwCl [(a, .inr (8, [.ref g0, .ref g1, .ref g2, .ref g3, .int ik, .int rn, .int ps, .ref g4, .int ty, .ref g5, .ref g6, .int sp, .int fr, .int re, .int cau, .int co, .int cm, .ref g7])), (g0, .inl (cI, 240, .inl (MA G))), (g6, .inl (cI, 81, .inl (mixF (kcG G) f 20)))] t9.heap) (va_A [(a, .inr (8, [.ref g0, .ref g1, .ref g2, .ref g3, .int ik, .int rn, .int ps, .ref g4, .int ty, .ref g5, .ref g6, .int sp, .int fr, .int re, .int cau, .int co, .int cm, .ref g7])), (g0, .inl (cI, 240, .inl (MA G))), (g6, .inl (cI, 81, .inl f))] sz)) 0 0 (va_A [(a, .inr (8, [.ref g0, .ref g1, .ref g2, .ref g3, .int ik, .int rn, .int ps, .ref g4, .int ty, .ref g5, .ref g6, .int sp, .int fr, .int re, .int cau, .int co, .int cm, .ref g7])), (g0, .inl (cI, 240, .inl (MA G))), (g6, .inl (cI, 81, .inl f))] sz) := by
  refine metW (y := yX8_unlikeCorners) (ws := wsX8_unlikeCorners) (rm := rmX8_unlikeCorners) (D := D) (cI := cI) (cC := cC) (cQ := cQ) (av := [.ref a]) (wd := [(a, .inr (8, [.ref g0, .ref g1, .ref g2, .ref g3, .int ik, .int rn, .int ps, .ref g4, .int ty, .ref g5, .ref g6, .int sp, .int fr, .int re, .int cau, .int co, .int cm, .ref g7])), (g0, .inl (cI, 240, .inl (MA G))), (g6, .inl (cI, 81, .inl f))]) (sz := sz) (Qf := fun A => va_Qi (fun (z : Int32) (u : Unit) => z = nI (sumN (nwN (kcG G)) 20)) (fun (u : Unit) t9 => va_P D vwCl [(a, .inr (8, [.ref g0, .ref g1, .ref g2, .ref g3, .int ik, .int rn, .int ps, .ref g4, .int ty, .ref g5, .ref g6, .int sp, .int fr, .int re, .int cau, .int co, .int cm, .ref g7])), (g0, .inl (cI, 240, .inl (MA G))), (g6, .inl (cI, 81, .inl (mixF (kcG G) f 20)))] t9.heap) A) (cc := cX8_unlikeCorners) (maxL := 2) (ret := (some .int)) (by decide) rfl (Nat.le_of_ble_eq_true rfl) ?_
  intro pg ev s mi args below meth cd ls A Q hQ hx hb hml hr hts hown hlk hnm hK hP hD hS hA hl
  have hKa := hK.1
  have hl : lv_has ls 2 [(0, .ref a)] := hl
  refine lv_iconst (v := nI 0) hx hb dX8_unlikeCorners_0 (by decide) ?_
  refine lv_istore_n (lv' := [(1, .int (nI 0)), (0, .ref a)]) hx hb dX8_unlikeCorners_1 rfl hl (by decide) rfl (fun ls hl => ?_)
  have L2 : ∀ (nn : Nat) (k : Nat) (hk : k ≤ 20) (_ : 20 - k < nn) (H : Heap) (locs : List Loc) (hP : va_P D vwCl [(a, .inr (8, [.ref g0, .ref g1, .ref g2, .ref g3, .int ik, .int rn, .int ps, .ref g4, .int ty, .ref g5, .ref g6, .int sp, .int fr, .int re, .int cau, .int co, .int cm, .ref g7])), (g0, .inl (cI, 240, .inl (MA G))), (g6, .inl (cI, 81, .inl (mixF (kcG G) f k)))] H) (hD : va_D A [(a, .inr (8, [.ref g0, .ref g1, .ref g2, .ref g3, .int ik, .int rn, .int ps, .ref g4, .int ty, .ref g5, .ref g6, .int sp, .int fr, .int re, .int cau, .int co, .int cm, .ref g7])), (g0, .inl (cI, 240, .inl (MA G))), (g6, .inl (cI, 81, .inl (mixF (kcG G) f k)))]) (hS : va_S A s.heap H locs) (ls : Array Slot) (_ : lv_has ls 2 [(1, .int (nI k)), (0, .ref a)]), W pg l ev (headSpec wsX8_unlikeCorners rmX8_unlikeCorners).room s mi args below meth cd H locs 0 0 Q (F0 mi 2 ls []) := by
    intro nn
    induction nn with
    | zero =>
      intro k hk hmeas
      exact absurd hmeas (Nat.not_lt_zero _)
    | succ nn ih2 =>
      intro k hk hmeas H locs hP hD hS ls hl
      refine lv_iload_n hx hb dX8_unlikeCorners_2 rfl (lv_at hl 0 rfl) ?_
      refine lv_bipush (v := nI 20) hx hb dX8_unlikeCorners_3 (by decide) ?_
      refine gn_icmp_ge hx hb (by omega) (by decide) (tgt := 66) dX8_unlikeCorners_5 (by decide) (fun c_5 => ?_) (fun c_5 => ?_)
      · have hP : va_P D vwCl [(a, .inr (8, [.ref g0, .ref g1, .ref g2, .ref g3, .int ik, .int rn, .int ps, .ref g4, .int ty, .ref g5, .ref g6, .int sp, .int fr, .int re, .int cau, .int co, .int cm, .ref g7])), (g0, .inl (cI, 240, .inl (MA G))), (g6, .inl (cI, 81, .inl (mixF (kcG G) f 20)))] H := (hP.fn 2 rfl (g := mixF (kcG G) f 20) (fun q _ => by rw [show k = 20 by omega]) rfl)
        have hD : va_D A [(a, .inr (8, [.ref g0, .ref g1, .ref g2, .ref g3, .int ik, .int rn, .int ps, .ref g4, .int ty, .ref g5, .ref g6, .int sp, .int fr, .int re, .int cau, .int co, .int cm, .ref g7])), (g0, .inl (cI, 240, .inl (MA G))), (g6, .inl (cI, 81, .inl (mixF (kcG G) f 20)))] := hD.addr rfl
        refine lv_aload_n hx hb dX8_unlikeCorners_66 rfl (lv_at hl 1 rfl) ?_
        refine lv_bipush (v := nI 20) hx hb dX8_unlikeCorners_67 (by decide) ?_
        have hPc := hP.sub (ws' := [(a, .inr (8, [.ref g0, .ref g1, .ref g2, .ref g3, .int ik, .int rn, .int ps, .ref g4, .int ty, .ref g5, .ref g6, .int sp, .int fr, .int re, .int cau, .int co, .int cm, .ref g7])), (g6, .inl (cI, 81, .inl (mixF (kcG G) f 20)))]) [0, 2] rfl
        refine clRe (E := nI (sumN (nwN (mixF (kcG G) f 20)) 20)) (va_runV (As := [.int (nI 20)]) (rest := []) ⟨hx, hb, hml, hown, hts⟩ (c_X8_unlike l D cI cC cQ a g0 g1 g2 g3 g4 g5 g6 g7 ik rn ps ty sp fr re cau co cm (mixF (kcG G) f 20) 20 (by first | assumption | omega)) (cwV (rm := rmX8_unlike) 1 hts gX8_unlikeCorners_X8_unlike rfl rfl rfl (by decide +kernel) ⟨Nat.le_of_ble_eq_true rfl, Nat.le_of_ble_eq_true rfl⟩) ⟨PR.blind, va_recv hKa hPc (ci := 8) (q0 := 0) rfl rfl, PR.go hPc hK⟩ rfl rfl hl.1 rfl (lv_room (Nat.le_of_ble_eq_true rfl)) dX8_unlikeCorners_69 ⟨Nat.le_of_ble_eq_true rfl, Nat.le_of_ble_eq_true rfl⟩) ?_
        exact rtW_i () hQ hx hb hr hlk hS hP dX8_unlikeCorners_72 (congrArg nI (nw_congr 20 (fun k hk => mixF_n _ _ hk)))
      · refine lv_aload_n hx hb dX8_unlikeCorners_8 rfl (lv_at hl 1 rfl) ?_
        refine va_get (D := D) (ci := 8) (v := .ref g6) (C := RX8) (T := TX8) (N := 18) hx hb hts iw_X8_unlikeCorners_X8 hown hKa hP 0 rfl rfl 10 (by decide) (hts (.fieldLink RX8 28 "ColourPatchesModel" "seen" "[I") (by decide +kernel)) (fun _ h9 => h9) rfl dX8_unlikeCorners_9 ?_
        refine lv_iload_n hx hb dX8_unlikeCorners_12 rfl (lv_at hl 0 rfl) ?_
        refine lv_ldc (v := nI 65536) hx hb hown (hts (.constant RX8 104 (nI 65536)) (by decide +kernel)) dX8_unlikeCorners_13 ?_
        refine lv_aload_n hx hb dX8_unlikeCorners_15 rfl (lv_at hl 1 rfl) ?_
        refine va_get (D := D) (ci := 8) (v := .ref g0) (C := RX8) (T := TX8) (N := 18) hx hb hts iw_X8_unlikeCorners_X8 hown hKa hP 0 rfl rfl 0 (by decide) (hts (.fieldLink RX8 7 "ColourPatchesModel" "s" "[I") (by decide +kernel)) (fun _ h9 => h9) rfl dX8_unlikeCorners_16 ?_
        refine lv_bipush (v := nI 12) hx hb dX8_unlikeCorners_19 (by decide) ?_
        refine lv_iload_n hx hb dX8_unlikeCorners_21 rfl (lv_at hl 0 rfl) ?_
        refine gn_mul hx hb dX8_unlikeCorners_22 ?_
        refine lv_iconst (v := nI 2) hx hb dX8_unlikeCorners_23 (by decide) ?_
        refine gn_add hx hb dX8_unlikeCorners_24 ?_
        refine gn_iald hx hb hKa hP 1 0 rfl rfl (k := (12 * k) + 2) (by omega) (by omega) dX8_unlikeCorners_25 ?_
        rw [show MA G ((12 * k) + 2) = G k (2 + 0) from MA_at _ _ _ _ (by omega) (by omega)]
        refine lv_imul hx hb dX8_unlikeCorners_26 ?_
        refine lv_sipush (v := nI 256) hx hb dX8_unlikeCorners_27 (by decide) ?_
        refine lv_aload_n hx hb dX8_unlikeCorners_30 rfl (lv_at hl 1 rfl) ?_
        refine va_get (D := D) (ci := 8) (v := .ref g0) (C := RX8) (T := TX8) (N := 18) hx hb hts iw_X8_unlikeCorners_X8 hown hKa hP 0 rfl rfl 0 (by decide) (hts (.fieldLink RX8 7 "ColourPatchesModel" "s" "[I") (by decide +kernel)) (fun _ h9 => h9) rfl dX8_unlikeCorners_31 ?_
        refine lv_bipush (v := nI 12) hx hb dX8_unlikeCorners_34 (by decide) ?_
        refine lv_iload_n hx hb dX8_unlikeCorners_36 rfl (lv_at hl 0 rfl) ?_
        refine gn_mul hx hb dX8_unlikeCorners_37 ?_
        refine lv_iconst (v := nI 2) hx hb dX8_unlikeCorners_38 (by decide) ?_
        refine gn_add hx hb dX8_unlikeCorners_39 ?_
        refine lv_iconst (v := nI 1) hx hb dX8_unlikeCorners_40 (by decide) ?_
        refine gn_add hx hb dX8_unlikeCorners_41 ?_
        refine gn_iald hx hb hKa hP 1 0 rfl rfl (k := ((12 * k) + 2) + 1) (by omega) (by omega) dX8_unlikeCorners_42 ?_
        rw [show MA G (((12 * k) + 2) + 1) = G k (2 + 1) from MA_at _ _ _ _ (by omega) (by omega)]
        refine lv_imul hx hb dX8_unlikeCorners_43 ?_
        refine lv_iadd hx hb dX8_unlikeCorners_44 ?_
        refine lv_aload_n hx hb dX8_unlikeCorners_45 rfl (lv_at hl 1 rfl) ?_
        refine va_get (D := D) (ci := 8) (v := .ref g0) (C := RX8) (T := TX8) (N := 18) hx hb hts iw_X8_unlikeCorners_X8 hown hKa hP 0 rfl rfl 0 (by decide) (hts (.fieldLink RX8 7 "ColourPatchesModel" "s" "[I") (by decide +kernel)) (fun _ h9 => h9) rfl dX8_unlikeCorners_46 ?_
        refine lv_bipush (v := nI 12) hx hb dX8_unlikeCorners_49 (by decide) ?_
        refine lv_iload_n hx hb dX8_unlikeCorners_51 rfl (lv_at hl 0 rfl) ?_
        refine gn_mul hx hb dX8_unlikeCorners_52 ?_
        refine lv_iconst (v := nI 2) hx hb dX8_unlikeCorners_53 (by decide) ?_
        refine gn_add hx hb dX8_unlikeCorners_54 ?_
        refine lv_iconst (v := nI 2) hx hb dX8_unlikeCorners_55 (by decide) ?_
        refine gn_add hx hb dX8_unlikeCorners_56 ?_
        refine gn_iald hx hb hKa hP 1 0 rfl rfl (k := ((12 * k) + 2) + 2) (by omega) (by omega) dX8_unlikeCorners_57 ?_
        rw [show MA G (((12 * k) + 2) + 2) = G k (2 + 2) from MA_at _ _ _ _ (by omega) (by omega)]
        refine lv_iadd hx hb dX8_unlikeCorners_58 ?_
        refine gn_iast (ws' := [(a, .inr (8, [.ref g0, .ref g1, .ref g2, .ref g3, .int ik, .int rn, .int ps, .ref g4, .int ty, .ref g5, .ref g6, .int sp, .int fr, .int re, .int cau, .int co, .int cm, .ref g7])), (g0, .inl (cI, 240, .inl (MA G))), (g6, .inl (cI, 81, .inl (upd (mixF (kcG G) f k) k ((((nI 65536) * (G k (2 + 0))) + ((nI 256) * (G k (2 + 1)))) + (G k (2 + 2))))))]) hx hb hKa hP hD hS 2 0 rfl rfl (k := k) (by omega) (by omega) dX8_unlikeCorners_59 rfl (fun H locs hP hD hS => ?_)
        refine gn_iinc (lv' := [(1, .int (nI (k + 1))), (0, .ref a)]) hx hb dX8_unlikeCorners_60 hl (k := 0) rfl (by decide) rfl (fun ls hl => ?_)
        refine lv_goto (tgt := 2) hx hb dX8_unlikeCorners_63 (by decide) ?_
        have hP : va_P D vwCl [(a, .inr (8, [.ref g0, .ref g1, .ref g2, .ref g3, .int ik, .int rn, .int ps, .ref g4, .int ty, .ref g5, .ref g6, .int sp, .int fr, .int re, .int cau, .int co, .int cm, .ref g7])), (g0, .inl (cI, 240, .inl (MA G))), (g6, .inl (cI, 81, .inl (mixF (kcG G) f (k + 1))))] H := (hP.fn 2 rfl (g := mixF (kcG G) f (k + 1)) (fun q _ => mixF_s _ _ k rfl q) rfl)
        have hD : va_D A [(a, .inr (8, [.ref g0, .ref g1, .ref g2, .ref g3, .int ik, .int rn, .int ps, .ref g4, .int ty, .ref g5, .ref g6, .int sp, .int fr, .int re, .int cau, .int co, .int cm, .ref g7])), (g0, .inl (cI, 240, .inl (MA G))), (g6, .inl (cI, 81, .inl (mixF (kcG G) f (k + 1))))] := hD.addr rfl
        exact ih2 (k + 1) (show (k + 1) ≤ 20 from by first | omega | assumption | rfl) (by first | omega | assumption) H locs hP hD hS _ (lv_sub hl [0, 1] rfl)
  have hP : va_P D vwCl [(a, .inr (8, [.ref g0, .ref g1, .ref g2, .ref g3, .int ik, .int rn, .int ps, .ref g4, .int ty, .ref g5, .ref g6, .int sp, .int fr, .int re, .int cau, .int co, .int cm, .ref g7])), (g0, .inl (cI, 240, .inl (MA G))), (g6, .inl (cI, 81, .inl (mixF (kcG G) f 0)))] s.heap := (hP.fn 2 rfl (g := mixF (kcG G) f 0) (fun q _ => mixF_0 _ _ q) rfl)
  have hD : va_D A [(a, .inr (8, [.ref g0, .ref g1, .ref g2, .ref g3, .int ik, .int rn, .int ps, .ref g4, .int ty, .ref g5, .ref g6, .int sp, .int fr, .int re, .int cau, .int co, .int cm, .ref g7])), (g0, .inl (cI, 240, .inl (MA G))), (g6, .inl (cI, 81, .inl (mixF (kcG G) f 0)))] := hD.addr rfl
  exact L2 ((20 - 0) + 1) 0 (show 0 ≤ 20 from by first | omega | assumption | rfl) (Nat.lt_succ_self _) s.heap [] hP hD hS _ (lv_sub hl [0, 1] rfl)
abbrev rmX8_count : Room := { frames := 4, cells := 0, slots := 0, locals := 92 }
set_option maxRecDepth 20000 in
theorem iw_X8_count_X8 : ∀ w ∈ u_ws RX8 TX8 18, w ∈ wsX8_count := by decide +kernel
set_option maxHeartbeats 4000000 in
set_option maxRecDepth 100000 in
theorem c_X8_count (l : Launch) (D : va_G) (cI cC cQ : ClassId) (a g0 g1 g2 g3 g4 g5 g6 g7 : Nat) (fb : Nat) (rn : Int32) (n len : Nat) (sp fr re cau co cm : Int32) (G : Nat → Nat → Int32) (f : Nat → Int32) (w2 : Int32) (sz : Nat) (hG : OKG G) (hfb : fb ≤ 1) : Met l yX8_count wsX8_count rmX8_count (PW D cI cC cQ [.ref a, .int w2] [(a, .inr (8, [.ref g0, .ref g1, .ref g2, .ref g3, .int (nI fb), .int rn, .int (nI n), .ref g4, .int (nI len), .ref g5, .ref g6, .int sp, .int fr, .int re, .int cau, .int co, .int cm, .ref g7])), (g0, .inl (cI, 240, .inl (MA G))), (g6, .inl (cI, 81, .inl f))] sz) (va_Qi (fun (z : Int32) (u : Nat → Int32) => z = cz (okCt w2) (ctof G n len fb (tn w2))) (fun (u : Nat → Int32) t9 => va_P D vwCl [(a, .inr (8, [.ref g0, .ref g1, .ref g2, .ref g3, .int (nI fb), .int rn, .int (nI n), .ref g4, .int (nI len), .ref g5, .ref g6, .int sp, .int fr, .int re, .int cau, .int co, .int cm, .ref g7])), (g0, .inl (cI, 240, .inl (MA G))), (g6, .inl (cI, 81, .inl u))] t9.heap) (va_A [(a, .inr (8, [.ref g0, .ref g1, .ref g2, .ref g3, .int (nI fb), .int rn, .int (nI n), .ref g4, .int (nI len), .ref g5, .ref g6, .int sp, .int fr, .int re, .int cau, .int co, .int cm, .ref g7])), (g0, .inl (cI, 240, .inl (MA G))), (g6, .inl (cI, 81, .inl f))] sz)) 0 0 (va_A [(a, .inr (8, [.ref g0, .ref g1, .ref g2, .ref g3, .int (nI fb), .int rn, .int (nI n), .ref g4, .int (nI len), .ref g5, .ref g6, .int sp, .int fr, .int re, .int cau, .int co, .int cm, .ref g7])), (g0, .inl (cI, 240, .inl (MA G))), (g6, .inl (cI, 81, .inl f))] sz) := by
  refine metW (y := yX8_count) (ws := wsX8_count) (rm := rmX8_count) (D := D) (cI := cI) (cC := cC) (cQ := cQ) (av := [.ref a, .int w2]) (wd := [(a, .inr (8, [.ref g0, .ref g1, .ref g2, .ref g3, .int (nI fb), .int rn, .int (nI n), .ref g4, .int (nI len), .ref g5, .ref g6, .int sp, .int fr, .int re, .int cau, .int co, .int cm, .ref g7])), (g0, .inl (cI, 240, .inl (MA G))), (g6, .inl (cI, 81, .inl f))]) (sz := sz) (Qf := fun A => va_Qi (fun (z : Int32) (u : Nat → Int32) => z = cz (okCt w2) (ctof G n len fb (tn w2))) (fun (u : Nat → Int32) t9 => va_P D vwCl [(a, .inr (8, [.ref g0, .ref g1, .ref g2, .ref g3, .int (nI fb), .int rn, .int (nI n), .ref g4, .int (nI len), .ref g5, .ref g6, .int sp, .int fr, .int re, .int cau, .int co, .int cm, .ref g7])), (g0, .inl (cI, 240, .inl (MA G))), (g6, .inl (cI, 81, .inl u))] t9.heap) A) (cc := cX8_count) (maxL := 2) (ret := (some .int)) (by decide) rfl (Nat.le_of_ble_eq_true rfl) ?_
  intro pg ev s mi args below meth cd ls A Q hQ hx hb hml hr hts hown hlk hnm hK hP hD hS hA hl
  have hKa := hK.1
  have hl : lv_has ls 2 [(0, .ref a), (1, .int w2)] := hl
  refine lv_iload_n hx hb dX8_count_0 rfl (lv_at hl 1 rfl) ?_
  by_cases hw : INN (nI 0) (nI 6) w2
  · obtain ⟨k, hk, rfl⟩ := in_nat (M := 6) (by decide) hw
    rcases (show k = 0 ∨ k = 1 ∨ k = 2 ∨ k = 3 ∨ k = 4 ∨ k = 5 ∨ k = 6 by omega) with rfl | rfl | rfl | rfl | rfl | rfl | rfl
    · refine lv_tableIn (off := 43) (tgt := 44) hx hb dX8_count_1 (by decide) (by decide) (by decide +kernel) (by decide) ?_
      refine lv_aload_n hx hb dX8_count_44 rfl (lv_at hl 0 rfl) ?_
      have hPc := hP.sub (ws' := [(a, .inr (8, [.ref g0, .ref g1, .ref g2, .ref g3, .int (nI fb), .int rn, .int (nI n), .ref g4, .int (nI len), .ref g5, .ref g6, .int sp, .int fr, .int re, .int cau, .int co, .int cm, .ref g7])), (g0, .inl (cI, 240, .inl (MA G)))]) [0, 1] rfl
      refine clRe (E := sumI (HA G) 20) (va_runV (As := []) (rest := []) ⟨hx, hb, hml, hown, hts⟩ (c_X8_heldCorners l D cI cC cQ a g0 g1 g2 g3 g4 g5 g6 g7 (nI fb) rn (nI n) (nI len) sp fr re cau co cm G ) (cwV (rm := rmX8_heldCorners) 0 hts gX8_count_X8_heldCorners rfl rfl rfl (by decide +kernel) ⟨Nat.le_of_ble_eq_true rfl, Nat.le_of_ble_eq_true rfl⟩) ⟨PR.blind, va_recv hKa hPc (ci := 8) (q0 := 0) rfl rfl, PR.go hPc hK⟩ rfl rfl hl.1 rfl (lv_room (Nat.le_of_ble_eq_true rfl)) dX8_count_45 ⟨Nat.le_of_ble_eq_true rfl, Nat.le_of_ble_eq_true rfl⟩) ?_
      exact rtW_i f hQ hx hb hr hlk hS hP dX8_count_48 (by rw [cz_t (show okCt (nI 0) = true from decide_eq_true hw), tn_nI (by decide)]; unfold ctof; rw [if_pos rfl])
    · refine lv_tableIn (off := 48) (tgt := 49) hx hb dX8_count_1 (by decide) (by decide) (by decide +kernel) (by decide) ?_
      refine lv_aload_n hx hb dX8_count_49 rfl (lv_at hl 0 rfl) ?_
      have hPc := hP.sub (ws' := [(a, .inr (8, [.ref g0, .ref g1, .ref g2, .ref g3, .int (nI fb), .int rn, .int (nI n), .ref g4, .int (nI len), .ref g5, .ref g6, .int sp, .int fr, .int re, .int cau, .int co, .int cm, .ref g7])), (g0, .inl (cI, 240, .inl (MA G)))]) [0, 1] rfl
      refine clRe (E := nI (sumN (foldN G) 12)) (va_runV (As := []) (rest := []) ⟨hx, hb, hml, hown, hts⟩ (c_X8_folded l D cI cC cQ a g0 g1 g2 g3 g4 g5 g6 g7 (nI fb) rn (nI n) (nI len) sp fr re cau co cm G ) (cwV (rm := rmX8_folded) 0 hts gX8_count_X8_folded rfl rfl rfl (by decide +kernel) ⟨Nat.le_of_ble_eq_true rfl, Nat.le_of_ble_eq_true rfl⟩) ⟨PR.blind, va_recv hKa hPc (ci := 8) (q0 := 0) rfl rfl, PR.go hPc hK⟩ rfl rfl hl.1 rfl (lv_room (Nat.le_of_ble_eq_true rfl)) dX8_count_50 ⟨Nat.le_of_ble_eq_true rfl, Nat.le_of_ble_eq_true rfl⟩) ?_
      exact rtW_i f hQ hx hb hr hlk hS hP dX8_count_53 (by rw [cz_t (show okCt (nI 1) = true from decide_eq_true hw), tn_nI (by decide)]; unfold ctof; rw [if_neg (by decide), if_pos rfl])
    · refine lv_tableIn (off := 53) (tgt := 54) hx hb dX8_count_1 (by decide) (by decide) (by decide +kernel) (by decide) ?_
      refine lv_aload_n hx hb dX8_count_54 rfl (lv_at hl 0 rfl) ?_
      have hPc := hP.sub (ws' := [(a, .inr (8, [.ref g0, .ref g1, .ref g2, .ref g3, .int (nI fb), .int rn, .int (nI n), .ref g4, .int (nI len), .ref g5, .ref g6, .int sp, .int fr, .int re, .int cau, .int co, .int cm, .ref g7])), (g0, .inl (cI, 240, .inl (MA G)))]) [0, 1] rfl
      refine clRe (E := nI (sumN (toldK G) 20)) (va_runV (As := []) (rest := []) ⟨hx, hb, hml, hown, hts⟩ (c_X8_toldAll l D cI cC cQ a g0 g1 g2 g3 g4 g5 g6 g7 (nI fb) rn (nI n) (nI len) sp fr re cau co cm G ) (cwV (rm := rmX8_toldAll) 0 hts gX8_count_X8_toldAll rfl rfl rfl (by decide +kernel) ⟨Nat.le_of_ble_eq_true rfl, Nat.le_of_ble_eq_true rfl⟩) ⟨PR.blind, va_recv hKa hPc (ci := 8) (q0 := 0) rfl rfl, PR.go hPc hK⟩ rfl rfl hl.1 rfl (lv_room (Nat.le_of_ble_eq_true rfl)) dX8_count_55 ⟨Nat.le_of_ble_eq_true rfl, Nat.le_of_ble_eq_true rfl⟩) ?_
      exact rtW_i f hQ hx hb hr hlk hS hP dX8_count_58 (by rw [cz_t (show okCt (nI 2) = true from decide_eq_true hw), tn_nI (by decide)]; unfold ctof; rw [if_neg (by decide), if_neg (by decide), if_pos rfl])
    · refine lv_tableIn (off := 58) (tgt := 59) hx hb dX8_count_1 (by decide) (by decide) (by decide +kernel) (by decide) ?_
      refine lv_aload_n hx hb dX8_count_59 rfl (lv_at hl 0 rfl) ?_
      refine va_get (D := D) (ci := 8) (v := .int (nI n)) (C := RX8) (T := TX8) (N := 18) hx hb hts iw_X8_count_X8 hown hKa hP 0 rfl rfl 6 (by decide) (hts (.fieldLink RX8 38 "ColourPatchesModel" "pasts" "I") (by decide +kernel)) (fun _ h9 => h9) rfl dX8_count_60 ?_
      exact rtW_i f hQ hx hb hr hlk hS hP dX8_count_63 (by rw [cz_t (show okCt (nI 3) = true from decide_eq_true hw), tn_nI (by decide)]; unfold ctof; rw [if_neg (by decide), if_neg (by decide), if_neg (by decide), if_pos rfl])
    · refine lv_tableIn (off := 63) (tgt := 64) hx hb dX8_count_1 (by decide) (by decide) (by decide +kernel) (by decide) ?_
      refine lv_aload_n hx hb dX8_count_64 rfl (lv_at hl 0 rfl) ?_
      refine va_get (D := D) (ci := 8) (v := .int (nI len)) (C := RX8) (T := TX8) (N := 18) hx hb hts iw_X8_count_X8 hown hKa hP 0 rfl rfl 8 (by decide) (hts (.fieldLink RX8 126 "ColourPatchesModel" "typed" "I") (by decide +kernel)) (fun _ h9 => h9) rfl dX8_count_65 ?_
      exact rtW_i f hQ hx hb hr hlk hS hP dX8_count_68 (by rw [cz_t (show okCt (nI 4) = true from decide_eq_true hw), tn_nI (by decide)]; unfold ctof; rw [if_neg (by decide), if_neg (by decide), if_neg (by decide), if_neg (by decide), if_pos rfl])
    · refine lv_tableIn (off := 68) (tgt := 69) hx hb dX8_count_1 (by decide) (by decide) (by decide +kernel) (by decide) ?_
      refine lv_aload_n hx hb dX8_count_69 rfl (lv_at hl 0 rfl) ?_
      refine va_get (D := D) (ci := 8) (v := .int (nI fb)) (C := RX8) (T := TX8) (N := 18) hx hb hts iw_X8_count_X8 hown hKa hP 0 rfl rfl 4 (by decide) (hts (.fieldLink RX8 129 "ColourPatchesModel" "isKept" "Z") (by decide +kernel)) (fun _ h9 => h9) rfl dX8_count_70 ?_
      refine gn_if_eq hx hb (by omega) (tgt := 80) dX8_count_73 (by decide) (fun c_73 => ?_) (fun c_73 => ?_)
      · refine lv_iconst (v := nI 0) hx hb dX8_count_80 (by decide) ?_
        exact rtW_i f hQ hx hb hr hlk hS hP dX8_count_81 (by rw [cz_t (show okCt (nI 5) = true from decide_eq_true hw), tn_nI (by decide)]; unfold ctof; rw [if_neg (by decide), if_neg (by decide), if_neg (by decide), if_neg (by decide), if_neg (by decide), if_pos rfl]; congr 1; omega)
      · refine lv_iconst (v := nI 1) hx hb dX8_count_76 (by decide) ?_
        refine lv_goto (tgt := 81) hx hb dX8_count_77 (by decide) ?_
        exact rtW_i f hQ hx hb hr hlk hS hP dX8_count_81 (by rw [cz_t (show okCt (nI 5) = true from decide_eq_true hw), tn_nI (by decide)]; unfold ctof; rw [if_neg (by decide), if_neg (by decide), if_neg (by decide), if_neg (by decide), if_neg (by decide), if_pos rfl]; congr 1; omega)
    · refine lv_tableIn (off := 81) (tgt := 82) hx hb dX8_count_1 (by decide) (by decide) (by decide +kernel) (by decide) ?_
      refine lv_aload_n hx hb dX8_count_82 rfl (lv_at hl 0 rfl) ?_
      have hPc := hP.sub (ws' := [(a, .inr (8, [.ref g0, .ref g1, .ref g2, .ref g3, .int (nI fb), .int rn, .int (nI n), .ref g4, .int (nI len), .ref g5, .ref g6, .int sp, .int fr, .int re, .int cau, .int co, .int cm, .ref g7])), (g0, .inl (cI, 240, .inl (MA G))), (g6, .inl (cI, 81, .inl f))]) [0, 1, 2] rfl
      have hDc := hD.sub (ws' := [(a, .inr (8, [.ref g0, .ref g1, .ref g2, .ref g3, .int (nI fb), .int rn, .int (nI n), .ref g4, .int (nI len), .ref g5, .ref g6, .int sp, .int fr, .int re, .int cau, .int co, .int cm, .ref g7])), (g0, .inl (cI, 240, .inl (MA G))), (g6, .inl (cI, 81, .inl f))]) [0, 1, 2] (by decide) rfl
      refine clW (wc := [(a, .inr (8, [.ref g0, .ref g1, .ref g2, .ref g3, .int (nI fb), .int rn, .int (nI n), .ref g4, .int (nI len), .ref g5, .ref g6, .int sp, .int fr, .int re, .int cau, .int co, .int cm, .ref g7])), (g0, .inl (cI, 240, .inl (MA G))), (g6, .inl (cI, 81, .inl f))]) (w1 := fun (u_83 : Unit) => [(a, .inr (8, [.ref g0, .ref g1, .ref g2, .ref g3, .int (nI fb), .int rn, .int (nI n), .ref g4, .int (nI len), .ref g5, .ref g6, .int sp, .int fr, .int re, .int cau, .int co, .int cm, .ref g7])), (g0, .inl (cI, 240, .inl (MA G))), (g6, .inl (cI, 81, .inl (mixF (kcG G) f 20)))]) (wr := []) (wn := fun (u_83 : Unit) => [(a, .inr (8, [.ref g0, .ref g1, .ref g2, .ref g3, .int (nI fb), .int rn, .int (nI n), .ref g4, .int (nI len), .ref g5, .ref g6, .int sp, .int fr, .int re, .int cau, .int co, .int cm, .ref g7])), (g0, .inl (cI, 240, .inl (MA G))), (g6, .inl (cI, 81, .inl (mixF (kcG G) f 20)))]) hP hD hS hA [0, 1, 2] [] [0, 1, 2] rfl rfl rfl rfl (by decide) (fun _ => rfl) (fun _ => rfl) (fun _ => rfl) (va_runV (As := []) (rest := []) ⟨hx, hb, hml, hown, hts⟩ (c_X8_unlikeCorners l D cI cC cQ a g0 g1 g2 g3 g4 g5 g6 g7 (nI fb) rn (nI n) (nI len) sp fr re cau co cm G f s.heap.size ) (cwV (rm := rmX8_unlikeCorners) 0 hts gX8_count_X8_unlikeCorners rfl rfl rfl (by decide +kernel) ⟨Nat.le_of_ble_eq_true rfl, Nat.le_of_ble_eq_true rfl⟩) ⟨PW.blind, va_recv hKa hPc (ci := 8) (q0 := 0) rfl rfl, PW.go hPc hK hDc⟩ rfl rfl hl.1 rfl (lv_room (Nat.le_of_ble_eq_true rfl)) dX8_count_83 ⟨Nat.le_of_ble_eq_true rfl, Nat.le_of_ble_eq_true rfl⟩) (fun r_83 u_83 H locs h_83 hP hD hS => ?_)
      have hP : va_P D vwCl [(a, .inr (8, [.ref g0, .ref g1, .ref g2, .ref g3, .int (nI fb), .int rn, .int (nI n), .ref g4, .int (nI len), .ref g5, .ref g6, .int sp, .int fr, .int re, .int cau, .int co, .int cm, .ref g7])), (g0, .inl (cI, 240, .inl (MA G))), (g6, .inl (cI, 81, .inl (mixF (kcG G) f 20)))] H := hP
      have hD : va_D A [(a, .inr (8, [.ref g0, .ref g1, .ref g2, .ref g3, .int (nI fb), .int rn, .int (nI n), .ref g4, .int (nI len), .ref g5, .ref g6, .int sp, .int fr, .int re, .int cau, .int co, .int cm, .ref g7])), (g0, .inl (cI, 240, .inl (MA G))), (g6, .inl (cI, 81, .inl (mixF (kcG G) f 20)))] := hD
      have qr_83 : r_83 = nI (sumN (nwN (kcG G)) 20) := h_83
      rw [qr_83]
      exact rtW_i (mixF (kcG G) f 20) hQ hx hb hr hlk hS hP dX8_count_86 (by rw [cz_t (show okCt (nI 6) = true from decide_eq_true hw), tn_nI (by decide)]; unfold ctof; rw [if_neg (by decide), if_neg (by decide), if_neg (by decide), if_neg (by decide), if_neg (by decide), if_neg (by decide)])
  · refine lv_tableOut (tgt := 87) hx hb dX8_count_1 (tb_out (by decide) hw) (by decide) ?_
    refine lv_sipush (v := (-1001)) hx hb dX8_count_87 (by decide) ?_
    exact rtW_i f hQ hx hb hr hlk hS hP dX8_count_90 ((cz_f (show okCt w2 = false from decide_eq_false hw)).symm)
abbrev rmX8_nearest : Room := { frames := 2, cells := 0, slots := 0, locals := 49 }
set_option maxHeartbeats 4000000 in
set_option maxRecDepth 100000 in
theorem c_X8_nearest (l : Launch) (D : va_G) (cI cC cQ : ClassId) (a g0 g1 g2 g3 g4 g5 g6 g7 : Nat) (ik rn ps ty sp fr re cau co cm : Int32) (G : Nat → Nat → Int32) (x y w : Int32) (hG : OKG G) : Met l yX8_nearest wsX8_nearest rmX8_nearest (PR D cI cC cQ [.ref a, .int x, .int y, .int w] [(a, .inr (8, [.ref g0, .ref g1, .ref g2, .ref g3, .int ik, .int rn, .int ps, .ref g4, .int ty, .ref g5, .ref g6, .int sp, .int fr, .int re, .int cau, .int co, .int cm, .ref g7])), (g0, .inl (cI, 240, .inl (MA G)))]) (vp_Si (fun z => z = cz (okNe x y w) (neof G x y (tn w)))) 0 0 (fun _ => False) := by
  refine metR (cc := cX8_nearest) (maxL := 11) (ret := (some .int)) (by decide) rfl (Nat.le_of_ble_eq_true rfl) ?_
  intro pg ev s mi args below meth cd ls Q hQ hx hb hml hr hts hown hlk hK hP hl
  have hKa := hK.1
  have hl : lv_has ls 11 [(0, .ref a), (1, .int x), (2, .int y), (3, .int w)] := hl
  refine lv_iload_n hx hb dX8_nearest_0 rfl (lv_at hl 1 rfl) ?_
  refine lv_iconst (v := nI 0) hx hb dX8_nearest_1 (by decide) ?_
  refine lv_sipush (v := nI 999) hx hb dX8_nearest_2 (by decide) ?_
  have hPc := hP.sub (ws' := []) [] rfl
  refine clR (va_runS (As := [.int x, .int (nI 0), .int (nI 999)]) (rest := []) ⟨hx, hb, hml, hown, hts⟩ (c_X8_in l D cI cC cQ x (nI 0) (nI 999) ) (va_cwS (rm := rmX8_in) 3 hts gX8_nearest_X8_in rfl rfl rfl (by decide +kernel) ⟨Nat.le_of_ble_eq_true rfl, Nat.le_of_ble_eq_true rfl⟩) ⟨PR.blind, PR.go hPc hK⟩ rfl rfl hl.1 rfl (lv_room (Nat.le_of_ble_eq_true rfl)) dX8_nearest_5 ⟨Nat.le_of_ble_eq_true rfl, Nat.le_of_ble_eq_true rfl⟩) (fun r_5 h_5 => ?_)
  rcases h_5 with ⟨b_5, rfl⟩ | ⟨b_5, rfl⟩
  · obtain ⟨x0, hx0, rfl⟩ := in_nat (M := 999) (by decide) b_5
    refine gn_if_eq hx hb (by decide) (tgt := 31) dX8_nearest_8 (by decide) (fun cq => absurd cq (by decide)) (fun cq => ?_)
    refine lv_iload_n hx hb dX8_nearest_11 rfl (lv_at hl 2 rfl) ?_
    refine lv_iconst (v := nI 0) hx hb dX8_nearest_12 (by decide) ?_
    refine lv_sipush (v := nI 999) hx hb dX8_nearest_13 (by decide) ?_
    have hPc := hP.sub (ws' := []) [] rfl
    refine clR (va_runS (As := [.int y, .int (nI 0), .int (nI 999)]) (rest := []) ⟨hx, hb, hml, hown, hts⟩ (c_X8_in l D cI cC cQ y (nI 0) (nI 999) ) (va_cwS (rm := rmX8_in) 3 hts gX8_nearest_X8_in rfl rfl rfl (by decide +kernel) ⟨Nat.le_of_ble_eq_true rfl, Nat.le_of_ble_eq_true rfl⟩) ⟨PR.blind, PR.go hPc hK⟩ rfl rfl hl.1 rfl (lv_room (Nat.le_of_ble_eq_true rfl)) dX8_nearest_16 ⟨Nat.le_of_ble_eq_true rfl, Nat.le_of_ble_eq_true rfl⟩) (fun r_16 h_16 => ?_)
    rcases h_16 with ⟨b_16, rfl⟩ | ⟨b_16, rfl⟩
    · obtain ⟨y0, hy0, rfl⟩ := in_nat (M := 999) (by decide) b_16
      refine gn_if_eq hx hb (by decide) (tgt := 31) dX8_nearest_19 (by decide) (fun cq => absurd cq (by decide)) (fun cq => ?_)
      refine lv_iload_n hx hb dX8_nearest_22 rfl (lv_at hl 3 rfl) ?_
      refine lv_iconst (v := nI 0) hx hb dX8_nearest_23 (by decide) ?_
      refine lv_iconst (v := nI 3) hx hb dX8_nearest_24 (by decide) ?_
      have hPc := hP.sub (ws' := []) [] rfl
      refine clR (va_runS (As := [.int w, .int (nI 0), .int (nI 3)]) (rest := []) ⟨hx, hb, hml, hown, hts⟩ (c_X8_in l D cI cC cQ w (nI 0) (nI 3) ) (va_cwS (rm := rmX8_in) 3 hts gX8_nearest_X8_in rfl rfl rfl (by decide +kernel) ⟨Nat.le_of_ble_eq_true rfl, Nat.le_of_ble_eq_true rfl⟩) ⟨PR.blind, PR.go hPc hK⟩ rfl rfl hl.1 rfl (lv_room (Nat.le_of_ble_eq_true rfl)) dX8_nearest_25 ⟨Nat.le_of_ble_eq_true rfl, Nat.le_of_ble_eq_true rfl⟩) (fun r_25 h_25 => ?_)
      rcases h_25 with ⟨b_25, rfl⟩ | ⟨b_25, rfl⟩
      · obtain ⟨w0, hw0, rfl⟩ := in_nat (M := 3) (by decide) b_25
        refine gn_if_ne hx hb (by decide) (tgt := 35) dX8_nearest_28 (by decide) (fun cq => ?_) (fun cq => absurd cq (by decide))
        refine lv_sipush (v := (-1004)) hx hb dX8_nearest_35 (by decide) ?_
        refine lv_istore (lv' := [(4, .int (-1004)), (0, .ref a), (1, .int (nI x0)), (2, .int (nI y0)), (3, .int (nI w0))]) hx hb dX8_nearest_38 hl (by decide) rfl (fun ls hl => ?_)
        refine lv_iconst (v := nI 0) hx hb dX8_nearest_40 (by decide) ?_
        refine lv_istore (lv' := [(5, .int (nI 0)), (4, .int (-1004)), (0, .ref a), (1, .int (nI x0)), (2, .int (nI y0)), (3, .int (nI w0))]) hx hb dX8_nearest_41 hl (by decide) rfl (fun ls hl => ?_)
        refine lv_iconst (v := nI 0) hx hb dX8_nearest_43 (by decide) ?_
        refine lv_istore (lv' := [(6, .int (nI 0)), (5, .int (nI 0)), (4, .int (-1004)), (0, .ref a), (1, .int (nI x0)), (2, .int (nI y0)), (3, .int (nI w0))]) hx hb dX8_nearest_44 hl (by decide) rfl (fun ls hl => ?_)
        have L46 : ∀ (nn : Nat) (k : Nat) (bst : Int32) (ll : Int32) (hk : k ≤ 972) (hne : neInv (dst G (nI x0) (nI y0)) k bst ll) (_ : 972 - k < nn) (ls : Array Slot) (_ : lv_has ls 11 [(5, .int ll), (4, .int bst), (6, .int (nI k)), (0, .ref a), (1, .int (nI x0)), (2, .int (nI y0)), (3, .int (nI w0))]), W pg l ev (headSpec wsX8_nearest rmX8_nearest).room s mi args below meth cd s.heap [] 0 0 Q (F0 mi 46 ls []) := by
          intro nn
          induction nn with
          | zero =>
            intro k bst ll hk hne hmeas
            exact absurd hmeas (Nat.not_lt_zero _)
          | succ nn ih46 =>
            intro k bst ll hk hne hmeas  ls hl
            refine lv_iload hx hb dX8_nearest_46 (lv_at hl 2 rfl) ?_
            refine lv_sipush (v := nI 972) hx hb dX8_nearest_48 (by decide) ?_
            refine gn_icmp_ge hx hb (by omega) (by decide) (tgt := 174) dX8_nearest_51 (by decide) (fun c_51 => ?_) (fun c_51 => ?_)
            · obtain ⟨hb1, hl1⟩ : bst = nI (nrB (dst G (nI x0) (nI y0)) 972).1 ∧ ll = (nrB (dst G (nI x0) (nI y0)) 972).2 := by
                rcases hne with ⟨q1, q2⟩ | ⟨q1, q2⟩
                · omega
                · rw [show k = 972 by omega] at q2
                  exact q2
              obtain ⟨bn, hbn0⟩ : ∃ q, q = (nrB (dst G (nI x0) (nI y0)) 972).1 := ⟨_, rfl⟩
              rw [← hbn0] at hb1
              subst hb1
              have hbn : bn ≤ 972 := by rw [hbn0]; exact nrB_lt (dst G (nI x0) (nI y0)) 972
              refine lv_iload_n hx hb dX8_nearest_174 rfl (lv_at hl 6 rfl) ?_
              refine gn_if_ne hx hb (by omega) (tgt := 186) dX8_nearest_175 (by decide) (fun c_175 => ?_) (fun c_175 => ?_)
              · refine lv_iload_n hx hb dX8_nearest_186 rfl (lv_at hl 6 rfl) ?_
                refine lv_iconst (v := nI 1) hx hb dX8_nearest_187 (by decide) ?_
                refine gn_icmp_ne hx hb (by omega) (by decide) (tgt := 199) dX8_nearest_188 (by decide) (fun c_188 => ?_) (fun c_188 => ?_)
                · refine lv_iload_n hx hb dX8_nearest_199 rfl (lv_at hl 6 rfl) ?_
                  refine lv_iconst (v := nI 2) hx hb dX8_nearest_200 (by decide) ?_
                  refine gn_icmp_ne hx hb (by omega) (by decide) (tgt := 215) dX8_nearest_201 (by decide) (fun c_201 => ?_) (fun c_201 => ?_)
                  · refine lv_iload hx hb dX8_nearest_215 (lv_at hl 0 rfl) ?_
                    have hok : okNe (nI x0) (nI y0) (nI w0) = true := decide_eq_true ⟨⟨b_5, b_16⟩, b_25⟩
                    exact rtR_i hQ hx hb hr hlk dX8_nearest_217 (by rw [cz_t hok, tn_nI (by omega)]; unfold neof; rw [if_neg c_175, if_neg c_188, if_neg c_201]; exact hl1)
                  · refine lv_iload hx hb dX8_nearest_204 (lv_at hl 1 rfl) ?_
                    refine lv_bipush (v := nI 9) hx hb dX8_nearest_206 (by decide) ?_
                    refine gn_div hx hb (by omega) (by omega) (by omega) dX8_nearest_208 ?_
                    refine lv_bipush (v := nI 9) hx hb dX8_nearest_209 (by decide) ?_
                    refine gn_rem hx hb (by omega) (by omega) (by omega) dX8_nearest_211 ?_
                    refine lv_goto (tgt := 217) hx hb dX8_nearest_212 (by decide) ?_
                    have hok : okNe (nI x0) (nI y0) (nI w0) = true := decide_eq_true ⟨⟨b_5, b_16⟩, b_25⟩
                    exact rtR_i hQ hx hb hr hlk dX8_nearest_217 (by rw [cz_t hok, tn_nI (by omega)]; unfold neof; rw [if_neg c_175, if_neg c_188, if_pos c_201, hbn0])
                · refine lv_iload hx hb dX8_nearest_191 (lv_at hl 1 rfl) ?_
                  refine lv_bipush (v := nI 9) hx hb dX8_nearest_193 (by decide) ?_
                  refine gn_rem hx hb (by omega) (by omega) (by omega) dX8_nearest_195 ?_
                  refine lv_goto (tgt := 217) hx hb dX8_nearest_196 (by decide) ?_
                  have hok : okNe (nI x0) (nI y0) (nI w0) = true := decide_eq_true ⟨⟨b_5, b_16⟩, b_25⟩
                  exact rtR_i hQ hx hb hr hlk dX8_nearest_217 (by rw [cz_t hok, tn_nI (by omega)]; unfold neof; rw [if_neg c_175, if_pos c_188, hbn0])
              · refine lv_iload hx hb dX8_nearest_178 (lv_at hl 1 rfl) ?_
                refine lv_bipush (v := nI 81) hx hb dX8_nearest_180 (by decide) ?_
                refine gn_div hx hb (by omega) (by omega) (by omega) dX8_nearest_182 ?_
                refine lv_goto (tgt := 217) hx hb dX8_nearest_183 (by decide) ?_
                have hok : okNe (nI x0) (nI y0) (nI w0) = true := decide_eq_true ⟨⟨b_5, b_16⟩, b_25⟩
                exact rtR_i hQ hx hb hr hlk dX8_nearest_217 (by rw [cz_t hok, tn_nI (by omega)]; unfold neof; rw [if_pos c_175, hbn0])
            · refine lv_aload_n hx hb dX8_nearest_54 rfl (lv_at hl 3 rfl) ?_
              refine lv_iload hx hb dX8_nearest_55 (lv_at hl 2 rfl) ?_
              refine lv_bipush (v := nI 81) hx hb dX8_nearest_57 (by decide) ?_
              refine gn_div hx hb (by omega) (by omega) (by omega) dX8_nearest_59 ?_
              refine lv_iload hx hb dX8_nearest_60 (lv_at hl 2 rfl) ?_
              refine lv_bipush (v := nI 9) hx hb dX8_nearest_62 (by decide) ?_
              refine gn_rem hx hb (by omega) (by omega) (by omega) dX8_nearest_64 ?_
              refine lv_iload hx hb dX8_nearest_65 (lv_at hl 2 rfl) ?_
              refine lv_bipush (v := nI 9) hx hb dX8_nearest_67 (by decide) ?_
              refine gn_div hx hb (by omega) (by omega) (by omega) dX8_nearest_69 ?_
              refine lv_bipush (v := nI 9) hx hb dX8_nearest_70 (by decide) ?_
              refine gn_rem hx hb (by omega) (by omega) (by omega) dX8_nearest_72 ?_
              refine lv_iconst (v := nI 0) hx hb dX8_nearest_73 (by decide) ?_
              have hPc := hP.sub (ws' := [(a, .inr (8, [.ref g0, .ref g1, .ref g2, .ref g3, .int ik, .int rn, .int ps, .ref g4, .int ty, .ref g5, .ref g6, .int sp, .int fr, .int re, .int cau, .int co, .int cm, .ref g7])), (g0, .inl (cI, 240, .inl (MA G)))]) [0, 1] rfl
              refine clRe (E := plc (fun k => G k 0) (k / 81) (k % 9) ((k / 9) % 9)) (va_runV (As := [.int (nI (k / 81)), .int (nI (k % 9)), .int (nI ((k / 9) % 9)), .int (nI 0)]) (rest := []) ⟨hx, hb, hml, hown, hts⟩ (c_X8_placeOf l D cI cC cQ a g0 g1 g2 g3 g4 g5 g6 g7 ik rn ps ty sp fr re cau co cm G (k / 81) (k % 9) ((k / 9) % 9) 0 (by first | assumption | omega) (by first | assumption | omega) (by first | assumption | omega) (by first | assumption | omega)) (cwV (rm := rmX8_placeOf) 4 hts gX8_nearest_X8_placeOf rfl rfl rfl (by decide +kernel) ⟨Nat.le_of_ble_eq_true rfl, Nat.le_of_ble_eq_true rfl⟩) ⟨PR.blind, va_recv hKa hPc (ci := 8) (q0 := 0) rfl rfl, PR.go hPc hK⟩ rfl rfl hl.1 rfl (lv_room (Nat.le_of_ble_eq_true rfl)) dX8_nearest_74 ⟨Nat.le_of_ble_eq_true rfl, Nat.le_of_ble_eq_true rfl⟩) ?_
              refine lv_iload_n hx hb dX8_nearest_77 rfl (lv_at hl 4 rfl) ?_
              refine lv_isub hx hb dX8_nearest_78 ?_
              refine lv_istore (lv' := [(7, .int ((plc (fun k => G k 0) (k / 81) (k % 9) ((k / 9) % 9)) - (nI x0))), (5, .int ll), (4, .int bst), (6, .int (nI k)), (0, .ref a), (1, .int (nI x0)), (2, .int (nI y0)), (3, .int (nI w0))]) hx hb dX8_nearest_79 hl (by decide) rfl (fun ls hl => ?_)
              refine lv_aload_n hx hb dX8_nearest_81 rfl (lv_at hl 4 rfl) ?_
              refine lv_iload hx hb dX8_nearest_82 (lv_at hl 3 rfl) ?_
              refine lv_bipush (v := nI 81) hx hb dX8_nearest_84 (by decide) ?_
              refine gn_div hx hb (by omega) (by omega) (by omega) dX8_nearest_86 ?_
              refine lv_iload hx hb dX8_nearest_87 (lv_at hl 3 rfl) ?_
              refine lv_bipush (v := nI 9) hx hb dX8_nearest_89 (by decide) ?_
              refine gn_rem hx hb (by omega) (by omega) (by omega) dX8_nearest_91 ?_
              refine lv_iload hx hb dX8_nearest_92 (lv_at hl 3 rfl) ?_
              refine lv_bipush (v := nI 9) hx hb dX8_nearest_94 (by decide) ?_
              refine gn_div hx hb (by omega) (by omega) (by omega) dX8_nearest_96 ?_
              refine lv_bipush (v := nI 9) hx hb dX8_nearest_97 (by decide) ?_
              refine gn_rem hx hb (by omega) (by omega) (by omega) dX8_nearest_99 ?_
              refine lv_iconst (v := nI 1) hx hb dX8_nearest_100 (by decide) ?_
              have hPc := hP.sub (ws' := [(a, .inr (8, [.ref g0, .ref g1, .ref g2, .ref g3, .int ik, .int rn, .int ps, .ref g4, .int ty, .ref g5, .ref g6, .int sp, .int fr, .int re, .int cau, .int co, .int cm, .ref g7])), (g0, .inl (cI, 240, .inl (MA G)))]) [0, 1] rfl
              refine clRe (E := plc (fun k => G k 1) (k / 81) (k % 9) ((k / 9) % 9)) (va_runV (As := [.int (nI (k / 81)), .int (nI (k % 9)), .int (nI ((k / 9) % 9)), .int (nI 1)]) (rest := []) ⟨hx, hb, hml, hown, hts⟩ (c_X8_placeOf l D cI cC cQ a g0 g1 g2 g3 g4 g5 g6 g7 ik rn ps ty sp fr re cau co cm G (k / 81) (k % 9) ((k / 9) % 9) 1 (by first | assumption | omega) (by first | assumption | omega) (by first | assumption | omega) (by first | assumption | omega)) (cwV (rm := rmX8_placeOf) 4 hts gX8_nearest_X8_placeOf rfl rfl rfl (by decide +kernel) ⟨Nat.le_of_ble_eq_true rfl, Nat.le_of_ble_eq_true rfl⟩) ⟨PR.blind, va_recv hKa hPc (ci := 8) (q0 := 0) rfl rfl, PR.go hPc hK⟩ rfl rfl hl.1 rfl (lv_room (Nat.le_of_ble_eq_true rfl)) dX8_nearest_101 ⟨Nat.le_of_ble_eq_true rfl, Nat.le_of_ble_eq_true rfl⟩) ?_
              refine lv_iload_n hx hb dX8_nearest_104 rfl (lv_at hl 6 rfl) ?_
              refine lv_isub hx hb dX8_nearest_105 ?_
              refine lv_istore (lv' := [(8, .int ((plc (fun k => G k 1) (k / 81) (k % 9) ((k / 9) % 9)) - (nI y0))), (7, .int ((plc (fun k => G k 0) (k / 81) (k % 9) ((k / 9) % 9)) - (nI x0))), (5, .int ll), (4, .int bst), (6, .int (nI k)), (0, .ref a), (1, .int (nI x0)), (2, .int (nI y0)), (3, .int (nI w0))]) hx hb dX8_nearest_106 hl (by decide) rfl (fun ls hl => ?_)
              refine lv_iload hx hb dX8_nearest_108 (lv_at hl 1 rfl) ?_
              refine lv_iload hx hb dX8_nearest_110 (lv_at hl 1 rfl) ?_
              refine lv_imul hx hb dX8_nearest_112 ?_
              refine lv_iload hx hb dX8_nearest_113 (lv_at hl 0 rfl) ?_
              refine lv_iload hx hb dX8_nearest_115 (lv_at hl 0 rfl) ?_
              refine lv_imul hx hb dX8_nearest_117 ?_
              refine lv_iadd hx hb dX8_nearest_118 ?_
              refine lv_istore (lv' := [(9, .int ((((plc (fun k => G k 0) (k / 81) (k % 9) ((k / 9) % 9)) - (nI x0)) * ((plc (fun k => G k 0) (k / 81) (k % 9) ((k / 9) % 9)) - (nI x0))) + (((plc (fun k => G k 1) (k / 81) (k % 9) ((k / 9) % 9)) - (nI y0)) * ((plc (fun k => G k 1) (k / 81) (k % 9) ((k / 9) % 9)) - (nI y0))))), (8, .int ((plc (fun k => G k 1) (k / 81) (k % 9) ((k / 9) % 9)) - (nI y0))), (7, .int ((plc (fun k => G k 0) (k / 81) (k % 9) ((k / 9) % 9)) - (nI x0))), (5, .int ll), (4, .int bst), (6, .int (nI k)), (0, .ref a), (1, .int (nI x0)), (2, .int (nI y0)), (3, .int (nI w0))]) hx hb dX8_nearest_119 hl (by decide) rfl (fun ls hl => ?_)
              refine lv_iload hx hb dX8_nearest_121 (lv_at hl 4 rfl) ?_
              refine lv_if_lt hx hb (tgt := 133) dX8_nearest_123 (by decide) (fun c_123 => ?_) (fun c_123 => ?_)
              · refine lv_iconst (v := nI 1) hx hb dX8_nearest_133 (by decide) ?_
                refine lv_goto (tgt := 138) hx hb dX8_nearest_134 (by decide) ?_
                refine lv_istore (lv' := [(10, .int (nI 1)), (9, .int ((((plc (fun k => G k 0) (k / 81) (k % 9) ((k / 9) % 9)) - (nI x0)) * ((plc (fun k => G k 0) (k / 81) (k % 9) ((k / 9) % 9)) - (nI x0))) + (((plc (fun k => G k 1) (k / 81) (k % 9) ((k / 9) % 9)) - (nI y0)) * ((plc (fun k => G k 1) (k / 81) (k % 9) ((k / 9) % 9)) - (nI y0))))), (8, .int ((plc (fun k => G k 1) (k / 81) (k % 9) ((k / 9) % 9)) - (nI y0))), (7, .int ((plc (fun k => G k 0) (k / 81) (k % 9) ((k / 9) % 9)) - (nI x0))), (5, .int ll), (4, .int bst), (6, .int (nI k)), (0, .ref a), (1, .int (nI x0)), (2, .int (nI y0)), (3, .int (nI w0))]) hx hb dX8_nearest_138 hl (by decide) rfl (fun ls hl => ?_)
                refine lv_iload hx hb dX8_nearest_140 (lv_at hl 0 rfl) ?_
                refine gn_if_eq hx hb (by decide) (tgt := 150) dX8_nearest_142 (by decide) (fun cq => absurd cq (by decide)) (fun cq => ?_)
                refine lv_iload hx hb dX8_nearest_145 (lv_at hl 6 rfl) ?_
                refine lv_goto (tgt := 152) hx hb dX8_nearest_147 (by decide) ?_
                refine lv_istore (lv' := [(4, .int (nI k)), (10, .int (nI 1)), (9, .int ((((plc (fun k => G k 0) (k / 81) (k % 9) ((k / 9) % 9)) - (nI x0)) * ((plc (fun k => G k 0) (k / 81) (k % 9) ((k / 9) % 9)) - (nI x0))) + (((plc (fun k => G k 1) (k / 81) (k % 9) ((k / 9) % 9)) - (nI y0)) * ((plc (fun k => G k 1) (k / 81) (k % 9) ((k / 9) % 9)) - (nI y0))))), (8, .int ((plc (fun k => G k 1) (k / 81) (k % 9) ((k / 9) % 9)) - (nI y0))), (7, .int ((plc (fun k => G k 0) (k / 81) (k % 9) ((k / 9) % 9)) - (nI x0))), (5, .int ll), (6, .int (nI k)), (0, .ref a), (1, .int (nI x0)), (2, .int (nI y0)), (3, .int (nI w0))]) hx hb dX8_nearest_152 hl (by decide) rfl (fun ls hl => ?_)
                refine lv_iload hx hb dX8_nearest_154 (lv_at hl 1 rfl) ?_
                refine gn_if_eq hx hb (by decide) (tgt := 164) dX8_nearest_156 (by decide) (fun cq => absurd cq (by decide)) (fun cq => ?_)
                refine lv_iload hx hb dX8_nearest_159 (lv_at hl 2 rfl) ?_
                refine lv_goto (tgt := 166) hx hb dX8_nearest_161 (by decide) ?_
                refine lv_istore (lv' := [(5, .int ((((plc (fun k => G k 0) (k / 81) (k % 9) ((k / 9) % 9)) - (nI x0)) * ((plc (fun k => G k 0) (k / 81) (k % 9) ((k / 9) % 9)) - (nI x0))) + (((plc (fun k => G k 1) (k / 81) (k % 9) ((k / 9) % 9)) - (nI y0)) * ((plc (fun k => G k 1) (k / 81) (k % 9) ((k / 9) % 9)) - (nI y0))))), (4, .int (nI k)), (10, .int (nI 1)), (9, .int ((((plc (fun k => G k 0) (k / 81) (k % 9) ((k / 9) % 9)) - (nI x0)) * ((plc (fun k => G k 0) (k / 81) (k % 9) ((k / 9) % 9)) - (nI x0))) + (((plc (fun k => G k 1) (k / 81) (k % 9) ((k / 9) % 9)) - (nI y0)) * ((plc (fun k => G k 1) (k / 81) (k % 9) ((k / 9) % 9)) - (nI y0))))), (8, .int ((plc (fun k => G k 1) (k / 81) (k % 9) ((k / 9) % 9)) - (nI y0))), (7, .int ((plc (fun k => G k 0) (k / 81) (k % 9) ((k / 9) % 9)) - (nI x0))), (6, .int (nI k)), (0, .ref a), (1, .int (nI x0)), (2, .int (nI y0)), (3, .int (nI w0))]) hx hb dX8_nearest_166 hl (by decide) rfl (fun ls hl => ?_)
                refine gn_iinc (lv' := [(6, .int (nI (k + 1))), (5, .int ((((plc (fun k => G k 0) (k / 81) (k % 9) ((k / 9) % 9)) - (nI x0)) * ((plc (fun k => G k 0) (k / 81) (k % 9) ((k / 9) % 9)) - (nI x0))) + (((plc (fun k => G k 1) (k / 81) (k % 9) ((k / 9) % 9)) - (nI y0)) * ((plc (fun k => G k 1) (k / 81) (k % 9) ((k / 9) % 9)) - (nI y0))))), (4, .int (nI k)), (10, .int (nI 1)), (9, .int ((((plc (fun k => G k 0) (k / 81) (k % 9) ((k / 9) % 9)) - (nI x0)) * ((plc (fun k => G k 0) (k / 81) (k % 9) ((k / 9) % 9)) - (nI x0))) + (((plc (fun k => G k 1) (k / 81) (k % 9) ((k / 9) % 9)) - (nI y0)) * ((plc (fun k => G k 1) (k / 81) (k % 9) ((k / 9) % 9)) - (nI y0))))), (8, .int ((plc (fun k => G k 1) (k / 81) (k % 9) ((k / 9) % 9)) - (nI y0))), (7, .int ((plc (fun k => G k 0) (k / 81) (k % 9) ((k / 9) % 9)) - (nI x0))), (0, .ref a), (1, .int (nI x0)), (2, .int (nI y0)), (3, .int (nI w0))]) hx hb dX8_nearest_168 hl (k := 6) rfl (by decide) rfl (fun ls hl => ?_)
                refine lv_goto (tgt := 46) hx hb dX8_nearest_171 (by decide) ?_
                exact ih46 (k + 1) (nI k) ((((plc (fun k => G k 0) (k / 81) (k % 9) ((k / 9) % 9)) - (nI x0)) * ((plc (fun k => G k 0) (k / 81) (k % 9) ((k / 9) % 9)) - (nI x0))) + (((plc (fun k => G k 1) (k / 81) (k % 9) ((k / 9) % 9)) - (nI y0)) * ((plc (fun k => G k 1) (k / 81) (k % 9) ((k / 9) % 9)) - (nI y0)))) (show (k + 1) ≤ 972 from by first | omega | assumption | rfl) (show neInv (dst G (nI x0) (nI y0)) (k + 1) (nI k) ((((plc (fun k => G k 0) (k / 81) (k % 9) ((k / 9) % 9)) - (nI x0)) * ((plc (fun k => G k 0) (k / 81) (k % 9) ((k / 9) % 9)) - (nI x0))) + (((plc (fun k => G k 1) (k / 81) (k % 9) ((k / 9) % 9)) - (nI y0)) * ((plc (fun k => G k 1) (k / 81) (k % 9) ((k / 9) % 9)) - (nI y0)))) from ne_first c_51 (dst_0 hG hx0 hy0) hne c_123) (by first | omega | assumption) _ (lv_sub hl [1, 2, 0, 7, 8, 9, 10] rfl)
              · refine lv_iload hx hb dX8_nearest_126 (lv_at hl 0 rfl) ?_
                refine lv_iload hx hb dX8_nearest_128 (lv_at hl 3 rfl) ?_
                refine lv_icmp_ge hx hb (tgt := 137) dX8_nearest_130 (by decide) (fun c_130 => ?_) (fun c_130 => ?_)
                · refine lv_iconst (v := nI 0) hx hb dX8_nearest_137 (by decide) ?_
                  refine lv_istore (lv' := [(10, .int (nI 0)), (9, .int ((((plc (fun k => G k 0) (k / 81) (k % 9) ((k / 9) % 9)) - (nI x0)) * ((plc (fun k => G k 0) (k / 81) (k % 9) ((k / 9) % 9)) - (nI x0))) + (((plc (fun k => G k 1) (k / 81) (k % 9) ((k / 9) % 9)) - (nI y0)) * ((plc (fun k => G k 1) (k / 81) (k % 9) ((k / 9) % 9)) - (nI y0))))), (8, .int ((plc (fun k => G k 1) (k / 81) (k % 9) ((k / 9) % 9)) - (nI y0))), (7, .int ((plc (fun k => G k 0) (k / 81) (k % 9) ((k / 9) % 9)) - (nI x0))), (5, .int ll), (4, .int bst), (6, .int (nI k)), (0, .ref a), (1, .int (nI x0)), (2, .int (nI y0)), (3, .int (nI w0))]) hx hb dX8_nearest_138 hl (by decide) rfl (fun ls hl => ?_)
                  refine lv_iload hx hb dX8_nearest_140 (lv_at hl 0 rfl) ?_
                  refine gn_if_eq hx hb (by decide) (tgt := 150) dX8_nearest_142 (by decide) (fun cq => ?_) (fun cq => absurd cq (by decide))
                  refine lv_iload hx hb dX8_nearest_150 (lv_at hl 5 rfl) ?_
                  refine lv_istore (lv' := [(4, .int bst), (10, .int (nI 0)), (9, .int ((((plc (fun k => G k 0) (k / 81) (k % 9) ((k / 9) % 9)) - (nI x0)) * ((plc (fun k => G k 0) (k / 81) (k % 9) ((k / 9) % 9)) - (nI x0))) + (((plc (fun k => G k 1) (k / 81) (k % 9) ((k / 9) % 9)) - (nI y0)) * ((plc (fun k => G k 1) (k / 81) (k % 9) ((k / 9) % 9)) - (nI y0))))), (8, .int ((plc (fun k => G k 1) (k / 81) (k % 9) ((k / 9) % 9)) - (nI y0))), (7, .int ((plc (fun k => G k 0) (k / 81) (k % 9) ((k / 9) % 9)) - (nI x0))), (5, .int ll), (6, .int (nI k)), (0, .ref a), (1, .int (nI x0)), (2, .int (nI y0)), (3, .int (nI w0))]) hx hb dX8_nearest_152 hl (by decide) rfl (fun ls hl => ?_)
                  refine lv_iload hx hb dX8_nearest_154 (lv_at hl 1 rfl) ?_
                  refine gn_if_eq hx hb (by decide) (tgt := 164) dX8_nearest_156 (by decide) (fun cq => ?_) (fun cq => absurd cq (by decide))
                  refine lv_iload hx hb dX8_nearest_164 (lv_at hl 5 rfl) ?_
                  refine lv_istore (lv' := [(5, .int ll), (4, .int bst), (10, .int (nI 0)), (9, .int ((((plc (fun k => G k 0) (k / 81) (k % 9) ((k / 9) % 9)) - (nI x0)) * ((plc (fun k => G k 0) (k / 81) (k % 9) ((k / 9) % 9)) - (nI x0))) + (((plc (fun k => G k 1) (k / 81) (k % 9) ((k / 9) % 9)) - (nI y0)) * ((plc (fun k => G k 1) (k / 81) (k % 9) ((k / 9) % 9)) - (nI y0))))), (8, .int ((plc (fun k => G k 1) (k / 81) (k % 9) ((k / 9) % 9)) - (nI y0))), (7, .int ((plc (fun k => G k 0) (k / 81) (k % 9) ((k / 9) % 9)) - (nI x0))), (6, .int (nI k)), (0, .ref a), (1, .int (nI x0)), (2, .int (nI y0)), (3, .int (nI w0))]) hx hb dX8_nearest_166 hl (by decide) rfl (fun ls hl => ?_)
                  refine gn_iinc (lv' := [(6, .int (nI (k + 1))), (5, .int ll), (4, .int bst), (10, .int (nI 0)), (9, .int ((((plc (fun k => G k 0) (k / 81) (k % 9) ((k / 9) % 9)) - (nI x0)) * ((plc (fun k => G k 0) (k / 81) (k % 9) ((k / 9) % 9)) - (nI x0))) + (((plc (fun k => G k 1) (k / 81) (k % 9) ((k / 9) % 9)) - (nI y0)) * ((plc (fun k => G k 1) (k / 81) (k % 9) ((k / 9) % 9)) - (nI y0))))), (8, .int ((plc (fun k => G k 1) (k / 81) (k % 9) ((k / 9) % 9)) - (nI y0))), (7, .int ((plc (fun k => G k 0) (k / 81) (k % 9) ((k / 9) % 9)) - (nI x0))), (0, .ref a), (1, .int (nI x0)), (2, .int (nI y0)), (3, .int (nI w0))]) hx hb dX8_nearest_168 hl (k := 6) rfl (by decide) rfl (fun ls hl => ?_)
                  refine lv_goto (tgt := 46) hx hb dX8_nearest_171 (by decide) ?_
                  exact ih46 (k + 1) bst ll (show (k + 1) ≤ 972 from by first | omega | assumption | rfl) (show neInv (dst G (nI x0) (nI y0)) (k + 1) bst ll from ne_keep hne c_123 c_130) (by first | omega | assumption) _ (lv_sub hl [1, 2, 0, 7, 8, 9, 10] rfl)
                · refine lv_iconst (v := nI 1) hx hb dX8_nearest_133 (by decide) ?_
                  refine lv_goto (tgt := 138) hx hb dX8_nearest_134 (by decide) ?_
                  refine lv_istore (lv' := [(10, .int (nI 1)), (9, .int ((((plc (fun k => G k 0) (k / 81) (k % 9) ((k / 9) % 9)) - (nI x0)) * ((plc (fun k => G k 0) (k / 81) (k % 9) ((k / 9) % 9)) - (nI x0))) + (((plc (fun k => G k 1) (k / 81) (k % 9) ((k / 9) % 9)) - (nI y0)) * ((plc (fun k => G k 1) (k / 81) (k % 9) ((k / 9) % 9)) - (nI y0))))), (8, .int ((plc (fun k => G k 1) (k / 81) (k % 9) ((k / 9) % 9)) - (nI y0))), (7, .int ((plc (fun k => G k 0) (k / 81) (k % 9) ((k / 9) % 9)) - (nI x0))), (5, .int ll), (4, .int bst), (6, .int (nI k)), (0, .ref a), (1, .int (nI x0)), (2, .int (nI y0)), (3, .int (nI w0))]) hx hb dX8_nearest_138 hl (by decide) rfl (fun ls hl => ?_)
                  refine lv_iload hx hb dX8_nearest_140 (lv_at hl 0 rfl) ?_
                  refine gn_if_eq hx hb (by decide) (tgt := 150) dX8_nearest_142 (by decide) (fun cq => absurd cq (by decide)) (fun cq => ?_)
                  refine lv_iload hx hb dX8_nearest_145 (lv_at hl 6 rfl) ?_
                  refine lv_goto (tgt := 152) hx hb dX8_nearest_147 (by decide) ?_
                  refine lv_istore (lv' := [(4, .int (nI k)), (10, .int (nI 1)), (9, .int ((((plc (fun k => G k 0) (k / 81) (k % 9) ((k / 9) % 9)) - (nI x0)) * ((plc (fun k => G k 0) (k / 81) (k % 9) ((k / 9) % 9)) - (nI x0))) + (((plc (fun k => G k 1) (k / 81) (k % 9) ((k / 9) % 9)) - (nI y0)) * ((plc (fun k => G k 1) (k / 81) (k % 9) ((k / 9) % 9)) - (nI y0))))), (8, .int ((plc (fun k => G k 1) (k / 81) (k % 9) ((k / 9) % 9)) - (nI y0))), (7, .int ((plc (fun k => G k 0) (k / 81) (k % 9) ((k / 9) % 9)) - (nI x0))), (5, .int ll), (6, .int (nI k)), (0, .ref a), (1, .int (nI x0)), (2, .int (nI y0)), (3, .int (nI w0))]) hx hb dX8_nearest_152 hl (by decide) rfl (fun ls hl => ?_)
                  refine lv_iload hx hb dX8_nearest_154 (lv_at hl 1 rfl) ?_
                  refine gn_if_eq hx hb (by decide) (tgt := 164) dX8_nearest_156 (by decide) (fun cq => absurd cq (by decide)) (fun cq => ?_)
                  refine lv_iload hx hb dX8_nearest_159 (lv_at hl 2 rfl) ?_
                  refine lv_goto (tgt := 166) hx hb dX8_nearest_161 (by decide) ?_
                  refine lv_istore (lv' := [(5, .int ((((plc (fun k => G k 0) (k / 81) (k % 9) ((k / 9) % 9)) - (nI x0)) * ((plc (fun k => G k 0) (k / 81) (k % 9) ((k / 9) % 9)) - (nI x0))) + (((plc (fun k => G k 1) (k / 81) (k % 9) ((k / 9) % 9)) - (nI y0)) * ((plc (fun k => G k 1) (k / 81) (k % 9) ((k / 9) % 9)) - (nI y0))))), (4, .int (nI k)), (10, .int (nI 1)), (9, .int ((((plc (fun k => G k 0) (k / 81) (k % 9) ((k / 9) % 9)) - (nI x0)) * ((plc (fun k => G k 0) (k / 81) (k % 9) ((k / 9) % 9)) - (nI x0))) + (((plc (fun k => G k 1) (k / 81) (k % 9) ((k / 9) % 9)) - (nI y0)) * ((plc (fun k => G k 1) (k / 81) (k % 9) ((k / 9) % 9)) - (nI y0))))), (8, .int ((plc (fun k => G k 1) (k / 81) (k % 9) ((k / 9) % 9)) - (nI y0))), (7, .int ((plc (fun k => G k 0) (k / 81) (k % 9) ((k / 9) % 9)) - (nI x0))), (6, .int (nI k)), (0, .ref a), (1, .int (nI x0)), (2, .int (nI y0)), (3, .int (nI w0))]) hx hb dX8_nearest_166 hl (by decide) rfl (fun ls hl => ?_)
                  refine gn_iinc (lv' := [(6, .int (nI (k + 1))), (5, .int ((((plc (fun k => G k 0) (k / 81) (k % 9) ((k / 9) % 9)) - (nI x0)) * ((plc (fun k => G k 0) (k / 81) (k % 9) ((k / 9) % 9)) - (nI x0))) + (((plc (fun k => G k 1) (k / 81) (k % 9) ((k / 9) % 9)) - (nI y0)) * ((plc (fun k => G k 1) (k / 81) (k % 9) ((k / 9) % 9)) - (nI y0))))), (4, .int (nI k)), (10, .int (nI 1)), (9, .int ((((plc (fun k => G k 0) (k / 81) (k % 9) ((k / 9) % 9)) - (nI x0)) * ((plc (fun k => G k 0) (k / 81) (k % 9) ((k / 9) % 9)) - (nI x0))) + (((plc (fun k => G k 1) (k / 81) (k % 9) ((k / 9) % 9)) - (nI y0)) * ((plc (fun k => G k 1) (k / 81) (k % 9) ((k / 9) % 9)) - (nI y0))))), (8, .int ((plc (fun k => G k 1) (k / 81) (k % 9) ((k / 9) % 9)) - (nI y0))), (7, .int ((plc (fun k => G k 0) (k / 81) (k % 9) ((k / 9) % 9)) - (nI x0))), (0, .ref a), (1, .int (nI x0)), (2, .int (nI y0)), (3, .int (nI w0))]) hx hb dX8_nearest_168 hl (k := 6) rfl (by decide) rfl (fun ls hl => ?_)
                  refine lv_goto (tgt := 46) hx hb dX8_nearest_171 (by decide) ?_
                  exact ih46 (k + 1) (nI k) ((((plc (fun k => G k 0) (k / 81) (k % 9) ((k / 9) % 9)) - (nI x0)) * ((plc (fun k => G k 0) (k / 81) (k % 9) ((k / 9) % 9)) - (nI x0))) + (((plc (fun k => G k 1) (k / 81) (k % 9) ((k / 9) % 9)) - (nI y0)) * ((plc (fun k => G k 1) (k / 81) (k % 9) ((k / 9) % 9)) - (nI y0)))) (show (k + 1) ≤ 972 from by first | omega | assumption | rfl) (show neInv (dst G (nI x0) (nI y0)) (k + 1) (nI k) ((((plc (fun k => G k 0) (k / 81) (k % 9) ((k / 9) % 9)) - (nI x0)) * ((plc (fun k => G k 0) (k / 81) (k % 9) ((k / 9) % 9)) - (nI x0))) + (((plc (fun k => G k 1) (k / 81) (k % 9) ((k / 9) % 9)) - (nI y0)) * ((plc (fun k => G k 1) (k / 81) (k % 9) ((k / 9) % 9)) - (nI y0)))) from ne_up hne c_123 c_130) (by first | omega | assumption) _ (lv_sub hl [1, 2, 0, 7, 8, 9, 10] rfl)
        exact L46 ((972 - 0) + 1) 0 (-1004) (nI 0) (show 0 ≤ 972 from by first | omega | assumption | rfl) (show neInv (dst G (nI x0) (nI y0)) 0 (-1004) (nI 0) from Or.inl ⟨rfl, rfl⟩) (Nat.lt_succ_self _) _ (lv_sub hl [1, 2, 0, 3, 4, 5, 6] rfl)
      · refine gn_if_ne hx hb (by decide) (tgt := 35) dX8_nearest_28 (by decide) (fun cq => absurd cq (by decide)) (fun cq => ?_)
        refine lv_sipush (v := (-1001)) hx hb dX8_nearest_31 (by decide) ?_
        have hok : okNe (nI x0) (nI y0) w = false := decide_eq_false (fun q => b_25 q.2)
        exact rtR_i hQ hx hb hr hlk dX8_nearest_34 ((cz_f hok).symm)
    · refine gn_if_eq hx hb (by decide) (tgt := 31) dX8_nearest_19 (by decide) (fun cq => ?_) (fun cq => absurd cq (by decide))
      refine lv_sipush (v := (-1001)) hx hb dX8_nearest_31 (by decide) ?_
      have hok : okNe (nI x0) y w = false := decide_eq_false (fun q => b_16 q.1.2)
      exact rtR_i hQ hx hb hr hlk dX8_nearest_34 ((cz_f hok).symm)
  · refine gn_if_eq hx hb (by decide) (tgt := 31) dX8_nearest_8 (by decide) (fun cq => ?_) (fun cq => absurd cq (by decide))
    refine lv_sipush (v := (-1001)) hx hb dX8_nearest_31 (by decide) ?_
    have hok : okNe x y w = false := decide_eq_false (fun q => b_5 q.1.1)
    exact rtR_i hQ hx hb hr hlk dX8_nearest_34 ((cz_f hok).symm)
