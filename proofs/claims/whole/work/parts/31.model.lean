abbrev rmX8_in : Room := { frames := 0, cells := 0, slots := 0, locals := 0 }
set_option maxHeartbeats 4000000 in
set_option maxRecDepth 100000 in
theorem c_X8_in (l : Launch) (D : va_G) (cI cC cQ : ClassId) (n lo hi : Int32) : Met l yX8_in wsX8_in rmX8_in (PR D cI cC cQ [.int n, .int lo, .int hi] []) (vp_Si (fun z => BB (lo ≤ n ∧ n ≤ hi) z)) 0 0 (fun _ => False) := by
  refine metR (cc := cX8_in) (maxL := 3) (ret := (some .boolean)) (by decide) rfl (Nat.le_of_ble_eq_true rfl) ?_
  intro pg ev s mi args below meth cd ls Q hQ hx hb hml hr hts hown hlk hK hP hl
  have hKa := hK.1
  have hl : lv_has ls 3 [(0, .int n), (1, .int lo), (2, .int hi)] := hl
  refine lv_iload_n hx hb dX8_in_0 rfl (lv_at hl 0 rfl) ?_
  refine lv_iload_n hx hb dX8_in_1 rfl (lv_at hl 1 rfl) ?_
  refine lv_icmp_lt hx hb (tgt := 14) dX8_in_2 (by decide) (fun c_2 => ?_) (fun c_2 => ?_)
  · refine lv_iconst (v := nI 0) hx hb dX8_in_14 (by decide) ?_
    exact rtR_z hQ hx hb hr hlk dX8_in_15 (by decide +kernel) (Or.inr ⟨fun q => absurd q.1 (Int32.not_le.mpr c_2), rfl⟩)
  · refine lv_iload_n hx hb dX8_in_5 rfl (lv_at hl 0 rfl) ?_
    refine lv_iload_n hx hb dX8_in_6 rfl (lv_at hl 2 rfl) ?_
    refine lv_icmp_gt hx hb (tgt := 14) dX8_in_7 (by decide) (fun c_7 => ?_) (fun c_7 => ?_)
    · refine lv_iconst (v := nI 0) hx hb dX8_in_14 (by decide) ?_
      exact rtR_z hQ hx hb hr hlk dX8_in_15 (by decide +kernel) (Or.inr ⟨fun q => absurd q.2 (Int32.not_le.mpr c_7), rfl⟩)
    · refine lv_iconst (v := nI 1) hx hb dX8_in_10 (by decide) ?_
      refine lv_goto (tgt := 15) hx hb dX8_in_11 (by decide) ?_
      exact rtR_z hQ hx hb hr hlk dX8_in_15 (by decide +kernel) (Or.inl ⟨⟨Int32.not_lt.mp c_2, Int32.not_lt.mp c_7⟩, rfl⟩)
abbrev rmX8_isCorner : Room := { frames := 1, cells := 0, slots := 0, locals := 22 }
set_option maxHeartbeats 4000000 in
set_option maxRecDepth 100000 in
theorem c_X8_isCorner (l : Launch) (D : va_G) (cI cC cQ : ClassId) (c2 r2 : Int32) : Met l yX8_isCorner wsX8_isCorner rmX8_isCorner (PR D cI cC cQ [.int c2, .int r2] []) (vp_Si (fun z => BB ((nI 0 ≤ c2 ∧ c2 ≤ nI 4) ∧ (nI 0 ≤ r2 ∧ r2 ≤ nI 3)) z)) 0 0 (fun _ => False) := by
  refine metR (cc := cX8_isCorner) (maxL := 2) (ret := (some .boolean)) (by decide) rfl (Nat.le_of_ble_eq_true rfl) ?_
  intro pg ev s mi args below meth cd ls Q hQ hx hb hml hr hts hown hlk hK hP hl
  have hKa := hK.1
  have hl : lv_has ls 2 [(0, .int c2), (1, .int r2)] := hl
  refine lv_iload_n hx hb dX8_isCorner_0 rfl (lv_at hl 0 rfl) ?_
  refine lv_iconst (v := nI 0) hx hb dX8_isCorner_1 (by decide) ?_
  refine lv_iconst (v := nI 4) hx hb dX8_isCorner_2 (by decide) ?_
  have hPc := hP.sub (ws' := []) [] rfl
  refine clR (va_runS (As := [.int c2, .int (nI 0), .int (nI 4)]) (rest := []) ⟨hx, hb, hml, hown, hts⟩ (c_X8_in l D cI cC cQ c2 (nI 0) (nI 4) ) (va_cwS (rm := rmX8_in) 3 hts gX8_isCorner_X8_in rfl rfl rfl (by decide +kernel) ⟨Nat.le_of_ble_eq_true rfl, Nat.le_of_ble_eq_true rfl⟩) ⟨PR.blind, PR.go hPc hK⟩ rfl rfl hl.1 rfl (lv_room (Nat.le_of_ble_eq_true rfl)) dX8_isCorner_3 ⟨Nat.le_of_ble_eq_true rfl, Nat.le_of_ble_eq_true rfl⟩) (fun r_3 h_3 => ?_)
  rcases h_3 with ⟨b_3, rfl⟩ | ⟨b_3, rfl⟩
  · refine gn_if_eq hx hb (by decide) (tgt := 22) dX8_isCorner_6 (by decide) (fun cq => absurd cq (by decide)) (fun cq => ?_)
    refine lv_iload_n hx hb dX8_isCorner_9 rfl (lv_at hl 1 rfl) ?_
    refine lv_iconst (v := nI 0) hx hb dX8_isCorner_10 (by decide) ?_
    refine lv_iconst (v := nI 3) hx hb dX8_isCorner_11 (by decide) ?_
    have hPc := hP.sub (ws' := []) [] rfl
    refine clR (va_runS (As := [.int r2, .int (nI 0), .int (nI 3)]) (rest := []) ⟨hx, hb, hml, hown, hts⟩ (c_X8_in l D cI cC cQ r2 (nI 0) (nI 3) ) (va_cwS (rm := rmX8_in) 3 hts gX8_isCorner_X8_in rfl rfl rfl (by decide +kernel) ⟨Nat.le_of_ble_eq_true rfl, Nat.le_of_ble_eq_true rfl⟩) ⟨PR.blind, PR.go hPc hK⟩ rfl rfl hl.1 rfl (lv_room (Nat.le_of_ble_eq_true rfl)) dX8_isCorner_12 ⟨Nat.le_of_ble_eq_true rfl, Nat.le_of_ble_eq_true rfl⟩) (fun r_12 h_12 => ?_)
    rcases h_12 with ⟨b_12, rfl⟩ | ⟨b_12, rfl⟩
    · refine gn_if_eq hx hb (by decide) (tgt := 22) dX8_isCorner_15 (by decide) (fun cq => absurd cq (by decide)) (fun cq => ?_)
      refine lv_iconst (v := nI 1) hx hb dX8_isCorner_18 (by decide) ?_
      refine lv_goto (tgt := 23) hx hb dX8_isCorner_19 (by decide) ?_
      exact rtR_z hQ hx hb hr hlk dX8_isCorner_23 (by decide +kernel) (Or.inl ⟨⟨b_3, b_12⟩, rfl⟩)
    · refine gn_if_eq hx hb (by decide) (tgt := 22) dX8_isCorner_15 (by decide) (fun cq => ?_) (fun cq => absurd cq (by decide))
      refine lv_iconst (v := nI 0) hx hb dX8_isCorner_22 (by decide) ?_
      exact rtR_z hQ hx hb hr hlk dX8_isCorner_23 (by decide +kernel) (Or.inr ⟨fun q => b_12 q.2, rfl⟩)
  · refine gn_if_eq hx hb (by decide) (tgt := 22) dX8_isCorner_6 (by decide) (fun cq => ?_) (fun cq => absurd cq (by decide))
    refine lv_iconst (v := nI 0) hx hb dX8_isCorner_22 (by decide) ?_
    exact rtR_z hQ hx hb hr hlk dX8_isCorner_23 (by decide +kernel) (Or.inr ⟨fun q => b_3 q.1, rfl⟩)
abbrev rmX8_isPatch : Room := { frames := 1, cells := 0, slots := 0, locals := 22 }
set_option maxHeartbeats 4000000 in
set_option maxRecDepth 100000 in
theorem c_X8_isPatch (l : Launch) (D : va_G) (cI cC cQ : ClassId) (p2 : Int32) : Met l yX8_isPatch wsX8_isPatch rmX8_isPatch (PR D cI cC cQ [.int p2] []) (vp_Si (fun z => BB (nI 0 ≤ p2 ∧ p2 ≤ nI 11) z)) 0 0 (fun _ => False) := by
  refine metR (cc := cX8_isPatch) (maxL := 1) (ret := (some .boolean)) (by decide) rfl (Nat.le_of_ble_eq_true rfl) ?_
  intro pg ev s mi args below meth cd ls Q hQ hx hb hml hr hts hown hlk hK hP hl
  have hKa := hK.1
  have hl : lv_has ls 1 [(0, .int p2)] := hl
  refine lv_iload_n hx hb dX8_isPatch_0 rfl (lv_at hl 0 rfl) ?_
  refine lv_iconst (v := nI 0) hx hb dX8_isPatch_1 (by decide) ?_
  refine lv_bipush (v := nI 11) hx hb dX8_isPatch_2 (by decide) ?_
  have hPc := hP.sub (ws' := []) [] rfl
  refine clR (va_runS (As := [.int p2, .int (nI 0), .int (nI 11)]) (rest := []) ⟨hx, hb, hml, hown, hts⟩ (c_X8_in l D cI cC cQ p2 (nI 0) (nI 11) ) (va_cwS (rm := rmX8_in) 3 hts gX8_isPatch_X8_in rfl rfl rfl (by decide +kernel) ⟨Nat.le_of_ble_eq_true rfl, Nat.le_of_ble_eq_true rfl⟩) ⟨PR.blind, PR.go hPc hK⟩ rfl rfl hl.1 rfl (lv_room (Nat.le_of_ble_eq_true rfl)) dX8_isPatch_4 ⟨Nat.le_of_ble_eq_true rfl, Nat.le_of_ble_eq_true rfl⟩) (fun r_4 h_4 => ?_)
  rcases h_4 with ⟨b_4, rfl⟩ | ⟨b_4, rfl⟩
  · exact rtR_z hQ hx hb hr hlk dX8_isPatch_7 (by decide +kernel) (Or.inl ⟨b_4, rfl⟩)
  · exact rtR_z hQ hx hb hr hlk dX8_isPatch_7 (by decide +kernel) (Or.inr ⟨fun q => b_4 q, rfl⟩)
abbrev rmX8_at : Room := { frames := 0, cells := 0, slots := 0, locals := 0 }
set_option maxHeartbeats 4000000 in
set_option maxRecDepth 100000 in
theorem c_X8_at (l : Launch) (D : va_G) (cI cC cQ : ClassId) (c r : Nat) : Met l yX8_at wsX8_at rmX8_at (PR D cI cC cQ [.int (nI c), .int (nI r)] []) (vp_Si (fun z => z = nI (12 * (5 * r + c)))) 0 0 (fun _ => False) := by
  refine metR (cc := cX8_at) (maxL := 2) (ret := (some .int)) (by decide) rfl (Nat.le_of_ble_eq_true rfl) ?_
  intro pg ev s mi args below meth cd ls Q hQ hx hb hml hr hts hown hlk hK hP hl
  have hKa := hK.1
  have hl : lv_has ls 2 [(0, .int (nI c)), (1, .int (nI r))] := hl
  refine lv_bipush (v := nI 12) hx hb dX8_at_0 (by decide) ?_
  refine lv_iconst (v := nI 5) hx hb dX8_at_2 (by decide) ?_
  refine lv_iload_n hx hb dX8_at_3 rfl (lv_at hl 1 rfl) ?_
  refine gn_mul hx hb dX8_at_4 ?_
  refine lv_iload_n hx hb dX8_at_5 rfl (lv_at hl 0 rfl) ?_
  refine gn_add hx hb dX8_at_6 ?_
  refine gn_mul hx hb dX8_at_7 ?_
  exact rtR_i hQ hx hb hr hlk dX8_at_8 (rfl)
abbrev rmX8_floor : Room := { frames := 0, cells := 0, slots := 0, locals := 0 }
set_option maxHeartbeats 4000000 in
set_option maxRecDepth 100000 in
theorem c_X8_floor (l : Launch) (D : va_G) (cI cC cQ : ClassId) (x y : Int32) (hy : ¬ y = 0) : Met l yX8_floor wsX8_floor rmX8_floor (PR D cI cC cQ [.int x, .int y] []) (vp_Si (fun z => z = flI x y)) 0 0 (fun _ => False) := by
  refine metR (cc := cX8_floor) (maxL := 2) (ret := (some .int)) (by decide) rfl (Nat.le_of_ble_eq_true rfl) ?_
  intro pg ev s mi args below meth cd ls Q hQ hx hb hml hr hts hown hlk hK hP hl
  have hKa := hK.1
  have hl : lv_has ls 2 [(0, .int x), (1, .int y)] := hl
  refine lv_iload_n hx hb dX8_floor_0 rfl (lv_at hl 0 rfl) ?_
  refine lv_if_lt hx hb (tgt := 10) dX8_floor_1 (by decide) (fun c_1 => ?_) (fun c_1 => ?_)
  · refine lv_iload_n hx hb dX8_floor_10 rfl (lv_at hl 1 rfl) ?_
    refine lv_iconst (v := nI 1) hx hb dX8_floor_11 (by decide) ?_
    refine lv_isub hx hb dX8_floor_12 ?_
    refine lv_iload_n hx hb dX8_floor_13 rfl (lv_at hl 0 rfl) ?_
    refine lv_isub hx hb dX8_floor_14 ?_
    refine lv_iload_n hx hb dX8_floor_15 rfl (lv_at hl 1 rfl) ?_
    refine lv_idiv hx hb dX8_floor_16 (hy) ?_
    refine lv_ineg hx hb dX8_floor_17 ?_
    exact rtR_i hQ hx hb hr hlk dX8_floor_18 (by unfold flI; rw [if_pos c_1])
  · refine lv_iload_n hx hb dX8_floor_4 rfl (lv_at hl 0 rfl) ?_
    refine lv_iload_n hx hb dX8_floor_5 rfl (lv_at hl 1 rfl) ?_
    refine lv_idiv hx hb dX8_floor_6 (hy) ?_
    refine lv_goto (tgt := 18) hx hb dX8_floor_7 (by decide) ?_
    exact rtR_i hQ hx hb hr hlk dX8_floor_18 (by unfold flI; rw [if_neg c_1])
abbrev rmX8_heldCorners : Room := { frames := 0, cells := 0, slots := 0, locals := 0 }
set_option maxRecDepth 20000 in
theorem iw_X8_heldCorners_X8 : ∀ w ∈ u_ws RX8 TX8 18, w ∈ wsX8_heldCorners := by decide +kernel
set_option maxHeartbeats 4000000 in
set_option maxRecDepth 100000 in
theorem c_X8_heldCorners (l : Launch) (D : va_G) (cI cC cQ : ClassId) (a g0 g1 g2 g3 g4 g5 g6 g7 : Nat) (ik rn ps ty sp fr re cau co cm : Int32) (G : Nat → Nat → Int32) : Met l yX8_heldCorners wsX8_heldCorners rmX8_heldCorners (PR D cI cC cQ [.ref a] [(a, .inr (8, [.ref g0, .ref g1, .ref g2, .ref g3, .int ik, .int rn, .int ps, .ref g4, .int ty, .ref g5, .ref g6, .int sp, .int fr, .int re, .int cau, .int co, .int cm, .ref g7])), (g0, .inl (cI, 240, .inl (MA G)))]) (vp_Si (fun z => z = sumI (HA G) 20)) 0 0 (fun _ => False) := by
  refine metR (cc := cX8_heldCorners) (maxL := 3) (ret := (some .int)) (by decide) rfl (Nat.le_of_ble_eq_true rfl) ?_
  intro pg ev s mi args below meth cd ls Q hQ hx hb hml hr hts hown hlk hK hP hl
  have hKa := hK.1
  have hl : lv_has ls 3 [(0, .ref a)] := hl
  refine lv_iconst (v := nI 0) hx hb dX8_heldCorners_0 (by decide) ?_
  refine lv_istore_n (lv' := [(1, .int (nI 0)), (0, .ref a)]) hx hb dX8_heldCorners_1 rfl hl (by decide) rfl (fun ls hl => ?_)
  refine lv_iconst (v := nI 0) hx hb dX8_heldCorners_2 (by decide) ?_
  refine lv_istore_n (lv' := [(2, .int (nI 0)), (1, .int (nI 0)), (0, .ref a)]) hx hb dX8_heldCorners_3 rfl hl (by decide) rfl (fun ls hl => ?_)
  have L4 : ∀ (nn : Nat) (j : Nat) (u : Int32) (hj : j ≤ 20) (hu : u = sumI (HA G) j) (_ : 20 - j < nn) (ls : Array Slot) (_ : lv_has ls 3 [(1, .int u), (2, .int (nI j)), (0, .ref a)]), W pg l ev (headSpec wsX8_heldCorners rmX8_heldCorners).room s mi args below meth cd s.heap [] 0 0 Q (F0 mi 4 ls []) := by
    intro nn
    induction nn with
    | zero =>
      intro j u hj hu hmeas
      exact absurd hmeas (Nat.not_lt_zero _)
    | succ nn ih4 =>
      intro j u hj hu hmeas  ls hl
      refine lv_iload_n hx hb dX8_heldCorners_4 rfl (lv_at hl 1 rfl) ?_
      refine lv_bipush (v := nI 20) hx hb dX8_heldCorners_5 (by decide) ?_
      refine gn_icmp_ge hx hb (by omega) (by decide) (tgt := 30) dX8_heldCorners_7 (by decide) (fun c_7 => ?_) (fun c_7 => ?_)
      · refine lv_iload_n hx hb dX8_heldCorners_30 rfl (lv_at hl 0 rfl) ?_
        exact rtR_i hQ hx hb hr hlk dX8_heldCorners_31 (by rw [hu, show j = 20 by omega])
      · refine lv_iload_n hx hb dX8_heldCorners_10 rfl (lv_at hl 0 rfl) ?_
        refine lv_aload_n hx hb dX8_heldCorners_11 rfl (lv_at hl 2 rfl) ?_
        refine va_get (D := D) (ci := 8) (v := .ref g0) (C := RX8) (T := TX8) (N := 18) hx hb hts iw_X8_heldCorners_X8 hown hKa hP 0 rfl rfl 0 (by decide) (hts (.fieldLink RX8 7 "ColourPatchesModel" "s" "[I") (by decide +kernel)) (fun _ h9 => h9) rfl dX8_heldCorners_12 ?_
        refine lv_bipush (v := nI 12) hx hb dX8_heldCorners_15 (by decide) ?_
        refine lv_iload_n hx hb dX8_heldCorners_17 rfl (lv_at hl 1 rfl) ?_
        refine gn_mul hx hb dX8_heldCorners_18 ?_
        refine lv_iconst (v := nI 5) hx hb dX8_heldCorners_19 (by decide) ?_
        refine gn_add hx hb dX8_heldCorners_20 ?_
        refine gn_iald hx hb hKa hP 1 0 rfl rfl (k := (12 * j) + 5) (by omega) (by omega) dX8_heldCorners_21 ?_
        rw [show MA G ((12 * j) + 5) = G j 5 from MA_at _ _ _ _ (by omega) (by omega)]
        refine lv_iadd hx hb dX8_heldCorners_22 ?_
        refine lv_istore_n (lv' := [(1, .int (u + (G j 5))), (2, .int (nI j)), (0, .ref a)]) hx hb dX8_heldCorners_23 rfl hl (by decide) rfl (fun ls hl => ?_)
        refine gn_iinc (lv' := [(2, .int (nI (j + 1))), (1, .int (u + (G j 5))), (0, .ref a)]) hx hb dX8_heldCorners_24 hl (k := 1) rfl (by decide) rfl (fun ls hl => ?_)
        refine lv_goto (tgt := 4) hx hb dX8_heldCorners_27 (by decide) ?_
        exact ih4 (j + 1) (u + (G j 5)) (show (j + 1) ≤ 20 from by first | omega | assumption | rfl) (show (u + (G j 5)) = sumI (HA G) (j + 1) from by rw [hu]; rfl) (by first | omega | assumption) _ (lv_sub hl [1, 0, 2] rfl)
  exact L4 ((20 - 0) + 1) 0 (nI 0) (show 0 ≤ 20 from by first | omega | assumption | rfl) (show (nI 0) = sumI (HA G) 0 from rfl) (Nat.lt_succ_self _) _ (lv_sub hl [1, 0, 2] rfl)
abbrev rmX8_slopeOf0 : Room := { frames := 1, cells := 0, slots := 0, locals := 21 }
set_option maxRecDepth 20000 in
theorem iw_X8_slopeOf0_X8 : ∀ w ∈ u_ws RX8 TX8 18, w ∈ wsX8_slopeOf := by decide +kernel
set_option maxHeartbeats 4000000 in
set_option maxRecDepth 100000 in
theorem c_X8_slopeOf0 (l : Launch) (D : va_G) (cI cC cQ : ClassId) (a g0 g1 g2 g3 g4 g5 g6 g7 : Nat) (ik rn ps ty sp fr re cau co cm : Int32) (G : Nat → Nat → Int32) (c r i : Nat) (hG : OKG G) (hc : c < 5) (hr9 : r < 4) (hi : i < 3) : Met l yX8_slopeOf wsX8_slopeOf rmX8_slopeOf0 (PR D cI cC cQ [.ref a, .int (nI c), .int (nI r), .int (nI 0), .int (nI i)] [(a, .inr (8, [.ref g0, .ref g1, .ref g2, .ref g3, .int ik, .int rn, .int ps, .ref g4, .int ty, .ref g5, .ref g6, .int sp, .int fr, .int re, .int cau, .int co, .int cm, .ref g7])), (g0, .inl (cI, 240, .inl (MA G)))]) (vp_Si (fun z => z = slk G (r * 5 + c) 0 i)) 0 0 (fun _ => False) := by
  refine metR (cc := cX8_slopeOf) (maxL := 13) (ret := (some .int)) (by decide) rfl (Nat.le_of_ble_eq_true rfl) ?_
  intro pg ev s mi args below meth cd ls Q hQ hx hb hml hr hts hown hlk hK hP hl
  have hKa := hK.1
  have hl : lv_has ls 13 [(0, .ref a), (1, .int (nI c)), (2, .int (nI r)), (3, .int (nI 0)), (4, .int (nI i))] := hl
  refine lv_aload_n hx hb dX8_slopeOf_0 rfl (lv_at hl 0 rfl) ?_
  refine va_get (D := D) (ci := 8) (v := .ref g0) (C := RX8) (T := TX8) (N := 18) hx hb hts iw_X8_slopeOf0_X8 hown hKa hP 0 rfl rfl 0 (by decide) (hts (.fieldLink RX8 7 "ColourPatchesModel" "s" "[I") (by decide +kernel)) (fun _ h9 => h9) rfl dX8_slopeOf_1 ?_
  refine lv_iload_n hx hb dX8_slopeOf_4 rfl (lv_at hl 1 rfl) ?_
  refine lv_iload_n hx hb dX8_slopeOf_5 rfl (lv_at hl 2 rfl) ?_
  have hPc := hP.sub (ws' := []) [] rfl
  refine clRe (E := nI (12 * (5 * r + c))) (va_runS (As := [.int (nI c), .int (nI r)]) (rest := [.ref g0]) ⟨hx, hb, hml, hown, hts⟩ (c_X8_at l D cI cC cQ c r ) (va_cwS (rm := rmX8_at) 2 hts gX8_slopeOf_X8_at rfl rfl rfl (by decide +kernel) ⟨Nat.le_of_ble_eq_true rfl, Nat.le_of_ble_eq_true rfl⟩) ⟨PR.blind, PR.go hPc hK⟩ rfl rfl hl.1 rfl (lv_room (Nat.le_of_ble_eq_true rfl)) dX8_slopeOf_6 ⟨Nat.le_of_ble_eq_true rfl, Nat.le_of_ble_eq_true rfl⟩) ?_
  refine lv_bipush (v := nI 6) hx hb dX8_slopeOf_9 (by decide) ?_
  refine gn_add hx hb dX8_slopeOf_11 ?_
  refine lv_iconst (v := nI 3) hx hb dX8_slopeOf_12 (by decide) ?_
  refine lv_iload_n hx hb dX8_slopeOf_13 rfl (lv_at hl 3 rfl) ?_
  refine gn_mul hx hb dX8_slopeOf_14 ?_
  refine gn_add hx hb dX8_slopeOf_15 ?_
  refine lv_iload hx hb dX8_slopeOf_16 (lv_at hl 4 rfl) ?_
  refine gn_add hx hb dX8_slopeOf_18 ?_
  refine gn_iald hx hb hKa hP 1 0 rfl rfl (k := (((12 * (5 * r + c)) + 6) + (3 * 0)) + i) (by omega) (by omega) dX8_slopeOf_19 ?_
  rw [show MA G ((((12 * (5 * r + c)) + 6) + (3 * 0)) + i) = G (r * 5 + c) (6 + (0 * 3 + i)) from MA_at _ _ _ _ (by omega) (by omega)]
  refine lv_istore (lv' := [(5, .int (G (r * 5 + c) (6 + (0 * 3 + i)))), (0, .ref a), (1, .int (nI c)), (2, .int (nI r)), (3, .int (nI 0)), (4, .int (nI i))]) hx hb dX8_slopeOf_20 hl (by decide) rfl (fun ls hl => ?_)
  refine lv_iload hx hb dX8_slopeOf_22 (lv_at hl 0 rfl) ?_
  refine lv_sipush (v := nI 999) hx hb dX8_slopeOf_24 (by decide) ?_
  refine lv_icmp_eq hx hb (tgt := 33) dX8_slopeOf_27 (by decide) (fun c_27 => ?_) (fun c_27 => ?_)
  · refine lv_iload_n hx hb dX8_slopeOf_33 rfl (lv_at hl 4 rfl) ?_
    refine gn_if_ne hx hb (by decide) (tgt := 41) dX8_slopeOf_34 (by decide) (fun cq => absurd cq (by decide)) (fun cq => ?_)
    refine lv_iload_n hx hb dX8_slopeOf_37 rfl (lv_at hl 2 rfl) ?_
    refine lv_goto (tgt := 42) hx hb dX8_slopeOf_38 (by decide) ?_
    refine lv_istore (lv' := [(6, .int (nI c)), (5, .int (G (r * 5 + c) (6 + (0 * 3 + i)))), (0, .ref a), (1, .int (nI c)), (2, .int (nI r)), (3, .int (nI 0)), (4, .int (nI i))]) hx hb dX8_slopeOf_42 hl (by decide) rfl (fun ls hl => ?_)
    refine lv_iload_n hx hb dX8_slopeOf_44 rfl (lv_at hl 5 rfl) ?_
    refine gn_if_ne hx hb (by decide) (tgt := 52) dX8_slopeOf_45 (by decide) (fun cq => absurd cq (by decide)) (fun cq => ?_)
    refine lv_iconst (v := nI 4) hx hb dX8_slopeOf_48 (by decide) ?_
    refine lv_goto (tgt := 53) hx hb dX8_slopeOf_49 (by decide) ?_
    refine lv_istore (lv' := [(7, .int (nI 4)), (6, .int (nI c)), (5, .int (G (r * 5 + c) (6 + (0 * 3 + i)))), (0, .ref a), (1, .int (nI c)), (2, .int (nI r)), (3, .int (nI 0)), (4, .int (nI i))]) hx hb dX8_slopeOf_53 hl (by decide) rfl (fun ls hl => ?_)
    refine lv_iload hx hb dX8_slopeOf_55 (lv_at hl 1 rfl) ?_
    refine gn_if_ne hx hb (by omega) (tgt := 64) dX8_slopeOf_57 (by decide) (fun c_57 => ?_) (fun c_57 => ?_)
    · refine lv_iload hx hb dX8_slopeOf_64 (lv_at hl 1 rfl) ?_
      refine lv_iconst (v := nI 1) hx hb dX8_slopeOf_66 (by decide) ?_
      refine gn_sub hx hb (by omega) dX8_slopeOf_67 ?_
      refine lv_istore (lv' := [(8, .int (nI (c - 1))), (7, .int (nI 4)), (6, .int (nI c)), (5, .int (G (r * 5 + c) (6 + (0 * 3 + i)))), (0, .ref a), (1, .int (nI c)), (2, .int (nI r)), (3, .int (nI 0)), (4, .int (nI i))]) hx hb dX8_slopeOf_68 hl (by decide) rfl (fun ls hl => ?_)
      refine lv_iload hx hb dX8_slopeOf_70 (lv_at hl 2 rfl) ?_
      refine lv_iload hx hb dX8_slopeOf_72 (lv_at hl 1 rfl) ?_
      refine gn_icmp_ne hx hb (by omega) (by decide) (tgt := 82) dX8_slopeOf_74 (by decide) (fun c_74 => ?_) (fun c_74 => ?_)
      · refine lv_iload hx hb dX8_slopeOf_82 (lv_at hl 2 rfl) ?_
        refine lv_iconst (v := nI 1) hx hb dX8_slopeOf_84 (by decide) ?_
        refine gn_add hx hb dX8_slopeOf_85 ?_
        refine lv_istore (lv' := [(9, .int (nI (c + 1))), (8, .int (nI (c - 1))), (7, .int (nI 4)), (6, .int (nI c)), (5, .int (G (r * 5 + c) (6 + (0 * 3 + i)))), (0, .ref a), (1, .int (nI c)), (2, .int (nI r)), (3, .int (nI 0)), (4, .int (nI i))]) hx hb dX8_slopeOf_86 hl (by decide) rfl (fun ls hl => ?_)
        refine lv_iload_n hx hb dX8_slopeOf_88 rfl (lv_at hl 8 rfl) ?_
        refine gn_if_ne hx hb (by decide) (tgt := 101) dX8_slopeOf_89 (by decide) (fun cq => absurd cq (by decide)) (fun cq => ?_)
        refine lv_iload hx hb dX8_slopeOf_92 (lv_at hl 1 rfl) ?_
        refine lv_iload_n hx hb dX8_slopeOf_94 rfl (lv_at hl 7 rfl) ?_
        have hPc := hP.sub (ws' := []) [] rfl
        refine clRe (E := nI (12 * (5 * r + (c - 1)))) (va_runS (As := [.int (nI (c - 1)), .int (nI r)]) (rest := []) ⟨hx, hb, hml, hown, hts⟩ (c_X8_at l D cI cC cQ (c - 1) r ) (va_cwS (rm := rmX8_at) 2 hts gX8_slopeOf_X8_at rfl rfl rfl (by decide +kernel) ⟨Nat.le_of_ble_eq_true rfl, Nat.le_of_ble_eq_true rfl⟩) ⟨PR.blind, PR.go hPc hK⟩ rfl rfl hl.1 rfl (lv_room (Nat.le_of_ble_eq_true rfl)) dX8_slopeOf_95 ⟨Nat.le_of_ble_eq_true rfl, Nat.le_of_ble_eq_true rfl⟩) ?_
        refine lv_goto (tgt := 107) hx hb dX8_slopeOf_98 (by decide) ?_
        refine lv_istore (lv' := [(10, .int (nI (12 * (5 * r + (c - 1))))), (9, .int (nI (c + 1))), (8, .int (nI (c - 1))), (7, .int (nI 4)), (6, .int (nI c)), (5, .int (G (r * 5 + c) (6 + (0 * 3 + i)))), (0, .ref a), (1, .int (nI c)), (2, .int (nI r)), (3, .int (nI 0)), (4, .int (nI i))]) hx hb dX8_slopeOf_107 hl (by decide) rfl (fun ls hl => ?_)
        refine lv_iload_n hx hb dX8_slopeOf_109 rfl (lv_at hl 9 rfl) ?_
        refine gn_if_ne hx hb (by decide) (tgt := 122) dX8_slopeOf_110 (by decide) (fun cq => absurd cq (by decide)) (fun cq => ?_)
        refine lv_iload hx hb dX8_slopeOf_113 (lv_at hl 1 rfl) ?_
        refine lv_iload_n hx hb dX8_slopeOf_115 rfl (lv_at hl 8 rfl) ?_
        have hPc := hP.sub (ws' := []) [] rfl
        refine clRe (E := nI (12 * (5 * r + (c + 1)))) (va_runS (As := [.int (nI (c + 1)), .int (nI r)]) (rest := []) ⟨hx, hb, hml, hown, hts⟩ (c_X8_at l D cI cC cQ (c + 1) r ) (va_cwS (rm := rmX8_at) 2 hts gX8_slopeOf_X8_at rfl rfl rfl (by decide +kernel) ⟨Nat.le_of_ble_eq_true rfl, Nat.le_of_ble_eq_true rfl⟩) ⟨PR.blind, PR.go hPc hK⟩ rfl rfl hl.1 rfl (lv_room (Nat.le_of_ble_eq_true rfl)) dX8_slopeOf_116 ⟨Nat.le_of_ble_eq_true rfl, Nat.le_of_ble_eq_true rfl⟩) ?_
        refine lv_goto (tgt := 128) hx hb dX8_slopeOf_119 (by decide) ?_
        refine lv_istore (lv' := [(11, .int (nI (12 * (5 * r + (c + 1))))), (10, .int (nI (12 * (5 * r + (c - 1))))), (9, .int (nI (c + 1))), (8, .int (nI (c - 1))), (7, .int (nI 4)), (6, .int (nI c)), (5, .int (G (r * 5 + c) (6 + (0 * 3 + i)))), (0, .ref a), (1, .int (nI c)), (2, .int (nI r)), (3, .int (nI 0)), (4, .int (nI i))]) hx hb dX8_slopeOf_128 hl (by decide) rfl (fun ls hl => ?_)
        refine lv_aload_n hx hb dX8_slopeOf_130 rfl (lv_at hl 7 rfl) ?_
        refine va_get (D := D) (ci := 8) (v := .ref g0) (C := RX8) (T := TX8) (N := 18) hx hb hts iw_X8_slopeOf0_X8 hown hKa hP 0 rfl rfl 0 (by decide) (hts (.fieldLink RX8 7 "ColourPatchesModel" "s" "[I") (by decide +kernel)) (fun _ h9 => h9) rfl dX8_slopeOf_131 ?_
        refine lv_iload hx hb dX8_slopeOf_134 (lv_at hl 0 rfl) ?_
        refine lv_iconst (v := nI 2) hx hb dX8_slopeOf_136 (by decide) ?_
        refine gn_add hx hb dX8_slopeOf_137 ?_
        refine lv_iload hx hb dX8_slopeOf_138 (lv_at hl 11 rfl) ?_
        refine gn_add hx hb dX8_slopeOf_140 ?_
        refine gn_iald hx hb hKa hP 1 0 rfl rfl (k := ((12 * (5 * r + (c + 1))) + 2) + i) (by omega) (by omega) dX8_slopeOf_141 ?_
        rw [show MA G (((12 * (5 * r + (c + 1))) + 2) + i) = G (r * 5 + c + 1) (2 + i) from MA_at _ _ _ _ (by omega) (by omega)]
        refine lv_aload_n hx hb dX8_slopeOf_142 rfl (lv_at hl 7 rfl) ?_
        refine va_get (D := D) (ci := 8) (v := .ref g0) (C := RX8) (T := TX8) (N := 18) hx hb hts iw_X8_slopeOf0_X8 hown hKa hP 0 rfl rfl 0 (by decide) (hts (.fieldLink RX8 7 "ColourPatchesModel" "s" "[I") (by decide +kernel)) (fun _ h9 => h9) rfl dX8_slopeOf_143 ?_
        refine lv_iload hx hb dX8_slopeOf_146 (lv_at hl 1 rfl) ?_
        refine lv_iconst (v := nI 2) hx hb dX8_slopeOf_148 (by decide) ?_
        refine gn_add hx hb dX8_slopeOf_149 ?_
        refine lv_iload hx hb dX8_slopeOf_150 (lv_at hl 11 rfl) ?_
        refine gn_add hx hb dX8_slopeOf_152 ?_
        refine gn_iald hx hb hKa hP 1 0 rfl rfl (k := ((12 * (5 * r + (c - 1))) + 2) + i) (by omega) (by omega) dX8_slopeOf_153 ?_
        rw [show MA G (((12 * (5 * r + (c - 1))) + 2) + i) = G (r * 5 + c - 1) (2 + i) from MA_at _ _ _ _ (by omega) (by omega)]
        refine lv_isub hx hb dX8_slopeOf_154 ?_
        refine lv_istore (lv' := [(12, .int ((G (r * 5 + c + 1) (2 + i)) - (G (r * 5 + c - 1) (2 + i)))), (11, .int (nI (12 * (5 * r + (c + 1))))), (10, .int (nI (12 * (5 * r + (c - 1))))), (9, .int (nI (c + 1))), (8, .int (nI (c - 1))), (7, .int (nI 4)), (6, .int (nI c)), (5, .int (G (r * 5 + c) (6 + (0 * 3 + i)))), (0, .ref a), (1, .int (nI c)), (2, .int (nI r)), (3, .int (nI 0)), (4, .int (nI i))]) hx hb dX8_slopeOf_155 hl (by decide) rfl (fun ls hl => ?_)
        refine lv_iload hx hb dX8_slopeOf_157 (lv_at hl 3 rfl) ?_
        refine lv_iload hx hb dX8_slopeOf_159 (lv_at hl 4 rfl) ?_
        refine gn_sub hx hb (by omega) dX8_slopeOf_161 ?_
        refine lv_iconst (v := nI 1) hx hb dX8_slopeOf_162 (by decide) ?_
        refine gn_icmp_ne hx hb (by omega) (by decide) (tgt := 171) dX8_slopeOf_163 (by decide) (fun c_163 => ?_) (fun c_163 => ?_)
        · refine lv_iload hx hb dX8_slopeOf_171 (lv_at hl 0 rfl) ?_
          refine lv_iconst (v := nI 2) hx hb dX8_slopeOf_173 (by decide) ?_
          have hPc := hP.sub (ws' := []) [] rfl
          refine clRe (E := flI ((G (r * 5 + c + 1) (2 + i)) - (G (r * 5 + c - 1) (2 + i))) (nI 2)) (va_runS (As := [.int ((G (r * 5 + c + 1) (2 + i)) - (G (r * 5 + c - 1) (2 + i))), .int (nI 2)]) (rest := []) ⟨hx, hb, hml, hown, hts⟩ (c_X8_floor l D cI cC cQ ((G (r * 5 + c + 1) (2 + i)) - (G (r * 5 + c - 1) (2 + i))) (nI 2) (by decide)) (va_cwS (rm := rmX8_floor) 2 hts gX8_slopeOf_X8_floor rfl rfl rfl (by decide +kernel) ⟨Nat.le_of_ble_eq_true rfl, Nat.le_of_ble_eq_true rfl⟩) ⟨PR.blind, PR.go hPc hK⟩ rfl rfl hl.1 rfl (lv_room (Nat.le_of_ble_eq_true rfl)) dX8_slopeOf_174 ⟨Nat.le_of_ble_eq_true rfl, Nat.le_of_ble_eq_true rfl⟩) ?_
          have hat : atk (r * 5 + c) 0 = c := atk_0 hc
          exact rtR_i hQ hx hb hr hlk dX8_slopeOf_177 (by unfold slk; rw [if_pos c_27]; unfold sbk; rw [hat, if_neg c_57, if_neg (show ¬ c = lastk 0 from c_74)]; exact flI_2 hG (by omega) (by omega) hi)
        · exact absurd c_163 (by omega)
      · refine lv_iload hx hb dX8_slopeOf_77 (lv_at hl 1 rfl) ?_
        refine lv_goto (tgt := 86) hx hb dX8_slopeOf_79 (by decide) ?_
        refine lv_istore (lv' := [(9, .int (nI 4)), (8, .int (nI (c - 1))), (7, .int (nI 4)), (6, .int (nI c)), (5, .int (G (r * 5 + c) (6 + (0 * 3 + i)))), (0, .ref a), (1, .int (nI c)), (2, .int (nI r)), (3, .int (nI 0)), (4, .int (nI i))]) hx hb dX8_slopeOf_86 hl (by decide) rfl (fun ls hl => ?_)
        refine lv_iload_n hx hb dX8_slopeOf_88 rfl (lv_at hl 8 rfl) ?_
        refine gn_if_ne hx hb (by decide) (tgt := 101) dX8_slopeOf_89 (by decide) (fun cq => absurd cq (by decide)) (fun cq => ?_)
        refine lv_iload hx hb dX8_slopeOf_92 (lv_at hl 1 rfl) ?_
        refine lv_iload_n hx hb dX8_slopeOf_94 rfl (lv_at hl 7 rfl) ?_
        have hPc := hP.sub (ws' := []) [] rfl
        refine clRe (E := nI (12 * (5 * r + (c - 1)))) (va_runS (As := [.int (nI (c - 1)), .int (nI r)]) (rest := []) ⟨hx, hb, hml, hown, hts⟩ (c_X8_at l D cI cC cQ (c - 1) r ) (va_cwS (rm := rmX8_at) 2 hts gX8_slopeOf_X8_at rfl rfl rfl (by decide +kernel) ⟨Nat.le_of_ble_eq_true rfl, Nat.le_of_ble_eq_true rfl⟩) ⟨PR.blind, PR.go hPc hK⟩ rfl rfl hl.1 rfl (lv_room (Nat.le_of_ble_eq_true rfl)) dX8_slopeOf_95 ⟨Nat.le_of_ble_eq_true rfl, Nat.le_of_ble_eq_true rfl⟩) ?_
        refine lv_goto (tgt := 107) hx hb dX8_slopeOf_98 (by decide) ?_
        refine lv_istore (lv' := [(10, .int (nI (12 * (5 * r + (c - 1))))), (9, .int (nI 4)), (8, .int (nI (c - 1))), (7, .int (nI 4)), (6, .int (nI c)), (5, .int (G (r * 5 + c) (6 + (0 * 3 + i)))), (0, .ref a), (1, .int (nI c)), (2, .int (nI r)), (3, .int (nI 0)), (4, .int (nI i))]) hx hb dX8_slopeOf_107 hl (by decide) rfl (fun ls hl => ?_)
        refine lv_iload_n hx hb dX8_slopeOf_109 rfl (lv_at hl 9 rfl) ?_
        refine gn_if_ne hx hb (by decide) (tgt := 122) dX8_slopeOf_110 (by decide) (fun cq => absurd cq (by decide)) (fun cq => ?_)
        refine lv_iload hx hb dX8_slopeOf_113 (lv_at hl 1 rfl) ?_
        refine lv_iload_n hx hb dX8_slopeOf_115 rfl (lv_at hl 8 rfl) ?_
        have hPc := hP.sub (ws' := []) [] rfl
        refine clRe (E := nI (12 * (5 * r + 4))) (va_runS (As := [.int (nI 4), .int (nI r)]) (rest := []) ⟨hx, hb, hml, hown, hts⟩ (c_X8_at l D cI cC cQ 4 r ) (va_cwS (rm := rmX8_at) 2 hts gX8_slopeOf_X8_at rfl rfl rfl (by decide +kernel) ⟨Nat.le_of_ble_eq_true rfl, Nat.le_of_ble_eq_true rfl⟩) ⟨PR.blind, PR.go hPc hK⟩ rfl rfl hl.1 rfl (lv_room (Nat.le_of_ble_eq_true rfl)) dX8_slopeOf_116 ⟨Nat.le_of_ble_eq_true rfl, Nat.le_of_ble_eq_true rfl⟩) ?_
        refine lv_goto (tgt := 128) hx hb dX8_slopeOf_119 (by decide) ?_
        refine lv_istore (lv' := [(11, .int (nI (12 * (5 * r + 4)))), (10, .int (nI (12 * (5 * r + (c - 1))))), (9, .int (nI 4)), (8, .int (nI (c - 1))), (7, .int (nI 4)), (6, .int (nI c)), (5, .int (G (r * 5 + c) (6 + (0 * 3 + i)))), (0, .ref a), (1, .int (nI c)), (2, .int (nI r)), (3, .int (nI 0)), (4, .int (nI i))]) hx hb dX8_slopeOf_128 hl (by decide) rfl (fun ls hl => ?_)
        refine lv_aload_n hx hb dX8_slopeOf_130 rfl (lv_at hl 7 rfl) ?_
        refine va_get (D := D) (ci := 8) (v := .ref g0) (C := RX8) (T := TX8) (N := 18) hx hb hts iw_X8_slopeOf0_X8 hown hKa hP 0 rfl rfl 0 (by decide) (hts (.fieldLink RX8 7 "ColourPatchesModel" "s" "[I") (by decide +kernel)) (fun _ h9 => h9) rfl dX8_slopeOf_131 ?_
        refine lv_iload hx hb dX8_slopeOf_134 (lv_at hl 0 rfl) ?_
        refine lv_iconst (v := nI 2) hx hb dX8_slopeOf_136 (by decide) ?_
        refine gn_add hx hb dX8_slopeOf_137 ?_
        refine lv_iload hx hb dX8_slopeOf_138 (lv_at hl 11 rfl) ?_
        refine gn_add hx hb dX8_slopeOf_140 ?_
        refine gn_iald hx hb hKa hP 1 0 rfl rfl (k := ((12 * (5 * r + 4)) + 2) + i) (by omega) (by omega) dX8_slopeOf_141 ?_
        rw [show MA G (((12 * (5 * r + 4)) + 2) + i) = G (r * 5 + c) (2 + i) from MA_at _ _ _ _ (by omega) (by omega)]
        refine lv_aload_n hx hb dX8_slopeOf_142 rfl (lv_at hl 7 rfl) ?_
        refine va_get (D := D) (ci := 8) (v := .ref g0) (C := RX8) (T := TX8) (N := 18) hx hb hts iw_X8_slopeOf0_X8 hown hKa hP 0 rfl rfl 0 (by decide) (hts (.fieldLink RX8 7 "ColourPatchesModel" "s" "[I") (by decide +kernel)) (fun _ h9 => h9) rfl dX8_slopeOf_143 ?_
        refine lv_iload hx hb dX8_slopeOf_146 (lv_at hl 1 rfl) ?_
        refine lv_iconst (v := nI 2) hx hb dX8_slopeOf_148 (by decide) ?_
        refine gn_add hx hb dX8_slopeOf_149 ?_
        refine lv_iload hx hb dX8_slopeOf_150 (lv_at hl 11 rfl) ?_
        refine gn_add hx hb dX8_slopeOf_152 ?_
        refine gn_iald hx hb hKa hP 1 0 rfl rfl (k := ((12 * (5 * r + (c - 1))) + 2) + i) (by omega) (by omega) dX8_slopeOf_153 ?_
        rw [show MA G (((12 * (5 * r + (c - 1))) + 2) + i) = G (r * 5 + c - 1) (2 + i) from MA_at _ _ _ _ (by omega) (by omega)]
        refine lv_isub hx hb dX8_slopeOf_154 ?_
        refine lv_istore (lv' := [(12, .int ((G (r * 5 + c) (2 + i)) - (G (r * 5 + c - 1) (2 + i)))), (11, .int (nI (12 * (5 * r + 4)))), (10, .int (nI (12 * (5 * r + (c - 1))))), (9, .int (nI 4)), (8, .int (nI (c - 1))), (7, .int (nI 4)), (6, .int (nI c)), (5, .int (G (r * 5 + c) (6 + (0 * 3 + i)))), (0, .ref a), (1, .int (nI c)), (2, .int (nI r)), (3, .int (nI 0)), (4, .int (nI i))]) hx hb dX8_slopeOf_155 hl (by decide) rfl (fun ls hl => ?_)
        refine lv_iload hx hb dX8_slopeOf_157 (lv_at hl 3 rfl) ?_
        refine lv_iload hx hb dX8_slopeOf_159 (lv_at hl 4 rfl) ?_
        refine gn_sub hx hb (by omega) dX8_slopeOf_161 ?_
        refine lv_iconst (v := nI 1) hx hb dX8_slopeOf_162 (by decide) ?_
        refine gn_icmp_ne hx hb (by omega) (by decide) (tgt := 171) dX8_slopeOf_163 (by decide) (fun c_163 => ?_) (fun c_163 => ?_)
        · exact absurd c_163 (by omega)
        · refine lv_iload hx hb dX8_slopeOf_166 (lv_at hl 0 rfl) ?_
          refine lv_goto (tgt := 177) hx hb dX8_slopeOf_168 (by decide) ?_
          have hat : atk (r * 5 + c) 0 = c := atk_0 hc
          exact rtR_i hQ hx hb hr hlk dX8_slopeOf_177 (by unfold slk; rw [if_pos c_27]; unfold sbk; rw [hat, if_neg c_57, if_pos (show c = lastk 0 from c_74)]; rfl)
    · refine lv_iconst (v := nI 0) hx hb dX8_slopeOf_60 (by decide) ?_
      refine lv_goto (tgt := 68) hx hb dX8_slopeOf_61 (by decide) ?_
      refine lv_istore (lv' := [(8, .int (nI 0)), (7, .int (nI 4)), (6, .int (nI c)), (5, .int (G (r * 5 + c) (6 + (0 * 3 + i)))), (0, .ref a), (1, .int (nI c)), (2, .int (nI r)), (3, .int (nI 0)), (4, .int (nI i))]) hx hb dX8_slopeOf_68 hl (by decide) rfl (fun ls hl => ?_)
      refine lv_iload hx hb dX8_slopeOf_70 (lv_at hl 2 rfl) ?_
      refine lv_iload hx hb dX8_slopeOf_72 (lv_at hl 1 rfl) ?_
      refine gn_icmp_ne hx hb (by omega) (by decide) (tgt := 82) dX8_slopeOf_74 (by decide) (fun c_74 => ?_) (fun c_74 => ?_)
      · refine lv_iload hx hb dX8_slopeOf_82 (lv_at hl 2 rfl) ?_
        refine lv_iconst (v := nI 1) hx hb dX8_slopeOf_84 (by decide) ?_
        refine gn_add hx hb dX8_slopeOf_85 ?_
        refine lv_istore (lv' := [(9, .int (nI (c + 1))), (8, .int (nI 0)), (7, .int (nI 4)), (6, .int (nI c)), (5, .int (G (r * 5 + c) (6 + (0 * 3 + i)))), (0, .ref a), (1, .int (nI c)), (2, .int (nI r)), (3, .int (nI 0)), (4, .int (nI i))]) hx hb dX8_slopeOf_86 hl (by decide) rfl (fun ls hl => ?_)
        refine lv_iload_n hx hb dX8_slopeOf_88 rfl (lv_at hl 8 rfl) ?_
        refine gn_if_ne hx hb (by decide) (tgt := 101) dX8_slopeOf_89 (by decide) (fun cq => absurd cq (by decide)) (fun cq => ?_)
        refine lv_iload hx hb dX8_slopeOf_92 (lv_at hl 1 rfl) ?_
        refine lv_iload_n hx hb dX8_slopeOf_94 rfl (lv_at hl 7 rfl) ?_
        have hPc := hP.sub (ws' := []) [] rfl
        refine clRe (E := nI (12 * (5 * r + 0))) (va_runS (As := [.int (nI 0), .int (nI r)]) (rest := []) ⟨hx, hb, hml, hown, hts⟩ (c_X8_at l D cI cC cQ 0 r ) (va_cwS (rm := rmX8_at) 2 hts gX8_slopeOf_X8_at rfl rfl rfl (by decide +kernel) ⟨Nat.le_of_ble_eq_true rfl, Nat.le_of_ble_eq_true rfl⟩) ⟨PR.blind, PR.go hPc hK⟩ rfl rfl hl.1 rfl (lv_room (Nat.le_of_ble_eq_true rfl)) dX8_slopeOf_95 ⟨Nat.le_of_ble_eq_true rfl, Nat.le_of_ble_eq_true rfl⟩) ?_
        refine lv_goto (tgt := 107) hx hb dX8_slopeOf_98 (by decide) ?_
        refine lv_istore (lv' := [(10, .int (nI (12 * (5 * r + 0)))), (9, .int (nI (c + 1))), (8, .int (nI 0)), (7, .int (nI 4)), (6, .int (nI c)), (5, .int (G (r * 5 + c) (6 + (0 * 3 + i)))), (0, .ref a), (1, .int (nI c)), (2, .int (nI r)), (3, .int (nI 0)), (4, .int (nI i))]) hx hb dX8_slopeOf_107 hl (by decide) rfl (fun ls hl => ?_)
        refine lv_iload_n hx hb dX8_slopeOf_109 rfl (lv_at hl 9 rfl) ?_
        refine gn_if_ne hx hb (by decide) (tgt := 122) dX8_slopeOf_110 (by decide) (fun cq => absurd cq (by decide)) (fun cq => ?_)
        refine lv_iload hx hb dX8_slopeOf_113 (lv_at hl 1 rfl) ?_
        refine lv_iload_n hx hb dX8_slopeOf_115 rfl (lv_at hl 8 rfl) ?_
        have hPc := hP.sub (ws' := []) [] rfl
        refine clRe (E := nI (12 * (5 * r + (c + 1)))) (va_runS (As := [.int (nI (c + 1)), .int (nI r)]) (rest := []) ⟨hx, hb, hml, hown, hts⟩ (c_X8_at l D cI cC cQ (c + 1) r ) (va_cwS (rm := rmX8_at) 2 hts gX8_slopeOf_X8_at rfl rfl rfl (by decide +kernel) ⟨Nat.le_of_ble_eq_true rfl, Nat.le_of_ble_eq_true rfl⟩) ⟨PR.blind, PR.go hPc hK⟩ rfl rfl hl.1 rfl (lv_room (Nat.le_of_ble_eq_true rfl)) dX8_slopeOf_116 ⟨Nat.le_of_ble_eq_true rfl, Nat.le_of_ble_eq_true rfl⟩) ?_
        refine lv_goto (tgt := 128) hx hb dX8_slopeOf_119 (by decide) ?_
        refine lv_istore (lv' := [(11, .int (nI (12 * (5 * r + (c + 1))))), (10, .int (nI (12 * (5 * r + 0)))), (9, .int (nI (c + 1))), (8, .int (nI 0)), (7, .int (nI 4)), (6, .int (nI c)), (5, .int (G (r * 5 + c) (6 + (0 * 3 + i)))), (0, .ref a), (1, .int (nI c)), (2, .int (nI r)), (3, .int (nI 0)), (4, .int (nI i))]) hx hb dX8_slopeOf_128 hl (by decide) rfl (fun ls hl => ?_)
        refine lv_aload_n hx hb dX8_slopeOf_130 rfl (lv_at hl 7 rfl) ?_
        refine va_get (D := D) (ci := 8) (v := .ref g0) (C := RX8) (T := TX8) (N := 18) hx hb hts iw_X8_slopeOf0_X8 hown hKa hP 0 rfl rfl 0 (by decide) (hts (.fieldLink RX8 7 "ColourPatchesModel" "s" "[I") (by decide +kernel)) (fun _ h9 => h9) rfl dX8_slopeOf_131 ?_
        refine lv_iload hx hb dX8_slopeOf_134 (lv_at hl 0 rfl) ?_
        refine lv_iconst (v := nI 2) hx hb dX8_slopeOf_136 (by decide) ?_
        refine gn_add hx hb dX8_slopeOf_137 ?_
        refine lv_iload hx hb dX8_slopeOf_138 (lv_at hl 11 rfl) ?_
        refine gn_add hx hb dX8_slopeOf_140 ?_
        refine gn_iald hx hb hKa hP 1 0 rfl rfl (k := ((12 * (5 * r + (c + 1))) + 2) + i) (by omega) (by omega) dX8_slopeOf_141 ?_
        rw [show MA G (((12 * (5 * r + (c + 1))) + 2) + i) = G (r * 5 + c + 1) (2 + i) from MA_at _ _ _ _ (by omega) (by omega)]
        refine lv_aload_n hx hb dX8_slopeOf_142 rfl (lv_at hl 7 rfl) ?_
        refine va_get (D := D) (ci := 8) (v := .ref g0) (C := RX8) (T := TX8) (N := 18) hx hb hts iw_X8_slopeOf0_X8 hown hKa hP 0 rfl rfl 0 (by decide) (hts (.fieldLink RX8 7 "ColourPatchesModel" "s" "[I") (by decide +kernel)) (fun _ h9 => h9) rfl dX8_slopeOf_143 ?_
        refine lv_iload hx hb dX8_slopeOf_146 (lv_at hl 1 rfl) ?_
        refine lv_iconst (v := nI 2) hx hb dX8_slopeOf_148 (by decide) ?_
        refine gn_add hx hb dX8_slopeOf_149 ?_
        refine lv_iload hx hb dX8_slopeOf_150 (lv_at hl 11 rfl) ?_
        refine gn_add hx hb dX8_slopeOf_152 ?_
        refine gn_iald hx hb hKa hP 1 0 rfl rfl (k := ((12 * (5 * r + 0)) + 2) + i) (by omega) (by omega) dX8_slopeOf_153 ?_
        rw [show MA G (((12 * (5 * r + 0)) + 2) + i) = G (r * 5 + c) (2 + i) from MA_at _ _ _ _ (by omega) (by omega)]
        refine lv_isub hx hb dX8_slopeOf_154 ?_
        refine lv_istore (lv' := [(12, .int ((G (r * 5 + c + 1) (2 + i)) - (G (r * 5 + c) (2 + i)))), (11, .int (nI (12 * (5 * r + (c + 1))))), (10, .int (nI (12 * (5 * r + 0)))), (9, .int (nI (c + 1))), (8, .int (nI 0)), (7, .int (nI 4)), (6, .int (nI c)), (5, .int (G (r * 5 + c) (6 + (0 * 3 + i)))), (0, .ref a), (1, .int (nI c)), (2, .int (nI r)), (3, .int (nI 0)), (4, .int (nI i))]) hx hb dX8_slopeOf_155 hl (by decide) rfl (fun ls hl => ?_)
        refine lv_iload hx hb dX8_slopeOf_157 (lv_at hl 3 rfl) ?_
        refine lv_iload hx hb dX8_slopeOf_159 (lv_at hl 4 rfl) ?_
        refine gn_sub hx hb (by omega) dX8_slopeOf_161 ?_
        refine lv_iconst (v := nI 1) hx hb dX8_slopeOf_162 (by decide) ?_
        refine gn_icmp_ne hx hb (by omega) (by decide) (tgt := 171) dX8_slopeOf_163 (by decide) (fun c_163 => ?_) (fun c_163 => ?_)
        · exact absurd c_163 (by omega)
        · refine lv_iload hx hb dX8_slopeOf_166 (lv_at hl 0 rfl) ?_
          refine lv_goto (tgt := 177) hx hb dX8_slopeOf_168 (by decide) ?_
          have hat : atk (r * 5 + c) 0 = c := atk_0 hc
          exact rtR_i hQ hx hb hr hlk dX8_slopeOf_177 (by unfold slk; rw [if_pos c_27]; unfold sbk; rw [hat, if_pos c_57]; rfl)
      · exact absurd c_74 (by omega)
  · refine lv_iload hx hb dX8_slopeOf_30 (lv_at hl 0 rfl) ?_
    exact rtR_i hQ hx hb hr hlk dX8_slopeOf_32 (by unfold slk; rw [if_neg c_27])
abbrev rmX8_slopeOf1 : Room := { frames := 1, cells := 0, slots := 0, locals := 21 }
set_option maxRecDepth 20000 in
theorem iw_X8_slopeOf1_X8 : ∀ w ∈ u_ws RX8 TX8 18, w ∈ wsX8_slopeOf := by decide +kernel
set_option maxHeartbeats 4000000 in
set_option maxRecDepth 100000 in
theorem c_X8_slopeOf1 (l : Launch) (D : va_G) (cI cC cQ : ClassId) (a g0 g1 g2 g3 g4 g5 g6 g7 : Nat) (ik rn ps ty sp fr re cau co cm : Int32) (G : Nat → Nat → Int32) (c r i : Nat) (hG : OKG G) (hc : c < 5) (hr9 : r < 4) (hi : i < 3) : Met l yX8_slopeOf wsX8_slopeOf rmX8_slopeOf1 (PR D cI cC cQ [.ref a, .int (nI c), .int (nI r), .int (nI 1), .int (nI i)] [(a, .inr (8, [.ref g0, .ref g1, .ref g2, .ref g3, .int ik, .int rn, .int ps, .ref g4, .int ty, .ref g5, .ref g6, .int sp, .int fr, .int re, .int cau, .int co, .int cm, .ref g7])), (g0, .inl (cI, 240, .inl (MA G)))]) (vp_Si (fun z => z = slk G (r * 5 + c) 1 i)) 0 0 (fun _ => False) := by
  refine metR (cc := cX8_slopeOf) (maxL := 13) (ret := (some .int)) (by decide) rfl (Nat.le_of_ble_eq_true rfl) ?_
  intro pg ev s mi args below meth cd ls Q hQ hx hb hml hr hts hown hlk hK hP hl
  have hKa := hK.1
  have hl : lv_has ls 13 [(0, .ref a), (1, .int (nI c)), (2, .int (nI r)), (3, .int (nI 1)), (4, .int (nI i))] := hl
  refine lv_aload_n hx hb dX8_slopeOf_0 rfl (lv_at hl 0 rfl) ?_
  refine va_get (D := D) (ci := 8) (v := .ref g0) (C := RX8) (T := TX8) (N := 18) hx hb hts iw_X8_slopeOf1_X8 hown hKa hP 0 rfl rfl 0 (by decide) (hts (.fieldLink RX8 7 "ColourPatchesModel" "s" "[I") (by decide +kernel)) (fun _ h9 => h9) rfl dX8_slopeOf_1 ?_
  refine lv_iload_n hx hb dX8_slopeOf_4 rfl (lv_at hl 1 rfl) ?_
  refine lv_iload_n hx hb dX8_slopeOf_5 rfl (lv_at hl 2 rfl) ?_
  have hPc := hP.sub (ws' := []) [] rfl
  refine clRe (E := nI (12 * (5 * r + c))) (va_runS (As := [.int (nI c), .int (nI r)]) (rest := [.ref g0]) ⟨hx, hb, hml, hown, hts⟩ (c_X8_at l D cI cC cQ c r ) (va_cwS (rm := rmX8_at) 2 hts gX8_slopeOf_X8_at rfl rfl rfl (by decide +kernel) ⟨Nat.le_of_ble_eq_true rfl, Nat.le_of_ble_eq_true rfl⟩) ⟨PR.blind, PR.go hPc hK⟩ rfl rfl hl.1 rfl (lv_room (Nat.le_of_ble_eq_true rfl)) dX8_slopeOf_6 ⟨Nat.le_of_ble_eq_true rfl, Nat.le_of_ble_eq_true rfl⟩) ?_
  refine lv_bipush (v := nI 6) hx hb dX8_slopeOf_9 (by decide) ?_
  refine gn_add hx hb dX8_slopeOf_11 ?_
  refine lv_iconst (v := nI 3) hx hb dX8_slopeOf_12 (by decide) ?_
  refine lv_iload_n hx hb dX8_slopeOf_13 rfl (lv_at hl 3 rfl) ?_
  refine gn_mul hx hb dX8_slopeOf_14 ?_
  refine gn_add hx hb dX8_slopeOf_15 ?_
  refine lv_iload hx hb dX8_slopeOf_16 (lv_at hl 4 rfl) ?_
  refine gn_add hx hb dX8_slopeOf_18 ?_
  refine gn_iald hx hb hKa hP 1 0 rfl rfl (k := (((12 * (5 * r + c)) + 6) + (3 * 1)) + i) (by omega) (by omega) dX8_slopeOf_19 ?_
  rw [show MA G ((((12 * (5 * r + c)) + 6) + (3 * 1)) + i) = G (r * 5 + c) (6 + (1 * 3 + i)) from MA_at _ _ _ _ (by omega) (by omega)]
  refine lv_istore (lv' := [(5, .int (G (r * 5 + c) (6 + (1 * 3 + i)))), (0, .ref a), (1, .int (nI c)), (2, .int (nI r)), (3, .int (nI 1)), (4, .int (nI i))]) hx hb dX8_slopeOf_20 hl (by decide) rfl (fun ls hl => ?_)
  refine lv_iload hx hb dX8_slopeOf_22 (lv_at hl 0 rfl) ?_
  refine lv_sipush (v := nI 999) hx hb dX8_slopeOf_24 (by decide) ?_
  refine lv_icmp_eq hx hb (tgt := 33) dX8_slopeOf_27 (by decide) (fun c_27 => ?_) (fun c_27 => ?_)
  · refine lv_iload_n hx hb dX8_slopeOf_33 rfl (lv_at hl 4 rfl) ?_
    refine gn_if_ne hx hb (by decide) (tgt := 41) dX8_slopeOf_34 (by decide) (fun cq => ?_) (fun cq => absurd cq (by decide))
    refine lv_iload_n hx hb dX8_slopeOf_41 rfl (lv_at hl 3 rfl) ?_
    refine lv_istore (lv' := [(6, .int (nI r)), (5, .int (G (r * 5 + c) (6 + (1 * 3 + i)))), (0, .ref a), (1, .int (nI c)), (2, .int (nI r)), (3, .int (nI 1)), (4, .int (nI i))]) hx hb dX8_slopeOf_42 hl (by decide) rfl (fun ls hl => ?_)
    refine lv_iload_n hx hb dX8_slopeOf_44 rfl (lv_at hl 5 rfl) ?_
    refine gn_if_ne hx hb (by decide) (tgt := 52) dX8_slopeOf_45 (by decide) (fun cq => ?_) (fun cq => absurd cq (by decide))
    refine lv_iconst (v := nI 3) hx hb dX8_slopeOf_52 (by decide) ?_
    refine lv_istore (lv' := [(7, .int (nI 3)), (6, .int (nI r)), (5, .int (G (r * 5 + c) (6 + (1 * 3 + i)))), (0, .ref a), (1, .int (nI c)), (2, .int (nI r)), (3, .int (nI 1)), (4, .int (nI i))]) hx hb dX8_slopeOf_53 hl (by decide) rfl (fun ls hl => ?_)
    refine lv_iload hx hb dX8_slopeOf_55 (lv_at hl 1 rfl) ?_
    refine gn_if_ne hx hb (by omega) (tgt := 64) dX8_slopeOf_57 (by decide) (fun c_57 => ?_) (fun c_57 => ?_)
    · refine lv_iload hx hb dX8_slopeOf_64 (lv_at hl 1 rfl) ?_
      refine lv_iconst (v := nI 1) hx hb dX8_slopeOf_66 (by decide) ?_
      refine gn_sub hx hb (by omega) dX8_slopeOf_67 ?_
      refine lv_istore (lv' := [(8, .int (nI (r - 1))), (7, .int (nI 3)), (6, .int (nI r)), (5, .int (G (r * 5 + c) (6 + (1 * 3 + i)))), (0, .ref a), (1, .int (nI c)), (2, .int (nI r)), (3, .int (nI 1)), (4, .int (nI i))]) hx hb dX8_slopeOf_68 hl (by decide) rfl (fun ls hl => ?_)
      refine lv_iload hx hb dX8_slopeOf_70 (lv_at hl 2 rfl) ?_
      refine lv_iload hx hb dX8_slopeOf_72 (lv_at hl 1 rfl) ?_
      refine gn_icmp_ne hx hb (by omega) (by decide) (tgt := 82) dX8_slopeOf_74 (by decide) (fun c_74 => ?_) (fun c_74 => ?_)
      · refine lv_iload hx hb dX8_slopeOf_82 (lv_at hl 2 rfl) ?_
        refine lv_iconst (v := nI 1) hx hb dX8_slopeOf_84 (by decide) ?_
        refine gn_add hx hb dX8_slopeOf_85 ?_
        refine lv_istore (lv' := [(9, .int (nI (r + 1))), (8, .int (nI (r - 1))), (7, .int (nI 3)), (6, .int (nI r)), (5, .int (G (r * 5 + c) (6 + (1 * 3 + i)))), (0, .ref a), (1, .int (nI c)), (2, .int (nI r)), (3, .int (nI 1)), (4, .int (nI i))]) hx hb dX8_slopeOf_86 hl (by decide) rfl (fun ls hl => ?_)
        refine lv_iload_n hx hb dX8_slopeOf_88 rfl (lv_at hl 8 rfl) ?_
        refine gn_if_ne hx hb (by decide) (tgt := 101) dX8_slopeOf_89 (by decide) (fun cq => ?_) (fun cq => absurd cq (by decide))
        refine lv_iload_n hx hb dX8_slopeOf_101 rfl (lv_at hl 6 rfl) ?_
        refine lv_iload hx hb dX8_slopeOf_102 (lv_at hl 1 rfl) ?_
        have hPc := hP.sub (ws' := []) [] rfl
        refine clRe (E := nI (12 * (5 * (r - 1) + c))) (va_runS (As := [.int (nI c), .int (nI (r - 1))]) (rest := []) ⟨hx, hb, hml, hown, hts⟩ (c_X8_at l D cI cC cQ c (r - 1) ) (va_cwS (rm := rmX8_at) 2 hts gX8_slopeOf_X8_at rfl rfl rfl (by decide +kernel) ⟨Nat.le_of_ble_eq_true rfl, Nat.le_of_ble_eq_true rfl⟩) ⟨PR.blind, PR.go hPc hK⟩ rfl rfl hl.1 rfl (lv_room (Nat.le_of_ble_eq_true rfl)) dX8_slopeOf_104 ⟨Nat.le_of_ble_eq_true rfl, Nat.le_of_ble_eq_true rfl⟩) ?_
        refine lv_istore (lv' := [(10, .int (nI (12 * (5 * (r - 1) + c)))), (9, .int (nI (r + 1))), (8, .int (nI (r - 1))), (7, .int (nI 3)), (6, .int (nI r)), (5, .int (G (r * 5 + c) (6 + (1 * 3 + i)))), (0, .ref a), (1, .int (nI c)), (2, .int (nI r)), (3, .int (nI 1)), (4, .int (nI i))]) hx hb dX8_slopeOf_107 hl (by decide) rfl (fun ls hl => ?_)
        refine lv_iload_n hx hb dX8_slopeOf_109 rfl (lv_at hl 9 rfl) ?_
        refine gn_if_ne hx hb (by decide) (tgt := 122) dX8_slopeOf_110 (by decide) (fun cq => ?_) (fun cq => absurd cq (by decide))
        refine lv_iload_n hx hb dX8_slopeOf_122 rfl (lv_at hl 7 rfl) ?_
        refine lv_iload hx hb dX8_slopeOf_123 (lv_at hl 1 rfl) ?_
        have hPc := hP.sub (ws' := []) [] rfl
        refine clRe (E := nI (12 * (5 * (r + 1) + c))) (va_runS (As := [.int (nI c), .int (nI (r + 1))]) (rest := []) ⟨hx, hb, hml, hown, hts⟩ (c_X8_at l D cI cC cQ c (r + 1) ) (va_cwS (rm := rmX8_at) 2 hts gX8_slopeOf_X8_at rfl rfl rfl (by decide +kernel) ⟨Nat.le_of_ble_eq_true rfl, Nat.le_of_ble_eq_true rfl⟩) ⟨PR.blind, PR.go hPc hK⟩ rfl rfl hl.1 rfl (lv_room (Nat.le_of_ble_eq_true rfl)) dX8_slopeOf_125 ⟨Nat.le_of_ble_eq_true rfl, Nat.le_of_ble_eq_true rfl⟩) ?_
        refine lv_istore (lv' := [(11, .int (nI (12 * (5 * (r + 1) + c)))), (10, .int (nI (12 * (5 * (r - 1) + c)))), (9, .int (nI (r + 1))), (8, .int (nI (r - 1))), (7, .int (nI 3)), (6, .int (nI r)), (5, .int (G (r * 5 + c) (6 + (1 * 3 + i)))), (0, .ref a), (1, .int (nI c)), (2, .int (nI r)), (3, .int (nI 1)), (4, .int (nI i))]) hx hb dX8_slopeOf_128 hl (by decide) rfl (fun ls hl => ?_)
        refine lv_aload_n hx hb dX8_slopeOf_130 rfl (lv_at hl 7 rfl) ?_
        refine va_get (D := D) (ci := 8) (v := .ref g0) (C := RX8) (T := TX8) (N := 18) hx hb hts iw_X8_slopeOf1_X8 hown hKa hP 0 rfl rfl 0 (by decide) (hts (.fieldLink RX8 7 "ColourPatchesModel" "s" "[I") (by decide +kernel)) (fun _ h9 => h9) rfl dX8_slopeOf_131 ?_
        refine lv_iload hx hb dX8_slopeOf_134 (lv_at hl 0 rfl) ?_
        refine lv_iconst (v := nI 2) hx hb dX8_slopeOf_136 (by decide) ?_
        refine gn_add hx hb dX8_slopeOf_137 ?_
        refine lv_iload hx hb dX8_slopeOf_138 (lv_at hl 11 rfl) ?_
        refine gn_add hx hb dX8_slopeOf_140 ?_
        refine gn_iald hx hb hKa hP 1 0 rfl rfl (k := ((12 * (5 * (r + 1) + c)) + 2) + i) (by omega) (by omega) dX8_slopeOf_141 ?_
        rw [show MA G (((12 * (5 * (r + 1) + c)) + 2) + i) = G (r * 5 + c + 5) (2 + i) from MA_at _ _ _ _ (by omega) (by omega)]
        refine lv_aload_n hx hb dX8_slopeOf_142 rfl (lv_at hl 7 rfl) ?_
        refine va_get (D := D) (ci := 8) (v := .ref g0) (C := RX8) (T := TX8) (N := 18) hx hb hts iw_X8_slopeOf1_X8 hown hKa hP 0 rfl rfl 0 (by decide) (hts (.fieldLink RX8 7 "ColourPatchesModel" "s" "[I") (by decide +kernel)) (fun _ h9 => h9) rfl dX8_slopeOf_143 ?_
        refine lv_iload hx hb dX8_slopeOf_146 (lv_at hl 1 rfl) ?_
        refine lv_iconst (v := nI 2) hx hb dX8_slopeOf_148 (by decide) ?_
        refine gn_add hx hb dX8_slopeOf_149 ?_
        refine lv_iload hx hb dX8_slopeOf_150 (lv_at hl 11 rfl) ?_
        refine gn_add hx hb dX8_slopeOf_152 ?_
        refine gn_iald hx hb hKa hP 1 0 rfl rfl (k := ((12 * (5 * (r - 1) + c)) + 2) + i) (by omega) (by omega) dX8_slopeOf_153 ?_
        rw [show MA G (((12 * (5 * (r - 1) + c)) + 2) + i) = G (r * 5 + c - 5) (2 + i) from MA_at _ _ _ _ (by omega) (by omega)]
        refine lv_isub hx hb dX8_slopeOf_154 ?_
        refine lv_istore (lv' := [(12, .int ((G (r * 5 + c + 5) (2 + i)) - (G (r * 5 + c - 5) (2 + i)))), (11, .int (nI (12 * (5 * (r + 1) + c)))), (10, .int (nI (12 * (5 * (r - 1) + c)))), (9, .int (nI (r + 1))), (8, .int (nI (r - 1))), (7, .int (nI 3)), (6, .int (nI r)), (5, .int (G (r * 5 + c) (6 + (1 * 3 + i)))), (0, .ref a), (1, .int (nI c)), (2, .int (nI r)), (3, .int (nI 1)), (4, .int (nI i))]) hx hb dX8_slopeOf_155 hl (by decide) rfl (fun ls hl => ?_)
        refine lv_iload hx hb dX8_slopeOf_157 (lv_at hl 3 rfl) ?_
        refine lv_iload hx hb dX8_slopeOf_159 (lv_at hl 4 rfl) ?_
        refine gn_sub hx hb (by omega) dX8_slopeOf_161 ?_
        refine lv_iconst (v := nI 1) hx hb dX8_slopeOf_162 (by decide) ?_
        refine gn_icmp_ne hx hb (by omega) (by decide) (tgt := 171) dX8_slopeOf_163 (by decide) (fun c_163 => ?_) (fun c_163 => ?_)
        · refine lv_iload hx hb dX8_slopeOf_171 (lv_at hl 0 rfl) ?_
          refine lv_iconst (v := nI 2) hx hb dX8_slopeOf_173 (by decide) ?_
          have hPc := hP.sub (ws' := []) [] rfl
          refine clRe (E := flI ((G (r * 5 + c + 5) (2 + i)) - (G (r * 5 + c - 5) (2 + i))) (nI 2)) (va_runS (As := [.int ((G (r * 5 + c + 5) (2 + i)) - (G (r * 5 + c - 5) (2 + i))), .int (nI 2)]) (rest := []) ⟨hx, hb, hml, hown, hts⟩ (c_X8_floor l D cI cC cQ ((G (r * 5 + c + 5) (2 + i)) - (G (r * 5 + c - 5) (2 + i))) (nI 2) (by decide)) (va_cwS (rm := rmX8_floor) 2 hts gX8_slopeOf_X8_floor rfl rfl rfl (by decide +kernel) ⟨Nat.le_of_ble_eq_true rfl, Nat.le_of_ble_eq_true rfl⟩) ⟨PR.blind, PR.go hPc hK⟩ rfl rfl hl.1 rfl (lv_room (Nat.le_of_ble_eq_true rfl)) dX8_slopeOf_174 ⟨Nat.le_of_ble_eq_true rfl, Nat.le_of_ble_eq_true rfl⟩) ?_
          have hat : atk (r * 5 + c) 1 = r := atk_1 hc
          exact rtR_i hQ hx hb hr hlk dX8_slopeOf_177 (by unfold slk; rw [if_pos c_27]; unfold sbk; rw [hat, if_neg c_57, if_neg (show ¬ r = lastk 1 from c_74)]; exact flI_2 hG (by omega) (by omega) hi)
        · exact absurd c_163 (by omega)
      · refine lv_iload hx hb dX8_slopeOf_77 (lv_at hl 1 rfl) ?_
        refine lv_goto (tgt := 86) hx hb dX8_slopeOf_79 (by decide) ?_
        refine lv_istore (lv' := [(9, .int (nI 3)), (8, .int (nI (r - 1))), (7, .int (nI 3)), (6, .int (nI r)), (5, .int (G (r * 5 + c) (6 + (1 * 3 + i)))), (0, .ref a), (1, .int (nI c)), (2, .int (nI r)), (3, .int (nI 1)), (4, .int (nI i))]) hx hb dX8_slopeOf_86 hl (by decide) rfl (fun ls hl => ?_)
        refine lv_iload_n hx hb dX8_slopeOf_88 rfl (lv_at hl 8 rfl) ?_
        refine gn_if_ne hx hb (by decide) (tgt := 101) dX8_slopeOf_89 (by decide) (fun cq => ?_) (fun cq => absurd cq (by decide))
        refine lv_iload_n hx hb dX8_slopeOf_101 rfl (lv_at hl 6 rfl) ?_
        refine lv_iload hx hb dX8_slopeOf_102 (lv_at hl 1 rfl) ?_
        have hPc := hP.sub (ws' := []) [] rfl
        refine clRe (E := nI (12 * (5 * (r - 1) + c))) (va_runS (As := [.int (nI c), .int (nI (r - 1))]) (rest := []) ⟨hx, hb, hml, hown, hts⟩ (c_X8_at l D cI cC cQ c (r - 1) ) (va_cwS (rm := rmX8_at) 2 hts gX8_slopeOf_X8_at rfl rfl rfl (by decide +kernel) ⟨Nat.le_of_ble_eq_true rfl, Nat.le_of_ble_eq_true rfl⟩) ⟨PR.blind, PR.go hPc hK⟩ rfl rfl hl.1 rfl (lv_room (Nat.le_of_ble_eq_true rfl)) dX8_slopeOf_104 ⟨Nat.le_of_ble_eq_true rfl, Nat.le_of_ble_eq_true rfl⟩) ?_
        refine lv_istore (lv' := [(10, .int (nI (12 * (5 * (r - 1) + c)))), (9, .int (nI 3)), (8, .int (nI (r - 1))), (7, .int (nI 3)), (6, .int (nI r)), (5, .int (G (r * 5 + c) (6 + (1 * 3 + i)))), (0, .ref a), (1, .int (nI c)), (2, .int (nI r)), (3, .int (nI 1)), (4, .int (nI i))]) hx hb dX8_slopeOf_107 hl (by decide) rfl (fun ls hl => ?_)
        refine lv_iload_n hx hb dX8_slopeOf_109 rfl (lv_at hl 9 rfl) ?_
        refine gn_if_ne hx hb (by decide) (tgt := 122) dX8_slopeOf_110 (by decide) (fun cq => ?_) (fun cq => absurd cq (by decide))
        refine lv_iload_n hx hb dX8_slopeOf_122 rfl (lv_at hl 7 rfl) ?_
        refine lv_iload hx hb dX8_slopeOf_123 (lv_at hl 1 rfl) ?_
        have hPc := hP.sub (ws' := []) [] rfl
        refine clRe (E := nI (12 * (5 * 3 + c))) (va_runS (As := [.int (nI c), .int (nI 3)]) (rest := []) ⟨hx, hb, hml, hown, hts⟩ (c_X8_at l D cI cC cQ c 3 ) (va_cwS (rm := rmX8_at) 2 hts gX8_slopeOf_X8_at rfl rfl rfl (by decide +kernel) ⟨Nat.le_of_ble_eq_true rfl, Nat.le_of_ble_eq_true rfl⟩) ⟨PR.blind, PR.go hPc hK⟩ rfl rfl hl.1 rfl (lv_room (Nat.le_of_ble_eq_true rfl)) dX8_slopeOf_125 ⟨Nat.le_of_ble_eq_true rfl, Nat.le_of_ble_eq_true rfl⟩) ?_
        refine lv_istore (lv' := [(11, .int (nI (12 * (5 * 3 + c)))), (10, .int (nI (12 * (5 * (r - 1) + c)))), (9, .int (nI 3)), (8, .int (nI (r - 1))), (7, .int (nI 3)), (6, .int (nI r)), (5, .int (G (r * 5 + c) (6 + (1 * 3 + i)))), (0, .ref a), (1, .int (nI c)), (2, .int (nI r)), (3, .int (nI 1)), (4, .int (nI i))]) hx hb dX8_slopeOf_128 hl (by decide) rfl (fun ls hl => ?_)
        refine lv_aload_n hx hb dX8_slopeOf_130 rfl (lv_at hl 7 rfl) ?_
        refine va_get (D := D) (ci := 8) (v := .ref g0) (C := RX8) (T := TX8) (N := 18) hx hb hts iw_X8_slopeOf1_X8 hown hKa hP 0 rfl rfl 0 (by decide) (hts (.fieldLink RX8 7 "ColourPatchesModel" "s" "[I") (by decide +kernel)) (fun _ h9 => h9) rfl dX8_slopeOf_131 ?_
        refine lv_iload hx hb dX8_slopeOf_134 (lv_at hl 0 rfl) ?_
        refine lv_iconst (v := nI 2) hx hb dX8_slopeOf_136 (by decide) ?_
        refine gn_add hx hb dX8_slopeOf_137 ?_
        refine lv_iload hx hb dX8_slopeOf_138 (lv_at hl 11 rfl) ?_
        refine gn_add hx hb dX8_slopeOf_140 ?_
        refine gn_iald hx hb hKa hP 1 0 rfl rfl (k := ((12 * (5 * 3 + c)) + 2) + i) (by omega) (by omega) dX8_slopeOf_141 ?_
        rw [show MA G (((12 * (5 * 3 + c)) + 2) + i) = G (r * 5 + c) (2 + i) from MA_at _ _ _ _ (by omega) (by omega)]
        refine lv_aload_n hx hb dX8_slopeOf_142 rfl (lv_at hl 7 rfl) ?_
        refine va_get (D := D) (ci := 8) (v := .ref g0) (C := RX8) (T := TX8) (N := 18) hx hb hts iw_X8_slopeOf1_X8 hown hKa hP 0 rfl rfl 0 (by decide) (hts (.fieldLink RX8 7 "ColourPatchesModel" "s" "[I") (by decide +kernel)) (fun _ h9 => h9) rfl dX8_slopeOf_143 ?_
        refine lv_iload hx hb dX8_slopeOf_146 (lv_at hl 1 rfl) ?_
        refine lv_iconst (v := nI 2) hx hb dX8_slopeOf_148 (by decide) ?_
        refine gn_add hx hb dX8_slopeOf_149 ?_
        refine lv_iload hx hb dX8_slopeOf_150 (lv_at hl 11 rfl) ?_
        refine gn_add hx hb dX8_slopeOf_152 ?_
        refine gn_iald hx hb hKa hP 1 0 rfl rfl (k := ((12 * (5 * (r - 1) + c)) + 2) + i) (by omega) (by omega) dX8_slopeOf_153 ?_
        rw [show MA G (((12 * (5 * (r - 1) + c)) + 2) + i) = G (r * 5 + c - 5) (2 + i) from MA_at _ _ _ _ (by omega) (by omega)]
        refine lv_isub hx hb dX8_slopeOf_154 ?_
        refine lv_istore (lv' := [(12, .int ((G (r * 5 + c) (2 + i)) - (G (r * 5 + c - 5) (2 + i)))), (11, .int (nI (12 * (5 * 3 + c)))), (10, .int (nI (12 * (5 * (r - 1) + c)))), (9, .int (nI 3)), (8, .int (nI (r - 1))), (7, .int (nI 3)), (6, .int (nI r)), (5, .int (G (r * 5 + c) (6 + (1 * 3 + i)))), (0, .ref a), (1, .int (nI c)), (2, .int (nI r)), (3, .int (nI 1)), (4, .int (nI i))]) hx hb dX8_slopeOf_155 hl (by decide) rfl (fun ls hl => ?_)
        refine lv_iload hx hb dX8_slopeOf_157 (lv_at hl 3 rfl) ?_
        refine lv_iload hx hb dX8_slopeOf_159 (lv_at hl 4 rfl) ?_
        refine gn_sub hx hb (by omega) dX8_slopeOf_161 ?_
        refine lv_iconst (v := nI 1) hx hb dX8_slopeOf_162 (by decide) ?_
        refine gn_icmp_ne hx hb (by omega) (by decide) (tgt := 171) dX8_slopeOf_163 (by decide) (fun c_163 => ?_) (fun c_163 => ?_)
        · exact absurd c_163 (by omega)
        · refine lv_iload hx hb dX8_slopeOf_166 (lv_at hl 0 rfl) ?_
          refine lv_goto (tgt := 177) hx hb dX8_slopeOf_168 (by decide) ?_
          have hat : atk (r * 5 + c) 1 = r := atk_1 hc
          exact rtR_i hQ hx hb hr hlk dX8_slopeOf_177 (by unfold slk; rw [if_pos c_27]; unfold sbk; rw [hat, if_neg c_57, if_pos (show r = lastk 1 from c_74)]; rfl)
    · refine lv_iconst (v := nI 0) hx hb dX8_slopeOf_60 (by decide) ?_
      refine lv_goto (tgt := 68) hx hb dX8_slopeOf_61 (by decide) ?_
      refine lv_istore (lv' := [(8, .int (nI 0)), (7, .int (nI 3)), (6, .int (nI r)), (5, .int (G (r * 5 + c) (6 + (1 * 3 + i)))), (0, .ref a), (1, .int (nI c)), (2, .int (nI r)), (3, .int (nI 1)), (4, .int (nI i))]) hx hb dX8_slopeOf_68 hl (by decide) rfl (fun ls hl => ?_)
      refine lv_iload hx hb dX8_slopeOf_70 (lv_at hl 2 rfl) ?_
      refine lv_iload hx hb dX8_slopeOf_72 (lv_at hl 1 rfl) ?_
      refine gn_icmp_ne hx hb (by omega) (by decide) (tgt := 82) dX8_slopeOf_74 (by decide) (fun c_74 => ?_) (fun c_74 => ?_)
      · refine lv_iload hx hb dX8_slopeOf_82 (lv_at hl 2 rfl) ?_
        refine lv_iconst (v := nI 1) hx hb dX8_slopeOf_84 (by decide) ?_
        refine gn_add hx hb dX8_slopeOf_85 ?_
        refine lv_istore (lv' := [(9, .int (nI (r + 1))), (8, .int (nI 0)), (7, .int (nI 3)), (6, .int (nI r)), (5, .int (G (r * 5 + c) (6 + (1 * 3 + i)))), (0, .ref a), (1, .int (nI c)), (2, .int (nI r)), (3, .int (nI 1)), (4, .int (nI i))]) hx hb dX8_slopeOf_86 hl (by decide) rfl (fun ls hl => ?_)
        refine lv_iload_n hx hb dX8_slopeOf_88 rfl (lv_at hl 8 rfl) ?_
        refine gn_if_ne hx hb (by decide) (tgt := 101) dX8_slopeOf_89 (by decide) (fun cq => ?_) (fun cq => absurd cq (by decide))
        refine lv_iload_n hx hb dX8_slopeOf_101 rfl (lv_at hl 6 rfl) ?_
        refine lv_iload hx hb dX8_slopeOf_102 (lv_at hl 1 rfl) ?_
        have hPc := hP.sub (ws' := []) [] rfl
        refine clRe (E := nI (12 * (5 * 0 + c))) (va_runS (As := [.int (nI c), .int (nI 0)]) (rest := []) ⟨hx, hb, hml, hown, hts⟩ (c_X8_at l D cI cC cQ c 0 ) (va_cwS (rm := rmX8_at) 2 hts gX8_slopeOf_X8_at rfl rfl rfl (by decide +kernel) ⟨Nat.le_of_ble_eq_true rfl, Nat.le_of_ble_eq_true rfl⟩) ⟨PR.blind, PR.go hPc hK⟩ rfl rfl hl.1 rfl (lv_room (Nat.le_of_ble_eq_true rfl)) dX8_slopeOf_104 ⟨Nat.le_of_ble_eq_true rfl, Nat.le_of_ble_eq_true rfl⟩) ?_
        refine lv_istore (lv' := [(10, .int (nI (12 * (5 * 0 + c)))), (9, .int (nI (r + 1))), (8, .int (nI 0)), (7, .int (nI 3)), (6, .int (nI r)), (5, .int (G (r * 5 + c) (6 + (1 * 3 + i)))), (0, .ref a), (1, .int (nI c)), (2, .int (nI r)), (3, .int (nI 1)), (4, .int (nI i))]) hx hb dX8_slopeOf_107 hl (by decide) rfl (fun ls hl => ?_)
        refine lv_iload_n hx hb dX8_slopeOf_109 rfl (lv_at hl 9 rfl) ?_
        refine gn_if_ne hx hb (by decide) (tgt := 122) dX8_slopeOf_110 (by decide) (fun cq => ?_) (fun cq => absurd cq (by decide))
        refine lv_iload_n hx hb dX8_slopeOf_122 rfl (lv_at hl 7 rfl) ?_
        refine lv_iload hx hb dX8_slopeOf_123 (lv_at hl 1 rfl) ?_
        have hPc := hP.sub (ws' := []) [] rfl
        refine clRe (E := nI (12 * (5 * (r + 1) + c))) (va_runS (As := [.int (nI c), .int (nI (r + 1))]) (rest := []) ⟨hx, hb, hml, hown, hts⟩ (c_X8_at l D cI cC cQ c (r + 1) ) (va_cwS (rm := rmX8_at) 2 hts gX8_slopeOf_X8_at rfl rfl rfl (by decide +kernel) ⟨Nat.le_of_ble_eq_true rfl, Nat.le_of_ble_eq_true rfl⟩) ⟨PR.blind, PR.go hPc hK⟩ rfl rfl hl.1 rfl (lv_room (Nat.le_of_ble_eq_true rfl)) dX8_slopeOf_125 ⟨Nat.le_of_ble_eq_true rfl, Nat.le_of_ble_eq_true rfl⟩) ?_
        refine lv_istore (lv' := [(11, .int (nI (12 * (5 * (r + 1) + c)))), (10, .int (nI (12 * (5 * 0 + c)))), (9, .int (nI (r + 1))), (8, .int (nI 0)), (7, .int (nI 3)), (6, .int (nI r)), (5, .int (G (r * 5 + c) (6 + (1 * 3 + i)))), (0, .ref a), (1, .int (nI c)), (2, .int (nI r)), (3, .int (nI 1)), (4, .int (nI i))]) hx hb dX8_slopeOf_128 hl (by decide) rfl (fun ls hl => ?_)
        refine lv_aload_n hx hb dX8_slopeOf_130 rfl (lv_at hl 7 rfl) ?_
        refine va_get (D := D) (ci := 8) (v := .ref g0) (C := RX8) (T := TX8) (N := 18) hx hb hts iw_X8_slopeOf1_X8 hown hKa hP 0 rfl rfl 0 (by decide) (hts (.fieldLink RX8 7 "ColourPatchesModel" "s" "[I") (by decide +kernel)) (fun _ h9 => h9) rfl dX8_slopeOf_131 ?_
        refine lv_iload hx hb dX8_slopeOf_134 (lv_at hl 0 rfl) ?_
        refine lv_iconst (v := nI 2) hx hb dX8_slopeOf_136 (by decide) ?_
        refine gn_add hx hb dX8_slopeOf_137 ?_
        refine lv_iload hx hb dX8_slopeOf_138 (lv_at hl 11 rfl) ?_
        refine gn_add hx hb dX8_slopeOf_140 ?_
        refine gn_iald hx hb hKa hP 1 0 rfl rfl (k := ((12 * (5 * (r + 1) + c)) + 2) + i) (by omega) (by omega) dX8_slopeOf_141 ?_
        rw [show MA G (((12 * (5 * (r + 1) + c)) + 2) + i) = G (r * 5 + c + 5) (2 + i) from MA_at _ _ _ _ (by omega) (by omega)]
        refine lv_aload_n hx hb dX8_slopeOf_142 rfl (lv_at hl 7 rfl) ?_
        refine va_get (D := D) (ci := 8) (v := .ref g0) (C := RX8) (T := TX8) (N := 18) hx hb hts iw_X8_slopeOf1_X8 hown hKa hP 0 rfl rfl 0 (by decide) (hts (.fieldLink RX8 7 "ColourPatchesModel" "s" "[I") (by decide +kernel)) (fun _ h9 => h9) rfl dX8_slopeOf_143 ?_
        refine lv_iload hx hb dX8_slopeOf_146 (lv_at hl 1 rfl) ?_
        refine lv_iconst (v := nI 2) hx hb dX8_slopeOf_148 (by decide) ?_
        refine gn_add hx hb dX8_slopeOf_149 ?_
        refine lv_iload hx hb dX8_slopeOf_150 (lv_at hl 11 rfl) ?_
        refine gn_add hx hb dX8_slopeOf_152 ?_
        refine gn_iald hx hb hKa hP 1 0 rfl rfl (k := ((12 * (5 * 0 + c)) + 2) + i) (by omega) (by omega) dX8_slopeOf_153 ?_
        rw [show MA G (((12 * (5 * 0 + c)) + 2) + i) = G (r * 5 + c) (2 + i) from MA_at _ _ _ _ (by omega) (by omega)]
        refine lv_isub hx hb dX8_slopeOf_154 ?_
        refine lv_istore (lv' := [(12, .int ((G (r * 5 + c + 5) (2 + i)) - (G (r * 5 + c) (2 + i)))), (11, .int (nI (12 * (5 * (r + 1) + c)))), (10, .int (nI (12 * (5 * 0 + c)))), (9, .int (nI (r + 1))), (8, .int (nI 0)), (7, .int (nI 3)), (6, .int (nI r)), (5, .int (G (r * 5 + c) (6 + (1 * 3 + i)))), (0, .ref a), (1, .int (nI c)), (2, .int (nI r)), (3, .int (nI 1)), (4, .int (nI i))]) hx hb dX8_slopeOf_155 hl (by decide) rfl (fun ls hl => ?_)
        refine lv_iload hx hb dX8_slopeOf_157 (lv_at hl 3 rfl) ?_
        refine lv_iload hx hb dX8_slopeOf_159 (lv_at hl 4 rfl) ?_
        refine gn_sub hx hb (by omega) dX8_slopeOf_161 ?_
        refine lv_iconst (v := nI 1) hx hb dX8_slopeOf_162 (by decide) ?_
        refine gn_icmp_ne hx hb (by omega) (by decide) (tgt := 171) dX8_slopeOf_163 (by decide) (fun c_163 => ?_) (fun c_163 => ?_)
        · exact absurd c_163 (by omega)
        · refine lv_iload hx hb dX8_slopeOf_166 (lv_at hl 0 rfl) ?_
          refine lv_goto (tgt := 177) hx hb dX8_slopeOf_168 (by decide) ?_
          have hat : atk (r * 5 + c) 1 = r := atk_1 hc
          exact rtR_i hQ hx hb hr hlk dX8_slopeOf_177 (by unfold slk; rw [if_pos c_27]; unfold sbk; rw [hat, if_pos c_57]; rfl)
      · exact absurd c_74 (by omega)
  · refine lv_iload hx hb dX8_slopeOf_30 (lv_at hl 0 rfl) ?_
    exact rtR_i hQ hx hb hr hlk dX8_slopeOf_32 (by unfold slk; rw [if_neg c_27])
abbrev rmX8_told : Room := { frames := 1, cells := 0, slots := 0, locals := 21 }
set_option maxRecDepth 20000 in
theorem iw_X8_told_X8 : ∀ w ∈ u_ws RX8 TX8 18, w ∈ wsX8_told := by decide +kernel
set_option maxHeartbeats 4000000 in
set_option maxRecDepth 100000 in
theorem c_X8_told (l : Launch) (D : va_G) (cI cC cQ : ClassId) (a g0 g1 g2 g3 g4 g5 g6 g7 : Nat) (ik rn ps ty sp fr re cau co cm : Int32) (G : Nat → Nat → Int32) (c r : Nat) (hc : c < 5) (hr9 : r < 4) : Met l yX8_told wsX8_told rmX8_told (PR D cI cC cQ [.ref a, .int (nI c), .int (nI r)] [(a, .inr (8, [.ref g0, .ref g1, .ref g2, .ref g3, .int ik, .int rn, .int ps, .ref g4, .int ty, .ref g5, .ref g6, .int sp, .int fr, .int re, .int cau, .int co, .int cm, .ref g7])), (g0, .inl (cI, 240, .inl (MA G)))]) (vp_Si (fun z => z = nI (toldK G (r * 5 + c)))) 0 0 (fun _ => False) := by
  refine metR (cc := cX8_told) (maxL := 5) (ret := (some .int)) (by decide) rfl (Nat.le_of_ble_eq_true rfl) ?_
  intro pg ev s mi args below meth cd ls Q hQ hx hb hml hr hts hown hlk hK hP hl
  have hKa := hK.1
  have hl : lv_has ls 5 [(0, .ref a), (1, .int (nI c)), (2, .int (nI r))] := hl
  refine lv_iconst (v := nI 0) hx hb dX8_told_0 (by decide) ?_
  refine lv_istore_n (lv' := [(3, .int (nI 0)), (0, .ref a), (1, .int (nI c)), (2, .int (nI r))]) hx hb dX8_told_1 rfl hl (by decide) rfl (fun ls hl => ?_)
  refine lv_iconst (v := nI 0) hx hb dX8_told_2 (by decide) ?_
  refine lv_istore (lv' := [(4, .int (nI 0)), (3, .int (nI 0)), (0, .ref a), (1, .int (nI c)), (2, .int (nI r))]) hx hb dX8_told_3 hl (by decide) rfl (fun ls hl => ?_)
  have L5 : ∀ (nn : Nat) (j : Nat) (u : Nat) (hj : j ≤ 6) (hu : u = sumN (toldB G (r * 5 + c)) j) (_ : 6 - j < nn) (ls : Array Slot) (_ : lv_has ls 5 [(3, .int (nI u)), (4, .int (nI j)), (0, .ref a), (1, .int (nI c)), (2, .int (nI r))]), W pg l ev (headSpec wsX8_told rmX8_told).room s mi args below meth cd s.heap [] 0 0 Q (F0 mi 5 ls []) := by
    intro nn
    induction nn with
    | zero =>
      intro j u hj hu hmeas
      exact absurd hmeas (Nat.not_lt_zero _)
    | succ nn ih5 =>
      intro j u hj hu hmeas  ls hl
      refine lv_iload hx hb dX8_told_5 (lv_at hl 1 rfl) ?_
      refine lv_bipush (v := nI 6) hx hb dX8_told_7 (by decide) ?_
      refine gn_icmp_ge hx hb (by omega) (by decide) (tgt := 48) dX8_told_9 (by decide) (fun c_9 => ?_) (fun c_9 => ?_)
      · refine lv_iload_n hx hb dX8_told_48 rfl (lv_at hl 0 rfl) ?_
        exact rtR_i hQ hx hb hr hlk dX8_told_49 (by rw [hu, show j = 6 by omega]; rfl)
      · refine lv_iload_n hx hb dX8_told_12 rfl (lv_at hl 0 rfl) ?_
        refine lv_aload_n hx hb dX8_told_13 rfl (lv_at hl 2 rfl) ?_
        refine va_get (D := D) (ci := 8) (v := .ref g0) (C := RX8) (T := TX8) (N := 18) hx hb hts iw_X8_told_X8 hown hKa hP 0 rfl rfl 0 (by decide) (hts (.fieldLink RX8 7 "ColourPatchesModel" "s" "[I") (by decide +kernel)) (fun _ h9 => h9) rfl dX8_told_14 ?_
        refine lv_iload_n hx hb dX8_told_17 rfl (lv_at hl 3 rfl) ?_
        refine lv_iload_n hx hb dX8_told_18 rfl (lv_at hl 4 rfl) ?_
        have hPc := hP.sub (ws' := []) [] rfl
        refine clRe (E := nI (12 * (5 * r + c))) (va_runS (As := [.int (nI c), .int (nI r)]) (rest := [.ref g0, .int (nI u)]) ⟨hx, hb, hml, hown, hts⟩ (c_X8_at l D cI cC cQ c r ) (va_cwS (rm := rmX8_at) 2 hts gX8_told_X8_at rfl rfl rfl (by decide +kernel) ⟨Nat.le_of_ble_eq_true rfl, Nat.le_of_ble_eq_true rfl⟩) ⟨PR.blind, PR.go hPc hK⟩ rfl rfl hl.1 rfl (lv_room (Nat.le_of_ble_eq_true rfl)) dX8_told_19 ⟨Nat.le_of_ble_eq_true rfl, Nat.le_of_ble_eq_true rfl⟩) ?_
        refine lv_bipush (v := nI 6) hx hb dX8_told_22 (by decide) ?_
        refine gn_add hx hb dX8_told_24 ?_
        refine lv_iload hx hb dX8_told_25 (lv_at hl 1 rfl) ?_
        refine gn_add hx hb dX8_told_27 ?_
        refine gn_iald hx hb hKa hP 1 0 rfl rfl (k := ((12 * (5 * r + c)) + 6) + j) (by omega) (by omega) dX8_told_28 ?_
        rw [show MA G (((12 * (5 * r + c)) + 6) + j) = G (r * 5 + c) (6 + j) from MA_at _ _ _ _ (by omega) (by omega)]
        refine lv_sipush (v := nI 999) hx hb dX8_told_29 (by decide) ?_
        refine lv_icmp_eq hx hb (tgt := 39) dX8_told_32 (by decide) (fun c_32 => ?_) (fun c_32 => ?_)
        · refine lv_iconst (v := nI 0) hx hb dX8_told_39 (by decide) ?_
          refine gn_add hx hb dX8_told_40 ?_
          refine lv_istore_n (lv' := [(3, .int (nI (u + 0))), (4, .int (nI j)), (0, .ref a), (1, .int (nI c)), (2, .int (nI r))]) hx hb dX8_told_41 rfl hl (by decide) rfl (fun ls hl => ?_)
          refine gn_iinc (lv' := [(4, .int (nI (j + 1))), (3, .int (nI (u + 0))), (0, .ref a), (1, .int (nI c)), (2, .int (nI r))]) hx hb dX8_told_42 hl (k := 1) rfl (by decide) rfl (fun ls hl => ?_)
          refine lv_goto (tgt := 5) hx hb dX8_told_45 (by decide) ?_
          exact ih5 (j + 1) (u + 0) (show (j + 1) ≤ 6 from by first | omega | assumption | rfl) (show (u + 0) = sumN (toldB G (r * 5 + c)) (j + 1) from by rw [hu]; show _ = _ + toldB G (r * 5 + c) j; rw [toldB, if_pos c_32]) (by first | omega | assumption) _ (lv_sub hl [1, 0, 2, 3, 4] rfl)
        · refine lv_iconst (v := nI 1) hx hb dX8_told_35 (by decide) ?_
          refine lv_goto (tgt := 40) hx hb dX8_told_36 (by decide) ?_
          refine gn_add hx hb dX8_told_40 ?_
          refine lv_istore_n (lv' := [(3, .int (nI (u + 1))), (4, .int (nI j)), (0, .ref a), (1, .int (nI c)), (2, .int (nI r))]) hx hb dX8_told_41 rfl hl (by decide) rfl (fun ls hl => ?_)
          refine gn_iinc (lv' := [(4, .int (nI (j + 1))), (3, .int (nI (u + 1))), (0, .ref a), (1, .int (nI c)), (2, .int (nI r))]) hx hb dX8_told_42 hl (k := 1) rfl (by decide) rfl (fun ls hl => ?_)
          refine lv_goto (tgt := 5) hx hb dX8_told_45 (by decide) ?_
          exact ih5 (j + 1) (u + 1) (show (j + 1) ≤ 6 from by first | omega | assumption | rfl) (show (u + 1) = sumN (toldB G (r * 5 + c)) (j + 1) from by rw [hu]; show _ = _ + toldB G (r * 5 + c) j; rw [toldB, if_neg c_32]) (by first | omega | assumption) _ (lv_sub hl [1, 0, 2, 3, 4] rfl)
  exact L5 ((6 - 0) + 1) 0 0 (show 0 ≤ 6 from by first | omega | assumption | rfl) (show 0 = sumN (toldB G (r * 5 + c)) 0 from rfl) (Nat.lt_succ_self _) _ (lv_sub hl [1, 0, 2, 3, 4] rfl)
abbrev rmX8_beside : Room := { frames := 2, cells := 0, slots := 0, locals := 43 }
set_option maxRecDepth 20000 in
theorem iw_X8_beside_X8 : ∀ w ∈ u_ws RX8 TX8 18, w ∈ wsX8_beside := by decide +kernel
set_option maxHeartbeats 4000000 in
set_option maxRecDepth 100000 in
theorem c_X8_beside (l : Launch) (D : va_G) (cI cC cQ : ClassId) (a g0 g1 g2 g3 g4 g5 g6 g7 : Nat) (ik rn ps ty sp fr re cau co cm : Int32) (G : Nat → Nat → Int32) (c2 r2 : Int32) (i : Nat) (hi : i < 3) : Met l yX8_beside wsX8_beside rmX8_beside (PR D cI cC cQ [.ref a, .int c2, .int r2, .int (nI i)] [(a, .inr (8, [.ref g0, .ref g1, .ref g2, .ref g3, .int ik, .int rn, .int ps, .ref g4, .int ty, .ref g5, .ref g6, .int sp, .int fr, .int re, .int cau, .int co, .int cm, .ref g7])), (g0, .inl (cI, 240, .inl (MA G)))]) (vp_Si (fun z => z = bes G c2 r2 i)) 0 0 (fun _ => False) := by
  refine metR (cc := cX8_beside) (maxL := 4) (ret := (some .int)) (by decide) rfl (Nat.le_of_ble_eq_true rfl) ?_
  intro pg ev s mi args below meth cd ls Q hQ hx hb hml hr hts hown hlk hK hP hl
  have hKa := hK.1
  have hl : lv_has ls 4 [(0, .ref a), (1, .int c2), (2, .int r2), (3, .int (nI i))] := hl
  refine lv_iload_n hx hb dX8_beside_0 rfl (lv_at hl 1 rfl) ?_
  refine lv_iload_n hx hb dX8_beside_1 rfl (lv_at hl 2 rfl) ?_
  have hPc := hP.sub (ws' := []) [] rfl
  refine clR (va_runS (As := [.int c2, .int r2]) (rest := []) ⟨hx, hb, hml, hown, hts⟩ (c_X8_isCorner l D cI cC cQ c2 r2 ) (va_cwS (rm := rmX8_isCorner) 2 hts gX8_beside_X8_isCorner rfl rfl rfl (by decide +kernel) ⟨Nat.le_of_ble_eq_true rfl, Nat.le_of_ble_eq_true rfl⟩) ⟨PR.blind, PR.go hPc hK⟩ rfl rfl hl.1 rfl (lv_room (Nat.le_of_ble_eq_true rfl)) dX8_beside_2 ⟨Nat.le_of_ble_eq_true rfl, Nat.le_of_ble_eq_true rfl⟩) (fun r_2 h_2 => ?_)
  rcases h_2 with ⟨b_2, rfl⟩ | ⟨b_2, rfl⟩
  · obtain ⟨ci, rj, hci, hrj, rfl, rfl⟩ := isC_nat b_2
    refine gn_if_eq hx hb (by decide) (tgt := 25) dX8_beside_5 (by decide) (fun cq => absurd cq (by decide)) (fun cq => ?_)
    refine lv_aload_n hx hb dX8_beside_8 rfl (lv_at hl 0 rfl) ?_
    refine va_get (D := D) (ci := 8) (v := .ref g0) (C := RX8) (T := TX8) (N := 18) hx hb hts iw_X8_beside_X8 hown hKa hP 0 rfl rfl 0 (by decide) (hts (.fieldLink RX8 7 "ColourPatchesModel" "s" "[I") (by decide +kernel)) (fun _ h9 => h9) rfl dX8_beside_9 ?_
    refine lv_iload_n hx hb dX8_beside_12 rfl (lv_at hl 1 rfl) ?_
    refine lv_iload_n hx hb dX8_beside_13 rfl (lv_at hl 2 rfl) ?_
    have hPc := hP.sub (ws' := []) [] rfl
    refine clRe (E := nI (12 * (5 * rj + ci))) (va_runS (As := [.int (nI ci), .int (nI rj)]) (rest := [.ref g0]) ⟨hx, hb, hml, hown, hts⟩ (c_X8_at l D cI cC cQ ci rj ) (va_cwS (rm := rmX8_at) 2 hts gX8_beside_X8_at rfl rfl rfl (by decide +kernel) ⟨Nat.le_of_ble_eq_true rfl, Nat.le_of_ble_eq_true rfl⟩) ⟨PR.blind, PR.go hPc hK⟩ rfl rfl hl.1 rfl (lv_room (Nat.le_of_ble_eq_true rfl)) dX8_beside_14 ⟨Nat.le_of_ble_eq_true rfl, Nat.le_of_ble_eq_true rfl⟩) ?_
    refine lv_iconst (v := nI 2) hx hb dX8_beside_17 (by decide) ?_
    refine gn_add hx hb dX8_beside_18 ?_
    refine lv_iload_n hx hb dX8_beside_19 rfl (lv_at hl 3 rfl) ?_
    refine gn_add hx hb dX8_beside_20 ?_
    refine gn_iald hx hb hKa hP 1 0 rfl rfl (k := ((12 * (5 * rj + ci)) + 2) + i) (by omega) (by omega) dX8_beside_21 ?_
    rw [show MA G (((12 * (5 * rj + ci)) + 2) + i) = G (rj * 5 + ci) (2 + i) from MA_at _ _ _ _ (by omega) (by omega)]
    refine lv_goto (tgt := 26) hx hb dX8_beside_22 (by decide) ?_
    exact rtR_i hQ hx hb hr hlk dX8_beside_26 (by unfold bes; rw [if_pos b_2, cn_nI hci hrj])
  · refine gn_if_eq hx hb (by decide) (tgt := 25) dX8_beside_5 (by decide) (fun cq => ?_) (fun cq => absurd cq (by decide))
    refine lv_iconst (v := nI 0) hx hb dX8_beside_25 (by decide) ?_
    exact rtR_i hQ hx hb hr hlk dX8_beside_26 (by unfold bes; rw [if_neg b_2])
abbrev rmX8_many : Room := { frames := 0, cells := 0, slots := 0, locals := 0 }
set_option maxHeartbeats 4000000 in
set_option maxRecDepth 100000 in
theorem c_X8_many (l : Launch) (D : va_G) (cI cC cQ : ClassId) (c r : Nat) (hc : c < 5) (hr9 : r < 4) : Met l yX8_many wsX8_many rmX8_many (PR D cI cC cQ [.int (nI c), .int (nI r)] []) (vp_Si (fun z => z = nI (mny c r))) 0 0 (fun _ => False) := by
  refine metR (cc := cX8_many) (maxL := 2) (ret := (some .int)) (by decide) rfl (Nat.le_of_ble_eq_true rfl) ?_
  intro pg ev s mi args below meth cd ls Q hQ hx hb hml hr hts hown hlk hK hP hl
  have hKa := hK.1
  have hl : lv_has ls 2 [(0, .int (nI c)), (1, .int (nI r))] := hl
  refine lv_iload_n hx hb dX8_many_0 rfl (lv_at hl 0 rfl) ?_
  refine gn_if_le hx hb (by omega) (tgt := 8) dX8_many_1 (by decide) (fun c_1 => ?_) (fun c_1 => ?_)
  · refine lv_iconst (v := nI 0) hx hb dX8_many_8 (by decide) ?_
    refine lv_iload_n hx hb dX8_many_9 rfl (lv_at hl 0 rfl) ?_
    refine lv_iconst (v := nI 4) hx hb dX8_many_10 (by decide) ?_
    refine gn_icmp_ge hx hb (by omega) (by decide) (tgt := 18) dX8_many_11 (by decide) (fun c_11 => ?_) (fun c_11 => ?_)
    · refine lv_iconst (v := nI 0) hx hb dX8_many_18 (by decide) ?_
      refine gn_add hx hb dX8_many_19 ?_
      refine lv_iload_n hx hb dX8_many_20 rfl (lv_at hl 1 rfl) ?_
      refine gn_if_le hx hb (by omega) (tgt := 28) dX8_many_21 (by decide) (fun c_21 => ?_) (fun c_21 => ?_)
      · refine lv_iconst (v := nI 0) hx hb dX8_many_28 (by decide) ?_
        refine gn_add hx hb dX8_many_29 ?_
        refine lv_iload_n hx hb dX8_many_30 rfl (lv_at hl 1 rfl) ?_
        refine lv_iconst (v := nI 3) hx hb dX8_many_31 (by decide) ?_
        refine gn_icmp_ge hx hb (by omega) (by decide) (tgt := 39) dX8_many_32 (by decide) (fun c_32 => ?_) (fun c_32 => ?_)
        · refine lv_iconst (v := nI 0) hx hb dX8_many_39 (by decide) ?_
          refine gn_add hx hb dX8_many_40 ?_
          exact rtR_i hQ hx hb hr hlk dX8_many_41 (by unfold mny; rw [if_neg (show ¬ 0 < c by omega), if_neg (show ¬ c < 4 by omega), if_neg (show ¬ 0 < r by omega), if_neg (show ¬ r < 3 by omega)])
        · refine lv_iconst (v := nI 1) hx hb dX8_many_35 (by decide) ?_
          refine lv_goto (tgt := 40) hx hb dX8_many_36 (by decide) ?_
          refine gn_add hx hb dX8_many_40 ?_
          exact rtR_i hQ hx hb hr hlk dX8_many_41 (by unfold mny; rw [if_neg (show ¬ 0 < c by omega), if_neg (show ¬ c < 4 by omega), if_neg (show ¬ 0 < r by omega), if_pos c_32])
      · refine lv_iconst (v := nI 1) hx hb dX8_many_24 (by decide) ?_
        refine lv_goto (tgt := 29) hx hb dX8_many_25 (by decide) ?_
        refine gn_add hx hb dX8_many_29 ?_
        refine lv_iload_n hx hb dX8_many_30 rfl (lv_at hl 1 rfl) ?_
        refine lv_iconst (v := nI 3) hx hb dX8_many_31 (by decide) ?_
        refine gn_icmp_ge hx hb (by omega) (by decide) (tgt := 39) dX8_many_32 (by decide) (fun c_32 => ?_) (fun c_32 => ?_)
        · refine lv_iconst (v := nI 0) hx hb dX8_many_39 (by decide) ?_
          refine gn_add hx hb dX8_many_40 ?_
          exact rtR_i hQ hx hb hr hlk dX8_many_41 (by unfold mny; rw [if_neg (show ¬ 0 < c by omega), if_neg (show ¬ c < 4 by omega), if_pos c_21, if_neg (show ¬ r < 3 by omega)])
        · refine lv_iconst (v := nI 1) hx hb dX8_many_35 (by decide) ?_
          refine lv_goto (tgt := 40) hx hb dX8_many_36 (by decide) ?_
          refine gn_add hx hb dX8_many_40 ?_
          exact rtR_i hQ hx hb hr hlk dX8_many_41 (by unfold mny; rw [if_neg (show ¬ 0 < c by omega), if_neg (show ¬ c < 4 by omega), if_pos c_21, if_pos c_32])
    · refine lv_iconst (v := nI 1) hx hb dX8_many_14 (by decide) ?_
      refine lv_goto (tgt := 19) hx hb dX8_many_15 (by decide) ?_
      refine gn_add hx hb dX8_many_19 ?_
      refine lv_iload_n hx hb dX8_many_20 rfl (lv_at hl 1 rfl) ?_
      refine gn_if_le hx hb (by omega) (tgt := 28) dX8_many_21 (by decide) (fun c_21 => ?_) (fun c_21 => ?_)
      · refine lv_iconst (v := nI 0) hx hb dX8_many_28 (by decide) ?_
        refine gn_add hx hb dX8_many_29 ?_
        refine lv_iload_n hx hb dX8_many_30 rfl (lv_at hl 1 rfl) ?_
        refine lv_iconst (v := nI 3) hx hb dX8_many_31 (by decide) ?_
        refine gn_icmp_ge hx hb (by omega) (by decide) (tgt := 39) dX8_many_32 (by decide) (fun c_32 => ?_) (fun c_32 => ?_)
        · refine lv_iconst (v := nI 0) hx hb dX8_many_39 (by decide) ?_
          refine gn_add hx hb dX8_many_40 ?_
          exact rtR_i hQ hx hb hr hlk dX8_many_41 (by unfold mny; rw [if_neg (show ¬ 0 < c by omega), if_pos c_11, if_neg (show ¬ 0 < r by omega), if_neg (show ¬ r < 3 by omega)])
        · refine lv_iconst (v := nI 1) hx hb dX8_many_35 (by decide) ?_
          refine lv_goto (tgt := 40) hx hb dX8_many_36 (by decide) ?_
          refine gn_add hx hb dX8_many_40 ?_
          exact rtR_i hQ hx hb hr hlk dX8_many_41 (by unfold mny; rw [if_neg (show ¬ 0 < c by omega), if_pos c_11, if_neg (show ¬ 0 < r by omega), if_pos c_32])
      · refine lv_iconst (v := nI 1) hx hb dX8_many_24 (by decide) ?_
        refine lv_goto (tgt := 29) hx hb dX8_many_25 (by decide) ?_
        refine gn_add hx hb dX8_many_29 ?_
        refine lv_iload_n hx hb dX8_many_30 rfl (lv_at hl 1 rfl) ?_
        refine lv_iconst (v := nI 3) hx hb dX8_many_31 (by decide) ?_
        refine gn_icmp_ge hx hb (by omega) (by decide) (tgt := 39) dX8_many_32 (by decide) (fun c_32 => ?_) (fun c_32 => ?_)
        · refine lv_iconst (v := nI 0) hx hb dX8_many_39 (by decide) ?_
          refine gn_add hx hb dX8_many_40 ?_
          exact rtR_i hQ hx hb hr hlk dX8_many_41 (by unfold mny; rw [if_neg (show ¬ 0 < c by omega), if_pos c_11, if_pos c_21, if_neg (show ¬ r < 3 by omega)])
        · refine lv_iconst (v := nI 1) hx hb dX8_many_35 (by decide) ?_
          refine lv_goto (tgt := 40) hx hb dX8_many_36 (by decide) ?_
          refine gn_add hx hb dX8_many_40 ?_
          exact rtR_i hQ hx hb hr hlk dX8_many_41 (by unfold mny; rw [if_neg (show ¬ 0 < c by omega), if_pos c_11, if_pos c_21, if_pos c_32])
  · refine lv_iconst (v := nI 1) hx hb dX8_many_4 (by decide) ?_
    refine lv_goto (tgt := 9) hx hb dX8_many_5 (by decide) ?_
    refine lv_iload_n hx hb dX8_many_9 rfl (lv_at hl 0 rfl) ?_
    refine lv_iconst (v := nI 4) hx hb dX8_many_10 (by decide) ?_
    refine gn_icmp_ge hx hb (by omega) (by decide) (tgt := 18) dX8_many_11 (by decide) (fun c_11 => ?_) (fun c_11 => ?_)
    · refine lv_iconst (v := nI 0) hx hb dX8_many_18 (by decide) ?_
      refine gn_add hx hb dX8_many_19 ?_
      refine lv_iload_n hx hb dX8_many_20 rfl (lv_at hl 1 rfl) ?_
      refine gn_if_le hx hb (by omega) (tgt := 28) dX8_many_21 (by decide) (fun c_21 => ?_) (fun c_21 => ?_)
      · refine lv_iconst (v := nI 0) hx hb dX8_many_28 (by decide) ?_
        refine gn_add hx hb dX8_many_29 ?_
        refine lv_iload_n hx hb dX8_many_30 rfl (lv_at hl 1 rfl) ?_
        refine lv_iconst (v := nI 3) hx hb dX8_many_31 (by decide) ?_
        refine gn_icmp_ge hx hb (by omega) (by decide) (tgt := 39) dX8_many_32 (by decide) (fun c_32 => ?_) (fun c_32 => ?_)
        · refine lv_iconst (v := nI 0) hx hb dX8_many_39 (by decide) ?_
          refine gn_add hx hb dX8_many_40 ?_
          exact rtR_i hQ hx hb hr hlk dX8_many_41 (by unfold mny; rw [if_pos c_1, if_neg (show ¬ c < 4 by omega), if_neg (show ¬ 0 < r by omega), if_neg (show ¬ r < 3 by omega)])
        · refine lv_iconst (v := nI 1) hx hb dX8_many_35 (by decide) ?_
          refine lv_goto (tgt := 40) hx hb dX8_many_36 (by decide) ?_
          refine gn_add hx hb dX8_many_40 ?_
          exact rtR_i hQ hx hb hr hlk dX8_many_41 (by unfold mny; rw [if_pos c_1, if_neg (show ¬ c < 4 by omega), if_neg (show ¬ 0 < r by omega), if_pos c_32])
      · refine lv_iconst (v := nI 1) hx hb dX8_many_24 (by decide) ?_
        refine lv_goto (tgt := 29) hx hb dX8_many_25 (by decide) ?_
        refine gn_add hx hb dX8_many_29 ?_
        refine lv_iload_n hx hb dX8_many_30 rfl (lv_at hl 1 rfl) ?_
        refine lv_iconst (v := nI 3) hx hb dX8_many_31 (by decide) ?_
        refine gn_icmp_ge hx hb (by omega) (by decide) (tgt := 39) dX8_many_32 (by decide) (fun c_32 => ?_) (fun c_32 => ?_)
        · refine lv_iconst (v := nI 0) hx hb dX8_many_39 (by decide) ?_
          refine gn_add hx hb dX8_many_40 ?_
          exact rtR_i hQ hx hb hr hlk dX8_many_41 (by unfold mny; rw [if_pos c_1, if_neg (show ¬ c < 4 by omega), if_pos c_21, if_neg (show ¬ r < 3 by omega)])
        · refine lv_iconst (v := nI 1) hx hb dX8_many_35 (by decide) ?_
          refine lv_goto (tgt := 40) hx hb dX8_many_36 (by decide) ?_
          refine gn_add hx hb dX8_many_40 ?_
          exact rtR_i hQ hx hb hr hlk dX8_many_41 (by unfold mny; rw [if_pos c_1, if_neg (show ¬ c < 4 by omega), if_pos c_21, if_pos c_32])
    · refine lv_iconst (v := nI 1) hx hb dX8_many_14 (by decide) ?_
      refine lv_goto (tgt := 19) hx hb dX8_many_15 (by decide) ?_
      refine gn_add hx hb dX8_many_19 ?_
      refine lv_iload_n hx hb dX8_many_20 rfl (lv_at hl 1 rfl) ?_
      refine gn_if_le hx hb (by omega) (tgt := 28) dX8_many_21 (by decide) (fun c_21 => ?_) (fun c_21 => ?_)
      · refine lv_iconst (v := nI 0) hx hb dX8_many_28 (by decide) ?_
        refine gn_add hx hb dX8_many_29 ?_
        refine lv_iload_n hx hb dX8_many_30 rfl (lv_at hl 1 rfl) ?_
        refine lv_iconst (v := nI 3) hx hb dX8_many_31 (by decide) ?_
        refine gn_icmp_ge hx hb (by omega) (by decide) (tgt := 39) dX8_many_32 (by decide) (fun c_32 => ?_) (fun c_32 => ?_)
        · refine lv_iconst (v := nI 0) hx hb dX8_many_39 (by decide) ?_
          refine gn_add hx hb dX8_many_40 ?_
          exact rtR_i hQ hx hb hr hlk dX8_many_41 (by unfold mny; rw [if_pos c_1, if_pos c_11, if_neg (show ¬ 0 < r by omega), if_neg (show ¬ r < 3 by omega)])
        · refine lv_iconst (v := nI 1) hx hb dX8_many_35 (by decide) ?_
          refine lv_goto (tgt := 40) hx hb dX8_many_36 (by decide) ?_
          refine gn_add hx hb dX8_many_40 ?_
          exact rtR_i hQ hx hb hr hlk dX8_many_41 (by unfold mny; rw [if_pos c_1, if_pos c_11, if_neg (show ¬ 0 < r by omega), if_pos c_32])
      · refine lv_iconst (v := nI 1) hx hb dX8_many_24 (by decide) ?_
        refine lv_goto (tgt := 29) hx hb dX8_many_25 (by decide) ?_
        refine gn_add hx hb dX8_many_29 ?_
        refine lv_iload_n hx hb dX8_many_30 rfl (lv_at hl 1 rfl) ?_
        refine lv_iconst (v := nI 3) hx hb dX8_many_31 (by decide) ?_
        refine gn_icmp_ge hx hb (by omega) (by decide) (tgt := 39) dX8_many_32 (by decide) (fun c_32 => ?_) (fun c_32 => ?_)
        · refine lv_iconst (v := nI 0) hx hb dX8_many_39 (by decide) ?_
          refine gn_add hx hb dX8_many_40 ?_
          exact rtR_i hQ hx hb hr hlk dX8_many_41 (by unfold mny; rw [if_pos c_1, if_pos c_11, if_pos c_21, if_neg (show ¬ r < 3 by omega)])
        · refine lv_iconst (v := nI 1) hx hb dX8_many_35 (by decide) ?_
          refine lv_goto (tgt := 40) hx hb dX8_many_36 (by decide) ?_
          refine gn_add hx hb dX8_many_40 ?_
          exact rtR_i hQ hx hb hr hlk dX8_many_41 (by unfold mny; rw [if_pos c_1, if_pos c_11, if_pos c_21, if_pos c_32])
abbrev rmX8_cube : Room := { frames := 0, cells := 0, slots := 0, locals := 0 }
set_option maxHeartbeats 4000000 in
set_option maxRecDepth 100000 in
theorem c_X8_cube (l : Launch) (D : va_G) (cI cC cQ : ClassId) (k : Nat) (t : Int32) (hk : k < 4) : Met l yX8_cube wsX8_cube rmX8_cube (PR D cI cC cQ [.int (nI k), .int t] []) (vp_Si (fun z => z = cbI k t)) 0 0 (fun _ => False) := by
  refine metR (cc := cX8_cube) (maxL := 2) (ret := (some .int)) (by decide) rfl (Nat.le_of_ble_eq_true rfl) ?_
  intro pg ev s mi args below meth cd ls Q hQ hx hb hml hr hts hown hlk hK hP hl
  have hKa := hK.1
  have hl : lv_has ls 2 [(0, .int (nI k)), (1, .int t)] := hl
  refine lv_iload_n hx hb dX8_cube_0 rfl (lv_at hl 0 rfl) ?_
  rcases (show k = 0 ∨ k = 1 ∨ k = 2 ∨ k = 3 by omega) with rfl | rfl | rfl | rfl
  · refine lv_tableIn (off := 27) (tgt := 28) hx hb dX8_cube_1 (by decide) (by decide) (by decide +kernel) (by decide) ?_
    refine lv_iconst (v := nI 2) hx hb dX8_cube_28 (by decide) ?_
    refine lv_iload_n hx hb dX8_cube_29 rfl (lv_at hl 1 rfl) ?_
    refine lv_imul hx hb dX8_cube_30 ?_
    refine lv_iload_n hx hb dX8_cube_31 rfl (lv_at hl 1 rfl) ?_
    refine lv_imul hx hb dX8_cube_32 ?_
    refine lv_iload_n hx hb dX8_cube_33 rfl (lv_at hl 1 rfl) ?_
    refine lv_imul hx hb dX8_cube_34 ?_
    refine lv_bipush (v := nI 24) hx hb dX8_cube_35 (by decide) ?_
    refine lv_iload_n hx hb dX8_cube_37 rfl (lv_at hl 1 rfl) ?_
    refine lv_imul hx hb dX8_cube_38 ?_
    refine lv_iload_n hx hb dX8_cube_39 rfl (lv_at hl 1 rfl) ?_
    refine lv_imul hx hb dX8_cube_40 ?_
    refine lv_isub hx hb dX8_cube_41 ?_
    refine lv_sipush (v := nI 512) hx hb dX8_cube_42 (by decide) ?_
    refine lv_iadd hx hb dX8_cube_45 ?_
    exact rtR_i hQ hx hb hr hlk dX8_cube_46 (rfl)
  · refine lv_tableIn (off := 46) (tgt := 47) hx hb dX8_cube_1 (by decide) (by decide) (by decide +kernel) (by decide) ?_
    refine lv_bipush (v := nI 24) hx hb dX8_cube_47 (by decide) ?_
    refine lv_iload_n hx hb dX8_cube_49 rfl (lv_at hl 1 rfl) ?_
    refine lv_imul hx hb dX8_cube_50 ?_
    refine lv_iload_n hx hb dX8_cube_51 rfl (lv_at hl 1 rfl) ?_
    refine lv_imul hx hb dX8_cube_52 ?_
    refine lv_iconst (v := nI 2) hx hb dX8_cube_53 (by decide) ?_
    refine lv_iload_n hx hb dX8_cube_54 rfl (lv_at hl 1 rfl) ?_
    refine lv_imul hx hb dX8_cube_55 ?_
    refine lv_iload_n hx hb dX8_cube_56 rfl (lv_at hl 1 rfl) ?_
    refine lv_imul hx hb dX8_cube_57 ?_
    refine lv_iload_n hx hb dX8_cube_58 rfl (lv_at hl 1 rfl) ?_
    refine lv_imul hx hb dX8_cube_59 ?_
    refine lv_isub hx hb dX8_cube_60 ?_
    exact rtR_i hQ hx hb hr hlk dX8_cube_61 (rfl)
  · refine lv_tableIn (off := 61) (tgt := 62) hx hb dX8_cube_1 (by decide) (by decide) (by decide +kernel) (by decide) ?_
    refine lv_iload_n hx hb dX8_cube_62 rfl (lv_at hl 1 rfl) ?_
    refine lv_iload_n hx hb dX8_cube_63 rfl (lv_at hl 1 rfl) ?_
    refine lv_imul hx hb dX8_cube_64 ?_
    refine lv_iload_n hx hb dX8_cube_65 rfl (lv_at hl 1 rfl) ?_
    refine lv_imul hx hb dX8_cube_66 ?_
    refine lv_bipush (v := nI 16) hx hb dX8_cube_67 (by decide) ?_
    refine lv_iload_n hx hb dX8_cube_69 rfl (lv_at hl 1 rfl) ?_
    refine lv_imul hx hb dX8_cube_70 ?_
    refine lv_iload_n hx hb dX8_cube_71 rfl (lv_at hl 1 rfl) ?_
    refine lv_imul hx hb dX8_cube_72 ?_
    refine lv_isub hx hb dX8_cube_73 ?_
    refine lv_bipush (v := nI 64) hx hb dX8_cube_74 (by decide) ?_
    refine lv_iload_n hx hb dX8_cube_76 rfl (lv_at hl 1 rfl) ?_
    refine lv_imul hx hb dX8_cube_77 ?_
    refine lv_iadd hx hb dX8_cube_78 ?_
    exact rtR_i hQ hx hb hr hlk dX8_cube_79 (rfl)
  · refine lv_tableOut (tgt := 80) hx hb dX8_cube_1 (by decide) (by decide) ?_
    refine lv_iload_n hx hb dX8_cube_80 rfl (lv_at hl 1 rfl) ?_
    refine lv_iload_n hx hb dX8_cube_81 rfl (lv_at hl 1 rfl) ?_
    refine lv_imul hx hb dX8_cube_82 ?_
    refine lv_iload_n hx hb dX8_cube_83 rfl (lv_at hl 1 rfl) ?_
    refine lv_imul hx hb dX8_cube_84 ?_
    refine lv_bipush (v := nI 8) hx hb dX8_cube_85 (by decide) ?_
    refine lv_iload_n hx hb dX8_cube_87 rfl (lv_at hl 1 rfl) ?_
    refine lv_imul hx hb dX8_cube_88 ?_
    refine lv_iload_n hx hb dX8_cube_89 rfl (lv_at hl 1 rfl) ?_
    refine lv_imul hx hb dX8_cube_90 ?_
    refine lv_isub hx hb dX8_cube_91 ?_
    exact rtR_i hQ hx hb hr hlk dX8_cube_92 (rfl)
abbrev rmX8_colour : Room := { frames := 2, cells := 0, slots := 0, locals := 53 }
set_option maxRecDepth 20000 in
theorem iw_X8_colour_X8 : ∀ w ∈ u_ws RX8 TX8 18, w ∈ wsX8_colour := by decide +kernel
set_option maxHeartbeats 4000000 in
set_option maxRecDepth 100000 in
theorem c_X8_colour (l : Launch) (D : va_G) (cI cC cQ : ClassId) (a g0 g1 g2 g3 g4 g5 g6 g7 : Nat) (ik rn ps ty sp fr re cau co cm : Int32) (G : Nat → Nat → Int32) (p u v i : Nat) (hG : OKG G) (hp : p < 12) (hu : u < 9) (hv : v < 9) (hi : i < 3) : Met l yX8_colour wsX8_colour rmX8_colour (PR D cI cC cQ [.ref a, .int (nI p), .int (nI u), .int (nI v), .int (nI i)] [(a, .inr (8, [.ref g0, .ref g1, .ref g2, .ref g3, .int ik, .int rn, .int ps, .ref g4, .int ty, .ref g5, .ref g6, .int sp, .int fr, .int re, .int cau, .int co, .int cm, .ref g7])), (g0, .inl (cI, 240, .inl (MA G)))]) (vp_Si (fun z => z = colG G p u v i)) 0 0 (fun _ => False) := by
  refine metR (cc := cX8_colour) (maxL := 11) (ret := (some .int)) (by decide) rfl (Nat.le_of_ble_eq_true rfl) ?_
  intro pg ev s mi args below meth cd ls Q hQ hx hb hml hr hts hown hlk hK hP hl
  have hKa := hK.1
  have hl : lv_has ls 11 [(0, .ref a), (1, .int (nI p)), (2, .int (nI u)), (3, .int (nI v)), (4, .int (nI i))] := hl
  refine lv_iconst (v := nI 0) hx hb dX8_colour_0 (by decide) ?_
  refine lv_istore (lv' := [(5, .int (nI 0)), (0, .ref a), (1, .int (nI p)), (2, .int (nI u)), (3, .int (nI v)), (4, .int (nI i))]) hx hb dX8_colour_1 hl (by decide) rfl (fun ls hl => ?_)
  refine lv_iconst (v := nI 0) hx hb dX8_colour_3 (by decide) ?_
  refine lv_istore (lv' := [(6, .int (nI 0)), (5, .int (nI 0)), (0, .ref a), (1, .int (nI p)), (2, .int (nI u)), (3, .int (nI v)), (4, .int (nI i))]) hx hb dX8_colour_4 hl (by decide) rfl (fun ls hl => ?_)
  have L6 : ∀ (nn : Nat) (k : Nat) (m2 : Int32) (hk : k ≤ 4) (hm2 : m2 = sumI (blT (bP G p i) (bR G p i) (bC G p i) u v) k) (_ : 4 - k < nn) (ls : Array Slot) (_ : lv_has ls 11 [(5, .int m2), (6, .int (nI k)), (0, .ref a), (1, .int (nI p)), (2, .int (nI u)), (3, .int (nI v)), (4, .int (nI i))]), W pg l ev (headSpec wsX8_colour rmX8_colour).room s mi args below meth cd s.heap [] 0 0 Q (F0 mi 6 ls []) := by
    intro nn
    induction nn with
    | zero =>
      intro k m2 hk hm2 hmeas
      exact absurd hmeas (Nat.not_lt_zero _)
    | succ nn ih6 =>
      intro k m2 hk hm2 hmeas  ls hl
      refine lv_iload hx hb dX8_colour_6 (lv_at hl 1 rfl) ?_
      refine lv_iconst (v := nI 4) hx hb dX8_colour_8 (by decide) ?_
      refine gn_icmp_ge hx hb (by omega) (by decide) (tgt := 146) dX8_colour_9 (by decide) (fun c_9 => ?_) (fun c_9 => ?_)
      · refine lv_iload hx hb dX8_colour_146 (lv_at hl 0 rfl) ?_
        refine lv_ldc (v := nI 262144) hx hb hown (hts (.constant RX8 87 (nI 262144)) (by decide +kernel)) dX8_colour_148 ?_
        have hPc := hP.sub (ws' := []) [] rfl
        refine clRe (E := flI m2 (nI 262144)) (va_runS (As := [.int m2, .int (nI 262144)]) (rest := []) ⟨hx, hb, hml, hown, hts⟩ (c_X8_floor l D cI cC cQ m2 (nI 262144) (by decide)) (va_cwS (rm := rmX8_floor) 2 hts gX8_colour_X8_floor rfl rfl rfl (by decide +kernel) ⟨Nat.le_of_ble_eq_true rfl, Nat.le_of_ble_eq_true rfl⟩) ⟨PR.blind, PR.go hPc hK⟩ rfl rfl hl.1 rfl (lv_room (Nat.le_of_ble_eq_true rfl)) dX8_colour_150 ⟨Nat.le_of_ble_eq_true rfl, Nat.le_of_ble_eq_true rfl⟩) ?_
        have hfl := flI_col hG hp hu hv hi (show m2 = sumI (blT (bP G p i) (bR G p i) (bC G p i) u v) 4 by rw [hm2, show k = 4 by omega])
        refine lv_istore (lv' := [(6, .int (flI m2 (nI 262144))), (5, .int m2), (0, .ref a), (1, .int (nI p)), (2, .int (nI u)), (3, .int (nI v)), (4, .int (nI i))]) hx hb dX8_colour_153 hl (by decide) rfl (fun ls hl => ?_)
        refine lv_iload hx hb dX8_colour_155 (lv_at hl 0 rfl) ?_
        refine lv_if_ge hx hb (tgt := 164) dX8_colour_157 (by decide) (fun c_157 => ?_) (fun c_157 => ?_)
        · refine lv_iload hx hb dX8_colour_164 (lv_at hl 0 rfl) ?_
          refine lv_sipush (v := nI 255) hx hb dX8_colour_166 (by decide) ?_
          refine lv_icmp_le hx hb (tgt := 178) dX8_colour_169 (by decide) (fun c_169 => ?_) (fun c_169 => ?_)
          · refine lv_iload hx hb dX8_colour_178 (lv_at hl 0 rfl) ?_
            exact rtR_i hQ hx hb hr hlk dX8_colour_180 ((clp_mid (⟨c_157, c_169⟩) hfl).symm)
          · refine lv_sipush (v := nI 255) hx hb dX8_colour_172 (by decide) ?_
            refine lv_goto (tgt := 180) hx hb dX8_colour_175 (by decide) ?_
            exact rtR_i hQ hx hb hr hlk dX8_colour_180 ((clp_hi (Int32.not_le.mp c_169) hfl).symm)
        · refine lv_iconst (v := nI 0) hx hb dX8_colour_160 (by decide) ?_
          refine lv_goto (tgt := 180) hx hb dX8_colour_161 (by decide) ?_
          exact rtR_i hQ hx hb hr hlk dX8_colour_180 ((clp_lo (Int32.not_le.mp c_157) hfl).symm)
      · refine lv_iload hx hb dX8_colour_12 (lv_at hl 1 rfl) ?_
        refine lv_iconst (v := nI 2) hx hb dX8_colour_14 (by decide) ?_
        refine gn_rem hx hb (by omega) (by omega) (by omega) dX8_colour_15 ?_
        refine lv_istore (lv' := [(7, .int (nI (k % 2))), (5, .int m2), (6, .int (nI k)), (0, .ref a), (1, .int (nI p)), (2, .int (nI u)), (3, .int (nI v)), (4, .int (nI i))]) hx hb dX8_colour_16 hl (by decide) rfl (fun ls hl => ?_)
        refine lv_iload hx hb dX8_colour_18 (lv_at hl 2 rfl) ?_
        refine lv_iconst (v := nI 2) hx hb dX8_colour_20 (by decide) ?_
        refine gn_div hx hb (by omega) (by omega) (by omega) dX8_colour_21 ?_
        refine lv_istore (lv' := [(8, .int (nI (k / 2))), (7, .int (nI (k % 2))), (5, .int m2), (6, .int (nI k)), (0, .ref a), (1, .int (nI p)), (2, .int (nI u)), (3, .int (nI v)), (4, .int (nI i))]) hx hb dX8_colour_22 hl (by decide) rfl (fun ls hl => ?_)
        refine lv_iload_n hx hb dX8_colour_24 rfl (lv_at hl 5 rfl) ?_
        refine lv_iconst (v := nI 4) hx hb dX8_colour_25 (by decide) ?_
        refine gn_rem hx hb (by omega) (by omega) (by omega) dX8_colour_26 ?_
        refine lv_iload hx hb dX8_colour_27 (lv_at hl 1 rfl) ?_
        refine gn_add hx hb dX8_colour_29 ?_
        refine lv_istore (lv' := [(9, .int (nI ((p % 4) + (k % 2)))), (8, .int (nI (k / 2))), (7, .int (nI (k % 2))), (5, .int m2), (6, .int (nI k)), (0, .ref a), (1, .int (nI p)), (2, .int (nI u)), (3, .int (nI v)), (4, .int (nI i))]) hx hb dX8_colour_30 hl (by decide) rfl (fun ls hl => ?_)
        refine lv_iload_n hx hb dX8_colour_32 rfl (lv_at hl 6 rfl) ?_
        refine lv_iconst (v := nI 4) hx hb dX8_colour_33 (by decide) ?_
        refine gn_div hx hb (by omega) (by omega) (by omega) dX8_colour_34 ?_
        refine lv_iload hx hb dX8_colour_35 (lv_at hl 1 rfl) ?_
        refine gn_add hx hb dX8_colour_37 ?_
        refine lv_istore (lv' := [(10, .int (nI ((p / 4) + (k / 2)))), (9, .int (nI ((p % 4) + (k % 2)))), (8, .int (nI (k / 2))), (7, .int (nI (k % 2))), (5, .int m2), (6, .int (nI k)), (0, .ref a), (1, .int (nI p)), (2, .int (nI u)), (3, .int (nI v)), (4, .int (nI i))]) hx hb dX8_colour_38 hl (by decide) rfl (fun ls hl => ?_)
        refine lv_iload hx hb dX8_colour_40 (lv_at hl 4 rfl) ?_
        refine lv_aload_n hx hb dX8_colour_42 rfl (lv_at hl 6 rfl) ?_
        refine va_get (D := D) (ci := 8) (v := .ref g0) (C := RX8) (T := TX8) (N := 18) hx hb hts iw_X8_colour_X8 hown hKa hP 0 rfl rfl 0 (by decide) (hts (.fieldLink RX8 7 "ColourPatchesModel" "s" "[I") (by decide +kernel)) (fun _ h9 => h9) rfl dX8_colour_43 ?_
        refine lv_iload hx hb dX8_colour_46 (lv_at hl 1 rfl) ?_
        refine lv_iload hx hb dX8_colour_48 (lv_at hl 0 rfl) ?_
        have hPc := hP.sub (ws' := []) [] rfl
        refine clRe (E := nI (12 * (5 * ((p / 4) + (k / 2)) + ((p % 4) + (k % 2))))) (va_runS (As := [.int (nI ((p % 4) + (k % 2))), .int (nI ((p / 4) + (k / 2)))]) (rest := [.ref g0, .int m2]) ⟨hx, hb, hml, hown, hts⟩ (c_X8_at l D cI cC cQ ((p % 4) + (k % 2)) ((p / 4) + (k / 2)) ) (va_cwS (rm := rmX8_at) 2 hts gX8_colour_X8_at rfl rfl rfl (by decide +kernel) ⟨Nat.le_of_ble_eq_true rfl, Nat.le_of_ble_eq_true rfl⟩) ⟨PR.blind, PR.go hPc hK⟩ rfl rfl hl.1 rfl (lv_room (Nat.le_of_ble_eq_true rfl)) dX8_colour_50 ⟨Nat.le_of_ble_eq_true rfl, Nat.le_of_ble_eq_true rfl⟩) ?_
        refine lv_iconst (v := nI 2) hx hb dX8_colour_53 (by decide) ?_
        refine gn_add hx hb dX8_colour_54 ?_
        refine lv_iload hx hb dX8_colour_55 (lv_at hl 10 rfl) ?_
        refine gn_add hx hb dX8_colour_57 ?_
        refine gn_iald hx hb hKa hP 1 0 rfl rfl (k := ((12 * (5 * ((p / 4) + (k / 2)) + ((p % 4) + (k % 2)))) + 2) + i) (by omega) (by omega) dX8_colour_58 ?_
        rw [show MA G (((12 * (5 * ((p / 4) + (k / 2)) + ((p % 4) + (k % 2)))) + 2) + i) = G ((p / 4 + k / 2) * 5 + (p % 4 + k % 2)) (2 + i) from MA_at _ _ _ _ (by omega) (by omega)]
        refine lv_iload hx hb dX8_colour_59 (lv_at hl 3 rfl) ?_
        refine lv_iload_n hx hb dX8_colour_61 rfl (lv_at hl 8 rfl) ?_
        have hPc := hP.sub (ws' := []) [] rfl
        refine clRe (E := cbI (k % 2) (nI u)) (va_runS (As := [.int (nI (k % 2)), .int (nI u)]) (rest := [.int (G ((p / 4 + k / 2) * 5 + (p % 4 + k % 2)) (2 + i)), .int m2]) ⟨hx, hb, hml, hown, hts⟩ (c_X8_cube l D cI cC cQ (k % 2) (nI u) (by first | assumption | omega)) (va_cwS (rm := rmX8_cube) 2 hts gX8_colour_X8_cube rfl rfl rfl (by decide +kernel) ⟨Nat.le_of_ble_eq_true rfl, Nat.le_of_ble_eq_true rfl⟩) ⟨PR.blind, PR.go hPc hK⟩ rfl rfl hl.1 rfl (lv_room (Nat.le_of_ble_eq_true rfl)) dX8_colour_62 ⟨Nat.le_of_ble_eq_true rfl, Nat.le_of_ble_eq_true rfl⟩) ?_
        refine lv_imul hx hb dX8_colour_65 ?_
        refine lv_iload hx hb dX8_colour_66 (lv_at hl 2 rfl) ?_
        refine lv_iload_n hx hb dX8_colour_68 rfl (lv_at hl 9 rfl) ?_
        have hPc := hP.sub (ws' := []) [] rfl
        refine clRe (E := cbI (k / 2) (nI v)) (va_runS (As := [.int (nI (k / 2)), .int (nI v)]) (rest := [.int ((G ((p / 4 + k / 2) * 5 + (p % 4 + k % 2)) (2 + i)) * (cbI (k % 2) (nI u))), .int m2]) ⟨hx, hb, hml, hown, hts⟩ (c_X8_cube l D cI cC cQ (k / 2) (nI v) (by first | assumption | omega)) (va_cwS (rm := rmX8_cube) 2 hts gX8_colour_X8_cube rfl rfl rfl (by decide +kernel) ⟨Nat.le_of_ble_eq_true rfl, Nat.le_of_ble_eq_true rfl⟩) ⟨PR.blind, PR.go hPc hK⟩ rfl rfl hl.1 rfl (lv_room (Nat.le_of_ble_eq_true rfl)) dX8_colour_69 ⟨Nat.le_of_ble_eq_true rfl, Nat.le_of_ble_eq_true rfl⟩) ?_
        refine lv_imul hx hb dX8_colour_72 ?_
        refine lv_iadd hx hb dX8_colour_73 ?_
        refine lv_istore (lv' := [(5, .int (m2 + (((G ((p / 4 + k / 2) * 5 + (p % 4 + k % 2)) (2 + i)) * (cbI (k % 2) (nI u))) * (cbI (k / 2) (nI v))))), (10, .int (nI ((p / 4) + (k / 2)))), (9, .int (nI ((p % 4) + (k % 2)))), (8, .int (nI (k / 2))), (7, .int (nI (k % 2))), (6, .int (nI k)), (0, .ref a), (1, .int (nI p)), (2, .int (nI u)), (3, .int (nI v)), (4, .int (nI i))]) hx hb dX8_colour_74 hl (by decide) rfl (fun ls hl => ?_)
        refine lv_iload hx hb dX8_colour_76 (lv_at hl 0 rfl) ?_
        refine lv_aload_n hx hb dX8_colour_78 rfl (lv_at hl 6 rfl) ?_
        refine lv_iload hx hb dX8_colour_79 (lv_at hl 2 rfl) ?_
        refine lv_iload hx hb dX8_colour_81 (lv_at hl 1 rfl) ?_
        refine lv_iconst (v := nI 0) hx hb dX8_colour_83 (by decide) ?_
        refine lv_iload hx hb dX8_colour_84 (lv_at hl 10 rfl) ?_
        have hPc := hP.sub (ws' := [(a, .inr (8, [.ref g0, .ref g1, .ref g2, .ref g3, .int ik, .int rn, .int ps, .ref g4, .int ty, .ref g5, .ref g6, .int sp, .int fr, .int re, .int cau, .int co, .int cm, .ref g7])), (g0, .inl (cI, 240, .inl (MA G)))]) [0, 1] rfl
        refine clRe (E := slk G (((p / 4) + (k / 2)) * 5 + ((p % 4) + (k % 2))) 0 i) (va_runV (As := [.int (nI ((p % 4) + (k % 2))), .int (nI ((p / 4) + (k / 2))), .int (nI 0), .int (nI i)]) (rest := [.int (m2 + (((G ((p / 4 + k / 2) * 5 + (p % 4 + k % 2)) (2 + i)) * (cbI (k % 2) (nI u))) * (cbI (k / 2) (nI v))))]) ⟨hx, hb, hml, hown, hts⟩ (c_X8_slopeOf0 l D cI cC cQ a g0 g1 g2 g3 g4 g5 g6 g7 ik rn ps ty sp fr re cau co cm G ((p % 4) + (k % 2)) ((p / 4) + (k / 2)) i (by first | assumption | omega) (by first | assumption | omega) (by first | assumption | omega) (by first | assumption | omega)) (cwV (rm := rmX8_slopeOf0) 4 hts gX8_colour_X8_slopeOf rfl rfl rfl (by decide +kernel) ⟨Nat.le_of_ble_eq_true rfl, Nat.le_of_ble_eq_true rfl⟩) ⟨PR.blind, va_recv hKa hPc (ci := 8) (q0 := 0) rfl rfl, PR.go hPc hK⟩ rfl rfl hl.1 rfl (lv_room (Nat.le_of_ble_eq_true rfl)) dX8_colour_86 ⟨Nat.le_of_ble_eq_true rfl, Nat.le_of_ble_eq_true rfl⟩) ?_
        refine lv_iconst (v := nI 2) hx hb dX8_colour_89 (by decide) ?_
        refine lv_iload hx hb dX8_colour_90 (lv_at hl 4 rfl) ?_
        refine gn_add hx hb dX8_colour_92 ?_
        refine lv_iload_n hx hb dX8_colour_93 rfl (lv_at hl 8 rfl) ?_
        have hPc := hP.sub (ws' := []) [] rfl
        refine clRe (E := cbI (2 + (k % 2)) (nI u)) (va_runS (As := [.int (nI (2 + (k % 2))), .int (nI u)]) (rest := [.int (slk G (((p / 4) + (k / 2)) * 5 + ((p % 4) + (k % 2))) 0 i), .int (m2 + (((G ((p / 4 + k / 2) * 5 + (p % 4 + k % 2)) (2 + i)) * (cbI (k % 2) (nI u))) * (cbI (k / 2) (nI v))))]) ⟨hx, hb, hml, hown, hts⟩ (c_X8_cube l D cI cC cQ (2 + (k % 2)) (nI u) (by first | assumption | omega)) (va_cwS (rm := rmX8_cube) 2 hts gX8_colour_X8_cube rfl rfl rfl (by decide +kernel) ⟨Nat.le_of_ble_eq_true rfl, Nat.le_of_ble_eq_true rfl⟩) ⟨PR.blind, PR.go hPc hK⟩ rfl rfl hl.1 rfl (lv_room (Nat.le_of_ble_eq_true rfl)) dX8_colour_94 ⟨Nat.le_of_ble_eq_true rfl, Nat.le_of_ble_eq_true rfl⟩) ?_
        refine lv_imul hx hb dX8_colour_97 ?_
        refine lv_iload hx hb dX8_colour_98 (lv_at hl 3 rfl) ?_
        refine lv_iload_n hx hb dX8_colour_100 rfl (lv_at hl 9 rfl) ?_
        have hPc := hP.sub (ws' := []) [] rfl
        refine clRe (E := cbI (k / 2) (nI v)) (va_runS (As := [.int (nI (k / 2)), .int (nI v)]) (rest := [.int ((slk G (((p / 4) + (k / 2)) * 5 + ((p % 4) + (k % 2))) 0 i) * (cbI (2 + (k % 2)) (nI u))), .int (m2 + (((G ((p / 4 + k / 2) * 5 + (p % 4 + k % 2)) (2 + i)) * (cbI (k % 2) (nI u))) * (cbI (k / 2) (nI v))))]) ⟨hx, hb, hml, hown, hts⟩ (c_X8_cube l D cI cC cQ (k / 2) (nI v) (by first | assumption | omega)) (va_cwS (rm := rmX8_cube) 2 hts gX8_colour_X8_cube rfl rfl rfl (by decide +kernel) ⟨Nat.le_of_ble_eq_true rfl, Nat.le_of_ble_eq_true rfl⟩) ⟨PR.blind, PR.go hPc hK⟩ rfl rfl hl.1 rfl (lv_room (Nat.le_of_ble_eq_true rfl)) dX8_colour_101 ⟨Nat.le_of_ble_eq_true rfl, Nat.le_of_ble_eq_true rfl⟩) ?_
        refine lv_imul hx hb dX8_colour_104 ?_
        refine lv_iadd hx hb dX8_colour_105 ?_
        refine lv_istore (lv' := [(5, .int ((m2 + (((G ((p / 4 + k / 2) * 5 + (p % 4 + k % 2)) (2 + i)) * (cbI (k % 2) (nI u))) * (cbI (k / 2) (nI v)))) + (((slk G (((p / 4) + (k / 2)) * 5 + ((p % 4) + (k % 2))) 0 i) * (cbI (2 + (k % 2)) (nI u))) * (cbI (k / 2) (nI v))))), (10, .int (nI ((p / 4) + (k / 2)))), (9, .int (nI ((p % 4) + (k % 2)))), (8, .int (nI (k / 2))), (7, .int (nI (k % 2))), (6, .int (nI k)), (0, .ref a), (1, .int (nI p)), (2, .int (nI u)), (3, .int (nI v)), (4, .int (nI i))]) hx hb dX8_colour_106 hl (by decide) rfl (fun ls hl => ?_)
        refine lv_iload hx hb dX8_colour_108 (lv_at hl 0 rfl) ?_
        refine lv_aload_n hx hb dX8_colour_110 rfl (lv_at hl 6 rfl) ?_
        refine lv_iload hx hb dX8_colour_111 (lv_at hl 2 rfl) ?_
        refine lv_iload hx hb dX8_colour_113 (lv_at hl 1 rfl) ?_
        refine lv_iconst (v := nI 1) hx hb dX8_colour_115 (by decide) ?_
        refine lv_iload hx hb dX8_colour_116 (lv_at hl 10 rfl) ?_
        have hPc := hP.sub (ws' := [(a, .inr (8, [.ref g0, .ref g1, .ref g2, .ref g3, .int ik, .int rn, .int ps, .ref g4, .int ty, .ref g5, .ref g6, .int sp, .int fr, .int re, .int cau, .int co, .int cm, .ref g7])), (g0, .inl (cI, 240, .inl (MA G)))]) [0, 1] rfl
        refine clRe (E := slk G (((p / 4) + (k / 2)) * 5 + ((p % 4) + (k % 2))) 1 i) (va_runV (As := [.int (nI ((p % 4) + (k % 2))), .int (nI ((p / 4) + (k / 2))), .int (nI 1), .int (nI i)]) (rest := [.int ((m2 + (((G ((p / 4 + k / 2) * 5 + (p % 4 + k % 2)) (2 + i)) * (cbI (k % 2) (nI u))) * (cbI (k / 2) (nI v)))) + (((slk G (((p / 4) + (k / 2)) * 5 + ((p % 4) + (k % 2))) 0 i) * (cbI (2 + (k % 2)) (nI u))) * (cbI (k / 2) (nI v))))]) ⟨hx, hb, hml, hown, hts⟩ (c_X8_slopeOf1 l D cI cC cQ a g0 g1 g2 g3 g4 g5 g6 g7 ik rn ps ty sp fr re cau co cm G ((p % 4) + (k % 2)) ((p / 4) + (k / 2)) i (by first | assumption | omega) (by first | assumption | omega) (by first | assumption | omega) (by first | assumption | omega)) (cwV (rm := rmX8_slopeOf1) 4 hts gX8_colour_X8_slopeOf rfl rfl rfl (by decide +kernel) ⟨Nat.le_of_ble_eq_true rfl, Nat.le_of_ble_eq_true rfl⟩) ⟨PR.blind, va_recv hKa hPc (ci := 8) (q0 := 0) rfl rfl, PR.go hPc hK⟩ rfl rfl hl.1 rfl (lv_room (Nat.le_of_ble_eq_true rfl)) dX8_colour_118 ⟨Nat.le_of_ble_eq_true rfl, Nat.le_of_ble_eq_true rfl⟩) ?_
        refine lv_iload hx hb dX8_colour_121 (lv_at hl 4 rfl) ?_
        refine lv_iload_n hx hb dX8_colour_123 rfl (lv_at hl 8 rfl) ?_
        have hPc := hP.sub (ws' := []) [] rfl
        refine clRe (E := cbI (k % 2) (nI u)) (va_runS (As := [.int (nI (k % 2)), .int (nI u)]) (rest := [.int (slk G (((p / 4) + (k / 2)) * 5 + ((p % 4) + (k % 2))) 1 i), .int ((m2 + (((G ((p / 4 + k / 2) * 5 + (p % 4 + k % 2)) (2 + i)) * (cbI (k % 2) (nI u))) * (cbI (k / 2) (nI v)))) + (((slk G (((p / 4) + (k / 2)) * 5 + ((p % 4) + (k % 2))) 0 i) * (cbI (2 + (k % 2)) (nI u))) * (cbI (k / 2) (nI v))))]) ⟨hx, hb, hml, hown, hts⟩ (c_X8_cube l D cI cC cQ (k % 2) (nI u) (by first | assumption | omega)) (va_cwS (rm := rmX8_cube) 2 hts gX8_colour_X8_cube rfl rfl rfl (by decide +kernel) ⟨Nat.le_of_ble_eq_true rfl, Nat.le_of_ble_eq_true rfl⟩) ⟨PR.blind, PR.go hPc hK⟩ rfl rfl hl.1 rfl (lv_room (Nat.le_of_ble_eq_true rfl)) dX8_colour_124 ⟨Nat.le_of_ble_eq_true rfl, Nat.le_of_ble_eq_true rfl⟩) ?_
        refine lv_imul hx hb dX8_colour_127 ?_
        refine lv_iconst (v := nI 2) hx hb dX8_colour_128 (by decide) ?_
        refine lv_iload hx hb dX8_colour_129 (lv_at hl 3 rfl) ?_
        refine gn_add hx hb dX8_colour_131 ?_
        refine lv_iload_n hx hb dX8_colour_132 rfl (lv_at hl 9 rfl) ?_
        have hPc := hP.sub (ws' := []) [] rfl
        refine clRe (E := cbI (2 + (k / 2)) (nI v)) (va_runS (As := [.int (nI (2 + (k / 2))), .int (nI v)]) (rest := [.int ((slk G (((p / 4) + (k / 2)) * 5 + ((p % 4) + (k % 2))) 1 i) * (cbI (k % 2) (nI u))), .int ((m2 + (((G ((p / 4 + k / 2) * 5 + (p % 4 + k % 2)) (2 + i)) * (cbI (k % 2) (nI u))) * (cbI (k / 2) (nI v)))) + (((slk G (((p / 4) + (k / 2)) * 5 + ((p % 4) + (k % 2))) 0 i) * (cbI (2 + (k % 2)) (nI u))) * (cbI (k / 2) (nI v))))]) ⟨hx, hb, hml, hown, hts⟩ (c_X8_cube l D cI cC cQ (2 + (k / 2)) (nI v) (by first | assumption | omega)) (va_cwS (rm := rmX8_cube) 2 hts gX8_colour_X8_cube rfl rfl rfl (by decide +kernel) ⟨Nat.le_of_ble_eq_true rfl, Nat.le_of_ble_eq_true rfl⟩) ⟨PR.blind, PR.go hPc hK⟩ rfl rfl hl.1 rfl (lv_room (Nat.le_of_ble_eq_true rfl)) dX8_colour_133 ⟨Nat.le_of_ble_eq_true rfl, Nat.le_of_ble_eq_true rfl⟩) ?_
        refine lv_imul hx hb dX8_colour_136 ?_
        refine lv_iadd hx hb dX8_colour_137 ?_
        refine lv_istore (lv' := [(5, .int (((m2 + (((G ((p / 4 + k / 2) * 5 + (p % 4 + k % 2)) (2 + i)) * (cbI (k % 2) (nI u))) * (cbI (k / 2) (nI v)))) + (((slk G (((p / 4) + (k / 2)) * 5 + ((p % 4) + (k % 2))) 0 i) * (cbI (2 + (k % 2)) (nI u))) * (cbI (k / 2) (nI v)))) + (((slk G (((p / 4) + (k / 2)) * 5 + ((p % 4) + (k % 2))) 1 i) * (cbI (k % 2) (nI u))) * (cbI (2 + (k / 2)) (nI v))))), (10, .int (nI ((p / 4) + (k / 2)))), (9, .int (nI ((p % 4) + (k % 2)))), (8, .int (nI (k / 2))), (7, .int (nI (k % 2))), (6, .int (nI k)), (0, .ref a), (1, .int (nI p)), (2, .int (nI u)), (3, .int (nI v)), (4, .int (nI i))]) hx hb dX8_colour_138 hl (by decide) rfl (fun ls hl => ?_)
        refine gn_iinc (lv' := [(6, .int (nI (k + 1))), (5, .int (((m2 + (((G ((p / 4 + k / 2) * 5 + (p % 4 + k % 2)) (2 + i)) * (cbI (k % 2) (nI u))) * (cbI (k / 2) (nI v)))) + (((slk G (((p / 4) + (k / 2)) * 5 + ((p % 4) + (k % 2))) 0 i) * (cbI (2 + (k % 2)) (nI u))) * (cbI (k / 2) (nI v)))) + (((slk G (((p / 4) + (k / 2)) * 5 + ((p % 4) + (k % 2))) 1 i) * (cbI (k % 2) (nI u))) * (cbI (2 + (k / 2)) (nI v))))), (10, .int (nI ((p / 4) + (k / 2)))), (9, .int (nI ((p % 4) + (k % 2)))), (8, .int (nI (k / 2))), (7, .int (nI (k % 2))), (0, .ref a), (1, .int (nI p)), (2, .int (nI u)), (3, .int (nI v)), (4, .int (nI i))]) hx hb dX8_colour_140 hl (k := 5) rfl (by decide) rfl (fun ls hl => ?_)
        refine lv_goto (tgt := 6) hx hb dX8_colour_143 (by decide) ?_
        exact ih6 (k + 1) (((m2 + (((G ((p / 4 + k / 2) * 5 + (p % 4 + k % 2)) (2 + i)) * (cbI (k % 2) (nI u))) * (cbI (k / 2) (nI v)))) + (((slk G (((p / 4) + (k / 2)) * 5 + ((p % 4) + (k % 2))) 0 i) * (cbI (2 + (k % 2)) (nI u))) * (cbI (k / 2) (nI v)))) + (((slk G (((p / 4) + (k / 2)) * 5 + ((p % 4) + (k % 2))) 1 i) * (cbI (k % 2) (nI u))) * (cbI (2 + (k / 2)) (nI v)))) (show (k + 1) ≤ 4 from by first | omega | assumption | rfl) (show (((m2 + (((G ((p / 4 + k / 2) * 5 + (p % 4 + k % 2)) (2 + i)) * (cbI (k % 2) (nI u))) * (cbI (k / 2) (nI v)))) + (((slk G (((p / 4) + (k / 2)) * 5 + ((p % 4) + (k % 2))) 0 i) * (cbI (2 + (k % 2)) (nI u))) * (cbI (k / 2) (nI v)))) + (((slk G (((p / 4) + (k / 2)) * 5 + ((p % 4) + (k % 2))) 1 i) * (cbI (k % 2) (nI u))) * (cbI (2 + (k / 2)) (nI v)))) = sumI (blT (bP G p i) (bR G p i) (bC G p i) u v) (k + 1) from by rw [hm2, cbI_lo _ (show k % 2 < 2 by omega), cbI_lo _ (show k / 2 < 2 by omega), cbI_hi, cbI_hi]; exact add4 _ _ _ _) (by first | omega | assumption) _ (lv_sub hl [1, 0, 6, 7, 8, 9, 10] rfl)
  exact L6 ((4 - 0) + 1) 0 (nI 0) (show 0 ≤ 4 from by first | omega | assumption | rfl) (show (nI 0) = sumI (blT (bP G p i) (bR G p i) (bC G p i) u v) 0 from rfl) (Nat.lt_succ_self _) _ (lv_sub hl [1, 0, 2, 3, 4, 5, 6] rfl)
abbrev rmX8_placeOf : Room := { frames := 1, cells := 0, slots := 0, locals := 21 }
set_option maxRecDepth 20000 in
theorem iw_X8_placeOf_X8 : ∀ w ∈ u_ws RX8 TX8 18, w ∈ wsX8_placeOf := by decide +kernel
set_option maxHeartbeats 4000000 in
set_option maxRecDepth 100000 in
theorem c_X8_placeOf (l : Launch) (D : va_G) (cI cC cQ : ClassId) (a g0 g1 g2 g3 g4 g5 g6 g7 : Nat) (ik rn ps ty sp fr re cau co cm : Int32) (G : Nat → Nat → Int32) (p u v w : Nat) (hp : p < 12) (hu : u < 9) (hv : v < 9) (hw : w < 2) : Met l yX8_placeOf wsX8_placeOf rmX8_placeOf (PR D cI cC cQ [.ref a, .int (nI p), .int (nI u), .int (nI v), .int (nI w)] [(a, .inr (8, [.ref g0, .ref g1, .ref g2, .ref g3, .int ik, .int rn, .int ps, .ref g4, .int ty, .ref g5, .ref g6, .int sp, .int fr, .int re, .int cau, .int co, .int cm, .ref g7])), (g0, .inl (cI, 240, .inl (MA G)))]) (vp_Si (fun z => z = plc (fun k => G k w) p u v)) 0 0 (fun _ => False) := by
  refine metR (cc := cX8_placeOf) (maxL := 9) (ret := (some .int)) (by decide) rfl (Nat.le_of_ble_eq_true rfl) ?_
  intro pg ev s mi args below meth cd ls Q hQ hx hb hml hr hts hown hlk hK hP hl
  have hKa := hK.1
  have hl : lv_has ls 9 [(0, .ref a), (1, .int (nI p)), (2, .int (nI u)), (3, .int (nI v)), (4, .int (nI w))] := hl
  refine lv_iconst (v := nI 0) hx hb dX8_placeOf_0 (by decide) ?_
  refine lv_istore (lv' := [(5, .int (nI 0)), (0, .ref a), (1, .int (nI p)), (2, .int (nI u)), (3, .int (nI v)), (4, .int (nI w))]) hx hb dX8_placeOf_1 hl (by decide) rfl (fun ls hl => ?_)
  refine lv_iconst (v := nI 0) hx hb dX8_placeOf_3 (by decide) ?_
  refine lv_istore (lv' := [(6, .int (nI 0)), (5, .int (nI 0)), (0, .ref a), (1, .int (nI p)), (2, .int (nI u)), (3, .int (nI v)), (4, .int (nI w))]) hx hb dX8_placeOf_4 hl (by decide) rfl (fun ls hl => ?_)
  have L6 : ∀ (nn : Nat) (k : Nat) (m2 : Int32) (hk : k ≤ 4) (hm2 : m2 = sumI (fun q => G (cp p q) w * wx (q % 2) u * wx (q / 2) v) k) (_ : 4 - k < nn) (ls : Array Slot) (_ : lv_has ls 9 [(5, .int m2), (6, .int (nI k)), (0, .ref a), (1, .int (nI p)), (2, .int (nI u)), (3, .int (nI v)), (4, .int (nI w))]), W pg l ev (headSpec wsX8_placeOf rmX8_placeOf).room s mi args below meth cd s.heap [] 0 0 Q (F0 mi 6 ls []) := by
    intro nn
    induction nn with
    | zero =>
      intro k m2 hk hm2 hmeas
      exact absurd hmeas (Nat.not_lt_zero _)
    | succ nn ih6 =>
      intro k m2 hk hm2 hmeas  ls hl
      refine lv_iload hx hb dX8_placeOf_6 (lv_at hl 1 rfl) ?_
      refine lv_iconst (v := nI 4) hx hb dX8_placeOf_8 (by decide) ?_
      refine gn_icmp_ge hx hb (by omega) (by decide) (tgt := 88) dX8_placeOf_9 (by decide) (fun c_9 => ?_) (fun c_9 => ?_)
      · refine lv_iload hx hb dX8_placeOf_88 (lv_at hl 0 rfl) ?_
        refine lv_bipush (v := nI 64) hx hb dX8_placeOf_90 (by decide) ?_
        refine lv_idiv hx hb dX8_placeOf_92 (by decide) ?_
        exact rtR_i hQ hx hb hr hlk dX8_placeOf_93 (by rw [hm2, show k = 4 by omega]; rfl)
      · refine lv_iload hx hb dX8_placeOf_12 (lv_at hl 1 rfl) ?_
        refine lv_iconst (v := nI 2) hx hb dX8_placeOf_14 (by decide) ?_
        refine gn_rem hx hb (by omega) (by omega) (by omega) dX8_placeOf_15 ?_
        refine lv_istore (lv' := [(7, .int (nI (k % 2))), (5, .int m2), (6, .int (nI k)), (0, .ref a), (1, .int (nI p)), (2, .int (nI u)), (3, .int (nI v)), (4, .int (nI w))]) hx hb dX8_placeOf_16 hl (by decide) rfl (fun ls hl => ?_)
        refine lv_iload hx hb dX8_placeOf_18 (lv_at hl 2 rfl) ?_
        refine lv_iconst (v := nI 2) hx hb dX8_placeOf_20 (by decide) ?_
        refine gn_div hx hb (by omega) (by omega) (by omega) dX8_placeOf_21 ?_
        refine lv_istore (lv' := [(8, .int (nI (k / 2))), (7, .int (nI (k % 2))), (5, .int m2), (6, .int (nI k)), (0, .ref a), (1, .int (nI p)), (2, .int (nI u)), (3, .int (nI v)), (4, .int (nI w))]) hx hb dX8_placeOf_22 hl (by decide) rfl (fun ls hl => ?_)
        refine lv_iload hx hb dX8_placeOf_24 (lv_at hl 2 rfl) ?_
        refine lv_aload_n hx hb dX8_placeOf_26 rfl (lv_at hl 4 rfl) ?_
        refine va_get (D := D) (ci := 8) (v := .ref g0) (C := RX8) (T := TX8) (N := 18) hx hb hts iw_X8_placeOf_X8 hown hKa hP 0 rfl rfl 0 (by decide) (hts (.fieldLink RX8 7 "ColourPatchesModel" "s" "[I") (by decide +kernel)) (fun _ h9 => h9) rfl dX8_placeOf_27 ?_
        refine lv_iload_n hx hb dX8_placeOf_30 rfl (lv_at hl 5 rfl) ?_
        refine lv_iconst (v := nI 4) hx hb dX8_placeOf_31 (by decide) ?_
        refine gn_rem hx hb (by omega) (by omega) (by omega) dX8_placeOf_32 ?_
        refine lv_iload hx hb dX8_placeOf_33 (lv_at hl 1 rfl) ?_
        refine gn_add hx hb dX8_placeOf_35 ?_
        refine lv_iload_n hx hb dX8_placeOf_36 rfl (lv_at hl 5 rfl) ?_
        refine lv_iconst (v := nI 4) hx hb dX8_placeOf_37 (by decide) ?_
        refine gn_div hx hb (by omega) (by omega) (by omega) dX8_placeOf_38 ?_
        refine lv_iload hx hb dX8_placeOf_39 (lv_at hl 0 rfl) ?_
        refine gn_add hx hb dX8_placeOf_41 ?_
        have hPc := hP.sub (ws' := []) [] rfl
        refine clRe (E := nI (12 * (5 * ((p / 4) + (k / 2)) + ((p % 4) + (k % 2))))) (va_runS (As := [.int (nI ((p % 4) + (k % 2))), .int (nI ((p / 4) + (k / 2)))]) (rest := [.ref g0, .int m2]) ⟨hx, hb, hml, hown, hts⟩ (c_X8_at l D cI cC cQ ((p % 4) + (k % 2)) ((p / 4) + (k / 2)) ) (va_cwS (rm := rmX8_at) 2 hts gX8_placeOf_X8_at rfl rfl rfl (by decide +kernel) ⟨Nat.le_of_ble_eq_true rfl, Nat.le_of_ble_eq_true rfl⟩) ⟨PR.blind, PR.go hPc hK⟩ rfl rfl hl.1 rfl (lv_room (Nat.le_of_ble_eq_true rfl)) dX8_placeOf_42 ⟨Nat.le_of_ble_eq_true rfl, Nat.le_of_ble_eq_true rfl⟩) ?_
        refine lv_iload hx hb dX8_placeOf_45 (lv_at hl 8 rfl) ?_
        refine gn_add hx hb dX8_placeOf_47 ?_
        refine gn_iald hx hb hKa hP 1 0 rfl rfl (k := (12 * (5 * ((p / 4) + (k / 2)) + ((p % 4) + (k % 2)))) + w) (by omega) (by omega) dX8_placeOf_48 ?_
        rw [show MA G ((12 * (5 * ((p / 4) + (k / 2)) + ((p % 4) + (k % 2)))) + w) = G ((p / 4 + k / 2) * 5 + (p % 4 + k % 2)) w from MA_at _ _ _ _ (by omega) (by omega)]
        refine lv_iload hx hb dX8_placeOf_49 (lv_at hl 1 rfl) ?_
        refine lv_iconst (v := nI 1) hx hb dX8_placeOf_51 (by decide) ?_
        refine gn_icmp_ne hx hb (by omega) (by decide) (tgt := 59) dX8_placeOf_52 (by decide) (fun c_52 => ?_) (fun c_52 => ?_)
        · refine lv_bipush (v := nI 8) hx hb dX8_placeOf_59 (by decide) ?_
          refine lv_iload_n hx hb dX8_placeOf_61 rfl (lv_at hl 6 rfl) ?_
          refine gn_sub hx hb (by omega) dX8_placeOf_62 ?_
          refine lv_imul hx hb dX8_placeOf_63 ?_
          refine lv_iload hx hb dX8_placeOf_64 (lv_at hl 0 rfl) ?_
          refine lv_iconst (v := nI 1) hx hb dX8_placeOf_66 (by decide) ?_
          refine gn_icmp_ne hx hb (by omega) (by decide) (tgt := 74) dX8_placeOf_67 (by decide) (fun c_67 => ?_) (fun c_67 => ?_)
          · refine lv_bipush (v := nI 8) hx hb dX8_placeOf_74 (by decide) ?_
            refine lv_iload_n hx hb dX8_placeOf_76 rfl (lv_at hl 7 rfl) ?_
            refine gn_sub hx hb (by omega) dX8_placeOf_77 ?_
            refine lv_imul hx hb dX8_placeOf_78 ?_
            refine lv_iadd hx hb dX8_placeOf_79 ?_
            refine lv_istore (lv' := [(5, .int (m2 + (((G ((p / 4 + k / 2) * 5 + (p % 4 + k % 2)) w) * (nI (8 - u))) * (nI (8 - v))))), (8, .int (nI (k / 2))), (7, .int (nI (k % 2))), (6, .int (nI k)), (0, .ref a), (1, .int (nI p)), (2, .int (nI u)), (3, .int (nI v)), (4, .int (nI w))]) hx hb dX8_placeOf_80 hl (by decide) rfl (fun ls hl => ?_)
            refine gn_iinc (lv' := [(6, .int (nI (k + 1))), (5, .int (m2 + (((G ((p / 4 + k / 2) * 5 + (p % 4 + k % 2)) w) * (nI (8 - u))) * (nI (8 - v))))), (8, .int (nI (k / 2))), (7, .int (nI (k % 2))), (0, .ref a), (1, .int (nI p)), (2, .int (nI u)), (3, .int (nI v)), (4, .int (nI w))]) hx hb dX8_placeOf_82 hl (k := 3) rfl (by decide) rfl (fun ls hl => ?_)
            refine lv_goto (tgt := 6) hx hb dX8_placeOf_85 (by decide) ?_
            exact ih6 (k + 1) (m2 + (((G ((p / 4 + k / 2) * 5 + (p % 4 + k % 2)) w) * (nI (8 - u))) * (nI (8 - v)))) (show (k + 1) ≤ 4 from by first | omega | assumption | rfl) (show (m2 + (((G ((p / 4 + k / 2) * 5 + (p % 4 + k % 2)) w) * (nI (8 - u))) * (nI (8 - v)))) = sumI (fun q => G (cp p q) w * wx (q % 2) u * wx (q / 2) v) (k + 1) from by rw [hm2]; show _ = _ + G (cp p k) w * wx (k % 2) u * wx (k / 2) v; simp only [wx]; rw [if_pos (show k % 2 = 0 by omega), if_pos (show k / 2 = 0 by omega)]; rfl) (by first | omega | assumption) _ (lv_sub hl [1, 0, 4, 5, 6, 7, 8] rfl)
          · refine lv_iload_n hx hb dX8_placeOf_70 rfl (lv_at hl 7 rfl) ?_
            refine lv_goto (tgt := 78) hx hb dX8_placeOf_71 (by decide) ?_
            refine lv_imul hx hb dX8_placeOf_78 ?_
            refine lv_iadd hx hb dX8_placeOf_79 ?_
            refine lv_istore (lv' := [(5, .int (m2 + (((G ((p / 4 + k / 2) * 5 + (p % 4 + k % 2)) w) * (nI (8 - u))) * (nI v)))), (8, .int (nI (k / 2))), (7, .int (nI (k % 2))), (6, .int (nI k)), (0, .ref a), (1, .int (nI p)), (2, .int (nI u)), (3, .int (nI v)), (4, .int (nI w))]) hx hb dX8_placeOf_80 hl (by decide) rfl (fun ls hl => ?_)
            refine gn_iinc (lv' := [(6, .int (nI (k + 1))), (5, .int (m2 + (((G ((p / 4 + k / 2) * 5 + (p % 4 + k % 2)) w) * (nI (8 - u))) * (nI v)))), (8, .int (nI (k / 2))), (7, .int (nI (k % 2))), (0, .ref a), (1, .int (nI p)), (2, .int (nI u)), (3, .int (nI v)), (4, .int (nI w))]) hx hb dX8_placeOf_82 hl (k := 3) rfl (by decide) rfl (fun ls hl => ?_)
            refine lv_goto (tgt := 6) hx hb dX8_placeOf_85 (by decide) ?_
            exact ih6 (k + 1) (m2 + (((G ((p / 4 + k / 2) * 5 + (p % 4 + k % 2)) w) * (nI (8 - u))) * (nI v))) (show (k + 1) ≤ 4 from by first | omega | assumption | rfl) (show (m2 + (((G ((p / 4 + k / 2) * 5 + (p % 4 + k % 2)) w) * (nI (8 - u))) * (nI v))) = sumI (fun q => G (cp p q) w * wx (q % 2) u * wx (q / 2) v) (k + 1) from by rw [hm2]; show _ = _ + G (cp p k) w * wx (k % 2) u * wx (k / 2) v; simp only [wx]; rw [if_pos (show k % 2 = 0 by omega), if_neg (show ¬ k / 2 = 0 by omega)]; rfl) (by first | omega | assumption) _ (lv_sub hl [1, 0, 4, 5, 6, 7, 8] rfl)
        · refine lv_iload_n hx hb dX8_placeOf_55 rfl (lv_at hl 6 rfl) ?_
          refine lv_goto (tgt := 63) hx hb dX8_placeOf_56 (by decide) ?_
          refine lv_imul hx hb dX8_placeOf_63 ?_
          refine lv_iload hx hb dX8_placeOf_64 (lv_at hl 0 rfl) ?_
          refine lv_iconst (v := nI 1) hx hb dX8_placeOf_66 (by decide) ?_
          refine gn_icmp_ne hx hb (by omega) (by decide) (tgt := 74) dX8_placeOf_67 (by decide) (fun c_67 => ?_) (fun c_67 => ?_)
          · refine lv_bipush (v := nI 8) hx hb dX8_placeOf_74 (by decide) ?_
            refine lv_iload_n hx hb dX8_placeOf_76 rfl (lv_at hl 7 rfl) ?_
            refine gn_sub hx hb (by omega) dX8_placeOf_77 ?_
            refine lv_imul hx hb dX8_placeOf_78 ?_
            refine lv_iadd hx hb dX8_placeOf_79 ?_
            refine lv_istore (lv' := [(5, .int (m2 + (((G ((p / 4 + k / 2) * 5 + (p % 4 + k % 2)) w) * (nI u)) * (nI (8 - v))))), (8, .int (nI (k / 2))), (7, .int (nI (k % 2))), (6, .int (nI k)), (0, .ref a), (1, .int (nI p)), (2, .int (nI u)), (3, .int (nI v)), (4, .int (nI w))]) hx hb dX8_placeOf_80 hl (by decide) rfl (fun ls hl => ?_)
            refine gn_iinc (lv' := [(6, .int (nI (k + 1))), (5, .int (m2 + (((G ((p / 4 + k / 2) * 5 + (p % 4 + k % 2)) w) * (nI u)) * (nI (8 - v))))), (8, .int (nI (k / 2))), (7, .int (nI (k % 2))), (0, .ref a), (1, .int (nI p)), (2, .int (nI u)), (3, .int (nI v)), (4, .int (nI w))]) hx hb dX8_placeOf_82 hl (k := 3) rfl (by decide) rfl (fun ls hl => ?_)
            refine lv_goto (tgt := 6) hx hb dX8_placeOf_85 (by decide) ?_
            exact ih6 (k + 1) (m2 + (((G ((p / 4 + k / 2) * 5 + (p % 4 + k % 2)) w) * (nI u)) * (nI (8 - v)))) (show (k + 1) ≤ 4 from by first | omega | assumption | rfl) (show (m2 + (((G ((p / 4 + k / 2) * 5 + (p % 4 + k % 2)) w) * (nI u)) * (nI (8 - v)))) = sumI (fun q => G (cp p q) w * wx (q % 2) u * wx (q / 2) v) (k + 1) from by rw [hm2]; show _ = _ + G (cp p k) w * wx (k % 2) u * wx (k / 2) v; simp only [wx]; rw [if_neg (show ¬ k % 2 = 0 by omega), if_pos (show k / 2 = 0 by omega)]; rfl) (by first | omega | assumption) _ (lv_sub hl [1, 0, 4, 5, 6, 7, 8] rfl)
          · refine lv_iload_n hx hb dX8_placeOf_70 rfl (lv_at hl 7 rfl) ?_
            refine lv_goto (tgt := 78) hx hb dX8_placeOf_71 (by decide) ?_
            refine lv_imul hx hb dX8_placeOf_78 ?_
            refine lv_iadd hx hb dX8_placeOf_79 ?_
            refine lv_istore (lv' := [(5, .int (m2 + (((G ((p / 4 + k / 2) * 5 + (p % 4 + k % 2)) w) * (nI u)) * (nI v)))), (8, .int (nI (k / 2))), (7, .int (nI (k % 2))), (6, .int (nI k)), (0, .ref a), (1, .int (nI p)), (2, .int (nI u)), (3, .int (nI v)), (4, .int (nI w))]) hx hb dX8_placeOf_80 hl (by decide) rfl (fun ls hl => ?_)
            refine gn_iinc (lv' := [(6, .int (nI (k + 1))), (5, .int (m2 + (((G ((p / 4 + k / 2) * 5 + (p % 4 + k % 2)) w) * (nI u)) * (nI v)))), (8, .int (nI (k / 2))), (7, .int (nI (k % 2))), (0, .ref a), (1, .int (nI p)), (2, .int (nI u)), (3, .int (nI v)), (4, .int (nI w))]) hx hb dX8_placeOf_82 hl (k := 3) rfl (by decide) rfl (fun ls hl => ?_)
            refine lv_goto (tgt := 6) hx hb dX8_placeOf_85 (by decide) ?_
            exact ih6 (k + 1) (m2 + (((G ((p / 4 + k / 2) * 5 + (p % 4 + k % 2)) w) * (nI u)) * (nI v))) (show (k + 1) ≤ 4 from by first | omega | assumption | rfl) (show (m2 + (((G ((p / 4 + k / 2) * 5 + (p % 4 + k % 2)) w) * (nI u)) * (nI v))) = sumI (fun q => G (cp p q) w * wx (q % 2) u * wx (q / 2) v) (k + 1) from by rw [hm2]; show _ = _ + G (cp p k) w * wx (k % 2) u * wx (k / 2) v; simp only [wx]; rw [if_neg (show ¬ k % 2 = 0 by omega), if_neg (show ¬ k / 2 = 0 by omega)]; rfl) (by first | omega | assumption) _ (lv_sub hl [1, 0, 4, 5, 6, 7, 8] rfl)
  exact L6 ((4 - 0) + 1) 0 (nI 0) (show 0 ≤ 4 from by first | omega | assumption | rfl) (show (nI 0) = sumI (fun q => G (cp p q) w * wx (q % 2) u * wx (q / 2) v) 0 from rfl) (Nat.lt_succ_self _) _ (lv_sub hl [1, 0, 2, 3, 4, 5, 6] rfl)
abbrev rmX8_around : Room := { frames := 1, cells := 0, slots := 0, locals := 21 }
set_option maxHeartbeats 4000000 in
set_option maxRecDepth 100000 in
theorem c_X8_around (l : Launch) (D : va_G) (cI cC cQ : ClassId) (p t : Nat) (hp : p < 12) (ht : t < 6) : Met l yX8_around wsX8_around rmX8_around (PR D cI cC cQ [.int (nI p), .int (nI t)] []) (vp_Si (fun z => z = nI (12 * ca p t))) 0 0 (fun _ => False) := by
  refine metR (cc := cX8_around) (maxL := 3) (ret := (some .int)) (by decide) rfl (Nat.le_of_ble_eq_true rfl) ?_
  intro pg ev s mi args below meth cd ls Q hQ hx hb hml hr hts hown hlk hK hP hl
  have hKa := hK.1
  have hl : lv_has ls 3 [(0, .int (nI p)), (1, .int (nI t))] := hl
  refine lv_iload_n hx hb dX8_around_0 rfl (lv_at hl 1 rfl) ?_
  refine lv_iconst (v := nI 4) hx hb dX8_around_1 (by decide) ?_
  refine gn_rem hx hb (by omega) (by omega) (by omega) dX8_around_2 ?_
  refine lv_istore_n (lv' := [(2, .int (nI (t % 4))), (0, .int (nI p)), (1, .int (nI t))]) hx hb dX8_around_3 rfl hl (by decide) rfl (fun ls hl => ?_)
  refine lv_iload_n hx hb dX8_around_4 rfl (lv_at hl 1 rfl) ?_
  refine lv_iconst (v := nI 4) hx hb dX8_around_5 (by decide) ?_
  refine gn_rem hx hb (by omega) (by omega) (by omega) dX8_around_6 ?_
  refine lv_iload_n hx hb dX8_around_7 rfl (lv_at hl 0 rfl) ?_
  refine lv_iconst (v := nI 1) hx hb dX8_around_8 (by decide) ?_
  refine gn_icmp_eq hx hb (by omega) (by decide) (tgt := 17) dX8_around_9 (by decide) (fun c_9 => ?_) (fun c_9 => ?_)
  · refine lv_iconst (v := nI 1) hx hb dX8_around_17 (by decide) ?_
    refine lv_goto (tgt := 22) hx hb dX8_around_18 (by decide) ?_
    refine gn_add hx hb dX8_around_22 ?_
    refine lv_iload_n hx hb dX8_around_23 rfl (lv_at hl 1 rfl) ?_
    refine lv_iconst (v := nI 4) hx hb dX8_around_24 (by decide) ?_
    refine gn_div hx hb (by omega) (by omega) (by omega) dX8_around_25 ?_
    refine lv_iload_n hx hb dX8_around_26 rfl (lv_at hl 0 rfl) ?_
    refine lv_iconst (v := nI 1) hx hb dX8_around_27 (by decide) ?_
    refine gn_icmp_le hx hb (by omega) (by decide) (tgt := 35) dX8_around_28 (by decide) (fun c_28 => ?_) (fun c_28 => ?_)
    · refine lv_iconst (v := nI 0) hx hb dX8_around_35 (by decide) ?_
      refine gn_add hx hb dX8_around_36 ?_
      have hPc := hP.sub (ws' := []) [] rfl
      refine clRe (E := nI (12 * (5 * ((p / 4) + 0) + ((p % 4) + 1)))) (va_runS (As := [.int (nI ((p % 4) + 1)), .int (nI ((p / 4) + 0))]) (rest := []) ⟨hx, hb, hml, hown, hts⟩ (c_X8_at l D cI cC cQ ((p % 4) + 1) ((p / 4) + 0) ) (va_cwS (rm := rmX8_at) 2 hts gX8_around_X8_at rfl rfl rfl (by decide +kernel) ⟨Nat.le_of_ble_eq_true rfl, Nat.le_of_ble_eq_true rfl⟩) ⟨PR.blind, PR.go hPc hK⟩ rfl rfl hl.1 rfl (lv_room (Nat.le_of_ble_eq_true rfl)) dX8_around_37 ⟨Nat.le_of_ble_eq_true rfl, Nat.le_of_ble_eq_true rfl⟩) ?_
      exact rtR_i hQ hx hb hr hlk dX8_around_40 (congrArg nI (by unfold ca cp; split <;> (try split) <;> omega))
    · refine lv_iconst (v := nI 1) hx hb dX8_around_31 (by decide) ?_
      refine lv_goto (tgt := 36) hx hb dX8_around_32 (by decide) ?_
      refine gn_add hx hb dX8_around_36 ?_
      have hPc := hP.sub (ws' := []) [] rfl
      refine clRe (E := nI (12 * (5 * ((p / 4) + 1) + ((p % 4) + 1)))) (va_runS (As := [.int (nI ((p % 4) + 1)), .int (nI ((p / 4) + 1))]) (rest := []) ⟨hx, hb, hml, hown, hts⟩ (c_X8_at l D cI cC cQ ((p % 4) + 1) ((p / 4) + 1) ) (va_cwS (rm := rmX8_at) 2 hts gX8_around_X8_at rfl rfl rfl (by decide +kernel) ⟨Nat.le_of_ble_eq_true rfl, Nat.le_of_ble_eq_true rfl⟩) ⟨PR.blind, PR.go hPc hK⟩ rfl rfl hl.1 rfl (lv_room (Nat.le_of_ble_eq_true rfl)) dX8_around_37 ⟨Nat.le_of_ble_eq_true rfl, Nat.le_of_ble_eq_true rfl⟩) ?_
      exact rtR_i hQ hx hb hr hlk dX8_around_40 (congrArg nI (by unfold ca cp; split <;> (try split) <;> omega))
  · refine lv_iload_n hx hb dX8_around_12 rfl (lv_at hl 0 rfl) ?_
    refine lv_iconst (v := nI 2) hx hb dX8_around_13 (by decide) ?_
    refine gn_icmp_ne hx hb (by omega) (by decide) (tgt := 21) dX8_around_14 (by decide) (fun c_14 => ?_) (fun c_14 => ?_)
    · refine lv_iconst (v := nI 0) hx hb dX8_around_21 (by decide) ?_
      refine gn_add hx hb dX8_around_22 ?_
      refine lv_iload_n hx hb dX8_around_23 rfl (lv_at hl 1 rfl) ?_
      refine lv_iconst (v := nI 4) hx hb dX8_around_24 (by decide) ?_
      refine gn_div hx hb (by omega) (by omega) (by omega) dX8_around_25 ?_
      refine lv_iload_n hx hb dX8_around_26 rfl (lv_at hl 0 rfl) ?_
      refine lv_iconst (v := nI 1) hx hb dX8_around_27 (by decide) ?_
      refine gn_icmp_le hx hb (by omega) (by decide) (tgt := 35) dX8_around_28 (by decide) (fun c_28 => ?_) (fun c_28 => ?_)
      · refine lv_iconst (v := nI 0) hx hb dX8_around_35 (by decide) ?_
        refine gn_add hx hb dX8_around_36 ?_
        have hPc := hP.sub (ws' := []) [] rfl
        refine clRe (E := nI (12 * (5 * ((p / 4) + 0) + ((p % 4) + 0)))) (va_runS (As := [.int (nI ((p % 4) + 0)), .int (nI ((p / 4) + 0))]) (rest := []) ⟨hx, hb, hml, hown, hts⟩ (c_X8_at l D cI cC cQ ((p % 4) + 0) ((p / 4) + 0) ) (va_cwS (rm := rmX8_at) 2 hts gX8_around_X8_at rfl rfl rfl (by decide +kernel) ⟨Nat.le_of_ble_eq_true rfl, Nat.le_of_ble_eq_true rfl⟩) ⟨PR.blind, PR.go hPc hK⟩ rfl rfl hl.1 rfl (lv_room (Nat.le_of_ble_eq_true rfl)) dX8_around_37 ⟨Nat.le_of_ble_eq_true rfl, Nat.le_of_ble_eq_true rfl⟩) ?_
        exact rtR_i hQ hx hb hr hlk dX8_around_40 (congrArg nI (by unfold ca cp; split <;> (try split) <;> omega))
      · refine lv_iconst (v := nI 1) hx hb dX8_around_31 (by decide) ?_
        refine lv_goto (tgt := 36) hx hb dX8_around_32 (by decide) ?_
        refine gn_add hx hb dX8_around_36 ?_
        have hPc := hP.sub (ws' := []) [] rfl
        refine clRe (E := nI (12 * (5 * ((p / 4) + 1) + ((p % 4) + 0)))) (va_runS (As := [.int (nI ((p % 4) + 0)), .int (nI ((p / 4) + 1))]) (rest := []) ⟨hx, hb, hml, hown, hts⟩ (c_X8_at l D cI cC cQ ((p % 4) + 0) ((p / 4) + 1) ) (va_cwS (rm := rmX8_at) 2 hts gX8_around_X8_at rfl rfl rfl (by decide +kernel) ⟨Nat.le_of_ble_eq_true rfl, Nat.le_of_ble_eq_true rfl⟩) ⟨PR.blind, PR.go hPc hK⟩ rfl rfl hl.1 rfl (lv_room (Nat.le_of_ble_eq_true rfl)) dX8_around_37 ⟨Nat.le_of_ble_eq_true rfl, Nat.le_of_ble_eq_true rfl⟩) ?_
        exact rtR_i hQ hx hb hr hlk dX8_around_40 (congrArg nI (by unfold ca cp; split <;> (try split) <;> omega))
    · refine lv_iconst (v := nI 1) hx hb dX8_around_17 (by decide) ?_
      refine lv_goto (tgt := 22) hx hb dX8_around_18 (by decide) ?_
      refine gn_add hx hb dX8_around_22 ?_
      refine lv_iload_n hx hb dX8_around_23 rfl (lv_at hl 1 rfl) ?_
      refine lv_iconst (v := nI 4) hx hb dX8_around_24 (by decide) ?_
      refine gn_div hx hb (by omega) (by omega) (by omega) dX8_around_25 ?_
      refine lv_iload_n hx hb dX8_around_26 rfl (lv_at hl 0 rfl) ?_
      refine lv_iconst (v := nI 1) hx hb dX8_around_27 (by decide) ?_
      refine gn_icmp_le hx hb (by omega) (by decide) (tgt := 35) dX8_around_28 (by decide) (fun c_28 => ?_) (fun c_28 => ?_)
      · refine lv_iconst (v := nI 0) hx hb dX8_around_35 (by decide) ?_
        refine gn_add hx hb dX8_around_36 ?_
        have hPc := hP.sub (ws' := []) [] rfl
        refine clRe (E := nI (12 * (5 * ((p / 4) + 0) + ((p % 4) + 1)))) (va_runS (As := [.int (nI ((p % 4) + 1)), .int (nI ((p / 4) + 0))]) (rest := []) ⟨hx, hb, hml, hown, hts⟩ (c_X8_at l D cI cC cQ ((p % 4) + 1) ((p / 4) + 0) ) (va_cwS (rm := rmX8_at) 2 hts gX8_around_X8_at rfl rfl rfl (by decide +kernel) ⟨Nat.le_of_ble_eq_true rfl, Nat.le_of_ble_eq_true rfl⟩) ⟨PR.blind, PR.go hPc hK⟩ rfl rfl hl.1 rfl (lv_room (Nat.le_of_ble_eq_true rfl)) dX8_around_37 ⟨Nat.le_of_ble_eq_true rfl, Nat.le_of_ble_eq_true rfl⟩) ?_
        exact rtR_i hQ hx hb hr hlk dX8_around_40 (congrArg nI (by unfold ca cp; split <;> (try split) <;> omega))
      · refine lv_iconst (v := nI 1) hx hb dX8_around_31 (by decide) ?_
        refine lv_goto (tgt := 36) hx hb dX8_around_32 (by decide) ?_
        refine gn_add hx hb dX8_around_36 ?_
        have hPc := hP.sub (ws' := []) [] rfl
        refine clRe (E := nI (12 * (5 * ((p / 4) + 1) + ((p % 4) + 1)))) (va_runS (As := [.int (nI ((p % 4) + 1)), .int (nI ((p / 4) + 1))]) (rest := []) ⟨hx, hb, hml, hown, hts⟩ (c_X8_at l D cI cC cQ ((p % 4) + 1) ((p / 4) + 1) ) (va_cwS (rm := rmX8_at) 2 hts gX8_around_X8_at rfl rfl rfl (by decide +kernel) ⟨Nat.le_of_ble_eq_true rfl, Nat.le_of_ble_eq_true rfl⟩) ⟨PR.blind, PR.go hPc hK⟩ rfl rfl hl.1 rfl (lv_room (Nat.le_of_ble_eq_true rfl)) dX8_around_37 ⟨Nat.le_of_ble_eq_true rfl, Nat.le_of_ble_eq_true rfl⟩) ?_
        exact rtR_i hQ hx hb hr hlk dX8_around_40 (congrArg nI (by unfold ca cp; split <;> (try split) <;> omega))
abbrev rmX8_isFolded : Room := { frames := 2, cells := 0, slots := 0, locals := 43 }
set_option maxRecDepth 20000 in
theorem iw_X8_isFolded_X8 : ∀ w ∈ u_ws RX8 TX8 18, w ∈ wsX8_isFolded := by decide +kernel
set_option maxHeartbeats 4000000 in
set_option maxRecDepth 100000 in
theorem c_X8_isFolded (l : Launch) (D : va_G) (cI cC cQ : ClassId) (a g0 g1 g2 g3 g4 g5 g6 g7 : Nat) (ik rn ps ty sp fr re cau co cm : Int32) (G : Nat → Nat → Int32) (p : Nat) (hp : p < 12) : Met l yX8_isFolded wsX8_isFolded rmX8_isFolded (PR D cI cC cQ [.ref a, .int (nI p)] [(a, .inr (8, [.ref g0, .ref g1, .ref g2, .ref g3, .int ik, .int rn, .int ps, .ref g4, .int ty, .ref g5, .ref g6, .int sp, .int fr, .int re, .int cau, .int co, .int cm, .ref g7])), (g0, .inl (cI, 240, .inl (MA G)))]) (vp_Si (fun z => BB (foldB G p = true) z)) 0 0 (fun _ => False) := by
  refine metR (cc := cX8_isFolded) (maxL := 8) (ret := (some .boolean)) (by decide) rfl (Nat.le_of_ble_eq_true rfl) ?_
  intro pg ev s mi args below meth cd ls Q hQ hx hb hml hr hts hown hlk hK hP hl
  have hKa := hK.1
  have hl : lv_has ls 8 [(0, .ref a), (1, .int (nI p))] := hl
  refine lv_iconst (v := nI 0) hx hb dX8_isFolded_0 (by decide) ?_
  refine lv_istore_n (lv' := [(2, .int (nI 0)), (0, .ref a), (1, .int (nI p))]) hx hb dX8_isFolded_1 rfl hl (by decide) rfl (fun ls hl => ?_)
  refine lv_iconst (v := nI 0) hx hb dX8_isFolded_2 (by decide) ?_
  refine lv_istore_n (lv' := [(3, .int (nI 0)), (2, .int (nI 0)), (0, .ref a), (1, .int (nI p))]) hx hb dX8_isFolded_3 rfl hl (by decide) rfl (fun ls hl => ?_)
  have L4 : ∀ (nn : Nat) (j : Nat) (x : Int32) (hj : j ≤ 4) (hxr : BB (∃ t, t < j ∧ turnI G p t ≤ 0) x) (_ : 4 - j < nn) (ls : Array Slot) (_ : lv_has ls 8 [(2, .int x), (3, .int (nI j)), (0, .ref a), (1, .int (nI p))]), W pg l ev (headSpec wsX8_isFolded rmX8_isFolded).room s mi args below meth cd s.heap [] 0 0 Q (F0 mi 4 ls []) := by
    intro nn
    induction nn with
    | zero =>
      intro j x hj hxr hmeas
      exact absurd hmeas (Nat.not_lt_zero _)
    | succ nn ih4 =>
      intro j x hj hxr hmeas  ls hl
      refine lv_iload_n hx hb dX8_isFolded_4 rfl (lv_at hl 1 rfl) ?_
      refine lv_iconst (v := nI 4) hx hb dX8_isFolded_5 (by decide) ?_
      refine gn_icmp_ge hx hb (by omega) (by decide) (tgt := 136) dX8_isFolded_6 (by decide) (fun c_6 => ?_) (fun c_6 => ?_)
      · refine lv_iload_n hx hb dX8_isFolded_136 rfl (lv_at hl 0 rfl) ?_
        exact rtR_z hQ hx hb hr hlk dX8_isFolded_137 (hxr.nar) (fo_fin (by rw [show j = 4 by omega] at hxr; exact hxr))
      · refine lv_iload_n hx hb dX8_isFolded_9 rfl (lv_at hl 3 rfl) ?_
        refine lv_iload_n hx hb dX8_isFolded_10 rfl (lv_at hl 1 rfl) ?_
        have hPc := hP.sub (ws' := []) [] rfl
        refine clRe (E := nI (12 * ca p j)) (va_runS (As := [.int (nI p), .int (nI j)]) (rest := []) ⟨hx, hb, hml, hown, hts⟩ (c_X8_around l D cI cC cQ p j (by first | assumption | omega) (by first | assumption | omega)) (va_cwS (rm := rmX8_around) 2 hts gX8_isFolded_X8_around rfl rfl rfl (by decide +kernel) ⟨Nat.le_of_ble_eq_true rfl, Nat.le_of_ble_eq_true rfl⟩) ⟨PR.blind, PR.go hPc hK⟩ rfl rfl hl.1 rfl (lv_room (Nat.le_of_ble_eq_true rfl)) dX8_isFolded_11 ⟨Nat.le_of_ble_eq_true rfl, Nat.le_of_ble_eq_true rfl⟩) ?_
        have hbd_11 : ca p j < 20 := ca_lt (by omega)
        refine lv_istore (lv' := [(4, .int (nI (12 * ca p j))), (2, .int x), (3, .int (nI j)), (0, .ref a), (1, .int (nI p))]) hx hb dX8_isFolded_14 hl (by decide) rfl (fun ls hl => ?_)
        refine lv_iload_n hx hb dX8_isFolded_16 rfl (lv_at hl 4 rfl) ?_
        refine lv_iload_n hx hb dX8_isFolded_17 rfl (lv_at hl 2 rfl) ?_
        refine lv_iconst (v := nI 1) hx hb dX8_isFolded_18 (by decide) ?_
        refine gn_add hx hb dX8_isFolded_19 ?_
        have hPc := hP.sub (ws' := []) [] rfl
        refine clRe (E := nI (12 * ca p (j + 1))) (va_runS (As := [.int (nI p), .int (nI (j + 1))]) (rest := []) ⟨hx, hb, hml, hown, hts⟩ (c_X8_around l D cI cC cQ p (j + 1) (by first | assumption | omega) (by first | assumption | omega)) (va_cwS (rm := rmX8_around) 2 hts gX8_isFolded_X8_around rfl rfl rfl (by decide +kernel) ⟨Nat.le_of_ble_eq_true rfl, Nat.le_of_ble_eq_true rfl⟩) ⟨PR.blind, PR.go hPc hK⟩ rfl rfl hl.1 rfl (lv_room (Nat.le_of_ble_eq_true rfl)) dX8_isFolded_20 ⟨Nat.le_of_ble_eq_true rfl, Nat.le_of_ble_eq_true rfl⟩) ?_
        have hbd_20 : ca p (j + 1) < 20 := ca_lt (by omega)
        refine lv_istore (lv' := [(5, .int (nI (12 * ca p (j + 1)))), (4, .int (nI (12 * ca p j))), (2, .int x), (3, .int (nI j)), (0, .ref a), (1, .int (nI p))]) hx hb dX8_isFolded_23 hl (by decide) rfl (fun ls hl => ?_)
        refine lv_iload_n hx hb dX8_isFolded_25 rfl (lv_at hl 5 rfl) ?_
        refine lv_iload_n hx hb dX8_isFolded_26 rfl (lv_at hl 3 rfl) ?_
        refine lv_iconst (v := nI 2) hx hb dX8_isFolded_27 (by decide) ?_
        refine gn_add hx hb dX8_isFolded_28 ?_
        have hPc := hP.sub (ws' := []) [] rfl
        refine clRe (E := nI (12 * ca p (j + 2))) (va_runS (As := [.int (nI p), .int (nI (j + 2))]) (rest := []) ⟨hx, hb, hml, hown, hts⟩ (c_X8_around l D cI cC cQ p (j + 2) (by first | assumption | omega) (by first | assumption | omega)) (va_cwS (rm := rmX8_around) 2 hts gX8_isFolded_X8_around rfl rfl rfl (by decide +kernel) ⟨Nat.le_of_ble_eq_true rfl, Nat.le_of_ble_eq_true rfl⟩) ⟨PR.blind, PR.go hPc hK⟩ rfl rfl hl.1 rfl (lv_room (Nat.le_of_ble_eq_true rfl)) dX8_isFolded_29 ⟨Nat.le_of_ble_eq_true rfl, Nat.le_of_ble_eq_true rfl⟩) ?_
        have hbd_29 : ca p (j + 2) < 20 := ca_lt (by omega)
        refine lv_istore (lv' := [(6, .int (nI (12 * ca p (j + 2)))), (5, .int (nI (12 * ca p (j + 1)))), (4, .int (nI (12 * ca p j))), (2, .int x), (3, .int (nI j)), (0, .ref a), (1, .int (nI p))]) hx hb dX8_isFolded_32 hl (by decide) rfl (fun ls hl => ?_)
        refine lv_aload_n hx hb dX8_isFolded_34 rfl (lv_at hl 5 rfl) ?_
        refine va_get (D := D) (ci := 8) (v := .ref g0) (C := RX8) (T := TX8) (N := 18) hx hb hts iw_X8_isFolded_X8 hown hKa hP 0 rfl rfl 0 (by decide) (hts (.fieldLink RX8 7 "ColourPatchesModel" "s" "[I") (by decide +kernel)) (fun _ h9 => h9) rfl dX8_isFolded_35 ?_
        refine lv_iload hx hb dX8_isFolded_38 (lv_at hl 1 rfl) ?_
        refine lv_iconst (v := nI 0) hx hb dX8_isFolded_40 (by decide) ?_
        refine gn_add hx hb dX8_isFolded_41 ?_
        refine gn_iald hx hb hKa hP 1 0 rfl rfl (k := (12 * ca p (j + 1)) + 0) (by omega) (by omega) dX8_isFolded_42 ?_
        rw [show MA G ((12 * ca p (j + 1)) + 0) = G (ca p (j + 1)) 0 from MA_at _ _ _ _ (by omega) (by omega)]
        refine lv_aload_n hx hb dX8_isFolded_43 rfl (lv_at hl 5 rfl) ?_
        refine va_get (D := D) (ci := 8) (v := .ref g0) (C := RX8) (T := TX8) (N := 18) hx hb hts iw_X8_isFolded_X8 hown hKa hP 0 rfl rfl 0 (by decide) (hts (.fieldLink RX8 7 "ColourPatchesModel" "s" "[I") (by decide +kernel)) (fun _ h9 => h9) rfl dX8_isFolded_44 ?_
        refine lv_iload hx hb dX8_isFolded_47 (lv_at hl 2 rfl) ?_
        refine lv_iconst (v := nI 0) hx hb dX8_isFolded_49 (by decide) ?_
        refine gn_add hx hb dX8_isFolded_50 ?_
        refine gn_iald hx hb hKa hP 1 0 rfl rfl (k := (12 * ca p j) + 0) (by omega) (by omega) dX8_isFolded_51 ?_
        rw [show MA G ((12 * ca p j) + 0) = G (ca p j) 0 from MA_at _ _ _ _ (by omega) (by omega)]
        refine lv_isub hx hb dX8_isFolded_52 ?_
        refine lv_aload_n hx hb dX8_isFolded_53 rfl (lv_at hl 5 rfl) ?_
        refine va_get (D := D) (ci := 8) (v := .ref g0) (C := RX8) (T := TX8) (N := 18) hx hb hts iw_X8_isFolded_X8 hown hKa hP 0 rfl rfl 0 (by decide) (hts (.fieldLink RX8 7 "ColourPatchesModel" "s" "[I") (by decide +kernel)) (fun _ h9 => h9) rfl dX8_isFolded_54 ?_
        refine lv_iload hx hb dX8_isFolded_57 (lv_at hl 0 rfl) ?_
        refine lv_iconst (v := nI 1) hx hb dX8_isFolded_59 (by decide) ?_
        refine gn_add hx hb dX8_isFolded_60 ?_
        refine gn_iald hx hb hKa hP 1 0 rfl rfl (k := (12 * ca p (j + 2)) + 1) (by omega) (by omega) dX8_isFolded_61 ?_
        rw [show MA G ((12 * ca p (j + 2)) + 1) = G (ca p (j + 2)) 1 from MA_at _ _ _ _ (by omega) (by omega)]
        refine lv_aload_n hx hb dX8_isFolded_62 rfl (lv_at hl 5 rfl) ?_
        refine va_get (D := D) (ci := 8) (v := .ref g0) (C := RX8) (T := TX8) (N := 18) hx hb hts iw_X8_isFolded_X8 hown hKa hP 0 rfl rfl 0 (by decide) (hts (.fieldLink RX8 7 "ColourPatchesModel" "s" "[I") (by decide +kernel)) (fun _ h9 => h9) rfl dX8_isFolded_63 ?_
        refine lv_iload hx hb dX8_isFolded_66 (lv_at hl 1 rfl) ?_
        refine lv_iconst (v := nI 1) hx hb dX8_isFolded_68 (by decide) ?_
        refine gn_add hx hb dX8_isFolded_69 ?_
        refine gn_iald hx hb hKa hP 1 0 rfl rfl (k := (12 * ca p (j + 1)) + 1) (by omega) (by omega) dX8_isFolded_70 ?_
        rw [show MA G ((12 * ca p (j + 1)) + 1) = G (ca p (j + 1)) 1 from MA_at _ _ _ _ (by omega) (by omega)]
        refine lv_isub hx hb dX8_isFolded_71 ?_
        refine lv_imul hx hb dX8_isFolded_72 ?_
        refine lv_aload_n hx hb dX8_isFolded_73 rfl (lv_at hl 5 rfl) ?_
        refine va_get (D := D) (ci := 8) (v := .ref g0) (C := RX8) (T := TX8) (N := 18) hx hb hts iw_X8_isFolded_X8 hown hKa hP 0 rfl rfl 0 (by decide) (hts (.fieldLink RX8 7 "ColourPatchesModel" "s" "[I") (by decide +kernel)) (fun _ h9 => h9) rfl dX8_isFolded_74 ?_
        refine lv_iload hx hb dX8_isFolded_77 (lv_at hl 1 rfl) ?_
        refine lv_iconst (v := nI 1) hx hb dX8_isFolded_79 (by decide) ?_
        refine gn_add hx hb dX8_isFolded_80 ?_
        refine gn_iald hx hb hKa hP 1 0 rfl rfl (k := (12 * ca p (j + 1)) + 1) (by omega) (by omega) dX8_isFolded_81 ?_
        rw [show MA G ((12 * ca p (j + 1)) + 1) = G (ca p (j + 1)) 1 from MA_at _ _ _ _ (by omega) (by omega)]
        refine lv_aload_n hx hb dX8_isFolded_82 rfl (lv_at hl 5 rfl) ?_
        refine va_get (D := D) (ci := 8) (v := .ref g0) (C := RX8) (T := TX8) (N := 18) hx hb hts iw_X8_isFolded_X8 hown hKa hP 0 rfl rfl 0 (by decide) (hts (.fieldLink RX8 7 "ColourPatchesModel" "s" "[I") (by decide +kernel)) (fun _ h9 => h9) rfl dX8_isFolded_83 ?_
        refine lv_iload hx hb dX8_isFolded_86 (lv_at hl 2 rfl) ?_
        refine lv_iconst (v := nI 1) hx hb dX8_isFolded_88 (by decide) ?_
        refine gn_add hx hb dX8_isFolded_89 ?_
        refine gn_iald hx hb hKa hP 1 0 rfl rfl (k := (12 * ca p j) + 1) (by omega) (by omega) dX8_isFolded_90 ?_
        rw [show MA G ((12 * ca p j) + 1) = G (ca p j) 1 from MA_at _ _ _ _ (by omega) (by omega)]
        refine lv_isub hx hb dX8_isFolded_91 ?_
        refine lv_aload_n hx hb dX8_isFolded_92 rfl (lv_at hl 5 rfl) ?_
        refine va_get (D := D) (ci := 8) (v := .ref g0) (C := RX8) (T := TX8) (N := 18) hx hb hts iw_X8_isFolded_X8 hown hKa hP 0 rfl rfl 0 (by decide) (hts (.fieldLink RX8 7 "ColourPatchesModel" "s" "[I") (by decide +kernel)) (fun _ h9 => h9) rfl dX8_isFolded_93 ?_
        refine lv_iload hx hb dX8_isFolded_96 (lv_at hl 0 rfl) ?_
        refine lv_iconst (v := nI 0) hx hb dX8_isFolded_98 (by decide) ?_
        refine gn_add hx hb dX8_isFolded_99 ?_
        refine gn_iald hx hb hKa hP 1 0 rfl rfl (k := (12 * ca p (j + 2)) + 0) (by omega) (by omega) dX8_isFolded_100 ?_
        rw [show MA G ((12 * ca p (j + 2)) + 0) = G (ca p (j + 2)) 0 from MA_at _ _ _ _ (by omega) (by omega)]
        refine lv_aload_n hx hb dX8_isFolded_101 rfl (lv_at hl 5 rfl) ?_
        refine va_get (D := D) (ci := 8) (v := .ref g0) (C := RX8) (T := TX8) (N := 18) hx hb hts iw_X8_isFolded_X8 hown hKa hP 0 rfl rfl 0 (by decide) (hts (.fieldLink RX8 7 "ColourPatchesModel" "s" "[I") (by decide +kernel)) (fun _ h9 => h9) rfl dX8_isFolded_102 ?_
        refine lv_iload hx hb dX8_isFolded_105 (lv_at hl 1 rfl) ?_
        refine lv_iconst (v := nI 0) hx hb dX8_isFolded_107 (by decide) ?_
        refine gn_add hx hb dX8_isFolded_108 ?_
        refine gn_iald hx hb hKa hP 1 0 rfl rfl (k := (12 * ca p (j + 1)) + 0) (by omega) (by omega) dX8_isFolded_109 ?_
        rw [show MA G ((12 * ca p (j + 1)) + 0) = G (ca p (j + 1)) 0 from MA_at _ _ _ _ (by omega) (by omega)]
        refine lv_isub hx hb dX8_isFolded_110 ?_
        refine lv_imul hx hb dX8_isFolded_111 ?_
        refine lv_isub hx hb dX8_isFolded_112 ?_
        refine lv_istore (lv' := [(7, .int ((((G (ca p (j + 1)) 0) - (G (ca p j) 0)) * ((G (ca p (j + 2)) 1) - (G (ca p (j + 1)) 1))) - (((G (ca p (j + 1)) 1) - (G (ca p j) 1)) * ((G (ca p (j + 2)) 0) - (G (ca p (j + 1)) 0))))), (6, .int (nI (12 * ca p (j + 2)))), (5, .int (nI (12 * ca p (j + 1)))), (4, .int (nI (12 * ca p j))), (2, .int x), (3, .int (nI j)), (0, .ref a), (1, .int (nI p))]) hx hb dX8_isFolded_113 hl (by decide) rfl (fun ls hl => ?_)
        refine lv_iload_n hx hb dX8_isFolded_115 rfl (lv_at hl 4 rfl) ?_
        refine lv_if_ne hx hb (tgt := 124) dX8_isFolded_116 (by decide) (fun c_116 => ?_) (fun c_116 => ?_)
        · refine lv_iconst (v := nI 1) hx hb dX8_isFolded_124 (by decide) ?_
          refine lv_goto (tgt := 129) hx hb dX8_isFolded_125 (by decide) ?_
          refine lv_istore_n (lv' := [(2, .int (nI 1)), (7, .int ((((G (ca p (j + 1)) 0) - (G (ca p j) 0)) * ((G (ca p (j + 2)) 1) - (G (ca p (j + 1)) 1))) - (((G (ca p (j + 1)) 1) - (G (ca p j) 1)) * ((G (ca p (j + 2)) 0) - (G (ca p (j + 1)) 0))))), (6, .int (nI (12 * ca p (j + 2)))), (5, .int (nI (12 * ca p (j + 1)))), (4, .int (nI (12 * ca p j))), (3, .int (nI j)), (0, .ref a), (1, .int (nI p))]) hx hb dX8_isFolded_129 rfl hl (by decide) rfl (fun ls hl => ?_)
          refine gn_iinc (lv' := [(3, .int (nI (j + 1))), (2, .int (nI 1)), (7, .int ((((G (ca p (j + 1)) 0) - (G (ca p j) 0)) * ((G (ca p (j + 2)) 1) - (G (ca p (j + 1)) 1))) - (((G (ca p (j + 1)) 1) - (G (ca p j) 1)) * ((G (ca p (j + 2)) 0) - (G (ca p (j + 1)) 0))))), (6, .int (nI (12 * ca p (j + 2)))), (5, .int (nI (12 * ca p (j + 1)))), (4, .int (nI (12 * ca p j))), (0, .ref a), (1, .int (nI p))]) hx hb dX8_isFolded_130 hl (k := 5) rfl (by decide) rfl (fun ls hl => ?_)
          refine lv_goto (tgt := 4) hx hb dX8_isFolded_133 (by decide) ?_
          exact ih4 (j + 1) (nI 1) (show (j + 1) ≤ 4 from by first | omega | assumption | rfl) (show BB (∃ t, t < (j + 1) ∧ turnI G p t ≤ 0) (nI 1) from fo_old hxr c_116) (by first | omega | assumption) _ (lv_sub hl [1, 0, 6, 7] rfl)
        · refine lv_iload hx hb dX8_isFolded_119 (lv_at hl 0 rfl) ?_
          refine lv_if_gt hx hb (tgt := 128) dX8_isFolded_121 (by decide) (fun c_121 => ?_) (fun c_121 => ?_)
          · refine lv_iconst (v := nI 0) hx hb dX8_isFolded_128 (by decide) ?_
            refine lv_istore_n (lv' := [(2, .int (nI 0)), (7, .int ((((G (ca p (j + 1)) 0) - (G (ca p j) 0)) * ((G (ca p (j + 2)) 1) - (G (ca p (j + 1)) 1))) - (((G (ca p (j + 1)) 1) - (G (ca p j) 1)) * ((G (ca p (j + 2)) 0) - (G (ca p (j + 1)) 0))))), (6, .int (nI (12 * ca p (j + 2)))), (5, .int (nI (12 * ca p (j + 1)))), (4, .int (nI (12 * ca p j))), (3, .int (nI j)), (0, .ref a), (1, .int (nI p))]) hx hb dX8_isFolded_129 rfl hl (by decide) rfl (fun ls hl => ?_)
            refine gn_iinc (lv' := [(3, .int (nI (j + 1))), (2, .int (nI 0)), (7, .int ((((G (ca p (j + 1)) 0) - (G (ca p j) 0)) * ((G (ca p (j + 2)) 1) - (G (ca p (j + 1)) 1))) - (((G (ca p (j + 1)) 1) - (G (ca p j) 1)) * ((G (ca p (j + 2)) 0) - (G (ca p (j + 1)) 0))))), (6, .int (nI (12 * ca p (j + 2)))), (5, .int (nI (12 * ca p (j + 1)))), (4, .int (nI (12 * ca p j))), (0, .ref a), (1, .int (nI p))]) hx hb dX8_isFolded_130 hl (k := 5) rfl (by decide) rfl (fun ls hl => ?_)
            refine lv_goto (tgt := 4) hx hb dX8_isFolded_133 (by decide) ?_
            exact ih4 (j + 1) (nI 0) (show (j + 1) ≤ 4 from by first | omega | assumption | rfl) (show BB (∃ t, t < (j + 1) ∧ turnI G p t ≤ 0) (nI 0) from fo_no hxr c_116 c_121) (by first | omega | assumption) _ (lv_sub hl [1, 0, 6, 7] rfl)
          · refine lv_iconst (v := nI 1) hx hb dX8_isFolded_124 (by decide) ?_
            refine lv_goto (tgt := 129) hx hb dX8_isFolded_125 (by decide) ?_
            refine lv_istore_n (lv' := [(2, .int (nI 1)), (7, .int ((((G (ca p (j + 1)) 0) - (G (ca p j) 0)) * ((G (ca p (j + 2)) 1) - (G (ca p (j + 1)) 1))) - (((G (ca p (j + 1)) 1) - (G (ca p j) 1)) * ((G (ca p (j + 2)) 0) - (G (ca p (j + 1)) 0))))), (6, .int (nI (12 * ca p (j + 2)))), (5, .int (nI (12 * ca p (j + 1)))), (4, .int (nI (12 * ca p j))), (3, .int (nI j)), (0, .ref a), (1, .int (nI p))]) hx hb dX8_isFolded_129 rfl hl (by decide) rfl (fun ls hl => ?_)
            refine gn_iinc (lv' := [(3, .int (nI (j + 1))), (2, .int (nI 1)), (7, .int ((((G (ca p (j + 1)) 0) - (G (ca p j) 0)) * ((G (ca p (j + 2)) 1) - (G (ca p (j + 1)) 1))) - (((G (ca p (j + 1)) 1) - (G (ca p j) 1)) * ((G (ca p (j + 2)) 0) - (G (ca p (j + 1)) 0))))), (6, .int (nI (12 * ca p (j + 2)))), (5, .int (nI (12 * ca p (j + 1)))), (4, .int (nI (12 * ca p j))), (0, .ref a), (1, .int (nI p))]) hx hb dX8_isFolded_130 hl (k := 5) rfl (by decide) rfl (fun ls hl => ?_)
            refine lv_goto (tgt := 4) hx hb dX8_isFolded_133 (by decide) ?_
            exact ih4 (j + 1) (nI 1) (show (j + 1) ≤ 4 from by first | omega | assumption | rfl) (show BB (∃ t, t < (j + 1) ∧ turnI G p t ≤ 0) (nI 1) from fo_yes (Int32.not_lt.mp c_121)) (by first | omega | assumption) _ (lv_sub hl [1, 0, 6, 7] rfl)
  exact L4 ((4 - 0) + 1) 0 (nI 0) (show 0 ≤ 4 from by first | omega | assumption | rfl) (show BB (∃ t, t < 0 ∧ turnI G p t ≤ 0) (nI 0) from Or.inr ⟨fun ⟨i, hi, _⟩ => absurd hi (Nat.not_lt_zero i), rfl⟩) (Nat.lt_succ_self _) _ (lv_sub hl [1, 0, 2, 3] rfl)
abbrev rmX8_folded : Room := { frames := 3, cells := 0, slots := 0, locals := 70 }
set_option maxHeartbeats 4000000 in
set_option maxRecDepth 100000 in
theorem c_X8_folded (l : Launch) (D : va_G) (cI cC cQ : ClassId) (a g0 g1 g2 g3 g4 g5 g6 g7 : Nat) (ik rn ps ty sp fr re cau co cm : Int32) (G : Nat → Nat → Int32) : Met l yX8_folded wsX8_folded rmX8_folded (PR D cI cC cQ [.ref a] [(a, .inr (8, [.ref g0, .ref g1, .ref g2, .ref g3, .int ik, .int rn, .int ps, .ref g4, .int ty, .ref g5, .ref g6, .int sp, .int fr, .int re, .int cau, .int co, .int cm, .ref g7])), (g0, .inl (cI, 240, .inl (MA G)))]) (vp_Si (fun z => z = nI (sumN (foldN G) 12))) 0 0 (fun _ => False) := by
  refine metR (cc := cX8_folded) (maxL := 3) (ret := (some .int)) (by decide) rfl (Nat.le_of_ble_eq_true rfl) ?_
  intro pg ev s mi args below meth cd ls Q hQ hx hb hml hr hts hown hlk hK hP hl
  have hKa := hK.1
  have hl : lv_has ls 3 [(0, .ref a)] := hl
  refine lv_iconst (v := nI 0) hx hb dX8_folded_0 (by decide) ?_
  refine lv_istore_n (lv' := [(1, .int (nI 0)), (0, .ref a)]) hx hb dX8_folded_1 rfl hl (by decide) rfl (fun ls hl => ?_)
  refine lv_iconst (v := nI 0) hx hb dX8_folded_2 (by decide) ?_
  refine lv_istore_n (lv' := [(2, .int (nI 0)), (1, .int (nI 0)), (0, .ref a)]) hx hb dX8_folded_3 rfl hl (by decide) rfl (fun ls hl => ?_)
  have L4 : ∀ (nn : Nat) (j : Nat) (u : Nat) (hj : j ≤ 12) (hu : u = sumN (foldN G) j) (_ : 12 - j < nn) (ls : Array Slot) (_ : lv_has ls 3 [(1, .int (nI u)), (2, .int (nI j)), (0, .ref a)]), W pg l ev (headSpec wsX8_folded rmX8_folded).room s mi args below meth cd s.heap [] 0 0 Q (F0 mi 4 ls []) := by
    intro nn
    induction nn with
    | zero =>
      intro j u hj hu hmeas
      exact absurd hmeas (Nat.not_lt_zero _)
    | succ nn ih4 =>
      intro j u hj hu hmeas  ls hl
      refine lv_iload_n hx hb dX8_folded_4 rfl (lv_at hl 1 rfl) ?_
      refine lv_bipush (v := nI 12) hx hb dX8_folded_5 (by decide) ?_
      refine gn_icmp_ge hx hb (by omega) (by decide) (tgt := 32) dX8_folded_7 (by decide) (fun c_7 => ?_) (fun c_7 => ?_)
      · refine lv_iload_n hx hb dX8_folded_32 rfl (lv_at hl 0 rfl) ?_
        exact rtR_i hQ hx hb hr hlk dX8_folded_33 (by rw [hu, show j = 12 by omega])
      · refine lv_iload_n hx hb dX8_folded_10 rfl (lv_at hl 0 rfl) ?_
        refine lv_aload_n hx hb dX8_folded_11 rfl (lv_at hl 2 rfl) ?_
        refine lv_iload_n hx hb dX8_folded_12 rfl (lv_at hl 1 rfl) ?_
        have hPc := hP.sub (ws' := [(a, .inr (8, [.ref g0, .ref g1, .ref g2, .ref g3, .int ik, .int rn, .int ps, .ref g4, .int ty, .ref g5, .ref g6, .int sp, .int fr, .int re, .int cau, .int co, .int cm, .ref g7])), (g0, .inl (cI, 240, .inl (MA G)))]) [0, 1] rfl
        refine clR (va_runV (As := [.int (nI j)]) (rest := [.int (nI u)]) ⟨hx, hb, hml, hown, hts⟩ (c_X8_isFolded l D cI cC cQ a g0 g1 g2 g3 g4 g5 g6 g7 ik rn ps ty sp fr re cau co cm G j (by first | assumption | omega)) (cwV (rm := rmX8_isFolded) 1 hts gX8_folded_X8_isFolded rfl rfl rfl (by decide +kernel) ⟨Nat.le_of_ble_eq_true rfl, Nat.le_of_ble_eq_true rfl⟩) ⟨PR.blind, va_recv hKa hPc (ci := 8) (q0 := 0) rfl rfl, PR.go hPc hK⟩ rfl rfl hl.1 rfl (lv_room (Nat.le_of_ble_eq_true rfl)) dX8_folded_13 ⟨Nat.le_of_ble_eq_true rfl, Nat.le_of_ble_eq_true rfl⟩) (fun r_13 h_13 => ?_)
        rcases h_13 with ⟨b_13, rfl⟩ | ⟨b_13, rfl⟩
        · refine gn_if_eq hx hb (by decide) (tgt := 23) dX8_folded_16 (by decide) (fun cq => absurd cq (by decide)) (fun cq => ?_)
          refine lv_iconst (v := nI 1) hx hb dX8_folded_19 (by decide) ?_
          refine lv_goto (tgt := 24) hx hb dX8_folded_20 (by decide) ?_
          refine gn_add hx hb dX8_folded_24 ?_
          refine lv_istore_n (lv' := [(1, .int (nI (u + 1))), (2, .int (nI j)), (0, .ref a)]) hx hb dX8_folded_25 rfl hl (by decide) rfl (fun ls hl => ?_)
          refine gn_iinc (lv' := [(2, .int (nI (j + 1))), (1, .int (nI (u + 1))), (0, .ref a)]) hx hb dX8_folded_26 hl (k := 1) rfl (by decide) rfl (fun ls hl => ?_)
          refine lv_goto (tgt := 4) hx hb dX8_folded_29 (by decide) ?_
          exact ih4 (j + 1) (u + 1) (show (j + 1) ≤ 12 from by first | omega | assumption | rfl) (show (u + 1) = sumN (foldN G) (j + 1) from by rw [hu]; show _ = _ + foldN G j; rw [foldN, if_pos b_13]) (by first | omega | assumption) _ (lv_sub hl [1, 0, 2] rfl)
        · refine gn_if_eq hx hb (by decide) (tgt := 23) dX8_folded_16 (by decide) (fun cq => ?_) (fun cq => absurd cq (by decide))
          refine lv_iconst (v := nI 0) hx hb dX8_folded_23 (by decide) ?_
          refine gn_add hx hb dX8_folded_24 ?_
          refine lv_istore_n (lv' := [(1, .int (nI (u + 0))), (2, .int (nI j)), (0, .ref a)]) hx hb dX8_folded_25 rfl hl (by decide) rfl (fun ls hl => ?_)
          refine gn_iinc (lv' := [(2, .int (nI (j + 1))), (1, .int (nI (u + 0))), (0, .ref a)]) hx hb dX8_folded_26 hl (k := 1) rfl (by decide) rfl (fun ls hl => ?_)
          refine lv_goto (tgt := 4) hx hb dX8_folded_29 (by decide) ?_
          exact ih4 (j + 1) (u + 0) (show (j + 1) ≤ 12 from by first | omega | assumption | rfl) (show (u + 0) = sumN (foldN G) (j + 1) from by rw [hu]; show _ = _ + foldN G j; rw [foldN, if_neg b_13]) (by first | omega | assumption) _ (lv_sub hl [1, 0, 2] rfl)
  exact L4 ((12 - 0) + 1) 0 0 (show 0 ≤ 12 from by first | omega | assumption | rfl) (show 0 = sumN (foldN G) 0 from rfl) (Nat.lt_succ_self _) _ (lv_sub hl [1, 0, 2] rfl)
abbrev rmX8_area : Room := { frames := 2, cells := 0, slots := 0, locals := 43 }
set_option maxRecDepth 20000 in
theorem iw_X8_area_X8 : ∀ w ∈ u_ws RX8 TX8 18, w ∈ wsX8_area := by decide +kernel
set_option maxHeartbeats 4000000 in
set_option maxRecDepth 100000 in
theorem c_X8_area (l : Launch) (D : va_G) (cI cC cQ : ClassId) (a g0 g1 g2 g3 g4 g5 g6 g7 : Nat) (ik rn ps ty sp fr re cau co cm : Int32) (G : Nat → Nat → Int32) (p : Nat) (hp : p < 12) : Met l yX8_area wsX8_area rmX8_area (PR D cI cC cQ [.ref a, .int (nI p)] [(a, .inr (8, [.ref g0, .ref g1, .ref g2, .ref g3, .int ik, .int rn, .int ps, .ref g4, .int ty, .ref g5, .ref g6, .int sp, .int fr, .int re, .int cau, .int co, .int cm, .ref g7])), (g0, .inl (cI, 240, .inl (MA G)))]) (vp_Si (fun z => z = absI (sumI (areaT G p) 4))) 0 0 (fun _ => False) := by
  refine metR (cc := cX8_area) (maxL := 6) (ret := (some .int)) (by decide) rfl (Nat.le_of_ble_eq_true rfl) ?_
  intro pg ev s mi args below meth cd ls Q hQ hx hb hml hr hts hown hlk hK hP hl
  have hKa := hK.1
  have hl : lv_has ls 6 [(0, .ref a), (1, .int (nI p))] := hl
  refine lv_iconst (v := nI 0) hx hb dX8_area_0 (by decide) ?_
  refine lv_istore_n (lv' := [(2, .int (nI 0)), (0, .ref a), (1, .int (nI p))]) hx hb dX8_area_1 rfl hl (by decide) rfl (fun ls hl => ?_)
  refine lv_iconst (v := nI 0) hx hb dX8_area_2 (by decide) ?_
  refine lv_istore_n (lv' := [(3, .int (nI 0)), (2, .int (nI 0)), (0, .ref a), (1, .int (nI p))]) hx hb dX8_area_3 rfl hl (by decide) rfl (fun ls hl => ?_)
  have L4 : ∀ (nn : Nat) (j : Nat) (u : Int32) (hj : j ≤ 4) (hu : u = sumI (areaT G p) j) (_ : 4 - j < nn) (ls : Array Slot) (_ : lv_has ls 6 [(2, .int u), (3, .int (nI j)), (0, .ref a), (1, .int (nI p))]), W pg l ev (headSpec wsX8_area rmX8_area).room s mi args below meth cd s.heap [] 0 0 Q (F0 mi 4 ls []) := by
    intro nn
    induction nn with
    | zero =>
      intro j u hj hu hmeas
      exact absurd hmeas (Nat.not_lt_zero _)
    | succ nn ih4 =>
      intro j u hj hu hmeas  ls hl
      refine lv_iload_n hx hb dX8_area_4 rfl (lv_at hl 1 rfl) ?_
      refine lv_iconst (v := nI 4) hx hb dX8_area_5 (by decide) ?_
      refine gn_icmp_ge hx hb (by omega) (by decide) (tgt := 73) dX8_area_6 (by decide) (fun c_6 => ?_) (fun c_6 => ?_)
      · refine lv_iload_n hx hb dX8_area_73 rfl (lv_at hl 0 rfl) ?_
        refine lv_if_ge hx hb (tgt := 82) dX8_area_74 (by decide) (fun c_74 => ?_) (fun c_74 => ?_)
        · refine lv_iload_n hx hb dX8_area_82 rfl (lv_at hl 0 rfl) ?_
          exact rtR_i hQ hx hb hr hlk dX8_area_83 (by rw [show sumI (areaT G p) 4 = u by rw [hu, show j = 4 by omega]]; unfold absI; rw [if_pos c_74])
        · refine lv_iload_n hx hb dX8_area_77 rfl (lv_at hl 0 rfl) ?_
          refine lv_ineg hx hb dX8_area_78 ?_
          refine lv_goto (tgt := 83) hx hb dX8_area_79 (by decide) ?_
          exact rtR_i hQ hx hb hr hlk dX8_area_83 (by rw [show sumI (areaT G p) 4 = u by rw [hu, show j = 4 by omega]]; unfold absI; rw [if_neg c_74]; exact (Int32.zero_sub _).symm)
      · refine lv_iload_n hx hb dX8_area_9 rfl (lv_at hl 3 rfl) ?_
        refine lv_iload_n hx hb dX8_area_10 rfl (lv_at hl 1 rfl) ?_
        have hPc := hP.sub (ws' := []) [] rfl
        refine clRe (E := nI (12 * ca p j)) (va_runS (As := [.int (nI p), .int (nI j)]) (rest := []) ⟨hx, hb, hml, hown, hts⟩ (c_X8_around l D cI cC cQ p j (by first | assumption | omega) (by first | assumption | omega)) (va_cwS (rm := rmX8_around) 2 hts gX8_area_X8_around rfl rfl rfl (by decide +kernel) ⟨Nat.le_of_ble_eq_true rfl, Nat.le_of_ble_eq_true rfl⟩) ⟨PR.blind, PR.go hPc hK⟩ rfl rfl hl.1 rfl (lv_room (Nat.le_of_ble_eq_true rfl)) dX8_area_11 ⟨Nat.le_of_ble_eq_true rfl, Nat.le_of_ble_eq_true rfl⟩) ?_
        have hbd_11 : ca p j < 20 := ca_lt (by omega)
        refine lv_istore (lv' := [(4, .int (nI (12 * ca p j))), (2, .int u), (3, .int (nI j)), (0, .ref a), (1, .int (nI p))]) hx hb dX8_area_14 hl (by decide) rfl (fun ls hl => ?_)
        refine lv_iload_n hx hb dX8_area_16 rfl (lv_at hl 4 rfl) ?_
        refine lv_iload_n hx hb dX8_area_17 rfl (lv_at hl 2 rfl) ?_
        refine lv_iconst (v := nI 1) hx hb dX8_area_18 (by decide) ?_
        refine gn_add hx hb dX8_area_19 ?_
        have hPc := hP.sub (ws' := []) [] rfl
        refine clRe (E := nI (12 * ca p (j + 1))) (va_runS (As := [.int (nI p), .int (nI (j + 1))]) (rest := []) ⟨hx, hb, hml, hown, hts⟩ (c_X8_around l D cI cC cQ p (j + 1) (by first | assumption | omega) (by first | assumption | omega)) (va_cwS (rm := rmX8_around) 2 hts gX8_area_X8_around rfl rfl rfl (by decide +kernel) ⟨Nat.le_of_ble_eq_true rfl, Nat.le_of_ble_eq_true rfl⟩) ⟨PR.blind, PR.go hPc hK⟩ rfl rfl hl.1 rfl (lv_room (Nat.le_of_ble_eq_true rfl)) dX8_area_20 ⟨Nat.le_of_ble_eq_true rfl, Nat.le_of_ble_eq_true rfl⟩) ?_
        have hbd_20 : ca p (j + 1) < 20 := ca_lt (by omega)
        refine lv_istore (lv' := [(5, .int (nI (12 * ca p (j + 1)))), (4, .int (nI (12 * ca p j))), (2, .int u), (3, .int (nI j)), (0, .ref a), (1, .int (nI p))]) hx hb dX8_area_23 hl (by decide) rfl (fun ls hl => ?_)
        refine lv_iload_n hx hb dX8_area_25 rfl (lv_at hl 2 rfl) ?_
        refine lv_aload_n hx hb dX8_area_26 rfl (lv_at hl 4 rfl) ?_
        refine va_get (D := D) (ci := 8) (v := .ref g0) (C := RX8) (T := TX8) (N := 18) hx hb hts iw_X8_area_X8 hown hKa hP 0 rfl rfl 0 (by decide) (hts (.fieldLink RX8 7 "ColourPatchesModel" "s" "[I") (by decide +kernel)) (fun _ h9 => h9) rfl dX8_area_27 ?_
        refine lv_iload hx hb dX8_area_30 (lv_at hl 1 rfl) ?_
        refine lv_iconst (v := nI 0) hx hb dX8_area_32 (by decide) ?_
        refine gn_add hx hb dX8_area_33 ?_
        refine gn_iald hx hb hKa hP 1 0 rfl rfl (k := (12 * ca p j) + 0) (by omega) (by omega) dX8_area_34 ?_
        rw [show MA G ((12 * ca p j) + 0) = G (ca p j) 0 from MA_at _ _ _ _ (by omega) (by omega)]
        refine lv_aload_n hx hb dX8_area_35 rfl (lv_at hl 4 rfl) ?_
        refine va_get (D := D) (ci := 8) (v := .ref g0) (C := RX8) (T := TX8) (N := 18) hx hb hts iw_X8_area_X8 hown hKa hP 0 rfl rfl 0 (by decide) (hts (.fieldLink RX8 7 "ColourPatchesModel" "s" "[I") (by decide +kernel)) (fun _ h9 => h9) rfl dX8_area_36 ?_
        refine lv_iload hx hb dX8_area_39 (lv_at hl 0 rfl) ?_
        refine lv_iconst (v := nI 1) hx hb dX8_area_41 (by decide) ?_
        refine gn_add hx hb dX8_area_42 ?_
        refine gn_iald hx hb hKa hP 1 0 rfl rfl (k := (12 * ca p (j + 1)) + 1) (by omega) (by omega) dX8_area_43 ?_
        rw [show MA G ((12 * ca p (j + 1)) + 1) = G (ca p (j + 1)) 1 from MA_at _ _ _ _ (by omega) (by omega)]
        refine lv_imul hx hb dX8_area_44 ?_
        refine lv_aload_n hx hb dX8_area_45 rfl (lv_at hl 4 rfl) ?_
        refine va_get (D := D) (ci := 8) (v := .ref g0) (C := RX8) (T := TX8) (N := 18) hx hb hts iw_X8_area_X8 hown hKa hP 0 rfl rfl 0 (by decide) (hts (.fieldLink RX8 7 "ColourPatchesModel" "s" "[I") (by decide +kernel)) (fun _ h9 => h9) rfl dX8_area_46 ?_
        refine lv_iload hx hb dX8_area_49 (lv_at hl 0 rfl) ?_
        refine lv_iconst (v := nI 0) hx hb dX8_area_51 (by decide) ?_
        refine gn_add hx hb dX8_area_52 ?_
        refine gn_iald hx hb hKa hP 1 0 rfl rfl (k := (12 * ca p (j + 1)) + 0) (by omega) (by omega) dX8_area_53 ?_
        rw [show MA G ((12 * ca p (j + 1)) + 0) = G (ca p (j + 1)) 0 from MA_at _ _ _ _ (by omega) (by omega)]
        refine lv_aload_n hx hb dX8_area_54 rfl (lv_at hl 4 rfl) ?_
        refine va_get (D := D) (ci := 8) (v := .ref g0) (C := RX8) (T := TX8) (N := 18) hx hb hts iw_X8_area_X8 hown hKa hP 0 rfl rfl 0 (by decide) (hts (.fieldLink RX8 7 "ColourPatchesModel" "s" "[I") (by decide +kernel)) (fun _ h9 => h9) rfl dX8_area_55 ?_
        refine lv_iload hx hb dX8_area_58 (lv_at hl 1 rfl) ?_
        refine lv_iconst (v := nI 1) hx hb dX8_area_60 (by decide) ?_
        refine gn_add hx hb dX8_area_61 ?_
        refine gn_iald hx hb hKa hP 1 0 rfl rfl (k := (12 * ca p j) + 1) (by omega) (by omega) dX8_area_62 ?_
        rw [show MA G ((12 * ca p j) + 1) = G (ca p j) 1 from MA_at _ _ _ _ (by omega) (by omega)]
        refine lv_imul hx hb dX8_area_63 ?_
        refine lv_isub hx hb dX8_area_64 ?_
        refine lv_iadd hx hb dX8_area_65 ?_
        refine lv_istore_n (lv' := [(2, .int (u + (((G (ca p j) 0) * (G (ca p (j + 1)) 1)) - ((G (ca p (j + 1)) 0) * (G (ca p j) 1))))), (5, .int (nI (12 * ca p (j + 1)))), (4, .int (nI (12 * ca p j))), (3, .int (nI j)), (0, .ref a), (1, .int (nI p))]) hx hb dX8_area_66 rfl hl (by decide) rfl (fun ls hl => ?_)
        refine gn_iinc (lv' := [(3, .int (nI (j + 1))), (2, .int (u + (((G (ca p j) 0) * (G (ca p (j + 1)) 1)) - ((G (ca p (j + 1)) 0) * (G (ca p j) 1))))), (5, .int (nI (12 * ca p (j + 1)))), (4, .int (nI (12 * ca p j))), (0, .ref a), (1, .int (nI p))]) hx hb dX8_area_67 hl (k := 3) rfl (by decide) rfl (fun ls hl => ?_)
        refine lv_goto (tgt := 4) hx hb dX8_area_70 (by decide) ?_
        exact ih4 (j + 1) (u + (((G (ca p j) 0) * (G (ca p (j + 1)) 1)) - ((G (ca p (j + 1)) 0) * (G (ca p j) 1)))) (show (j + 1) ≤ 4 from by first | omega | assumption | rfl) (show (u + (((G (ca p j) 0) * (G (ca p (j + 1)) 1)) - ((G (ca p (j + 1)) 0) * (G (ca p j) 1)))) = sumI (areaT G p) (j + 1) from by rw [hu]; rfl) (by first | omega | assumption) _ (lv_sub hl [1, 0, 4, 5] rfl)
  exact L4 ((4 - 0) + 1) 0 (nI 0) (show 0 ≤ 4 from by first | omega | assumption | rfl) (show (nI 0) = sumI (areaT G p) 0 from rfl) (Nat.lt_succ_self _) _ (lv_sub hl [1, 0, 2, 3] rfl)
abbrev rmX8_heldOf : Room := { frames := 2, cells := 0, slots := 0, locals := 43 }
set_option maxRecDepth 20000 in
theorem iw_X8_heldOf_X8 : ∀ w ∈ u_ws RX8 TX8 18, w ∈ wsX8_heldOf := by decide +kernel
set_option maxHeartbeats 4000000 in
set_option maxRecDepth 100000 in
theorem c_X8_heldOf (l : Launch) (D : va_G) (cI cC cQ : ClassId) (a g0 g1 g2 g3 g4 g5 g6 g7 : Nat) (ik rn ps ty sp fr re cau co cm : Int32) (G : Nat → Nat → Int32) (p : Nat) (hp : p < 12) : Met l yX8_heldOf wsX8_heldOf rmX8_heldOf (PR D cI cC cQ [.ref a, .int (nI p)] [(a, .inr (8, [.ref g0, .ref g1, .ref g2, .ref g3, .int ik, .int rn, .int ps, .ref g4, .int ty, .ref g5, .ref g6, .int sp, .int fr, .int re, .int cau, .int co, .int cm, .ref g7])), (g0, .inl (cI, 240, .inl (MA G)))]) (vp_Si (fun z => z = sumI (fun k => HA G (ca p k)) 4)) 0 0 (fun _ => False) := by
  refine metR (cc := cX8_heldOf) (maxL := 4) (ret := (some .int)) (by decide) rfl (Nat.le_of_ble_eq_true rfl) ?_
  intro pg ev s mi args below meth cd ls Q hQ hx hb hml hr hts hown hlk hK hP hl
  have hKa := hK.1
  have hl : lv_has ls 4 [(0, .ref a), (1, .int (nI p))] := hl
  refine lv_iconst (v := nI 0) hx hb dX8_heldOf_0 (by decide) ?_
  refine lv_istore_n (lv' := [(2, .int (nI 0)), (0, .ref a), (1, .int (nI p))]) hx hb dX8_heldOf_1 rfl hl (by decide) rfl (fun ls hl => ?_)
  refine lv_iconst (v := nI 0) hx hb dX8_heldOf_2 (by decide) ?_
  refine lv_istore_n (lv' := [(3, .int (nI 0)), (2, .int (nI 0)), (0, .ref a), (1, .int (nI p))]) hx hb dX8_heldOf_3 rfl hl (by decide) rfl (fun ls hl => ?_)
  have L4 : ∀ (nn : Nat) (j : Nat) (u : Int32) (hj : j ≤ 4) (hu : u = sumI (fun k => HA G (ca p k)) j) (_ : 4 - j < nn) (ls : Array Slot) (_ : lv_has ls 4 [(2, .int u), (3, .int (nI j)), (0, .ref a), (1, .int (nI p))]), W pg l ev (headSpec wsX8_heldOf rmX8_heldOf).room s mi args below meth cd s.heap [] 0 0 Q (F0 mi 4 ls []) := by
    intro nn
    induction nn with
    | zero =>
      intro j u hj hu hmeas
      exact absurd hmeas (Nat.not_lt_zero _)
    | succ nn ih4 =>
      intro j u hj hu hmeas  ls hl
      refine lv_iload_n hx hb dX8_heldOf_4 rfl (lv_at hl 1 rfl) ?_
      refine lv_iconst (v := nI 4) hx hb dX8_heldOf_5 (by decide) ?_
      refine gn_icmp_ge hx hb (by omega) (by decide) (tgt := 30) dX8_heldOf_6 (by decide) (fun c_6 => ?_) (fun c_6 => ?_)
      · refine lv_iload_n hx hb dX8_heldOf_30 rfl (lv_at hl 0 rfl) ?_
        exact rtR_i hQ hx hb hr hlk dX8_heldOf_31 (by rw [hu, show j = 4 by omega])
      · refine lv_iload_n hx hb dX8_heldOf_9 rfl (lv_at hl 0 rfl) ?_
        refine lv_aload_n hx hb dX8_heldOf_10 rfl (lv_at hl 2 rfl) ?_
        refine va_get (D := D) (ci := 8) (v := .ref g0) (C := RX8) (T := TX8) (N := 18) hx hb hts iw_X8_heldOf_X8 hown hKa hP 0 rfl rfl 0 (by decide) (hts (.fieldLink RX8 7 "ColourPatchesModel" "s" "[I") (by decide +kernel)) (fun _ h9 => h9) rfl dX8_heldOf_11 ?_
        refine lv_iload_n hx hb dX8_heldOf_14 rfl (lv_at hl 3 rfl) ?_
        refine lv_iload_n hx hb dX8_heldOf_15 rfl (lv_at hl 1 rfl) ?_
        have hPc := hP.sub (ws' := []) [] rfl
        refine clRe (E := nI (12 * ca p j)) (va_runS (As := [.int (nI p), .int (nI j)]) (rest := [.ref g0, .int u]) ⟨hx, hb, hml, hown, hts⟩ (c_X8_around l D cI cC cQ p j (by first | assumption | omega) (by first | assumption | omega)) (va_cwS (rm := rmX8_around) 2 hts gX8_heldOf_X8_around rfl rfl rfl (by decide +kernel) ⟨Nat.le_of_ble_eq_true rfl, Nat.le_of_ble_eq_true rfl⟩) ⟨PR.blind, PR.go hPc hK⟩ rfl rfl hl.1 rfl (lv_room (Nat.le_of_ble_eq_true rfl)) dX8_heldOf_16 ⟨Nat.le_of_ble_eq_true rfl, Nat.le_of_ble_eq_true rfl⟩) ?_
        have hbd_16 : ca p j < 20 := ca_lt (by omega)
        refine lv_iconst (v := nI 5) hx hb dX8_heldOf_19 (by decide) ?_
        refine gn_add hx hb dX8_heldOf_20 ?_
        refine gn_iald hx hb hKa hP 1 0 rfl rfl (k := (12 * ca p j) + 5) (by omega) (by omega) dX8_heldOf_21 ?_
        rw [show MA G ((12 * ca p j) + 5) = G (ca p j) 5 from MA_at _ _ _ _ (by omega) (by omega)]
        refine lv_iadd hx hb dX8_heldOf_22 ?_
        refine lv_istore_n (lv' := [(2, .int (u + (G (ca p j) 5))), (3, .int (nI j)), (0, .ref a), (1, .int (nI p))]) hx hb dX8_heldOf_23 rfl hl (by decide) rfl (fun ls hl => ?_)
        refine gn_iinc (lv' := [(3, .int (nI (j + 1))), (2, .int (u + (G (ca p j) 5))), (0, .ref a), (1, .int (nI p))]) hx hb dX8_heldOf_24 hl (k := 1) rfl (by decide) rfl (fun ls hl => ?_)
        refine lv_goto (tgt := 4) hx hb dX8_heldOf_27 (by decide) ?_
        exact ih4 (j + 1) (u + (G (ca p j) 5)) (show (j + 1) ≤ 4 from by first | omega | assumption | rfl) (show (u + (G (ca p j) 5)) = sumI (fun k => HA G (ca p k)) (j + 1) from by rw [hu]; rfl) (by first | omega | assumption) _ (lv_sub hl [1, 0, 2, 3] rfl)
  exact L4 ((4 - 0) + 1) 0 (nI 0) (show 0 ≤ 4 from by first | omega | assumption | rfl) (show (nI 0) = sumI (fun k => HA G (ca p k)) 0 from rfl) (Nat.lt_succ_self _) _ (lv_sub hl [1, 0, 2, 3] rfl)
