abbrev rmX7_isWithin : Room := { frames := 0, cells := 0, slots := 0, locals := 0 }
set_option maxHeartbeats 4000000 in
set_option maxRecDepth 100000 in
theorem c_X7_isWithin (l : Launch) (D : va_G) (cI cC cQ : ClassId) (n lo hi : Int32) : Met l yX7_isWithin wsX7_isWithin rmX7_isWithin (PR D cI cC cQ [.int n, .int lo, .int hi] []) (vp_Si (fun z => BB (lo ≤ n ∧ n ≤ hi) z)) 0 0 (fun _ => False) := by
  refine metR (cc := cX7_isWithin) (maxL := 3) (ret := (some .boolean)) (by decide) rfl (Nat.le_of_ble_eq_true rfl) ?_
  intro pg ev s mi args below meth cd ls Q hQ hx hb hml hr hts hown hlk hK hP hl
  have hKa := hK.1
  have hl : lv_has ls 3 [(0, .int n), (1, .int lo), (2, .int hi)] := hl
  refine lv_iload_n hx hb dX7_isWithin_0 rfl (lv_at hl 0 rfl) ?_
  refine lv_iload_n hx hb dX7_isWithin_1 rfl (lv_at hl 1 rfl) ?_
  refine lv_icmp_lt hx hb (tgt := 14) dX7_isWithin_2 (by decide) (fun c_2 => ?_) (fun c_2 => ?_)
  · refine lv_iconst (v := nI 0) hx hb dX7_isWithin_14 (by decide) ?_
    exact rtR_z hQ hx hb hr hlk dX7_isWithin_15 (by decide +kernel) (Or.inr ⟨fun q => absurd q.1 (Int32.not_le.mpr c_2), rfl⟩)
  · refine lv_iload_n hx hb dX7_isWithin_5 rfl (lv_at hl 0 rfl) ?_
    refine lv_iload_n hx hb dX7_isWithin_6 rfl (lv_at hl 2 rfl) ?_
    refine lv_icmp_gt hx hb (tgt := 14) dX7_isWithin_7 (by decide) (fun c_7 => ?_) (fun c_7 => ?_)
    · refine lv_iconst (v := nI 0) hx hb dX7_isWithin_14 (by decide) ?_
      exact rtR_z hQ hx hb hr hlk dX7_isWithin_15 (by decide +kernel) (Or.inr ⟨fun q => absurd q.2 (Int32.not_le.mpr c_7), rfl⟩)
    · refine lv_iconst (v := nI 1) hx hb dX7_isWithin_10 (by decide) ?_
      refine lv_goto (tgt := 15) hx hb dX7_isWithin_11 (by decide) ?_
      exact rtR_z hQ hx hb hr hlk dX7_isWithin_15 (by decide +kernel) (Or.inl ⟨⟨Int32.not_lt.mp c_2, Int32.not_lt.mp c_7⟩, rfl⟩)
abbrev rmX7_isCorner : Room := { frames := 1, cells := 0, slots := 0, locals := 22 }
set_option maxHeartbeats 4000000 in
set_option maxRecDepth 100000 in
theorem c_X7_isCorner (l : Launch) (D : va_G) (cI cC cQ : ClassId) (a b : Int32) : Met l yX7_isCorner wsX7_isCorner rmX7_isCorner (PR D cI cC cQ [.int a, .int b] []) (vp_Si (fun z => BB ((nI 0 ≤ a ∧ a ≤ nI 4) ∧ (nI 0 ≤ b ∧ b ≤ nI 3)) z)) 0 0 (fun _ => False) := by
  refine metR (cc := cX7_isCorner) (maxL := 2) (ret := (some .boolean)) (by decide) rfl (Nat.le_of_ble_eq_true rfl) ?_
  intro pg ev s mi args below meth cd ls Q hQ hx hb hml hr hts hown hlk hK hP hl
  have hKa := hK.1
  have hl : lv_has ls 2 [(0, .int a), (1, .int b)] := hl
  refine lv_iload_n hx hb dX7_isCorner_0 rfl (lv_at hl 0 rfl) ?_
  refine lv_iconst (v := nI 0) hx hb dX7_isCorner_1 (by decide) ?_
  refine lv_iconst (v := nI 4) hx hb dX7_isCorner_2 (by decide) ?_
  have hPc := hP.sub (ws' := []) [] rfl
  refine clR (va_runS (As := [.int a, .int (nI 0), .int (nI 4)]) (rest := []) ⟨hx, hb, hml, hown, hts⟩ (c_X7_isWithin l D cI cC cQ a (nI 0) (nI 4) ) (va_cwS (rm := rmX7_isWithin) 3 hts gX7_isCorner_X7_isWithin rfl rfl rfl (by decide +kernel) ⟨Nat.le_of_ble_eq_true rfl, Nat.le_of_ble_eq_true rfl⟩) ⟨PR.blind, PR.go hPc hK⟩ rfl rfl hl.1 rfl (lv_room (Nat.le_of_ble_eq_true rfl)) dX7_isCorner_3 ⟨Nat.le_of_ble_eq_true rfl, Nat.le_of_ble_eq_true rfl⟩) (fun r_3 h_3 => ?_)
  rcases h_3 with ⟨b_3, rfl⟩ | ⟨b_3, rfl⟩
  · refine gn_if_eq hx hb (by decide) (tgt := 22) dX7_isCorner_6 (by decide) (fun cq => absurd cq (by decide)) (fun cq => ?_)
    refine lv_iload_n hx hb dX7_isCorner_9 rfl (lv_at hl 1 rfl) ?_
    refine lv_iconst (v := nI 0) hx hb dX7_isCorner_10 (by decide) ?_
    refine lv_iconst (v := nI 3) hx hb dX7_isCorner_11 (by decide) ?_
    have hPc := hP.sub (ws' := []) [] rfl
    refine clR (va_runS (As := [.int b, .int (nI 0), .int (nI 3)]) (rest := []) ⟨hx, hb, hml, hown, hts⟩ (c_X7_isWithin l D cI cC cQ b (nI 0) (nI 3) ) (va_cwS (rm := rmX7_isWithin) 3 hts gX7_isCorner_X7_isWithin rfl rfl rfl (by decide +kernel) ⟨Nat.le_of_ble_eq_true rfl, Nat.le_of_ble_eq_true rfl⟩) ⟨PR.blind, PR.go hPc hK⟩ rfl rfl hl.1 rfl (lv_room (Nat.le_of_ble_eq_true rfl)) dX7_isCorner_12 ⟨Nat.le_of_ble_eq_true rfl, Nat.le_of_ble_eq_true rfl⟩) (fun r_12 h_12 => ?_)
    rcases h_12 with ⟨b_12, rfl⟩ | ⟨b_12, rfl⟩
    · refine gn_if_eq hx hb (by decide) (tgt := 22) dX7_isCorner_15 (by decide) (fun cq => absurd cq (by decide)) (fun cq => ?_)
      refine lv_iconst (v := nI 1) hx hb dX7_isCorner_18 (by decide) ?_
      refine lv_goto (tgt := 23) hx hb dX7_isCorner_19 (by decide) ?_
      exact rtR_z hQ hx hb hr hlk dX7_isCorner_23 (by decide +kernel) (Or.inl ⟨⟨b_3, b_12⟩, rfl⟩)
    · refine gn_if_eq hx hb (by decide) (tgt := 22) dX7_isCorner_15 (by decide) (fun cq => ?_) (fun cq => absurd cq (by decide))
      refine lv_iconst (v := nI 0) hx hb dX7_isCorner_22 (by decide) ?_
      exact rtR_z hQ hx hb hr hlk dX7_isCorner_23 (by decide +kernel) (Or.inr ⟨fun q => b_12 q.2, rfl⟩)
  · refine gn_if_eq hx hb (by decide) (tgt := 22) dX7_isCorner_6 (by decide) (fun cq => ?_) (fun cq => absurd cq (by decide))
    refine lv_iconst (v := nI 0) hx hb dX7_isCorner_22 (by decide) ?_
    exact rtR_z hQ hx hb hr hlk dX7_isCorner_23 (by decide +kernel) (Or.inr ⟨fun q => b_3 q.1, rfl⟩)
abbrev rmX7_isPlace : Room := { frames := 1, cells := 0, slots := 0, locals := 22 }
set_option maxHeartbeats 4000000 in
set_option maxRecDepth 100000 in
theorem c_X7_isPlace (l : Launch) (D : va_G) (cI cC cQ : ClassId) (a b : Int32) : Met l yX7_isPlace wsX7_isPlace rmX7_isPlace (PR D cI cC cQ [.int a, .int b] []) (vp_Si (fun z => BB ((nI 0 ≤ a ∧ a ≤ nI 999) ∧ (nI 0 ≤ b ∧ b ≤ nI 999)) z)) 0 0 (fun _ => False) := by
  refine metR (cc := cX7_isPlace) (maxL := 2) (ret := (some .boolean)) (by decide) rfl (Nat.le_of_ble_eq_true rfl) ?_
  intro pg ev s mi args below meth cd ls Q hQ hx hb hml hr hts hown hlk hK hP hl
  have hKa := hK.1
  have hl : lv_has ls 2 [(0, .int a), (1, .int b)] := hl
  refine lv_iload_n hx hb dX7_isPlace_0 rfl (lv_at hl 0 rfl) ?_
  refine lv_iconst (v := nI 0) hx hb dX7_isPlace_1 (by decide) ?_
  refine lv_sipush (v := nI 999) hx hb dX7_isPlace_2 (by decide) ?_
  have hPc := hP.sub (ws' := []) [] rfl
  refine clR (va_runS (As := [.int a, .int (nI 0), .int (nI 999)]) (rest := []) ⟨hx, hb, hml, hown, hts⟩ (c_X7_isWithin l D cI cC cQ a (nI 0) (nI 999) ) (va_cwS (rm := rmX7_isWithin) 3 hts gX7_isPlace_X7_isWithin rfl rfl rfl (by decide +kernel) ⟨Nat.le_of_ble_eq_true rfl, Nat.le_of_ble_eq_true rfl⟩) ⟨PR.blind, PR.go hPc hK⟩ rfl rfl hl.1 rfl (lv_room (Nat.le_of_ble_eq_true rfl)) dX7_isPlace_5 ⟨Nat.le_of_ble_eq_true rfl, Nat.le_of_ble_eq_true rfl⟩) (fun r_5 h_5 => ?_)
  rcases h_5 with ⟨b_5, rfl⟩ | ⟨b_5, rfl⟩
  · refine gn_if_eq hx hb (by decide) (tgt := 26) dX7_isPlace_8 (by decide) (fun cq => absurd cq (by decide)) (fun cq => ?_)
    refine lv_iload_n hx hb dX7_isPlace_11 rfl (lv_at hl 1 rfl) ?_
    refine lv_iconst (v := nI 0) hx hb dX7_isPlace_12 (by decide) ?_
    refine lv_sipush (v := nI 999) hx hb dX7_isPlace_13 (by decide) ?_
    have hPc := hP.sub (ws' := []) [] rfl
    refine clR (va_runS (As := [.int b, .int (nI 0), .int (nI 999)]) (rest := []) ⟨hx, hb, hml, hown, hts⟩ (c_X7_isWithin l D cI cC cQ b (nI 0) (nI 999) ) (va_cwS (rm := rmX7_isWithin) 3 hts gX7_isPlace_X7_isWithin rfl rfl rfl (by decide +kernel) ⟨Nat.le_of_ble_eq_true rfl, Nat.le_of_ble_eq_true rfl⟩) ⟨PR.blind, PR.go hPc hK⟩ rfl rfl hl.1 rfl (lv_room (Nat.le_of_ble_eq_true rfl)) dX7_isPlace_16 ⟨Nat.le_of_ble_eq_true rfl, Nat.le_of_ble_eq_true rfl⟩) (fun r_16 h_16 => ?_)
    rcases h_16 with ⟨b_16, rfl⟩ | ⟨b_16, rfl⟩
    · refine gn_if_eq hx hb (by decide) (tgt := 26) dX7_isPlace_19 (by decide) (fun cq => absurd cq (by decide)) (fun cq => ?_)
      refine lv_iconst (v := nI 1) hx hb dX7_isPlace_22 (by decide) ?_
      refine lv_goto (tgt := 27) hx hb dX7_isPlace_23 (by decide) ?_
      exact rtR_z hQ hx hb hr hlk dX7_isPlace_27 (by decide +kernel) (Or.inl ⟨⟨b_5, b_16⟩, rfl⟩)
    · refine gn_if_eq hx hb (by decide) (tgt := 26) dX7_isPlace_19 (by decide) (fun cq => ?_) (fun cq => absurd cq (by decide))
      refine lv_iconst (v := nI 0) hx hb dX7_isPlace_26 (by decide) ?_
      exact rtR_z hQ hx hb hr hlk dX7_isPlace_27 (by decide +kernel) (Or.inr ⟨fun q => b_16 q.2, rfl⟩)
  · refine gn_if_eq hx hb (by decide) (tgt := 26) dX7_isPlace_8 (by decide) (fun cq => ?_) (fun cq => absurd cq (by decide))
    refine lv_iconst (v := nI 0) hx hb dX7_isPlace_26 (by decide) ?_
    exact rtR_z hQ hx hb hr hlk dX7_isPlace_27 (by decide +kernel) (Or.inr ⟨fun q => b_5 q.1, rfl⟩)
abbrev rmX7_isPatch : Room := { frames := 1, cells := 0, slots := 0, locals := 22 }
set_option maxHeartbeats 4000000 in
set_option maxRecDepth 100000 in
theorem c_X7_isPatch (l : Launch) (D : va_G) (cI cC cQ : ClassId) (a : Int32) : Met l yX7_isPatch wsX7_isPatch rmX7_isPatch (PR D cI cC cQ [.int a] []) (vp_Si (fun z => BB (nI 0 ≤ a ∧ a ≤ nI 11) z)) 0 0 (fun _ => False) := by
  refine metR (cc := cX7_isPatch) (maxL := 1) (ret := (some .boolean)) (by decide) rfl (Nat.le_of_ble_eq_true rfl) ?_
  intro pg ev s mi args below meth cd ls Q hQ hx hb hml hr hts hown hlk hK hP hl
  have hKa := hK.1
  have hl : lv_has ls 1 [(0, .int a)] := hl
  refine lv_iload_n hx hb dX7_isPatch_0 rfl (lv_at hl 0 rfl) ?_
  refine lv_iconst (v := nI 0) hx hb dX7_isPatch_1 (by decide) ?_
  refine lv_bipush (v := nI 11) hx hb dX7_isPatch_2 (by decide) ?_
  have hPc := hP.sub (ws' := []) [] rfl
  refine clR (va_runS (As := [.int a, .int (nI 0), .int (nI 11)]) (rest := []) ⟨hx, hb, hml, hown, hts⟩ (c_X7_isWithin l D cI cC cQ a (nI 0) (nI 11) ) (va_cwS (rm := rmX7_isWithin) 3 hts gX7_isPatch_X7_isWithin rfl rfl rfl (by decide +kernel) ⟨Nat.le_of_ble_eq_true rfl, Nat.le_of_ble_eq_true rfl⟩) ⟨PR.blind, PR.go hPc hK⟩ rfl rfl hl.1 rfl (lv_room (Nat.le_of_ble_eq_true rfl)) dX7_isPatch_4 ⟨Nat.le_of_ble_eq_true rfl, Nat.le_of_ble_eq_true rfl⟩) (fun r_4 h_4 => ?_)
  rcases h_4 with ⟨b_4, rfl⟩ | ⟨b_4, rfl⟩
  · exact rtR_z hQ hx hb hr hlk dX7_isPatch_7 (by decide +kernel) (Or.inl ⟨b_4, rfl⟩)
  · exact rtR_z hQ hx hb hr hlk dX7_isPatch_7 (by decide +kernel) (Or.inr ⟨fun q => b_4 q, rfl⟩)
abbrev rmX7_isSide : Room := { frames := 1, cells := 0, slots := 0, locals := 22 }
set_option maxHeartbeats 4000000 in
set_option maxRecDepth 100000 in
theorem c_X7_isSide (l : Launch) (D : va_G) (cI cC cQ : ClassId) (a : Int32) : Met l yX7_isSide wsX7_isSide rmX7_isSide (PR D cI cC cQ [.int a] []) (vp_Si (fun z => BB (nI 0 ≤ a ∧ a ≤ nI 1) z)) 0 0 (fun _ => False) := by
  refine metR (cc := cX7_isSide) (maxL := 1) (ret := (some .boolean)) (by decide) rfl (Nat.le_of_ble_eq_true rfl) ?_
  intro pg ev s mi args below meth cd ls Q hQ hx hb hml hr hts hown hlk hK hP hl
  have hKa := hK.1
  have hl : lv_has ls 1 [(0, .int a)] := hl
  refine lv_iload_n hx hb dX7_isSide_0 rfl (lv_at hl 0 rfl) ?_
  refine lv_iconst (v := nI 0) hx hb dX7_isSide_1 (by decide) ?_
  refine lv_iconst (v := nI 1) hx hb dX7_isSide_2 (by decide) ?_
  have hPc := hP.sub (ws' := []) [] rfl
  refine clR (va_runS (As := [.int a, .int (nI 0), .int (nI 1)]) (rest := []) ⟨hx, hb, hml, hown, hts⟩ (c_X7_isWithin l D cI cC cQ a (nI 0) (nI 1) ) (va_cwS (rm := rmX7_isWithin) 3 hts gX7_isSide_X7_isWithin rfl rfl rfl (by decide +kernel) ⟨Nat.le_of_ble_eq_true rfl, Nat.le_of_ble_eq_true rfl⟩) ⟨PR.blind, PR.go hPc hK⟩ rfl rfl hl.1 rfl (lv_room (Nat.le_of_ble_eq_true rfl)) dX7_isSide_3 ⟨Nat.le_of_ble_eq_true rfl, Nat.le_of_ble_eq_true rfl⟩) (fun r_3 h_3 => ?_)
  rcases h_3 with ⟨b_3, rfl⟩ | ⟨b_3, rfl⟩
  · exact rtR_z hQ hx hb hr hlk dX7_isSide_6 (by decide +kernel) (Or.inl ⟨b_3, rfl⟩)
  · exact rtR_z hQ hx hb hr hlk dX7_isSide_6 (by decide +kernel) (Or.inr ⟨fun q => b_3 q, rfl⟩)
abbrev rmX7_isStep : Room := { frames := 1, cells := 0, slots := 0, locals := 22 }
set_option maxHeartbeats 4000000 in
set_option maxRecDepth 100000 in
theorem c_X7_isStep (l : Launch) (D : va_G) (cI cC cQ : ClassId) (a : Int32) : Met l yX7_isStep wsX7_isStep rmX7_isStep (PR D cI cC cQ [.int a] []) (vp_Si (fun z => BB (nI 0 ≤ a ∧ a ≤ nI 8) z)) 0 0 (fun _ => False) := by
  refine metR (cc := cX7_isStep) (maxL := 1) (ret := (some .boolean)) (by decide) rfl (Nat.le_of_ble_eq_true rfl) ?_
  intro pg ev s mi args below meth cd ls Q hQ hx hb hml hr hts hown hlk hK hP hl
  have hKa := hK.1
  have hl : lv_has ls 1 [(0, .int a)] := hl
  refine lv_iload_n hx hb dX7_isStep_0 rfl (lv_at hl 0 rfl) ?_
  refine lv_iconst (v := nI 0) hx hb dX7_isStep_1 (by decide) ?_
  refine lv_bipush (v := nI 8) hx hb dX7_isStep_2 (by decide) ?_
  have hPc := hP.sub (ws' := []) [] rfl
  refine clR (va_runS (As := [.int a, .int (nI 0), .int (nI 8)]) (rest := []) ⟨hx, hb, hml, hown, hts⟩ (c_X7_isWithin l D cI cC cQ a (nI 0) (nI 8) ) (va_cwS (rm := rmX7_isWithin) 3 hts gX7_isStep_X7_isWithin rfl rfl rfl (by decide +kernel) ⟨Nat.le_of_ble_eq_true rfl, Nat.le_of_ble_eq_true rfl⟩) ⟨PR.blind, PR.go hPc hK⟩ rfl rfl hl.1 rfl (lv_room (Nat.le_of_ble_eq_true rfl)) dX7_isStep_4 ⟨Nat.le_of_ble_eq_true rfl, Nat.le_of_ble_eq_true rfl⟩) (fun r_4 h_4 => ?_)
  rcases h_4 with ⟨b_4, rfl⟩ | ⟨b_4, rfl⟩
  · exact rtR_z hQ hx hb hr hlk dX7_isStep_7 (by decide +kernel) (Or.inl ⟨b_4, rfl⟩)
  · exact rtR_z hQ hx hb hr hlk dX7_isStep_7 (by decide +kernel) (Or.inr ⟨fun q => b_4 q, rfl⟩)
abbrev rmX7_isPart : Room := { frames := 1, cells := 0, slots := 0, locals := 22 }
set_option maxHeartbeats 4000000 in
set_option maxRecDepth 100000 in
theorem c_X7_isPart (l : Launch) (D : va_G) (cI cC cQ : ClassId) (a : Int32) : Met l yX7_isPart wsX7_isPart rmX7_isPart (PR D cI cC cQ [.int a] []) (vp_Si (fun z => BB (nI 0 ≤ a ∧ a ≤ nI 2) z)) 0 0 (fun _ => False) := by
  refine metR (cc := cX7_isPart) (maxL := 1) (ret := (some .boolean)) (by decide) rfl (Nat.le_of_ble_eq_true rfl) ?_
  intro pg ev s mi args below meth cd ls Q hQ hx hb hml hr hts hown hlk hK hP hl
  have hKa := hK.1
  have hl : lv_has ls 1 [(0, .int a)] := hl
  refine lv_iload_n hx hb dX7_isPart_0 rfl (lv_at hl 0 rfl) ?_
  refine lv_iconst (v := nI 0) hx hb dX7_isPart_1 (by decide) ?_
  refine lv_iconst (v := nI 2) hx hb dX7_isPart_2 (by decide) ?_
  have hPc := hP.sub (ws' := []) [] rfl
  refine clR (va_runS (As := [.int a, .int (nI 0), .int (nI 2)]) (rest := []) ⟨hx, hb, hml, hown, hts⟩ (c_X7_isWithin l D cI cC cQ a (nI 0) (nI 2) ) (va_cwS (rm := rmX7_isWithin) 3 hts gX7_isPart_X7_isWithin rfl rfl rfl (by decide +kernel) ⟨Nat.le_of_ble_eq_true rfl, Nat.le_of_ble_eq_true rfl⟩) ⟨PR.blind, PR.go hPc hK⟩ rfl rfl hl.1 rfl (lv_room (Nat.le_of_ble_eq_true rfl)) dX7_isPart_3 ⟨Nat.le_of_ble_eq_true rfl, Nat.le_of_ble_eq_true rfl⟩) (fun r_3 h_3 => ?_)
  rcases h_3 with ⟨b_3, rfl⟩ | ⟨b_3, rfl⟩
  · exact rtR_z hQ hx hb hr hlk dX7_isPart_6 (by decide +kernel) (Or.inl ⟨b_3, rfl⟩)
  · exact rtR_z hQ hx hb hr hlk dX7_isPart_6 (by decide +kernel) (Or.inr ⟨fun q => b_3 q, rfl⟩)
abbrev rmX7_isPartValue : Room := { frames := 1, cells := 0, slots := 0, locals := 22 }
set_option maxHeartbeats 4000000 in
set_option maxRecDepth 100000 in
theorem c_X7_isPartValue (l : Launch) (D : va_G) (cI cC cQ : ClassId) (a : Int32) : Met l yX7_isPartValue wsX7_isPartValue rmX7_isPartValue (PR D cI cC cQ [.int a] []) (vp_Si (fun z => BB (nI 0 ≤ a ∧ a ≤ nI 255) z)) 0 0 (fun _ => False) := by
  refine metR (cc := cX7_isPartValue) (maxL := 1) (ret := (some .boolean)) (by decide) rfl (Nat.le_of_ble_eq_true rfl) ?_
  intro pg ev s mi args below meth cd ls Q hQ hx hb hml hr hts hown hlk hK hP hl
  have hKa := hK.1
  have hl : lv_has ls 1 [(0, .int a)] := hl
  refine lv_iload_n hx hb dX7_isPartValue_0 rfl (lv_at hl 0 rfl) ?_
  refine lv_iconst (v := nI 0) hx hb dX7_isPartValue_1 (by decide) ?_
  refine lv_sipush (v := nI 255) hx hb dX7_isPartValue_2 (by decide) ?_
  have hPc := hP.sub (ws' := []) [] rfl
  refine clR (va_runS (As := [.int a, .int (nI 0), .int (nI 255)]) (rest := []) ⟨hx, hb, hml, hown, hts⟩ (c_X7_isWithin l D cI cC cQ a (nI 0) (nI 255) ) (va_cwS (rm := rmX7_isWithin) 3 hts gX7_isPartValue_X7_isWithin rfl rfl rfl (by decide +kernel) ⟨Nat.le_of_ble_eq_true rfl, Nat.le_of_ble_eq_true rfl⟩) ⟨PR.blind, PR.go hPc hK⟩ rfl rfl hl.1 rfl (lv_room (Nat.le_of_ble_eq_true rfl)) dX7_isPartValue_5 ⟨Nat.le_of_ble_eq_true rfl, Nat.le_of_ble_eq_true rfl⟩) (fun r_5 h_5 => ?_)
  rcases h_5 with ⟨b_5, rfl⟩ | ⟨b_5, rfl⟩
  · exact rtR_z hQ hx hb hr hlk dX7_isPartValue_8 (by decide +kernel) (Or.inl ⟨b_5, rfl⟩)
  · exact rtR_z hQ hx hb hr hlk dX7_isPartValue_8 (by decide +kernel) (Or.inr ⟨fun q => b_5 q, rfl⟩)
abbrev rmX7_cornerAt : Room := { frames := 0, cells := 0, slots := 0, locals := 0 }
set_option maxHeartbeats 4000000 in
set_option maxRecDepth 100000 in
theorem c_X7_cornerAt (l : Launch) (D : va_G) (cI cC cQ : ClassId) (c r : Nat) : Met l yX7_cornerAt wsX7_cornerAt rmX7_cornerAt (PR D cI cC cQ [.int (nI c), .int (nI r)] []) (vp_Si (fun z => z = nI (r * 5 + c))) 0 0 (fun _ => False) := by
  refine metR (cc := cX7_cornerAt) (maxL := 2) (ret := (some .int)) (by decide) rfl (Nat.le_of_ble_eq_true rfl) ?_
  intro pg ev s mi args below meth cd ls Q hQ hx hb hml hr hts hown hlk hK hP hl
  have hKa := hK.1
  have hl : lv_has ls 2 [(0, .int (nI c)), (1, .int (nI r))] := hl
  refine lv_iload_n hx hb dX7_cornerAt_0 rfl (lv_at hl 1 rfl) ?_
  refine lv_iconst (v := nI 5) hx hb dX7_cornerAt_1 (by decide) ?_
  refine gn_mul hx hb dX7_cornerAt_2 ?_
  refine lv_iload_n hx hb dX7_cornerAt_3 rfl (lv_at hl 0 rfl) ?_
  refine gn_add hx hb dX7_cornerAt_4 ?_
  exact rtR_i hQ hx hb hr hlk dX7_cornerAt_5 (rfl)
abbrev rmX7_cornerOfPatch : Room := { frames := 1, cells := 0, slots := 0, locals := 21 }
set_option maxHeartbeats 4000000 in
set_option maxRecDepth 100000 in
theorem c_X7_cornerOfPatch (l : Launch) (D : va_G) (cI cC cQ : ClassId) (p k : Nat) (hp : p < 12) (hk : k < 4) : Met l yX7_cornerOfPatch wsX7_cornerOfPatch rmX7_cornerOfPatch (PR D cI cC cQ [.int (nI p), .int (nI k)] []) (vp_Si (fun z => z = nI (cp p k))) 0 0 (fun _ => False) := by
  refine metR (cc := cX7_cornerOfPatch) (maxL := 4) (ret := (some .int)) (by decide) rfl (Nat.le_of_ble_eq_true rfl) ?_
  intro pg ev s mi args below meth cd ls Q hQ hx hb hml hr hts hown hlk hK hP hl
  have hKa := hK.1
  have hl : lv_has ls 4 [(0, .int (nI p)), (1, .int (nI k))] := hl
  refine lv_iload_n hx hb dX7_cornerOfPatch_0 rfl (lv_at hl 0 rfl) ?_
  refine lv_iconst (v := nI 4) hx hb dX7_cornerOfPatch_1 (by decide) ?_
  refine gn_rem hx hb (by omega) (by omega) (by omega) dX7_cornerOfPatch_2 ?_
  refine lv_iload_n hx hb dX7_cornerOfPatch_3 rfl (lv_at hl 1 rfl) ?_
  refine lv_iconst (v := nI 2) hx hb dX7_cornerOfPatch_4 (by decide) ?_
  refine gn_rem hx hb (by omega) (by omega) (by omega) dX7_cornerOfPatch_5 ?_
  refine gn_add hx hb dX7_cornerOfPatch_6 ?_
  refine lv_istore_n (lv' := [(2, .int (nI ((p % 4) + (k % 2)))), (0, .int (nI p)), (1, .int (nI k))]) hx hb dX7_cornerOfPatch_7 rfl hl (by decide) rfl (fun ls hl => ?_)
  refine lv_iload_n hx hb dX7_cornerOfPatch_8 rfl (lv_at hl 1 rfl) ?_
  refine lv_iconst (v := nI 4) hx hb dX7_cornerOfPatch_9 (by decide) ?_
  refine gn_div hx hb (by omega) (by omega) (by omega) dX7_cornerOfPatch_10 ?_
  refine lv_iload_n hx hb dX7_cornerOfPatch_11 rfl (lv_at hl 2 rfl) ?_
  refine lv_iconst (v := nI 2) hx hb dX7_cornerOfPatch_12 (by decide) ?_
  refine gn_div hx hb (by omega) (by omega) (by omega) dX7_cornerOfPatch_13 ?_
  refine gn_add hx hb dX7_cornerOfPatch_14 ?_
  refine lv_istore_n (lv' := [(3, .int (nI ((p / 4) + (k / 2)))), (2, .int (nI ((p % 4) + (k % 2)))), (0, .int (nI p)), (1, .int (nI k))]) hx hb dX7_cornerOfPatch_15 rfl hl (by decide) rfl (fun ls hl => ?_)
  refine lv_iload_n hx hb dX7_cornerOfPatch_16 rfl (lv_at hl 1 rfl) ?_
  refine lv_iload_n hx hb dX7_cornerOfPatch_17 rfl (lv_at hl 0 rfl) ?_
  have hPc := hP.sub (ws' := []) [] rfl
  refine clRe (E := nI (((p / 4) + (k / 2)) * 5 + ((p % 4) + (k % 2)))) (va_runS (As := [.int (nI ((p % 4) + (k % 2))), .int (nI ((p / 4) + (k / 2)))]) (rest := []) ⟨hx, hb, hml, hown, hts⟩ (c_X7_cornerAt l D cI cC cQ ((p % 4) + (k % 2)) ((p / 4) + (k / 2)) ) (va_cwS (rm := rmX7_cornerAt) 2 hts gX7_cornerOfPatch_X7_cornerAt rfl rfl rfl (by decide +kernel) ⟨Nat.le_of_ble_eq_true rfl, Nat.le_of_ble_eq_true rfl⟩) ⟨PR.blind, PR.go hPc hK⟩ rfl rfl hl.1 rfl (lv_room (Nat.le_of_ble_eq_true rfl)) dX7_cornerOfPatch_18 ⟨Nat.le_of_ble_eq_true rfl, Nat.le_of_ble_eq_true rfl⟩) ?_
  exact rtR_i hQ hx hb hr hlk dX7_cornerOfPatch_21 (rfl)
abbrev rmX7_cornerAround : Room := { frames := 2, cells := 0, slots := 0, locals := 44 }
set_option maxHeartbeats 4000000 in
set_option maxRecDepth 100000 in
theorem c_X7_cornerAround (l : Launch) (D : va_G) (cI cC cQ : ClassId) (p t : Nat) (hp : p < 12) (ht : t < 6) : Met l yX7_cornerAround wsX7_cornerAround rmX7_cornerAround (PR D cI cC cQ [.int (nI p), .int (nI t)] []) (vp_Si (fun z => z = nI (ca p t))) 0 0 (fun _ => False) := by
  refine metR (cc := cX7_cornerAround) (maxL := 3) (ret := (some .int)) (by decide) rfl (Nat.le_of_ble_eq_true rfl) ?_
  intro pg ev s mi args below meth cd ls Q hQ hx hb hml hr hts hown hlk hK hP hl
  have hKa := hK.1
  have hl : lv_has ls 3 [(0, .int (nI p)), (1, .int (nI t))] := hl
  refine lv_iload_n hx hb dX7_cornerAround_0 rfl (lv_at hl 1 rfl) ?_
  refine lv_iconst (v := nI 4) hx hb dX7_cornerAround_1 (by decide) ?_
  refine gn_rem hx hb (by omega) (by omega) (by omega) dX7_cornerAround_2 ?_
  refine lv_istore_n (lv' := [(2, .int (nI (t % 4))), (0, .int (nI p)), (1, .int (nI t))]) hx hb dX7_cornerAround_3 rfl hl (by decide) rfl (fun ls hl => ?_)
  refine lv_iload_n hx hb dX7_cornerAround_4 rfl (lv_at hl 0 rfl) ?_
  refine lv_iconst (v := nI 2) hx hb dX7_cornerAround_5 (by decide) ?_
  refine gn_icmp_ne hx hb (by omega) (by decide) (tgt := 15) dX7_cornerAround_6 (by decide) (fun c_6 => ?_) (fun c_6 => ?_)
  · refine lv_iload_n hx hb dX7_cornerAround_15 rfl (lv_at hl 1 rfl) ?_
    refine lv_iload_n hx hb dX7_cornerAround_16 rfl (lv_at hl 0 rfl) ?_
    refine lv_iconst (v := nI 3) hx hb dX7_cornerAround_17 (by decide) ?_
    refine gn_icmp_ne hx hb (by omega) (by decide) (tgt := 25) dX7_cornerAround_18 (by decide) (fun c_18 => ?_) (fun c_18 => ?_)
    · refine lv_iload_n hx hb dX7_cornerAround_25 rfl (lv_at hl 0 rfl) ?_
      have hPc := hP.sub (ws' := []) [] rfl
      refine clRe (E := nI (cp p (t % 4))) (va_runS (As := [.int (nI p), .int (nI (t % 4))]) (rest := []) ⟨hx, hb, hml, hown, hts⟩ (c_X7_cornerOfPatch l D cI cC cQ p (t % 4) (by first | assumption | omega) (by first | assumption | omega)) (va_cwS (rm := rmX7_cornerOfPatch) 2 hts gX7_cornerAround_X7_cornerOfPatch rfl rfl rfl (by decide +kernel) ⟨Nat.le_of_ble_eq_true rfl, Nat.le_of_ble_eq_true rfl⟩) ⟨PR.blind, PR.go hPc hK⟩ rfl rfl hl.1 rfl (lv_room (Nat.le_of_ble_eq_true rfl)) dX7_cornerAround_26 ⟨Nat.le_of_ble_eq_true rfl, Nat.le_of_ble_eq_true rfl⟩) ?_
      have hbd_26 : cp p (t % 4) < 20 := cp_lt (by omega) (by omega)
      exact rtR_i hQ hx hb hr hlk dX7_cornerAround_29 (by simp [ca, c_6, c_18])
    · refine lv_iconst (v := nI 2) hx hb dX7_cornerAround_21 (by decide) ?_
      refine lv_goto (tgt := 26) hx hb dX7_cornerAround_22 (by decide) ?_
      have hPc := hP.sub (ws' := []) [] rfl
      refine clRe (E := nI (cp p 2)) (va_runS (As := [.int (nI p), .int (nI 2)]) (rest := []) ⟨hx, hb, hml, hown, hts⟩ (c_X7_cornerOfPatch l D cI cC cQ p 2 (by first | assumption | omega) (by first | assumption | omega)) (va_cwS (rm := rmX7_cornerOfPatch) 2 hts gX7_cornerAround_X7_cornerOfPatch rfl rfl rfl (by decide +kernel) ⟨Nat.le_of_ble_eq_true rfl, Nat.le_of_ble_eq_true rfl⟩) ⟨PR.blind, PR.go hPc hK⟩ rfl rfl hl.1 rfl (lv_room (Nat.le_of_ble_eq_true rfl)) dX7_cornerAround_26 ⟨Nat.le_of_ble_eq_true rfl, Nat.le_of_ble_eq_true rfl⟩) ?_
      have hbd_26 : cp p 2 < 20 := cp_lt (by omega) (by omega)
      exact rtR_i hQ hx hb hr hlk dX7_cornerAround_29 (by simp [ca, c_6, c_18])
  · refine lv_iload_n hx hb dX7_cornerAround_9 rfl (lv_at hl 1 rfl) ?_
    refine lv_iconst (v := nI 3) hx hb dX7_cornerAround_10 (by decide) ?_
    have hPc := hP.sub (ws' := []) [] rfl
    refine clRe (E := nI (cp p 3)) (va_runS (As := [.int (nI p), .int (nI 3)]) (rest := []) ⟨hx, hb, hml, hown, hts⟩ (c_X7_cornerOfPatch l D cI cC cQ p 3 (by first | assumption | omega) (by first | assumption | omega)) (va_cwS (rm := rmX7_cornerOfPatch) 2 hts gX7_cornerAround_X7_cornerOfPatch rfl rfl rfl (by decide +kernel) ⟨Nat.le_of_ble_eq_true rfl, Nat.le_of_ble_eq_true rfl⟩) ⟨PR.blind, PR.go hPc hK⟩ rfl rfl hl.1 rfl (lv_room (Nat.le_of_ble_eq_true rfl)) dX7_cornerAround_11 ⟨Nat.le_of_ble_eq_true rfl, Nat.le_of_ble_eq_true rfl⟩) ?_
    have hbd_11 : cp p 3 < 20 := cp_lt (by omega) (by omega)
    exact rtR_i hQ hx hb hr hlk dX7_cornerAround_14 (by simp [ca, c_6])
abbrev rmX7_slopeIndex : Room := { frames := 0, cells := 0, slots := 0, locals := 0 }
set_option maxHeartbeats 4000000 in
set_option maxRecDepth 100000 in
theorem c_X7_slopeIndex (l : Launch) (D : va_G) (cI cC cQ : ClassId) (k a i : Nat) : Met l yX7_slopeIndex wsX7_slopeIndex rmX7_slopeIndex (PR D cI cC cQ [.int (nI k), .int (nI a), .int (nI i)] []) (vp_Si (fun z => z = nI (k * 6 + a * 3 + i))) 0 0 (fun _ => False) := by
  refine metR (cc := cX7_slopeIndex) (maxL := 3) (ret := (some .int)) (by decide) rfl (Nat.le_of_ble_eq_true rfl) ?_
  intro pg ev s mi args below meth cd ls Q hQ hx hb hml hr hts hown hlk hK hP hl
  have hKa := hK.1
  have hl : lv_has ls 3 [(0, .int (nI k)), (1, .int (nI a)), (2, .int (nI i))] := hl
  refine lv_iload_n hx hb dX7_slopeIndex_0 rfl (lv_at hl 0 rfl) ?_
  refine lv_bipush (v := nI 6) hx hb dX7_slopeIndex_1 (by decide) ?_
  refine gn_mul hx hb dX7_slopeIndex_3 ?_
  refine lv_iload_n hx hb dX7_slopeIndex_4 rfl (lv_at hl 1 rfl) ?_
  refine lv_iconst (v := nI 3) hx hb dX7_slopeIndex_5 (by decide) ?_
  refine gn_mul hx hb dX7_slopeIndex_6 ?_
  refine gn_add hx hb dX7_slopeIndex_7 ?_
  refine lv_iload_n hx hb dX7_slopeIndex_8 rfl (lv_at hl 2 rfl) ?_
  refine gn_add hx hb dX7_slopeIndex_9 ?_
  exact rtR_i hQ hx hb hr hlk dX7_slopeIndex_10 (rfl)
abbrev rmX7_hasPatchBeside : Room := { frames := 0, cells := 0, slots := 0, locals := 0 }
set_option maxHeartbeats 4000000 in
set_option maxRecDepth 100000 in
theorem c_X7_hasPatchBeside (l : Launch) (D : va_G) (cI cC cQ : ClassId) (p t : Nat) (hp : p < 12) (ht : t < 2) : Met l yX7_hasPatchBeside wsX7_hasPatchBeside rmX7_hasPatchBeside (PR D cI cC cQ [.int (nI p), .int (nI t)] []) (vp_Si (fun z => BB (hbs p t) z)) 0 0 (fun _ => False) := by
  refine metR (cc := cX7_hasPatchBeside) (maxL := 2) (ret := (some .boolean)) (by decide) rfl (Nat.le_of_ble_eq_true rfl) ?_
  intro pg ev s mi args below meth cd ls Q hQ hx hb hml hr hts hown hlk hK hP hl
  have hKa := hK.1
  have hl : lv_has ls 2 [(0, .int (nI p)), (1, .int (nI t))] := hl
  refine lv_iload_n hx hb dX7_hasPatchBeside_0 rfl (lv_at hl 1 rfl) ?_
  refine gn_if_ne hx hb (by omega) (tgt := 19) dX7_hasPatchBeside_1 (by decide) (fun c_1 => ?_) (fun c_1 => ?_)
  · refine lv_iload_n hx hb dX7_hasPatchBeside_19 rfl (lv_at hl 0 rfl) ?_
    refine lv_iconst (v := nI 4) hx hb dX7_hasPatchBeside_20 (by decide) ?_
    refine gn_div hx hb (by omega) (by omega) (by omega) dX7_hasPatchBeside_21 ?_
    refine lv_iconst (v := nI 2) hx hb dX7_hasPatchBeside_22 (by decide) ?_
    refine gn_icmp_ge hx hb (by omega) (by decide) (tgt := 30) dX7_hasPatchBeside_23 (by decide) (fun c_23 => ?_) (fun c_23 => ?_)
    · refine lv_iconst (v := nI 0) hx hb dX7_hasPatchBeside_30 (by decide) ?_
      exact rtR_z hQ hx hb hr hlk dX7_hasPatchBeside_31 (by decide +kernel) (Or.inr ⟨by simp only [hbs, if_neg c_1]; omega, rfl⟩)
    · refine lv_iconst (v := nI 1) hx hb dX7_hasPatchBeside_26 (by decide) ?_
      refine lv_goto (tgt := 31) hx hb dX7_hasPatchBeside_27 (by decide) ?_
      exact rtR_z hQ hx hb hr hlk dX7_hasPatchBeside_31 (by decide +kernel) (Or.inl ⟨by simp only [hbs, if_neg c_1]; omega, rfl⟩)
  · refine lv_iload_n hx hb dX7_hasPatchBeside_4 rfl (lv_at hl 0 rfl) ?_
    refine lv_iconst (v := nI 4) hx hb dX7_hasPatchBeside_5 (by decide) ?_
    refine gn_rem hx hb (by omega) (by omega) (by omega) dX7_hasPatchBeside_6 ?_
    refine lv_iconst (v := nI 3) hx hb dX7_hasPatchBeside_7 (by decide) ?_
    refine gn_icmp_ge hx hb (by omega) (by decide) (tgt := 15) dX7_hasPatchBeside_8 (by decide) (fun c_8 => ?_) (fun c_8 => ?_)
    · refine lv_iconst (v := nI 0) hx hb dX7_hasPatchBeside_15 (by decide) ?_
      refine lv_goto (tgt := 31) hx hb dX7_hasPatchBeside_16 (by decide) ?_
      exact rtR_z hQ hx hb hr hlk dX7_hasPatchBeside_31 (by decide +kernel) (Or.inr ⟨by simp only [hbs, if_pos c_1]; omega, rfl⟩)
    · refine lv_iconst (v := nI 1) hx hb dX7_hasPatchBeside_11 (by decide) ?_
      refine lv_goto (tgt := 31) hx hb dX7_hasPatchBeside_12 (by decide) ?_
      exact rtR_z hQ hx hb hr hlk dX7_hasPatchBeside_31 (by decide +kernel) (Or.inl ⟨by simp only [hbs, if_pos c_1]; omega, rfl⟩)
