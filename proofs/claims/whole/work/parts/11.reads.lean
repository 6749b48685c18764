abbrev rmX3_partOf : Room := { frames := 0, cells := 0, slots := 0, locals := 0 }
set_option maxRecDepth 20000 in
theorem iw_X3_partOf_X3 : ∀ w ∈ u_ws RX3 TX3 5, w ∈ wsX3_partOf := by decide +kernel
set_option maxHeartbeats 4000000 in
set_option maxRecDepth 100000 in
theorem c_X3_partOf (l : Launch) (D : va_G) (cI cC cQ : ClassId) (a a1 a2 a3 a4 a5 : Nat) (G : Nat → Nat → Int32) (k i : Nat) (hk : k < 20) (hi : i < 3) : Met l yX3_partOf wsX3_partOf rmX3_partOf (PR D cI cC cQ [.ref a, .int (nI k), .int (nI i)] [(a, .inr (3, [.ref a1, .ref a2, .ref a3, .ref a4, .ref a5])), (a1, .inl (cI, 20, .inl (XA G))), (a2, .inl (cI, 20, .inl (YA G))), (a3, .inl (cI, 60, .inl (PA G))), (a4, .inl (cI, 20, .inl (HA G))), (a5, .inl (cI, 120, .inl (SA G)))]) (vp_Si (fun z => z = G k (2 + i))) 0 0 (fun _ => False) := by
  refine metR (cc := cX3_partOf) (maxL := 3) (ret := (some .int)) (by decide) rfl (Nat.le_of_ble_eq_true rfl) ?_
  intro pg ev s mi args below meth cd ls Q hQ hx hb hml hr hts hown hlk hK hP hl
  have hKa := hK.1
  have hl : lv_has ls 3 [(0, .ref a), (1, .int (nI k)), (2, .int (nI i))] := hl
  refine lv_aload_n hx hb dX3_partOf_0 rfl (lv_at hl 0 rfl) ?_
  refine va_get (D := D) (ci := 3) (v := .ref a3) (C := RX3) (T := TX3) (N := 5) hx hb hts iw_X3_partOf_X3 hown hKa hP 0 rfl rfl 2 (by decide) (hts (.fieldLink RX3 18 "ColourPatches$Mesh" "parts" "[I") (by decide +kernel)) (fun _ h9 => h9) rfl dX3_partOf_1 ?_
  refine lv_iload_n hx hb dX3_partOf_4 rfl (lv_at hl 1 rfl) ?_
  refine lv_iconst (v := nI 3) hx hb dX3_partOf_5 (by decide) ?_
  refine gn_mul hx hb dX3_partOf_6 ?_
  refine lv_iload_n hx hb dX3_partOf_7 rfl (lv_at hl 2 rfl) ?_
  refine gn_add hx hb dX3_partOf_8 ?_
  refine gn_iald hx hb hKa hP 3 0 rfl rfl (k := (k * 3) + i) (by omega) (by omega) dX3_partOf_9 ?_
  refine W.eq (g2 := F0 mi 10 ls [.int ((PA G) ((k * 3) + i))]) rfl ?_
  exact rtR_i hQ hx hb hr hlk dX3_partOf_10 (PA_eq G k i hi)
abbrev rmJ9_floorDiv_7cf53 : Room := { frames := 0, cells := 0, slots := 0, locals := 0 }
set_option maxHeartbeats 4000000 in
set_option maxRecDepth 100000 in
theorem c_J9_floorDiv_7cf53 (l : Launch) (D : va_G) (cI cC cQ : ClassId) (x y : Int32) (hy : ¬ y = 0) : Met l yJ9_floorDiv_7cf53 wsJ9_floorDiv_7cf53 rmJ9_floorDiv_7cf53 (PR D cI cC cQ [.int x, .int y] []) (vp_Si (fun z => z = fdv x y)) 0 0 (fun _ => False) := by
  refine metRF (cc := cJ9_floorDiv_7cf53) (maxL := 3) (ret := (some .int)) (by decide +kernel) rfl (Nat.le_of_ble_eq_true rfl) ?_
  intro pg ev s mi args below meth cd ls Q hQ hx hb hml hr hts hown hlk hK hP hl
  have hKa := hK.1
  have hl : lv_has ls 3 [(0, .int x), (1, .int y)] := hl
  refine lv_iload_n hx hb dJ9_floorDiv_7cf53_0 rfl (lv_at hl 0 rfl) ?_
  refine lv_iload_n hx hb dJ9_floorDiv_7cf53_1 rfl (lv_at hl 1 rfl) ?_
  refine lv_idiv hx hb dJ9_floorDiv_7cf53_2 (hy) ?_
  refine lv_istore_n (lv' := [(2, .int (x / y)), (0, .int x), (1, .int y)]) hx hb dJ9_floorDiv_7cf53_3 rfl hl (by decide) rfl (fun ls hl => ?_)
  refine lv_iload_n hx hb dJ9_floorDiv_7cf53_4 rfl (lv_at hl 1 rfl) ?_
  refine lv_iload_n hx hb dJ9_floorDiv_7cf53_5 rfl (lv_at hl 2 rfl) ?_
  refine lv_ixor hx hb dJ9_floorDiv_7cf53_6 ?_
  refine lv_if_ge hx hb (tgt := 21) dJ9_floorDiv_7cf53_7 (by decide) (fun c_7 => ?_) (fun c_7 => ?_)
  · refine lv_iload_n hx hb dJ9_floorDiv_7cf53_21 rfl (lv_at hl 0 rfl) ?_
    exact rtR_i hQ hx hb hr hlk dJ9_floorDiv_7cf53_22 (by unfold fdv; rw [if_pos c_7])
  · refine lv_iload_n hx hb dJ9_floorDiv_7cf53_10 rfl (lv_at hl 0 rfl) ?_
    refine lv_iload_n hx hb dJ9_floorDiv_7cf53_11 rfl (lv_at hl 2 rfl) ?_
    refine lv_imul hx hb dJ9_floorDiv_7cf53_12 ?_
    refine lv_iload_n hx hb dJ9_floorDiv_7cf53_13 rfl (lv_at hl 1 rfl) ?_
    refine lv_icmp_eq hx hb (tgt := 21) dJ9_floorDiv_7cf53_14 (by decide) (fun c_14 => ?_) (fun c_14 => ?_)
    · refine lv_iload_n hx hb dJ9_floorDiv_7cf53_21 rfl (lv_at hl 0 rfl) ?_
      exact rtR_i hQ hx hb hr hlk dJ9_floorDiv_7cf53_22 (by unfold fdv; rw [if_neg c_7, if_pos c_14])
    · refine lv_iload_n hx hb dJ9_floorDiv_7cf53_17 rfl (lv_at hl 0 rfl) ?_
      refine lv_iconst (v := nI 1) hx hb dJ9_floorDiv_7cf53_18 (by decide) ?_
      refine lv_isub hx hb dJ9_floorDiv_7cf53_19 ?_
      exact rtR_i hQ hx hb hr hlk dJ9_floorDiv_7cf53_20 (by unfold fdv; rw [if_neg c_7, if_neg c_14])
abbrev rmX3_slopeFromBeside0 : Room := { frames := 1, cells := 0, slots := 0, locals := 22 }
set_option maxHeartbeats 4000000 in
set_option maxRecDepth 100000 in
theorem c_X3_slopeFromBeside0 (l : Launch) (D : va_G) (cI cC cQ : ClassId) (a a1 a2 a3 a4 a5 : Nat) (G : Nat → Nat → Int32) (k i : Nat) (hk : k < 20) (hi : i < 3) : Met l yX3_slopeFromBeside wsX3_slopeFromBeside rmX3_slopeFromBeside0 (PR D cI cC cQ [.ref a, .int (nI k), .int (nI 0), .int (nI i)] [(a, .inr (3, [.ref a1, .ref a2, .ref a3, .ref a4, .ref a5])), (a1, .inl (cI, 20, .inl (XA G))), (a2, .inl (cI, 20, .inl (YA G))), (a3, .inl (cI, 60, .inl (PA G))), (a4, .inl (cI, 20, .inl (HA G))), (a5, .inl (cI, 120, .inl (SA G)))]) (vp_Si (fun z => z = sbk G k 0 i)) 0 0 (fun _ => False) := by
  refine metR (cc := cX3_slopeFromBeside) (maxL := 7) (ret := (some .int)) (by decide) rfl (Nat.le_of_ble_eq_true rfl) ?_
  intro pg ev s mi args below meth cd ls Q hQ hx hb hml hr hts hown hlk hK hP hl
  have hKa := hK.1
  have hl : lv_has ls 7 [(0, .ref a), (1, .int (nI k)), (2, .int (nI 0)), (3, .int (nI i))] := hl
  refine lv_iload_n hx hb dX3_slopeFromBeside_0 rfl (lv_at hl 2 rfl) ?_
  refine gn_if_ne hx hb (by decide) (tgt := 10) dX3_slopeFromBeside_1 (by decide) (fun cq => absurd cq (by decide)) (fun cq => ?_)
  refine lv_iload_n hx hb dX3_slopeFromBeside_4 rfl (lv_at hl 1 rfl) ?_
  refine lv_iconst (v := nI 5) hx hb dX3_slopeFromBeside_5 (by decide) ?_
  refine gn_rem hx hb (by omega) (by omega) (by omega) dX3_slopeFromBeside_6 ?_
  refine lv_goto (tgt := 13) hx hb dX3_slopeFromBeside_7 (by decide) ?_
  refine lv_istore (lv' := [(4, .int (nI (k % 5))), (0, .ref a), (1, .int (nI k)), (2, .int (nI 0)), (3, .int (nI i))]) hx hb dX3_slopeFromBeside_13 hl (by decide) rfl (fun ls hl => ?_)
  refine lv_iload_n hx hb dX3_slopeFromBeside_15 rfl (lv_at hl 3 rfl) ?_
  refine gn_if_ne hx hb (by decide) (tgt := 23) dX3_slopeFromBeside_16 (by decide) (fun cq => absurd cq (by decide)) (fun cq => ?_)
  refine lv_iconst (v := nI 4) hx hb dX3_slopeFromBeside_19 (by decide) ?_
  refine lv_goto (tgt := 24) hx hb dX3_slopeFromBeside_20 (by decide) ?_
  refine lv_istore (lv' := [(5, .int (nI 4)), (4, .int (nI (k % 5))), (0, .ref a), (1, .int (nI k)), (2, .int (nI 0)), (3, .int (nI i))]) hx hb dX3_slopeFromBeside_24 hl (by decide) rfl (fun ls hl => ?_)
  refine lv_iload_n hx hb dX3_slopeFromBeside_26 rfl (lv_at hl 4 rfl) ?_
  refine gn_if_ne hx hb (by decide) (tgt := 34) dX3_slopeFromBeside_27 (by decide) (fun cq => absurd cq (by decide)) (fun cq => ?_)
  refine lv_iconst (v := nI 1) hx hb dX3_slopeFromBeside_30 (by decide) ?_
  refine lv_goto (tgt := 35) hx hb dX3_slopeFromBeside_31 (by decide) ?_
  refine lv_istore (lv' := [(6, .int (nI 1)), (5, .int (nI 4)), (4, .int (nI (k % 5))), (0, .ref a), (1, .int (nI k)), (2, .int (nI 0)), (3, .int (nI i))]) hx hb dX3_slopeFromBeside_35 hl (by decide) rfl (fun ls hl => ?_)
  refine lv_iload hx hb dX3_slopeFromBeside_37 (lv_at hl 2 rfl) ?_
  refine gn_if_ne hx hb (by omega) (tgt := 59) dX3_slopeFromBeside_39 (by decide) (fun c_39 => ?_) (fun c_39 => ?_)
  · refine lv_iload hx hb dX3_slopeFromBeside_59 (lv_at hl 2 rfl) ?_
    refine lv_iload hx hb dX3_slopeFromBeside_61 (lv_at hl 1 rfl) ?_
    refine gn_icmp_ne hx hb (by omega) (by decide) (tgt := 83) dX3_slopeFromBeside_63 (by decide) (fun c_63 => ?_) (fun c_63 => ?_)
    · refine lv_aload_n hx hb dX3_slopeFromBeside_83 rfl (lv_at hl 3 rfl) ?_
      refine lv_iload_n hx hb dX3_slopeFromBeside_84 rfl (lv_at hl 4 rfl) ?_
      refine lv_iload hx hb dX3_slopeFromBeside_85 (lv_at hl 0 rfl) ?_
      refine gn_add hx hb dX3_slopeFromBeside_87 ?_
      refine lv_iload_n hx hb dX3_slopeFromBeside_88 rfl (lv_at hl 6 rfl) ?_
      have hPc := hP.sub (ws' := [(a, .inr (3, [.ref a1, .ref a2, .ref a3, .ref a4, .ref a5])), (a1, .inl (cI, 20, .inl (XA G))), (a2, .inl (cI, 20, .inl (YA G))), (a3, .inl (cI, 60, .inl (PA G))), (a4, .inl (cI, 20, .inl (HA G))), (a5, .inl (cI, 120, .inl (SA G)))]) [0, 1, 2, 3, 4, 5] rfl
      refine clRe (E := G (k + 1) (2 + i)) (va_runV (As := [.int (nI (k + 1)), .int (nI i)]) (rest := []) ⟨hx, hb, hml, hown, hts⟩ (c_X3_partOf l D cI cC cQ a a1 a2 a3 a4 a5 G (k + 1) i (by first | assumption | omega) (by first | assumption | omega)) (cwV (rm := rmX3_partOf) 2 hts gX3_slopeFromBeside_X3_partOf rfl rfl rfl (by decide +kernel) ⟨Nat.le_of_ble_eq_true rfl, Nat.le_of_ble_eq_true rfl⟩) ⟨PR.blind, va_recv hKa hPc (ci := 3) (q0 := 0) rfl rfl, PR.go hPc hK⟩ rfl rfl hl.1 rfl (lv_room (Nat.le_of_ble_eq_true rfl)) dX3_slopeFromBeside_89 ⟨Nat.le_of_ble_eq_true rfl, Nat.le_of_ble_eq_true rfl⟩) ?_
      refine lv_aload_n hx hb dX3_slopeFromBeside_92 rfl (lv_at hl 3 rfl) ?_
      refine lv_iload_n hx hb dX3_slopeFromBeside_93 rfl (lv_at hl 4 rfl) ?_
      refine lv_iload hx hb dX3_slopeFromBeside_94 (lv_at hl 0 rfl) ?_
      refine gn_sub hx hb (by omega) dX3_slopeFromBeside_96 ?_
      refine lv_iload_n hx hb dX3_slopeFromBeside_97 rfl (lv_at hl 6 rfl) ?_
      have hPc := hP.sub (ws' := [(a, .inr (3, [.ref a1, .ref a2, .ref a3, .ref a4, .ref a5])), (a1, .inl (cI, 20, .inl (XA G))), (a2, .inl (cI, 20, .inl (YA G))), (a3, .inl (cI, 60, .inl (PA G))), (a4, .inl (cI, 20, .inl (HA G))), (a5, .inl (cI, 120, .inl (SA G)))]) [0, 1, 2, 3, 4, 5] rfl
      refine clRe (E := G (k - 1) (2 + i)) (va_runV (As := [.int (nI (k - 1)), .int (nI i)]) (rest := [.int (G (k + 1) (2 + i))]) ⟨hx, hb, hml, hown, hts⟩ (c_X3_partOf l D cI cC cQ a a1 a2 a3 a4 a5 G (k - 1) i (by first | assumption | omega) (by first | assumption | omega)) (cwV (rm := rmX3_partOf) 2 hts gX3_slopeFromBeside_X3_partOf rfl rfl rfl (by decide +kernel) ⟨Nat.le_of_ble_eq_true rfl, Nat.le_of_ble_eq_true rfl⟩) ⟨PR.blind, va_recv hKa hPc (ci := 3) (q0 := 0) rfl rfl, PR.go hPc hK⟩ rfl rfl hl.1 rfl (lv_room (Nat.le_of_ble_eq_true rfl)) dX3_slopeFromBeside_98 ⟨Nat.le_of_ble_eq_true rfl, Nat.le_of_ble_eq_true rfl⟩) ?_
      refine lv_isub hx hb dX3_slopeFromBeside_101 ?_
      refine lv_iconst (v := nI 2) hx hb dX3_slopeFromBeside_102 (by decide) ?_
      have hPc := hP.sub (ws' := []) [] rfl
      refine clRe (E := fdv ((G (k + 1) (2 + i)) - (G (k - 1) (2 + i))) (nI 2)) (va_runS (As := [.int ((G (k + 1) (2 + i)) - (G (k - 1) (2 + i))), .int (nI 2)]) (rest := []) ⟨hx, hb, hml, hown, hts⟩ (c_J9_floorDiv_7cf53 l D cI cC cQ ((G (k + 1) (2 + i)) - (G (k - 1) (2 + i))) (nI 2) (by decide)) (va_cwS (rm := rmJ9_floorDiv_7cf53) 2 hts gX3_slopeFromBeside_J9_floorDiv_7cf53 rfl rfl rfl (by decide +kernel) ⟨Nat.le_of_ble_eq_true rfl, Nat.le_of_ble_eq_true rfl⟩) ⟨PR.blind, PR.go hPc hK⟩ rfl rfl hl.1 rfl (lv_room (Nat.le_of_ble_eq_true rfl)) dX3_slopeFromBeside_103 ⟨Nat.le_of_ble_eq_true rfl, Nat.le_of_ble_eq_true rfl⟩) ?_
      exact rtR_i hQ hx hb hr hlk dX3_slopeFromBeside_106 (by unfold sbk; rw [if_neg (by simp only [atk]; exact c_39), if_neg (by simp only [atk, lastk]; exact c_63)]; rfl)
    · refine lv_aload_n hx hb dX3_slopeFromBeside_66 rfl (lv_at hl 3 rfl) ?_
      refine lv_iload_n hx hb dX3_slopeFromBeside_67 rfl (lv_at hl 4 rfl) ?_
      refine lv_iload_n hx hb dX3_slopeFromBeside_68 rfl (lv_at hl 6 rfl) ?_
      have hPc := hP.sub (ws' := [(a, .inr (3, [.ref a1, .ref a2, .ref a3, .ref a4, .ref a5])), (a1, .inl (cI, 20, .inl (XA G))), (a2, .inl (cI, 20, .inl (YA G))), (a3, .inl (cI, 60, .inl (PA G))), (a4, .inl (cI, 20, .inl (HA G))), (a5, .inl (cI, 120, .inl (SA G)))]) [0, 1, 2, 3, 4, 5] rfl
      refine clRe (E := G k (2 + i)) (va_runV (As := [.int (nI k), .int (nI i)]) (rest := []) ⟨hx, hb, hml, hown, hts⟩ (c_X3_partOf l D cI cC cQ a a1 a2 a3 a4 a5 G k i (by first | assumption | omega) (by first | assumption | omega)) (cwV (rm := rmX3_partOf) 2 hts gX3_slopeFromBeside_X3_partOf rfl rfl rfl (by decide +kernel) ⟨Nat.le_of_ble_eq_true rfl, Nat.le_of_ble_eq_true rfl⟩) ⟨PR.blind, va_recv hKa hPc (ci := 3) (q0 := 0) rfl rfl, PR.go hPc hK⟩ rfl rfl hl.1 rfl (lv_room (Nat.le_of_ble_eq_true rfl)) dX3_slopeFromBeside_69 ⟨Nat.le_of_ble_eq_true rfl, Nat.le_of_ble_eq_true rfl⟩) ?_
      refine lv_aload_n hx hb dX3_slopeFromBeside_72 rfl (lv_at hl 3 rfl) ?_
      refine lv_iload_n hx hb dX3_slopeFromBeside_73 rfl (lv_at hl 4 rfl) ?_
      refine lv_iload hx hb dX3_slopeFromBeside_74 (lv_at hl 0 rfl) ?_
      refine gn_sub hx hb (by omega) dX3_slopeFromBeside_76 ?_
      refine lv_iload_n hx hb dX3_slopeFromBeside_77 rfl (lv_at hl 6 rfl) ?_
      have hPc := hP.sub (ws' := [(a, .inr (3, [.ref a1, .ref a2, .ref a3, .ref a4, .ref a5])), (a1, .inl (cI, 20, .inl (XA G))), (a2, .inl (cI, 20, .inl (YA G))), (a3, .inl (cI, 60, .inl (PA G))), (a4, .inl (cI, 20, .inl (HA G))), (a5, .inl (cI, 120, .inl (SA G)))]) [0, 1, 2, 3, 4, 5] rfl
      refine clRe (E := G (k - 1) (2 + i)) (va_runV (As := [.int (nI (k - 1)), .int (nI i)]) (rest := [.int (G k (2 + i))]) ⟨hx, hb, hml, hown, hts⟩ (c_X3_partOf l D cI cC cQ a a1 a2 a3 a4 a5 G (k - 1) i (by first | assumption | omega) (by first | assumption | omega)) (cwV (rm := rmX3_partOf) 2 hts gX3_slopeFromBeside_X3_partOf rfl rfl rfl (by decide +kernel) ⟨Nat.le_of_ble_eq_true rfl, Nat.le_of_ble_eq_true rfl⟩) ⟨PR.blind, va_recv hKa hPc (ci := 3) (q0 := 0) rfl rfl, PR.go hPc hK⟩ rfl rfl hl.1 rfl (lv_room (Nat.le_of_ble_eq_true rfl)) dX3_slopeFromBeside_78 ⟨Nat.le_of_ble_eq_true rfl, Nat.le_of_ble_eq_true rfl⟩) ?_
      refine lv_isub hx hb dX3_slopeFromBeside_81 ?_
      exact rtR_i hQ hx hb hr hlk dX3_slopeFromBeside_82 (by unfold sbk; rw [if_neg (by simp only [atk]; exact c_39), if_pos (by simp only [atk, lastk]; exact c_63)]; rfl)
  · refine lv_aload_n hx hb dX3_slopeFromBeside_42 rfl (lv_at hl 3 rfl) ?_
    refine lv_iload_n hx hb dX3_slopeFromBeside_43 rfl (lv_at hl 4 rfl) ?_
    refine lv_iload hx hb dX3_slopeFromBeside_44 (lv_at hl 0 rfl) ?_
    refine gn_add hx hb dX3_slopeFromBeside_46 ?_
    refine lv_iload_n hx hb dX3_slopeFromBeside_47 rfl (lv_at hl 6 rfl) ?_
    have hPc := hP.sub (ws' := [(a, .inr (3, [.ref a1, .ref a2, .ref a3, .ref a4, .ref a5])), (a1, .inl (cI, 20, .inl (XA G))), (a2, .inl (cI, 20, .inl (YA G))), (a3, .inl (cI, 60, .inl (PA G))), (a4, .inl (cI, 20, .inl (HA G))), (a5, .inl (cI, 120, .inl (SA G)))]) [0, 1, 2, 3, 4, 5] rfl
    refine clRe (E := G (k + 1) (2 + i)) (va_runV (As := [.int (nI (k + 1)), .int (nI i)]) (rest := []) ⟨hx, hb, hml, hown, hts⟩ (c_X3_partOf l D cI cC cQ a a1 a2 a3 a4 a5 G (k + 1) i (by first | assumption | omega) (by first | assumption | omega)) (cwV (rm := rmX3_partOf) 2 hts gX3_slopeFromBeside_X3_partOf rfl rfl rfl (by decide +kernel) ⟨Nat.le_of_ble_eq_true rfl, Nat.le_of_ble_eq_true rfl⟩) ⟨PR.blind, va_recv hKa hPc (ci := 3) (q0 := 0) rfl rfl, PR.go hPc hK⟩ rfl rfl hl.1 rfl (lv_room (Nat.le_of_ble_eq_true rfl)) dX3_slopeFromBeside_48 ⟨Nat.le_of_ble_eq_true rfl, Nat.le_of_ble_eq_true rfl⟩) ?_
    refine lv_aload_n hx hb dX3_slopeFromBeside_51 rfl (lv_at hl 3 rfl) ?_
    refine lv_iload_n hx hb dX3_slopeFromBeside_52 rfl (lv_at hl 4 rfl) ?_
    refine lv_iload_n hx hb dX3_slopeFromBeside_53 rfl (lv_at hl 6 rfl) ?_
    have hPc := hP.sub (ws' := [(a, .inr (3, [.ref a1, .ref a2, .ref a3, .ref a4, .ref a5])), (a1, .inl (cI, 20, .inl (XA G))), (a2, .inl (cI, 20, .inl (YA G))), (a3, .inl (cI, 60, .inl (PA G))), (a4, .inl (cI, 20, .inl (HA G))), (a5, .inl (cI, 120, .inl (SA G)))]) [0, 1, 2, 3, 4, 5] rfl
    refine clRe (E := G k (2 + i)) (va_runV (As := [.int (nI k), .int (nI i)]) (rest := [.int (G (k + 1) (2 + i))]) ⟨hx, hb, hml, hown, hts⟩ (c_X3_partOf l D cI cC cQ a a1 a2 a3 a4 a5 G k i (by first | assumption | omega) (by first | assumption | omega)) (cwV (rm := rmX3_partOf) 2 hts gX3_slopeFromBeside_X3_partOf rfl rfl rfl (by decide +kernel) ⟨Nat.le_of_ble_eq_true rfl, Nat.le_of_ble_eq_true rfl⟩) ⟨PR.blind, va_recv hKa hPc (ci := 3) (q0 := 0) rfl rfl, PR.go hPc hK⟩ rfl rfl hl.1 rfl (lv_room (Nat.le_of_ble_eq_true rfl)) dX3_slopeFromBeside_54 ⟨Nat.le_of_ble_eq_true rfl, Nat.le_of_ble_eq_true rfl⟩) ?_
    refine lv_isub hx hb dX3_slopeFromBeside_57 ?_
    exact rtR_i hQ hx hb hr hlk dX3_slopeFromBeside_58 (by unfold sbk; rw [if_pos (by simp only [atk, stepk]; exact c_39)]; rfl)
abbrev rmX3_slopeFromBeside1 : Room := { frames := 1, cells := 0, slots := 0, locals := 22 }
set_option maxHeartbeats 4000000 in
set_option maxRecDepth 100000 in
theorem c_X3_slopeFromBeside1 (l : Launch) (D : va_G) (cI cC cQ : ClassId) (a a1 a2 a3 a4 a5 : Nat) (G : Nat → Nat → Int32) (k i : Nat) (hk : k < 20) (hi : i < 3) : Met l yX3_slopeFromBeside wsX3_slopeFromBeside rmX3_slopeFromBeside1 (PR D cI cC cQ [.ref a, .int (nI k), .int (nI 1), .int (nI i)] [(a, .inr (3, [.ref a1, .ref a2, .ref a3, .ref a4, .ref a5])), (a1, .inl (cI, 20, .inl (XA G))), (a2, .inl (cI, 20, .inl (YA G))), (a3, .inl (cI, 60, .inl (PA G))), (a4, .inl (cI, 20, .inl (HA G))), (a5, .inl (cI, 120, .inl (SA G)))]) (vp_Si (fun z => z = sbk G k 1 i)) 0 0 (fun _ => False) := by
  refine metR (cc := cX3_slopeFromBeside) (maxL := 7) (ret := (some .int)) (by decide) rfl (Nat.le_of_ble_eq_true rfl) ?_
  intro pg ev s mi args below meth cd ls Q hQ hx hb hml hr hts hown hlk hK hP hl
  have hKa := hK.1
  have hl : lv_has ls 7 [(0, .ref a), (1, .int (nI k)), (2, .int (nI 1)), (3, .int (nI i))] := hl
  refine lv_iload_n hx hb dX3_slopeFromBeside_0 rfl (lv_at hl 2 rfl) ?_
  refine gn_if_ne hx hb (by decide) (tgt := 10) dX3_slopeFromBeside_1 (by decide) (fun cq => ?_) (fun cq => absurd cq (by decide))
  refine lv_iload_n hx hb dX3_slopeFromBeside_10 rfl (lv_at hl 1 rfl) ?_
  refine lv_iconst (v := nI 5) hx hb dX3_slopeFromBeside_11 (by decide) ?_
  refine gn_div hx hb (by omega) (by omega) (by omega) dX3_slopeFromBeside_12 ?_
  refine lv_istore (lv' := [(4, .int (nI (k / 5))), (0, .ref a), (1, .int (nI k)), (2, .int (nI 1)), (3, .int (nI i))]) hx hb dX3_slopeFromBeside_13 hl (by decide) rfl (fun ls hl => ?_)
  refine lv_iload_n hx hb dX3_slopeFromBeside_15 rfl (lv_at hl 3 rfl) ?_
  refine gn_if_ne hx hb (by decide) (tgt := 23) dX3_slopeFromBeside_16 (by decide) (fun cq => ?_) (fun cq => absurd cq (by decide))
  refine lv_iconst (v := nI 3) hx hb dX3_slopeFromBeside_23 (by decide) ?_
  refine lv_istore (lv' := [(5, .int (nI 3)), (4, .int (nI (k / 5))), (0, .ref a), (1, .int (nI k)), (2, .int (nI 1)), (3, .int (nI i))]) hx hb dX3_slopeFromBeside_24 hl (by decide) rfl (fun ls hl => ?_)
  refine lv_iload_n hx hb dX3_slopeFromBeside_26 rfl (lv_at hl 4 rfl) ?_
  refine gn_if_ne hx hb (by decide) (tgt := 34) dX3_slopeFromBeside_27 (by decide) (fun cq => ?_) (fun cq => absurd cq (by decide))
  refine lv_iconst (v := nI 5) hx hb dX3_slopeFromBeside_34 (by decide) ?_
  refine lv_istore (lv' := [(6, .int (nI 5)), (5, .int (nI 3)), (4, .int (nI (k / 5))), (0, .ref a), (1, .int (nI k)), (2, .int (nI 1)), (3, .int (nI i))]) hx hb dX3_slopeFromBeside_35 hl (by decide) rfl (fun ls hl => ?_)
  refine lv_iload hx hb dX3_slopeFromBeside_37 (lv_at hl 2 rfl) ?_
  refine gn_if_ne hx hb (by omega) (tgt := 59) dX3_slopeFromBeside_39 (by decide) (fun c_39 => ?_) (fun c_39 => ?_)
  · refine lv_iload hx hb dX3_slopeFromBeside_59 (lv_at hl 2 rfl) ?_
    refine lv_iload hx hb dX3_slopeFromBeside_61 (lv_at hl 1 rfl) ?_
    refine gn_icmp_ne hx hb (by omega) (by decide) (tgt := 83) dX3_slopeFromBeside_63 (by decide) (fun c_63 => ?_) (fun c_63 => ?_)
    · refine lv_aload_n hx hb dX3_slopeFromBeside_83 rfl (lv_at hl 3 rfl) ?_
      refine lv_iload_n hx hb dX3_slopeFromBeside_84 rfl (lv_at hl 4 rfl) ?_
      refine lv_iload hx hb dX3_slopeFromBeside_85 (lv_at hl 0 rfl) ?_
      refine gn_add hx hb dX3_slopeFromBeside_87 ?_
      refine lv_iload_n hx hb dX3_slopeFromBeside_88 rfl (lv_at hl 6 rfl) ?_
      have hPc := hP.sub (ws' := [(a, .inr (3, [.ref a1, .ref a2, .ref a3, .ref a4, .ref a5])), (a1, .inl (cI, 20, .inl (XA G))), (a2, .inl (cI, 20, .inl (YA G))), (a3, .inl (cI, 60, .inl (PA G))), (a4, .inl (cI, 20, .inl (HA G))), (a5, .inl (cI, 120, .inl (SA G)))]) [0, 1, 2, 3, 4, 5] rfl
      refine clRe (E := G (k + 5) (2 + i)) (va_runV (As := [.int (nI (k + 5)), .int (nI i)]) (rest := []) ⟨hx, hb, hml, hown, hts⟩ (c_X3_partOf l D cI cC cQ a a1 a2 a3 a4 a5 G (k + 5) i (by first | assumption | omega) (by first | assumption | omega)) (cwV (rm := rmX3_partOf) 2 hts gX3_slopeFromBeside_X3_partOf rfl rfl rfl (by decide +kernel) ⟨Nat.le_of_ble_eq_true rfl, Nat.le_of_ble_eq_true rfl⟩) ⟨PR.blind, va_recv hKa hPc (ci := 3) (q0 := 0) rfl rfl, PR.go hPc hK⟩ rfl rfl hl.1 rfl (lv_room (Nat.le_of_ble_eq_true rfl)) dX3_slopeFromBeside_89 ⟨Nat.le_of_ble_eq_true rfl, Nat.le_of_ble_eq_true rfl⟩) ?_
      refine lv_aload_n hx hb dX3_slopeFromBeside_92 rfl (lv_at hl 3 rfl) ?_
      refine lv_iload_n hx hb dX3_slopeFromBeside_93 rfl (lv_at hl 4 rfl) ?_
      refine lv_iload hx hb dX3_slopeFromBeside_94 (lv_at hl 0 rfl) ?_
      refine gn_sub hx hb (by omega) dX3_slopeFromBeside_96 ?_
      refine lv_iload_n hx hb dX3_slopeFromBeside_97 rfl (lv_at hl 6 rfl) ?_
      have hPc := hP.sub (ws' := [(a, .inr (3, [.ref a1, .ref a2, .ref a3, .ref a4, .ref a5])), (a1, .inl (cI, 20, .inl (XA G))), (a2, .inl (cI, 20, .inl (YA G))), (a3, .inl (cI, 60, .inl (PA G))), (a4, .inl (cI, 20, .inl (HA G))), (a5, .inl (cI, 120, .inl (SA G)))]) [0, 1, 2, 3, 4, 5] rfl
      refine clRe (E := G (k - 5) (2 + i)) (va_runV (As := [.int (nI (k - 5)), .int (nI i)]) (rest := [.int (G (k + 5) (2 + i))]) ⟨hx, hb, hml, hown, hts⟩ (c_X3_partOf l D cI cC cQ a a1 a2 a3 a4 a5 G (k - 5) i (by first | assumption | omega) (by first | assumption | omega)) (cwV (rm := rmX3_partOf) 2 hts gX3_slopeFromBeside_X3_partOf rfl rfl rfl (by decide +kernel) ⟨Nat.le_of_ble_eq_true rfl, Nat.le_of_ble_eq_true rfl⟩) ⟨PR.blind, va_recv hKa hPc (ci := 3) (q0 := 0) rfl rfl, PR.go hPc hK⟩ rfl rfl hl.1 rfl (lv_room (Nat.le_of_ble_eq_true rfl)) dX3_slopeFromBeside_98 ⟨Nat.le_of_ble_eq_true rfl, Nat.le_of_ble_eq_true rfl⟩) ?_
      refine lv_isub hx hb dX3_slopeFromBeside_101 ?_
      refine lv_iconst (v := nI 2) hx hb dX3_slopeFromBeside_102 (by decide) ?_
      have hPc := hP.sub (ws' := []) [] rfl
      refine clRe (E := fdv ((G (k + 5) (2 + i)) - (G (k - 5) (2 + i))) (nI 2)) (va_runS (As := [.int ((G (k + 5) (2 + i)) - (G (k - 5) (2 + i))), .int (nI 2)]) (rest := []) ⟨hx, hb, hml, hown, hts⟩ (c_J9_floorDiv_7cf53 l D cI cC cQ ((G (k + 5) (2 + i)) - (G (k - 5) (2 + i))) (nI 2) (by decide)) (va_cwS (rm := rmJ9_floorDiv_7cf53) 2 hts gX3_slopeFromBeside_J9_floorDiv_7cf53 rfl rfl rfl (by decide +kernel) ⟨Nat.le_of_ble_eq_true rfl, Nat.le_of_ble_eq_true rfl⟩) ⟨PR.blind, PR.go hPc hK⟩ rfl rfl hl.1 rfl (lv_room (Nat.le_of_ble_eq_true rfl)) dX3_slopeFromBeside_103 ⟨Nat.le_of_ble_eq_true rfl, Nat.le_of_ble_eq_true rfl⟩) ?_
      exact rtR_i hQ hx hb hr hlk dX3_slopeFromBeside_106 (by unfold sbk; rw [if_neg (by simp only [atk]; exact c_39), if_neg (by simp only [atk, lastk]; exact c_63)]; rfl)
    · refine lv_aload_n hx hb dX3_slopeFromBeside_66 rfl (lv_at hl 3 rfl) ?_
      refine lv_iload_n hx hb dX3_slopeFromBeside_67 rfl (lv_at hl 4 rfl) ?_
      refine lv_iload_n hx hb dX3_slopeFromBeside_68 rfl (lv_at hl 6 rfl) ?_
      have hPc := hP.sub (ws' := [(a, .inr (3, [.ref a1, .ref a2, .ref a3, .ref a4, .ref a5])), (a1, .inl (cI, 20, .inl (XA G))), (a2, .inl (cI, 20, .inl (YA G))), (a3, .inl (cI, 60, .inl (PA G))), (a4, .inl (cI, 20, .inl (HA G))), (a5, .inl (cI, 120, .inl (SA G)))]) [0, 1, 2, 3, 4, 5] rfl
      refine clRe (E := G k (2 + i)) (va_runV (As := [.int (nI k), .int (nI i)]) (rest := []) ⟨hx, hb, hml, hown, hts⟩ (c_X3_partOf l D cI cC cQ a a1 a2 a3 a4 a5 G k i (by first | assumption | omega) (by first | assumption | omega)) (cwV (rm := rmX3_partOf) 2 hts gX3_slopeFromBeside_X3_partOf rfl rfl rfl (by decide +kernel) ⟨Nat.le_of_ble_eq_true rfl, Nat.le_of_ble_eq_true rfl⟩) ⟨PR.blind, va_recv hKa hPc (ci := 3) (q0 := 0) rfl rfl, PR.go hPc hK⟩ rfl rfl hl.1 rfl (lv_room (Nat.le_of_ble_eq_true rfl)) dX3_slopeFromBeside_69 ⟨Nat.le_of_ble_eq_true rfl, Nat.le_of_ble_eq_true rfl⟩) ?_
      refine lv_aload_n hx hb dX3_slopeFromBeside_72 rfl (lv_at hl 3 rfl) ?_
      refine lv_iload_n hx hb dX3_slopeFromBeside_73 rfl (lv_at hl 4 rfl) ?_
      refine lv_iload hx hb dX3_slopeFromBeside_74 (lv_at hl 0 rfl) ?_
      refine gn_sub hx hb (by omega) dX3_slopeFromBeside_76 ?_
      refine lv_iload_n hx hb dX3_slopeFromBeside_77 rfl (lv_at hl 6 rfl) ?_
      have hPc := hP.sub (ws' := [(a, .inr (3, [.ref a1, .ref a2, .ref a3, .ref a4, .ref a5])), (a1, .inl (cI, 20, .inl (XA G))), (a2, .inl (cI, 20, .inl (YA G))), (a3, .inl (cI, 60, .inl (PA G))), (a4, .inl (cI, 20, .inl (HA G))), (a5, .inl (cI, 120, .inl (SA G)))]) [0, 1, 2, 3, 4, 5] rfl
      refine clRe (E := G (k - 5) (2 + i)) (va_runV (As := [.int (nI (k - 5)), .int (nI i)]) (rest := [.int (G k (2 + i))]) ⟨hx, hb, hml, hown, hts⟩ (c_X3_partOf l D cI cC cQ a a1 a2 a3 a4 a5 G (k - 5) i (by first | assumption | omega) (by first | assumption | omega)) (cwV (rm := rmX3_partOf) 2 hts gX3_slopeFromBeside_X3_partOf rfl rfl rfl (by decide +kernel) ⟨Nat.le_of_ble_eq_true rfl, Nat.le_of_ble_eq_true rfl⟩) ⟨PR.blind, va_recv hKa hPc (ci := 3) (q0 := 0) rfl rfl, PR.go hPc hK⟩ rfl rfl hl.1 rfl (lv_room (Nat.le_of_ble_eq_true rfl)) dX3_slopeFromBeside_78 ⟨Nat.le_of_ble_eq_true rfl, Nat.le_of_ble_eq_true rfl⟩) ?_
      refine lv_isub hx hb dX3_slopeFromBeside_81 ?_
      exact rtR_i hQ hx hb hr hlk dX3_slopeFromBeside_82 (by unfold sbk; rw [if_neg (by simp only [atk]; exact c_39), if_pos (by simp only [atk, lastk]; exact c_63)]; rfl)
  · refine lv_aload_n hx hb dX3_slopeFromBeside_42 rfl (lv_at hl 3 rfl) ?_
    refine lv_iload_n hx hb dX3_slopeFromBeside_43 rfl (lv_at hl 4 rfl) ?_
    refine lv_iload hx hb dX3_slopeFromBeside_44 (lv_at hl 0 rfl) ?_
    refine gn_add hx hb dX3_slopeFromBeside_46 ?_
    refine lv_iload_n hx hb dX3_slopeFromBeside_47 rfl (lv_at hl 6 rfl) ?_
    have hPc := hP.sub (ws' := [(a, .inr (3, [.ref a1, .ref a2, .ref a3, .ref a4, .ref a5])), (a1, .inl (cI, 20, .inl (XA G))), (a2, .inl (cI, 20, .inl (YA G))), (a3, .inl (cI, 60, .inl (PA G))), (a4, .inl (cI, 20, .inl (HA G))), (a5, .inl (cI, 120, .inl (SA G)))]) [0, 1, 2, 3, 4, 5] rfl
    refine clRe (E := G (k + 5) (2 + i)) (va_runV (As := [.int (nI (k + 5)), .int (nI i)]) (rest := []) ⟨hx, hb, hml, hown, hts⟩ (c_X3_partOf l D cI cC cQ a a1 a2 a3 a4 a5 G (k + 5) i (by first | assumption | omega) (by first | assumption | omega)) (cwV (rm := rmX3_partOf) 2 hts gX3_slopeFromBeside_X3_partOf rfl rfl rfl (by decide +kernel) ⟨Nat.le_of_ble_eq_true rfl, Nat.le_of_ble_eq_true rfl⟩) ⟨PR.blind, va_recv hKa hPc (ci := 3) (q0 := 0) rfl rfl, PR.go hPc hK⟩ rfl rfl hl.1 rfl (lv_room (Nat.le_of_ble_eq_true rfl)) dX3_slopeFromBeside_48 ⟨Nat.le_of_ble_eq_true rfl, Nat.le_of_ble_eq_true rfl⟩) ?_
    refine lv_aload_n hx hb dX3_slopeFromBeside_51 rfl (lv_at hl 3 rfl) ?_
    refine lv_iload_n hx hb dX3_slopeFromBeside_52 rfl (lv_at hl 4 rfl) ?_
    refine lv_iload_n hx hb dX3_slopeFromBeside_53 rfl (lv_at hl 6 rfl) ?_
    have hPc := hP.sub (ws' := [(a, .inr (3, [.ref a1, .ref a2, .ref a3, .ref a4, .ref a5])), (a1, .inl (cI, 20, .inl (XA G))), (a2, .inl (cI, 20, .inl (YA G))), (a3, .inl (cI, 60, .inl (PA G))), (a4, .inl (cI, 20, .inl (HA G))), (a5, .inl (cI, 120, .inl (SA G)))]) [0, 1, 2, 3, 4, 5] rfl
    refine clRe (E := G k (2 + i)) (va_runV (As := [.int (nI k), .int (nI i)]) (rest := [.int (G (k + 5) (2 + i))]) ⟨hx, hb, hml, hown, hts⟩ (c_X3_partOf l D cI cC cQ a a1 a2 a3 a4 a5 G k i (by first | assumption | omega) (by first | assumption | omega)) (cwV (rm := rmX3_partOf) 2 hts gX3_slopeFromBeside_X3_partOf rfl rfl rfl (by decide +kernel) ⟨Nat.le_of_ble_eq_true rfl, Nat.le_of_ble_eq_true rfl⟩) ⟨PR.blind, va_recv hKa hPc (ci := 3) (q0 := 0) rfl rfl, PR.go hPc hK⟩ rfl rfl hl.1 rfl (lv_room (Nat.le_of_ble_eq_true rfl)) dX3_slopeFromBeside_54 ⟨Nat.le_of_ble_eq_true rfl, Nat.le_of_ble_eq_true rfl⟩) ?_
    refine lv_isub hx hb dX3_slopeFromBeside_57 ?_
    exact rtR_i hQ hx hb hr hlk dX3_slopeFromBeside_58 (by unfold sbk; rw [if_pos (by simp only [atk, stepk]; exact c_39)]; rfl)
abbrev rmX3_slopeOf0 : Room := { frames := 2, cells := 0, slots := 0, locals := 48 }
set_option maxRecDepth 20000 in
theorem iw_X3_slopeOf0_X3 : ∀ w ∈ u_ws RX3 TX3 5, w ∈ wsX3_slopeOf := by decide +kernel
set_option maxHeartbeats 4000000 in
set_option maxRecDepth 100000 in
theorem c_X3_slopeOf0 (l : Launch) (D : va_G) (cI cC cQ : ClassId) (a a1 a2 a3 a4 a5 : Nat) (G : Nat → Nat → Int32) (k i : Nat) (hG : OKG G) (hk : k < 20) (hi : i < 3) : Met l yX3_slopeOf wsX3_slopeOf rmX3_slopeOf0 (PR D cI cC cQ [.ref a, .int (nI k), .int (nI 0), .int (nI i)] [(a, .inr (3, [.ref a1, .ref a2, .ref a3, .ref a4, .ref a5])), (a1, .inl (cI, 20, .inl (XA G))), (a2, .inl (cI, 20, .inl (YA G))), (a3, .inl (cI, 60, .inl (PA G))), (a4, .inl (cI, 20, .inl (HA G))), (a5, .inl (cI, 120, .inl (SA G)))]) (vp_Si (fun z => z = slk G k 0 i)) 0 0 (fun _ => False) := by
  refine metR (cc := cX3_slopeOf) (maxL := 5) (ret := (some .int)) (by decide) rfl (Nat.le_of_ble_eq_true rfl) ?_
  intro pg ev s mi args below meth cd ls Q hQ hx hb hml hr hts hown hlk hK hP hl
  have hKa := hK.1
  have hl : lv_has ls 5 [(0, .ref a), (1, .int (nI k)), (2, .int (nI 0)), (3, .int (nI i))] := hl
  refine lv_aload_n hx hb dX3_slopeOf_0 rfl (lv_at hl 0 rfl) ?_
  refine va_get (D := D) (ci := 3) (v := .ref a5) (C := RX3) (T := TX3) (N := 5) hx hb hts iw_X3_slopeOf0_X3 hown hKa hP 0 rfl rfl 4 (by decide) (hts (.fieldLink RX3 24 "ColourPatches$Mesh" "slopes" "[I") (by decide +kernel)) (fun _ h9 => h9) rfl dX3_slopeOf_1 ?_
  refine lv_iload_n hx hb dX3_slopeOf_4 rfl (lv_at hl 1 rfl) ?_
  refine lv_iload_n hx hb dX3_slopeOf_5 rfl (lv_at hl 2 rfl) ?_
  refine lv_iload_n hx hb dX3_slopeOf_6 rfl (lv_at hl 3 rfl) ?_
  have hPc := hP.sub (ws' := []) [] rfl
  refine clRe (E := nI (k * 6 + 0 * 3 + i)) (va_runSN (As := [.int (nI k), .int (nI 0), .int (nI i)]) (rest := [.ref a5]) ⟨hx, hb, hml, hown, hts⟩ (c_X7_slopeIndex l D cI cC cQ k 0 i ) ⟨va_cnB (rm := rmX7_slopeIndex) 3 hts gX3_slopeOf_X7_slopeIndex_n33 rfl rfl rfl (hK.2 _ (List.mem_of_getElem? (i := 2) rfl)) (hts (.initialized RX7) (by decide +kernel)) (by decide +kernel) ⟨Nat.le_of_ble_eq_true rfl, Nat.le_of_ble_eq_true rfl⟩, hts (.static yX7_slopeIndex) (by decide +kernel), trivial⟩ ⟨PR.blind, PR.go hPc hK⟩ rfl rfl hl.1 rfl (lv_room (Nat.le_of_ble_eq_true rfl)) dX3_slopeOf_7 ⟨Nat.le_of_ble_eq_true rfl, Nat.le_of_ble_eq_true rfl⟩) ?_
  refine gn_iald hx hb hKa hP 5 0 rfl rfl (k := k * 6 + 0 * 3 + i) (by omega) (by omega) dX3_slopeOf_10 ?_
  refine W.eq (g2 := F0 mi 11 ls [.int ((SA G) (k * 6 + 0 * 3 + i))]) rfl ?_
  refine lv_istore (lv' := [(4, .int ((SA G) (k * 6 + 0 * 3 + i))), (0, .ref a), (1, .int (nI k)), (2, .int (nI 0)), (3, .int (nI i))]) hx hb dX3_slopeOf_11 hl (by decide) rfl (fun ls hl => ?_)
  refine lv_iload hx hb dX3_slopeOf_13 (lv_at hl 0 rfl) ?_
  refine lv_sipush (v := nI 1000) hx hb dX3_slopeOf_15 (by decide) ?_
  have hsa : SA G (k * 6 + 0 * 3 + i) = cvS (G k (6 + (0 * 3 + i))) := by rw [Nat.add_assoc]; exact SA_eq G k _ (by omega)
  refine lv_icmp_eq hx hb (tgt := 26) dX3_slopeOf_18 (by decide) (fun c_18 => ?_) (fun c_18 => ?_)
  · refine lv_aload_n hx hb dX3_slopeOf_26 rfl (lv_at hl 1 rfl) ?_
    refine lv_iload_n hx hb dX3_slopeOf_27 rfl (lv_at hl 2 rfl) ?_
    refine lv_iload_n hx hb dX3_slopeOf_28 rfl (lv_at hl 3 rfl) ?_
    refine lv_iload_n hx hb dX3_slopeOf_29 rfl (lv_at hl 4 rfl) ?_
    have hPc := hP.sub (ws' := [(a, .inr (3, [.ref a1, .ref a2, .ref a3, .ref a4, .ref a5])), (a1, .inl (cI, 20, .inl (XA G))), (a2, .inl (cI, 20, .inl (YA G))), (a3, .inl (cI, 60, .inl (PA G))), (a4, .inl (cI, 20, .inl (HA G))), (a5, .inl (cI, 120, .inl (SA G)))]) [0, 1, 2, 3, 4, 5] rfl
    refine clRe (E := sbk G k 0 i) (va_runV (As := [.int (nI k), .int (nI 0), .int (nI i)]) (rest := []) ⟨hx, hb, hml, hown, hts⟩ (c_X3_slopeFromBeside0 l D cI cC cQ a a1 a2 a3 a4 a5 G k i (by first | assumption | omega) (by first | assumption | omega)) (cwV (rm := rmX3_slopeFromBeside0) 3 hts gX3_slopeOf_X3_slopeFromBeside rfl rfl rfl (by decide +kernel) ⟨Nat.le_of_ble_eq_true rfl, Nat.le_of_ble_eq_true rfl⟩) ⟨PR.blind, va_recv hKa hPc (ci := 3) (q0 := 0) rfl rfl, PR.go hPc hK⟩ rfl rfl hl.1 rfl (lv_room (Nat.le_of_ble_eq_true rfl)) dX3_slopeOf_30 ⟨Nat.le_of_ble_eq_true rfl, Nat.le_of_ble_eq_true rfl⟩) ?_
    exact rtR_i hQ hx hb hr hlk dX3_slopeOf_33 (by unfold slk; rw [if_pos ((cvS_told hG hk (by omega)).mp (hsa ▸ c_18))])
  · refine lv_iload hx hb dX3_slopeOf_21 (lv_at hl 0 rfl) ?_
    refine lv_goto (tgt := 33) hx hb dX3_slopeOf_23 (by decide) ?_
    exact rtR_i hQ hx hb hr hlk dX3_slopeOf_33 (by unfold slk; rw [if_neg (fun q => c_18 (hsa.trans ((cvS_told hG hk (by omega)).mpr q))), hsa]; exact cvS_val (fun q => c_18 (hsa.trans q)))
abbrev rmX3_slopeOf1 : Room := { frames := 2, cells := 0, slots := 0, locals := 48 }
set_option maxRecDepth 20000 in
theorem iw_X3_slopeOf1_X3 : ∀ w ∈ u_ws RX3 TX3 5, w ∈ wsX3_slopeOf := by decide +kernel
set_option maxHeartbeats 4000000 in
set_option maxRecDepth 100000 in
theorem c_X3_slopeOf1 (l : Launch) (D : va_G) (cI cC cQ : ClassId) (a a1 a2 a3 a4 a5 : Nat) (G : Nat → Nat → Int32) (k i : Nat) (hG : OKG G) (hk : k < 20) (hi : i < 3) : Met l yX3_slopeOf wsX3_slopeOf rmX3_slopeOf1 (PR D cI cC cQ [.ref a, .int (nI k), .int (nI 1), .int (nI i)] [(a, .inr (3, [.ref a1, .ref a2, .ref a3, .ref a4, .ref a5])), (a1, .inl (cI, 20, .inl (XA G))), (a2, .inl (cI, 20, .inl (YA G))), (a3, .inl (cI, 60, .inl (PA G))), (a4, .inl (cI, 20, .inl (HA G))), (a5, .inl (cI, 120, .inl (SA G)))]) (vp_Si (fun z => z = slk G k 1 i)) 0 0 (fun _ => False) := by
  refine metR (cc := cX3_slopeOf) (maxL := 5) (ret := (some .int)) (by decide) rfl (Nat.le_of_ble_eq_true rfl) ?_
  intro pg ev s mi args below meth cd ls Q hQ hx hb hml hr hts hown hlk hK hP hl
  have hKa := hK.1
  have hl : lv_has ls 5 [(0, .ref a), (1, .int (nI k)), (2, .int (nI 1)), (3, .int (nI i))] := hl
  refine lv_aload_n hx hb dX3_slopeOf_0 rfl (lv_at hl 0 rfl) ?_
  refine va_get (D := D) (ci := 3) (v := .ref a5) (C := RX3) (T := TX3) (N := 5) hx hb hts iw_X3_slopeOf1_X3 hown hKa hP 0 rfl rfl 4 (by decide) (hts (.fieldLink RX3 24 "ColourPatches$Mesh" "slopes" "[I") (by decide +kernel)) (fun _ h9 => h9) rfl dX3_slopeOf_1 ?_
  refine lv_iload_n hx hb dX3_slopeOf_4 rfl (lv_at hl 1 rfl) ?_
  refine lv_iload_n hx hb dX3_slopeOf_5 rfl (lv_at hl 2 rfl) ?_
  refine lv_iload_n hx hb dX3_slopeOf_6 rfl (lv_at hl 3 rfl) ?_
  have hPc := hP.sub (ws' := []) [] rfl
  refine clRe (E := nI (k * 6 + 1 * 3 + i)) (va_runSN (As := [.int (nI k), .int (nI 1), .int (nI i)]) (rest := [.ref a5]) ⟨hx, hb, hml, hown, hts⟩ (c_X7_slopeIndex l D cI cC cQ k 1 i ) ⟨va_cnB (rm := rmX7_slopeIndex) 3 hts gX3_slopeOf_X7_slopeIndex_n33 rfl rfl rfl (hK.2 _ (List.mem_of_getElem? (i := 2) rfl)) (hts (.initialized RX7) (by decide +kernel)) (by decide +kernel) ⟨Nat.le_of_ble_eq_true rfl, Nat.le_of_ble_eq_true rfl⟩, hts (.static yX7_slopeIndex) (by decide +kernel), trivial⟩ ⟨PR.blind, PR.go hPc hK⟩ rfl rfl hl.1 rfl (lv_room (Nat.le_of_ble_eq_true rfl)) dX3_slopeOf_7 ⟨Nat.le_of_ble_eq_true rfl, Nat.le_of_ble_eq_true rfl⟩) ?_
  refine gn_iald hx hb hKa hP 5 0 rfl rfl (k := k * 6 + 1 * 3 + i) (by omega) (by omega) dX3_slopeOf_10 ?_
  refine W.eq (g2 := F0 mi 11 ls [.int ((SA G) (k * 6 + 1 * 3 + i))]) rfl ?_
  refine lv_istore (lv' := [(4, .int ((SA G) (k * 6 + 1 * 3 + i))), (0, .ref a), (1, .int (nI k)), (2, .int (nI 1)), (3, .int (nI i))]) hx hb dX3_slopeOf_11 hl (by decide) rfl (fun ls hl => ?_)
  refine lv_iload hx hb dX3_slopeOf_13 (lv_at hl 0 rfl) ?_
  refine lv_sipush (v := nI 1000) hx hb dX3_slopeOf_15 (by decide) ?_
  have hsa : SA G (k * 6 + 1 * 3 + i) = cvS (G k (6 + (1 * 3 + i))) := by rw [Nat.add_assoc]; exact SA_eq G k _ (by omega)
  refine lv_icmp_eq hx hb (tgt := 26) dX3_slopeOf_18 (by decide) (fun c_18 => ?_) (fun c_18 => ?_)
  · refine lv_aload_n hx hb dX3_slopeOf_26 rfl (lv_at hl 1 rfl) ?_
    refine lv_iload_n hx hb dX3_slopeOf_27 rfl (lv_at hl 2 rfl) ?_
    refine lv_iload_n hx hb dX3_slopeOf_28 rfl (lv_at hl 3 rfl) ?_
    refine lv_iload_n hx hb dX3_slopeOf_29 rfl (lv_at hl 4 rfl) ?_
    have hPc := hP.sub (ws' := [(a, .inr (3, [.ref a1, .ref a2, .ref a3, .ref a4, .ref a5])), (a1, .inl (cI, 20, .inl (XA G))), (a2, .inl (cI, 20, .inl (YA G))), (a3, .inl (cI, 60, .inl (PA G))), (a4, .inl (cI, 20, .inl (HA G))), (a5, .inl (cI, 120, .inl (SA G)))]) [0, 1, 2, 3, 4, 5] rfl
    refine clRe (E := sbk G k 1 i) (va_runV (As := [.int (nI k), .int (nI 1), .int (nI i)]) (rest := []) ⟨hx, hb, hml, hown, hts⟩ (c_X3_slopeFromBeside1 l D cI cC cQ a a1 a2 a3 a4 a5 G k i (by first | assumption | omega) (by first | assumption | omega)) (cwV (rm := rmX3_slopeFromBeside1) 3 hts gX3_slopeOf_X3_slopeFromBeside rfl rfl rfl (by decide +kernel) ⟨Nat.le_of_ble_eq_true rfl, Nat.le_of_ble_eq_true rfl⟩) ⟨PR.blind, va_recv hKa hPc (ci := 3) (q0 := 0) rfl rfl, PR.go hPc hK⟩ rfl rfl hl.1 rfl (lv_room (Nat.le_of_ble_eq_true rfl)) dX3_slopeOf_30 ⟨Nat.le_of_ble_eq_true rfl, Nat.le_of_ble_eq_true rfl⟩) ?_
    exact rtR_i hQ hx hb hr hlk dX3_slopeOf_33 (by unfold slk; rw [if_pos ((cvS_told hG hk (by omega)).mp (hsa ▸ c_18))])
  · refine lv_iload hx hb dX3_slopeOf_21 (lv_at hl 0 rfl) ?_
    refine lv_goto (tgt := 33) hx hb dX3_slopeOf_23 (by decide) ?_
    exact rtR_i hQ hx hb hr hlk dX3_slopeOf_33 (by unfold slk; rw [if_neg (fun q => c_18 (hsa.trans ((cvS_told hG hk (by omega)).mpr q))), hsa]; exact cvS_val (fun q => c_18 (hsa.trans q)))
abbrev rmX3_toldSlopesOf : Room := { frames := 0, cells := 0, slots := 0, locals := 0 }
set_option maxRecDepth 20000 in
theorem iw_X3_toldSlopesOf_X3 : ∀ w ∈ u_ws RX3 TX3 5, w ∈ wsX3_toldSlopesOf := by decide +kernel
set_option maxHeartbeats 4000000 in
set_option maxRecDepth 100000 in
theorem c_X3_toldSlopesOf (l : Launch) (D : va_G) (cI cC cQ : ClassId) (a a1 a2 a3 a4 a5 : Nat) (G : Nat → Nat → Int32) (k : Nat) (hG : OKG G) (hk : k < 20) : Met l yX3_toldSlopesOf wsX3_toldSlopesOf rmX3_toldSlopesOf (PR D cI cC cQ [.ref a, .int (nI k)] [(a, .inr (3, [.ref a1, .ref a2, .ref a3, .ref a4, .ref a5])), (a1, .inl (cI, 20, .inl (XA G))), (a2, .inl (cI, 20, .inl (YA G))), (a3, .inl (cI, 60, .inl (PA G))), (a4, .inl (cI, 20, .inl (HA G))), (a5, .inl (cI, 120, .inl (SA G)))]) (vp_Si (fun z => z = nI (toldK G k))) 0 0 (fun _ => False) := by
  refine metR (cc := cX3_toldSlopesOf) (maxL := 4) (ret := (some .int)) (by decide) rfl (Nat.le_of_ble_eq_true rfl) ?_
  intro pg ev s mi args below meth cd ls Q hQ hx hb hml hr hts hown hlk hK hP hl
  have hKa := hK.1
  have hl : lv_has ls 4 [(0, .ref a), (1, .int (nI k))] := hl
  refine lv_iconst (v := nI 0) hx hb dX3_toldSlopesOf_0 (by decide) ?_
  refine lv_istore_n (lv' := [(2, .int (nI 0)), (0, .ref a), (1, .int (nI k))]) hx hb dX3_toldSlopesOf_1 rfl hl (by decide) rfl (fun ls hl => ?_)
  refine lv_iconst (v := nI 0) hx hb dX3_toldSlopesOf_2 (by decide) ?_
  refine lv_istore_n (lv' := [(3, .int (nI 0)), (2, .int (nI 0)), (0, .ref a), (1, .int (nI k))]) hx hb dX3_toldSlopesOf_3 rfl hl (by decide) rfl (fun ls hl => ?_)
  have L4 : ∀ (nn : Nat) (j : Nat) (u : Nat) (hj : j ≤ 6) (hu : u = sumN (toldB G k) j) (_ : 6 - j < nn) (ls : Array Slot) (_ : lv_has ls 4 [(2, .int (nI u)), (3, .int (nI j)), (0, .ref a), (1, .int (nI k))]), W pg l ev (headSpec wsX3_toldSlopesOf rmX3_toldSlopesOf).room s mi args below meth cd s.heap [] 0 0 Q (F0 mi 4 ls []) := by
    intro nn
    induction nn with
    | zero =>
      intro j u hj hu hmeas
      exact absurd hmeas (Nat.not_lt_zero _)
    | succ nn ih4 =>
      intro j u hj hu hmeas  ls hl
      refine lv_iload_n hx hb dX3_toldSlopesOf_4 rfl (lv_at hl 1 rfl) ?_
      refine lv_bipush (v := nI 6) hx hb dX3_toldSlopesOf_5 (by decide) ?_
      refine gn_icmp_ge hx hb (by omega) (by decide) (tgt := 36) dX3_toldSlopesOf_7 (by decide) (fun c_7 => ?_) (fun c_7 => ?_)
      · refine lv_iload_n hx hb dX3_toldSlopesOf_36 rfl (lv_at hl 0 rfl) ?_
        exact rtR_i hQ hx hb hr hlk dX3_toldSlopesOf_37 (by rw [hu, show j = 6 by omega]; rfl)
      · refine lv_aload_n hx hb dX3_toldSlopesOf_10 rfl (lv_at hl 2 rfl) ?_
        refine va_get (D := D) (ci := 3) (v := .ref a5) (C := RX3) (T := TX3) (N := 5) hx hb hts iw_X3_toldSlopesOf_X3 hown hKa hP 0 rfl rfl 4 (by decide) (hts (.fieldLink RX3 24 "ColourPatches$Mesh" "slopes" "[I") (by decide +kernel)) (fun _ h9 => h9) rfl dX3_toldSlopesOf_11 ?_
        refine lv_iload_n hx hb dX3_toldSlopesOf_14 rfl (lv_at hl 3 rfl) ?_
        refine lv_bipush (v := nI 6) hx hb dX3_toldSlopesOf_15 (by decide) ?_
        refine gn_mul hx hb dX3_toldSlopesOf_17 ?_
        refine lv_iload_n hx hb dX3_toldSlopesOf_18 rfl (lv_at hl 1 rfl) ?_
        refine gn_add hx hb dX3_toldSlopesOf_19 ?_
        refine gn_iald hx hb hKa hP 5 0 rfl rfl (k := (k * 6) + j) (by omega) (by omega) dX3_toldSlopesOf_20 ?_
        refine W.eq (g2 := F0 mi 21 ls [.int ((SA G) ((k * 6) + j))]) rfl ?_
        refine lv_sipush (v := nI 1000) hx hb dX3_toldSlopesOf_21 (by decide) ?_
        refine lv_icmp_eq hx hb (tgt := 30) dX3_toldSlopesOf_24 (by decide) (fun c_24 => ?_) (fun c_24 => ?_)
        · refine gn_iinc (lv' := [(3, .int (nI (j + 1))), (2, .int (nI u)), (0, .ref a), (1, .int (nI k))]) hx hb dX3_toldSlopesOf_30 hl (k := 1) rfl (by decide) rfl (fun ls hl => ?_)
          refine lv_goto (tgt := 4) hx hb dX3_toldSlopesOf_33 (by decide) ?_
          exact ih4 (j + 1) u (show (j + 1) ≤ 6 from by first | omega | assumption | rfl) (show u = sumN (toldB G k) (j + 1) from by rw [hu]; show _ = _ + toldB G k j; rw [toldB, if_pos ((cvS_told hG hk (by omega)).mp ((SA_eq G k j (by omega)) ▸ c_24))]; rfl) (by first | omega | assumption) _ (lv_sub hl [1, 0, 2, 3] rfl)
        · refine gn_iinc (lv' := [(2, .int (nI (u + 1))), (3, .int (nI j)), (0, .ref a), (1, .int (nI k))]) hx hb dX3_toldSlopesOf_27 hl (k := 0) rfl (by decide) rfl (fun ls hl => ?_)
          refine gn_iinc (lv' := [(3, .int (nI (j + 1))), (2, .int (nI (u + 1))), (0, .ref a), (1, .int (nI k))]) hx hb dX3_toldSlopesOf_30 hl (k := 1) rfl (by decide) rfl (fun ls hl => ?_)
          refine lv_goto (tgt := 4) hx hb dX3_toldSlopesOf_33 (by decide) ?_
          exact ih4 (j + 1) (u + 1) (show (j + 1) ≤ 6 from by first | omega | assumption | rfl) (show (u + 1) = sumN (toldB G k) (j + 1) from by rw [hu]; show _ = _ + toldB G k j; rw [toldB, if_neg (fun q => c_24 ((SA_eq G k j (by omega)).trans ((cvS_told hG hk (by omega)).mpr q)))]) (by first | omega | assumption) _ (lv_sub hl [1, 0, 2, 3] rfl)
  exact L4 ((6 - 0) + 1) 0 0 (show 0 ≤ 6 from by first | omega | assumption | rfl) (show 0 = sumN (toldB G k) 0 from rfl) (Nat.lt_succ_self _) _ (lv_sub hl [1, 0, 2, 3] rfl)
abbrev rmX3_toldSlopes : Room := { frames := 1, cells := 0, slots := 0, locals := 23 }
set_option maxHeartbeats 4000000 in
set_option maxRecDepth 100000 in
theorem c_X3_toldSlopes (l : Launch) (D : va_G) (cI cC cQ : ClassId) (a a1 a2 a3 a4 a5 : Nat) (G : Nat → Nat → Int32) (hG : OKG G) : Met l yX3_toldSlopes wsX3_toldSlopes rmX3_toldSlopes (PR D cI cC cQ [.ref a] [(a, .inr (3, [.ref a1, .ref a2, .ref a3, .ref a4, .ref a5])), (a1, .inl (cI, 20, .inl (XA G))), (a2, .inl (cI, 20, .inl (YA G))), (a3, .inl (cI, 60, .inl (PA G))), (a4, .inl (cI, 20, .inl (HA G))), (a5, .inl (cI, 120, .inl (SA G)))]) (vp_Si (fun z => z = nI (sumN (toldK G) 20))) 0 0 (fun _ => False) := by
  refine metR (cc := cX3_toldSlopes) (maxL := 3) (ret := (some .int)) (by decide) rfl (Nat.le_of_ble_eq_true rfl) ?_
  intro pg ev s mi args below meth cd ls Q hQ hx hb hml hr hts hown hlk hK hP hl
  have hKa := hK.1
  have hl : lv_has ls 3 [(0, .ref a)] := hl
  refine lv_iconst (v := nI 0) hx hb dX3_toldSlopes_0 (by decide) ?_
  refine lv_istore_n (lv' := [(1, .int (nI 0)), (0, .ref a)]) hx hb dX3_toldSlopes_1 rfl hl (by decide) rfl (fun ls hl => ?_)
  refine lv_iconst (v := nI 0) hx hb dX3_toldSlopes_2 (by decide) ?_
  refine lv_istore_n (lv' := [(2, .int (nI 0)), (1, .int (nI 0)), (0, .ref a)]) hx hb dX3_toldSlopes_3 rfl hl (by decide) rfl (fun ls hl => ?_)
  have L4 : ∀ (nn : Nat) (j : Nat) (u : Nat) (hj : j ≤ 20) (hu : u = sumN (toldK G) j) (_ : 20 - j < nn) (ls : Array Slot) (_ : lv_has ls 3 [(1, .int (nI u)), (2, .int (nI j)), (0, .ref a)]), W pg l ev (headSpec wsX3_toldSlopes rmX3_toldSlopes).room s mi args below meth cd s.heap [] 0 0 Q (F0 mi 4 ls []) := by
    intro nn
    induction nn with
    | zero =>
      intro j u hj hu hmeas
      exact absurd hmeas (Nat.not_lt_zero _)
    | succ nn ih4 =>
      intro j u hj hu hmeas  ls hl
      refine lv_iload_n hx hb dX3_toldSlopes_4 rfl (lv_at hl 1 rfl) ?_
      refine lv_bipush (v := nI 20) hx hb dX3_toldSlopes_5 (by decide) ?_
      refine gn_icmp_ge hx hb (by omega) (by decide) (tgt := 24) dX3_toldSlopes_7 (by decide) (fun c_7 => ?_) (fun c_7 => ?_)
      · refine lv_iload_n hx hb dX3_toldSlopes_24 rfl (lv_at hl 0 rfl) ?_
        exact rtR_i hQ hx hb hr hlk dX3_toldSlopes_25 (by rw [hu, show j = 20 by omega])
      · refine lv_iload_n hx hb dX3_toldSlopes_10 rfl (lv_at hl 0 rfl) ?_
        refine lv_aload_n hx hb dX3_toldSlopes_11 rfl (lv_at hl 2 rfl) ?_
        refine lv_iload_n hx hb dX3_toldSlopes_12 rfl (lv_at hl 1 rfl) ?_
        have hPc := hP.sub (ws' := [(a, .inr (3, [.ref a1, .ref a2, .ref a3, .ref a4, .ref a5])), (a1, .inl (cI, 20, .inl (XA G))), (a2, .inl (cI, 20, .inl (YA G))), (a3, .inl (cI, 60, .inl (PA G))), (a4, .inl (cI, 20, .inl (HA G))), (a5, .inl (cI, 120, .inl (SA G)))]) [0, 1, 2, 3, 4, 5] rfl
        refine clRe (E := nI (toldK G j)) (va_runV (As := [.int (nI j)]) (rest := [.int (nI u)]) ⟨hx, hb, hml, hown, hts⟩ (c_X3_toldSlopesOf l D cI cC cQ a a1 a2 a3 a4 a5 G j (by first | assumption | omega) (by first | assumption | omega)) (cwV (rm := rmX3_toldSlopesOf) 1 hts gX3_toldSlopes_X3_toldSlopesOf rfl rfl rfl (by decide +kernel) ⟨Nat.le_of_ble_eq_true rfl, Nat.le_of_ble_eq_true rfl⟩) ⟨PR.blind, va_recv hKa hPc (ci := 3) (q0 := 0) rfl rfl, PR.go hPc hK⟩ rfl rfl hl.1 rfl (lv_room (Nat.le_of_ble_eq_true rfl)) dX3_toldSlopes_13 ⟨Nat.le_of_ble_eq_true rfl, Nat.le_of_ble_eq_true rfl⟩) ?_
        have htk_13 : toldK G j < 7 := toldK_lt G (j)
        refine gn_add hx hb dX3_toldSlopes_16 ?_
        refine lv_istore_n (lv' := [(1, .int (nI (u + (toldK G j)))), (2, .int (nI j)), (0, .ref a)]) hx hb dX3_toldSlopes_17 rfl hl (by decide) rfl (fun ls hl => ?_)
        refine gn_iinc (lv' := [(2, .int (nI (j + 1))), (1, .int (nI (u + (toldK G j)))), (0, .ref a)]) hx hb dX3_toldSlopes_18 hl (k := 1) rfl (by decide) rfl (fun ls hl => ?_)
        refine lv_goto (tgt := 4) hx hb dX3_toldSlopes_21 (by decide) ?_
        exact ih4 (j + 1) (u + (toldK G j)) (show (j + 1) ≤ 20 from by first | omega | assumption | rfl) (show (u + (toldK G j)) = sumN (toldK G) (j + 1) from by rw [hu]; rfl) (by first | omega | assumption) _ (lv_sub hl [1, 0, 2] rfl)
  exact L4 ((20 - 0) + 1) 0 0 (show 0 ≤ 20 from by first | omega | assumption | rfl) (show 0 = sumN (toldK G) 0 from rfl) (Nat.lt_succ_self _) _ (lv_sub hl [1, 0, 2] rfl)
abbrev rmX3_heldCorners : Room := { frames := 0, cells := 0, slots := 0, locals := 0 }
set_option maxRecDepth 20000 in
theorem iw_X3_heldCorners_X3 : ∀ w ∈ u_ws RX3 TX3 5, w ∈ wsX3_heldCorners := by decide +kernel
set_option maxHeartbeats 4000000 in
set_option maxRecDepth 100000 in
theorem c_X3_heldCorners (l : Launch) (D : va_G) (cI cC cQ : ClassId) (a a1 a2 a3 a4 a5 : Nat) (G : Nat → Nat → Int32) : Met l yX3_heldCorners wsX3_heldCorners rmX3_heldCorners (PR D cI cC cQ [.ref a] [(a, .inr (3, [.ref a1, .ref a2, .ref a3, .ref a4, .ref a5])), (a1, .inl (cI, 20, .inl (XA G))), (a2, .inl (cI, 20, .inl (YA G))), (a3, .inl (cI, 60, .inl (PA G))), (a4, .inl (cI, 20, .inl (HA G))), (a5, .inl (cI, 120, .inl (SA G)))]) (vp_Si (fun z => z = sumI (HA G) 20)) 0 0 (fun _ => False) := by
  refine metR (cc := cX3_heldCorners) (maxL := 3) (ret := (some .int)) (by decide) rfl (Nat.le_of_ble_eq_true rfl) ?_
  intro pg ev s mi args below meth cd ls Q hQ hx hb hml hr hts hown hlk hK hP hl
  have hKa := hK.1
  have hl : lv_has ls 3 [(0, .ref a)] := hl
  refine lv_iconst (v := nI 0) hx hb dX3_heldCorners_0 (by decide) ?_
  refine lv_istore_n (lv' := [(1, .int (nI 0)), (0, .ref a)]) hx hb dX3_heldCorners_1 rfl hl (by decide) rfl (fun ls hl => ?_)
  refine lv_iconst (v := nI 0) hx hb dX3_heldCorners_2 (by decide) ?_
  refine lv_istore_n (lv' := [(2, .int (nI 0)), (1, .int (nI 0)), (0, .ref a)]) hx hb dX3_heldCorners_3 rfl hl (by decide) rfl (fun ls hl => ?_)
  have L4 : ∀ (nn : Nat) (j : Nat) (u : Int32) (hj : j ≤ 20) (hu : u = sumI (HA G) j) (_ : 20 - j < nn) (ls : Array Slot) (_ : lv_has ls 3 [(1, .int u), (2, .int (nI j)), (0, .ref a)]), W pg l ev (headSpec wsX3_heldCorners rmX3_heldCorners).room s mi args below meth cd s.heap [] 0 0 Q (F0 mi 4 ls []) := by
    intro nn
    induction nn with
    | zero =>
      intro j u hj hu hmeas
      exact absurd hmeas (Nat.not_lt_zero _)
    | succ nn ih4 =>
      intro j u hj hu hmeas  ls hl
      refine lv_iload_n hx hb dX3_heldCorners_4 rfl (lv_at hl 1 rfl) ?_
      refine lv_bipush (v := nI 20) hx hb dX3_heldCorners_5 (by decide) ?_
      refine gn_icmp_ge hx hb (by omega) (by decide) (tgt := 25) dX3_heldCorners_7 (by decide) (fun c_7 => ?_) (fun c_7 => ?_)
      · refine lv_iload_n hx hb dX3_heldCorners_25 rfl (lv_at hl 0 rfl) ?_
        exact rtR_i hQ hx hb hr hlk dX3_heldCorners_26 (by rw [hu, show j = 20 by omega])
      · refine lv_iload_n hx hb dX3_heldCorners_10 rfl (lv_at hl 0 rfl) ?_
        refine lv_aload_n hx hb dX3_heldCorners_11 rfl (lv_at hl 2 rfl) ?_
        refine va_get (D := D) (ci := 3) (v := .ref a4) (C := RX3) (T := TX3) (N := 5) hx hb hts iw_X3_heldCorners_X3 hown hKa hP 0 rfl rfl 3 (by decide) (hts (.fieldLink RX3 21 "ColourPatches$Mesh" "held" "[I") (by decide +kernel)) (fun _ h9 => h9) rfl dX3_heldCorners_12 ?_
        refine lv_iload_n hx hb dX3_heldCorners_15 rfl (lv_at hl 1 rfl) ?_
        refine gn_iald hx hb hKa hP 4 0 rfl rfl (k := j) (by omega) (by omega) dX3_heldCorners_16 ?_
        refine W.eq (g2 := F0 mi 17 ls [.int ((HA G) j), .int u]) rfl ?_
        refine lv_iadd hx hb dX3_heldCorners_17 ?_
        refine lv_istore_n (lv' := [(1, .int (u + ((HA G) j))), (2, .int (nI j)), (0, .ref a)]) hx hb dX3_heldCorners_18 rfl hl (by decide) rfl (fun ls hl => ?_)
        refine gn_iinc (lv' := [(2, .int (nI (j + 1))), (1, .int (u + ((HA G) j))), (0, .ref a)]) hx hb dX3_heldCorners_19 hl (k := 1) rfl (by decide) rfl (fun ls hl => ?_)
        refine lv_goto (tgt := 4) hx hb dX3_heldCorners_22 (by decide) ?_
        exact ih4 (j + 1) (u + ((HA G) j)) (show (j + 1) ≤ 20 from by first | omega | assumption | rfl) (show (u + ((HA G) j)) = sumI (HA G) (j + 1) from by rw [hu]; rfl) (by first | omega | assumption) _ (lv_sub hl [1, 0, 2] rfl)
  exact L4 ((20 - 0) + 1) 0 (nI 0) (show 0 ≤ 20 from by first | omega | assumption | rfl) (show (nI 0) = sumI (HA G) 0 from rfl) (Nat.lt_succ_self _) _ (lv_sub hl [1, 0, 2] rfl)
abbrev rmX3_heldCornersOf : Room := { frames := 2, cells := 0, slots := 0, locals := 44 }
set_option maxRecDepth 20000 in
theorem iw_X3_heldCornersOf_X3 : ∀ w ∈ u_ws RX3 TX3 5, w ∈ wsX3_heldCornersOf := by decide +kernel
set_option maxHeartbeats 4000000 in
set_option maxRecDepth 100000 in
theorem c_X3_heldCornersOf (l : Launch) (D : va_G) (cI cC cQ : ClassId) (a a1 a2 a3 a4 a5 : Nat) (G : Nat → Nat → Int32) (p : Nat) (hp : p < 12) : Met l yX3_heldCornersOf wsX3_heldCornersOf rmX3_heldCornersOf (PR D cI cC cQ [.ref a, .int (nI p)] [(a, .inr (3, [.ref a1, .ref a2, .ref a3, .ref a4, .ref a5])), (a1, .inl (cI, 20, .inl (XA G))), (a2, .inl (cI, 20, .inl (YA G))), (a3, .inl (cI, 60, .inl (PA G))), (a4, .inl (cI, 20, .inl (HA G))), (a5, .inl (cI, 120, .inl (SA G)))]) (vp_Si (fun z => z = sumI (fun k => HA G (cp p k)) 4)) 0 0 (fun _ => False) := by
  refine metR (cc := cX3_heldCornersOf) (maxL := 4) (ret := (some .int)) (by decide) rfl (Nat.le_of_ble_eq_true rfl) ?_
  intro pg ev s mi args below meth cd ls Q hQ hx hb hml hr hts hown hlk hK hP hl
  have hKa := hK.1
  have hl : lv_has ls 4 [(0, .ref a), (1, .int (nI p))] := hl
  refine lv_iconst (v := nI 0) hx hb dX3_heldCornersOf_0 (by decide) ?_
  refine lv_istore_n (lv' := [(2, .int (nI 0)), (0, .ref a), (1, .int (nI p))]) hx hb dX3_heldCornersOf_1 rfl hl (by decide) rfl (fun ls hl => ?_)
  refine lv_iconst (v := nI 0) hx hb dX3_heldCornersOf_2 (by decide) ?_
  refine lv_istore_n (lv' := [(3, .int (nI 0)), (2, .int (nI 0)), (0, .ref a), (1, .int (nI p))]) hx hb dX3_heldCornersOf_3 rfl hl (by decide) rfl (fun ls hl => ?_)
  have L4 : ∀ (nn : Nat) (j : Nat) (u : Int32) (hj : j ≤ 4) (hu : u = sumI (fun k => HA G (cp p k)) j) (_ : 4 - j < nn) (ls : Array Slot) (_ : lv_has ls 4 [(2, .int u), (3, .int (nI j)), (0, .ref a), (1, .int (nI p))]), W pg l ev (headSpec wsX3_heldCornersOf rmX3_heldCornersOf).room s mi args below meth cd s.heap [] 0 0 Q (F0 mi 4 ls []) := by
    intro nn
    induction nn with
    | zero =>
      intro j u hj hu hmeas
      exact absurd hmeas (Nat.not_lt_zero _)
    | succ nn ih4 =>
      intro j u hj hu hmeas  ls hl
      refine lv_iload_n hx hb dX3_heldCornersOf_4 rfl (lv_at hl 1 rfl) ?_
      refine lv_iconst (v := nI 4) hx hb dX3_heldCornersOf_5 (by decide) ?_
      refine gn_icmp_ge hx hb (by omega) (by decide) (tgt := 28) dX3_heldCornersOf_6 (by decide) (fun c_6 => ?_) (fun c_6 => ?_)
      · refine lv_iload_n hx hb dX3_heldCornersOf_28 rfl (lv_at hl 0 rfl) ?_
        exact rtR_i hQ hx hb hr hlk dX3_heldCornersOf_29 (by rw [hu, show j = 4 by omega])
      · refine lv_iload_n hx hb dX3_heldCornersOf_9 rfl (lv_at hl 0 rfl) ?_
        refine lv_aload_n hx hb dX3_heldCornersOf_10 rfl (lv_at hl 2 rfl) ?_
        refine va_get (D := D) (ci := 3) (v := .ref a4) (C := RX3) (T := TX3) (N := 5) hx hb hts iw_X3_heldCornersOf_X3 hown hKa hP 0 rfl rfl 3 (by decide) (hts (.fieldLink RX3 21 "ColourPatches$Mesh" "held" "[I") (by decide +kernel)) (fun _ h9 => h9) rfl dX3_heldCornersOf_11 ?_
        refine lv_iload_n hx hb dX3_heldCornersOf_14 rfl (lv_at hl 3 rfl) ?_
        refine lv_iload_n hx hb dX3_heldCornersOf_15 rfl (lv_at hl 1 rfl) ?_
        have hPc := hP.sub (ws' := []) [] rfl
        refine clRe (E := nI (cp p j)) (va_runSN (As := [.int (nI p), .int (nI j)]) (rest := [.ref a4, .int u]) ⟨hx, hb, hml, hown, hts⟩ (c_X7_cornerOfPatch l D cI cC cQ p j (by first | assumption | omega) (by first | assumption | omega)) ⟨va_cnB (rm := rmX7_cornerOfPatch) 2 hts gX3_heldCornersOf_X7_cornerOfPatch_n53 rfl rfl rfl (hK.2 _ (List.mem_of_getElem? (i := 4) rfl)) (hts (.initialized RX7) (by decide +kernel)) (by decide +kernel) ⟨Nat.le_of_ble_eq_true rfl, Nat.le_of_ble_eq_true rfl⟩, hts (.static yX7_cornerOfPatch) (by decide +kernel), trivial⟩ ⟨PR.blind, PR.go hPc hK⟩ rfl rfl hl.1 rfl (lv_room (Nat.le_of_ble_eq_true rfl)) dX3_heldCornersOf_16 ⟨Nat.le_of_ble_eq_true rfl, Nat.le_of_ble_eq_true rfl⟩) ?_
        have hbd_16 : cp p j < 20 := cp_lt (by omega) (by omega)
        refine gn_iald hx hb hKa hP 4 0 rfl rfl (k := cp p j) (by omega) (by omega) dX3_heldCornersOf_19 ?_
        refine W.eq (g2 := F0 mi 20 ls [.int ((HA G) (cp p j)), .int u]) rfl ?_
        refine lv_iadd hx hb dX3_heldCornersOf_20 ?_
        refine lv_istore_n (lv' := [(2, .int (u + ((HA G) (cp p j)))), (3, .int (nI j)), (0, .ref a), (1, .int (nI p))]) hx hb dX3_heldCornersOf_21 rfl hl (by decide) rfl (fun ls hl => ?_)
        refine gn_iinc (lv' := [(3, .int (nI (j + 1))), (2, .int (u + ((HA G) (cp p j)))), (0, .ref a), (1, .int (nI p))]) hx hb dX3_heldCornersOf_22 hl (k := 1) rfl (by decide) rfl (fun ls hl => ?_)
        refine lv_goto (tgt := 4) hx hb dX3_heldCornersOf_25 (by decide) ?_
        exact ih4 (j + 1) (u + ((HA G) (cp p j))) (show (j + 1) ≤ 4 from by first | omega | assumption | rfl) (show (u + ((HA G) (cp p j))) = sumI (fun k => HA G (cp p k)) (j + 1) from by rw [hu]; rfl) (by first | omega | assumption) _ (lv_sub hl [1, 0, 2, 3] rfl)
  exact L4 ((4 - 0) + 1) 0 (nI 0) (show 0 ≤ 4 from by first | omega | assumption | rfl) (show (nI 0) = sumI (fun k => HA G (cp p k)) 0 from rfl) (Nat.lt_succ_self _) _ (lv_sub hl [1, 0, 2, 3] rfl)
abbrev rmX3_isFolded : Room := { frames := 3, cells := 0, slots := 0, locals := 66 }
set_option maxRecDepth 20000 in
theorem iw_X3_isFolded_X3 : ∀ w ∈ u_ws RX3 TX3 5, w ∈ wsX3_isFolded := by decide +kernel
set_option maxHeartbeats 4000000 in
set_option maxRecDepth 100000 in
theorem c_X3_isFolded (l : Launch) (D : va_G) (cI cC cQ : ClassId) (a a1 a2 a3 a4 a5 : Nat) (G : Nat → Nat → Int32) (p : Nat) (hp : p < 12) : Met l yX3_isFolded wsX3_isFolded rmX3_isFolded (PR D cI cC cQ [.ref a, .int (nI p)] [(a, .inr (3, [.ref a1, .ref a2, .ref a3, .ref a4, .ref a5])), (a1, .inl (cI, 20, .inl (XA G))), (a2, .inl (cI, 20, .inl (YA G))), (a3, .inl (cI, 60, .inl (PA G))), (a4, .inl (cI, 20, .inl (HA G))), (a5, .inl (cI, 120, .inl (SA G)))]) (vp_Si (fun z => BB (foldB G p = true) z)) 0 0 (fun _ => False) := by
  refine metR (cc := cX3_isFolded) (maxL := 7) (ret := (some .boolean)) (by decide) rfl (Nat.le_of_ble_eq_true rfl) ?_
  intro pg ev s mi args below meth cd ls Q hQ hx hb hml hr hts hown hlk hK hP hl
  have hKa := hK.1
  have hl : lv_has ls 7 [(0, .ref a), (1, .int (nI p))] := hl
  refine lv_iconst (v := nI 0) hx hb dX3_isFolded_0 (by decide) ?_
  refine lv_istore_n (lv' := [(2, .int (nI 0)), (0, .ref a), (1, .int (nI p))]) hx hb dX3_isFolded_1 rfl hl (by decide) rfl (fun ls hl => ?_)
  have L2 : ∀ (nn : Nat) (j : Nat) (hj : j ≤ 4) (hu : ∀ t, t < j → ¬ turnI G p t ≤ 0) (_ : 4 - j < nn) (ls : Array Slot) (_ : lv_has ls 7 [(2, .int (nI j)), (0, .ref a), (1, .int (nI p))]), W pg l ev (headSpec wsX3_isFolded rmX3_isFolded).room s mi args below meth cd s.heap [] 0 0 Q (F0 mi 2 ls []) := by
    intro nn
    induction nn with
    | zero =>
      intro j hj hu hmeas
      exact absurd hmeas (Nat.not_lt_zero _)
    | succ nn ih2 =>
      intro j hj hu hmeas  ls hl
      refine lv_iload_n hx hb dX3_isFolded_2 rfl (lv_at hl 0 rfl) ?_
      refine lv_iconst (v := nI 4) hx hb dX3_isFolded_3 (by decide) ?_
      refine gn_icmp_ge hx hb (by omega) (by decide) (tgt := 107) dX3_isFolded_4 (by decide) (fun c_4 => ?_) (fun c_4 => ?_)
      · refine lv_iconst (v := nI 0) hx hb dX3_isFolded_107 (by decide) ?_
        exact rtR_z hQ hx hb hr hlk dX3_isFolded_108 (by decide +kernel) (Or.inr ⟨foldB_f (fun t ht => hu t (by omega)), rfl⟩)
      · refine lv_iload_n hx hb dX3_isFolded_7 rfl (lv_at hl 2 rfl) ?_
        refine lv_iload_n hx hb dX3_isFolded_8 rfl (lv_at hl 0 rfl) ?_
        have hPc := hP.sub (ws' := []) [] rfl
        refine clRe (E := nI (ca p j)) (va_runSN (As := [.int (nI p), .int (nI j)]) (rest := []) ⟨hx, hb, hml, hown, hts⟩ (c_X7_cornerAround l D cI cC cQ p j (by first | assumption | omega) (by first | assumption | omega)) ⟨va_cnB (rm := rmX7_cornerAround) 2 hts gX3_isFolded_X7_cornerAround_n63 rfl rfl rfl (hK.2 _ (List.mem_of_getElem? (i := 1) rfl)) (hts (.initialized RX7) (by decide +kernel)) (by decide +kernel) ⟨Nat.le_of_ble_eq_true rfl, Nat.le_of_ble_eq_true rfl⟩, hts (.static yX7_cornerAround) (by decide +kernel), trivial⟩ ⟨PR.blind, PR.go hPc hK⟩ rfl rfl hl.1 rfl (lv_room (Nat.le_of_ble_eq_true rfl)) dX3_isFolded_9 ⟨Nat.le_of_ble_eq_true rfl, Nat.le_of_ble_eq_true rfl⟩) ?_
        have hbd_9 : ca p j < 20 := ca_lt (by omega)
        refine lv_istore_n (lv' := [(3, .int (nI (ca p j))), (2, .int (nI j)), (0, .ref a), (1, .int (nI p))]) hx hb dX3_isFolded_12 rfl hl (by decide) rfl (fun ls hl => ?_)
        refine lv_iload_n hx hb dX3_isFolded_13 rfl (lv_at hl 3 rfl) ?_
        refine lv_iload_n hx hb dX3_isFolded_14 rfl (lv_at hl 1 rfl) ?_
        refine lv_iconst (v := nI 1) hx hb dX3_isFolded_15 (by decide) ?_
        refine gn_add hx hb dX3_isFolded_16 ?_
        have hPc := hP.sub (ws' := []) [] rfl
        refine clRe (E := nI (ca p (j + 1))) (va_runSN (As := [.int (nI p), .int (nI (j + 1))]) (rest := []) ⟨hx, hb, hml, hown, hts⟩ (c_X7_cornerAround l D cI cC cQ p (j + 1) (by first | assumption | omega) (by first | assumption | omega)) ⟨va_cnB (rm := rmX7_cornerAround) 2 hts gX3_isFolded_X7_cornerAround_n63 rfl rfl rfl (hK.2 _ (List.mem_of_getElem? (i := 1) rfl)) (hts (.initialized RX7) (by decide +kernel)) (by decide +kernel) ⟨Nat.le_of_ble_eq_true rfl, Nat.le_of_ble_eq_true rfl⟩, hts (.static yX7_cornerAround) (by decide +kernel), trivial⟩ ⟨PR.blind, PR.go hPc hK⟩ rfl rfl hl.1 rfl (lv_room (Nat.le_of_ble_eq_true rfl)) dX3_isFolded_17 ⟨Nat.le_of_ble_eq_true rfl, Nat.le_of_ble_eq_true rfl⟩) ?_
        have hbd_17 : ca p (j + 1) < 20 := ca_lt (by omega)
        refine lv_istore (lv' := [(4, .int (nI (ca p (j + 1)))), (3, .int (nI (ca p j))), (2, .int (nI j)), (0, .ref a), (1, .int (nI p))]) hx hb dX3_isFolded_20 hl (by decide) rfl (fun ls hl => ?_)
        refine lv_iload_n hx hb dX3_isFolded_22 rfl (lv_at hl 4 rfl) ?_
        refine lv_iload_n hx hb dX3_isFolded_23 rfl (lv_at hl 2 rfl) ?_
        refine lv_iconst (v := nI 2) hx hb dX3_isFolded_24 (by decide) ?_
        refine gn_add hx hb dX3_isFolded_25 ?_
        have hPc := hP.sub (ws' := []) [] rfl
        refine clRe (E := nI (ca p (j + 2))) (va_runSN (As := [.int (nI p), .int (nI (j + 2))]) (rest := []) ⟨hx, hb, hml, hown, hts⟩ (c_X7_cornerAround l D cI cC cQ p (j + 2) (by first | assumption | omega) (by first | assumption | omega)) ⟨va_cnB (rm := rmX7_cornerAround) 2 hts gX3_isFolded_X7_cornerAround_n63 rfl rfl rfl (hK.2 _ (List.mem_of_getElem? (i := 1) rfl)) (hts (.initialized RX7) (by decide +kernel)) (by decide +kernel) ⟨Nat.le_of_ble_eq_true rfl, Nat.le_of_ble_eq_true rfl⟩, hts (.static yX7_cornerAround) (by decide +kernel), trivial⟩ ⟨PR.blind, PR.go hPc hK⟩ rfl rfl hl.1 rfl (lv_room (Nat.le_of_ble_eq_true rfl)) dX3_isFolded_26 ⟨Nat.le_of_ble_eq_true rfl, Nat.le_of_ble_eq_true rfl⟩) ?_
        have hbd_26 : ca p (j + 2) < 20 := ca_lt (by omega)
        refine lv_istore (lv' := [(5, .int (nI (ca p (j + 2)))), (4, .int (nI (ca p (j + 1)))), (3, .int (nI (ca p j))), (2, .int (nI j)), (0, .ref a), (1, .int (nI p))]) hx hb dX3_isFolded_29 hl (by decide) rfl (fun ls hl => ?_)
        refine lv_aload_n hx hb dX3_isFolded_31 rfl (lv_at hl 4 rfl) ?_
        refine va_get (D := D) (ci := 3) (v := .ref a1) (C := RX3) (T := TX3) (N := 5) hx hb hts iw_X3_isFolded_X3 hown hKa hP 0 rfl rfl 0 (by decide) (hts (.fieldLink RX3 9 "ColourPatches$Mesh" "xs" "[I") (by decide +kernel)) (fun _ h9 => h9) rfl dX3_isFolded_32 ?_
        refine lv_iload hx hb dX3_isFolded_35 (lv_at hl 1 rfl) ?_
        refine gn_iald hx hb hKa hP 1 0 rfl rfl (k := ca p (j + 1)) (by omega) (by omega) dX3_isFolded_37 ?_
        refine W.eq (g2 := F0 mi 38 ls [.int ((XA G) (ca p (j + 1)))]) rfl ?_
        refine lv_aload_n hx hb dX3_isFolded_38 rfl (lv_at hl 4 rfl) ?_
        refine va_get (D := D) (ci := 3) (v := .ref a1) (C := RX3) (T := TX3) (N := 5) hx hb hts iw_X3_isFolded_X3 hown hKa hP 0 rfl rfl 0 (by decide) (hts (.fieldLink RX3 9 "ColourPatches$Mesh" "xs" "[I") (by decide +kernel)) (fun _ h9 => h9) rfl dX3_isFolded_39 ?_
        refine lv_iload_n hx hb dX3_isFolded_42 rfl (lv_at hl 2 rfl) ?_
        refine gn_iald hx hb hKa hP 1 0 rfl rfl (k := ca p j) (by omega) (by omega) dX3_isFolded_43 ?_
        refine W.eq (g2 := F0 mi 44 ls [.int ((XA G) (ca p j)), .int ((XA G) (ca p (j + 1)))]) rfl ?_
        refine lv_isub hx hb dX3_isFolded_44 ?_
        refine lv_aload_n hx hb dX3_isFolded_45 rfl (lv_at hl 4 rfl) ?_
        refine va_get (D := D) (ci := 3) (v := .ref a2) (C := RX3) (T := TX3) (N := 5) hx hb hts iw_X3_isFolded_X3 hown hKa hP 0 rfl rfl 1 (by decide) (hts (.fieldLink RX3 15 "ColourPatches$Mesh" "ys" "[I") (by decide +kernel)) (fun _ h9 => h9) rfl dX3_isFolded_46 ?_
        refine lv_iload hx hb dX3_isFolded_49 (lv_at hl 0 rfl) ?_
        refine gn_iald hx hb hKa hP 2 0 rfl rfl (k := ca p (j + 2)) (by omega) (by omega) dX3_isFolded_51 ?_
        refine W.eq (g2 := F0 mi 52 ls [.int ((YA G) (ca p (j + 2))), .int (((XA G) (ca p (j + 1))) - ((XA G) (ca p j)))]) rfl ?_
        refine lv_aload_n hx hb dX3_isFolded_52 rfl (lv_at hl 4 rfl) ?_
        refine va_get (D := D) (ci := 3) (v := .ref a2) (C := RX3) (T := TX3) (N := 5) hx hb hts iw_X3_isFolded_X3 hown hKa hP 0 rfl rfl 1 (by decide) (hts (.fieldLink RX3 15 "ColourPatches$Mesh" "ys" "[I") (by decide +kernel)) (fun _ h9 => h9) rfl dX3_isFolded_53 ?_
        refine lv_iload hx hb dX3_isFolded_56 (lv_at hl 1 rfl) ?_
        refine gn_iald hx hb hKa hP 2 0 rfl rfl (k := ca p (j + 1)) (by omega) (by omega) dX3_isFolded_58 ?_
        refine W.eq (g2 := F0 mi 59 ls [.int ((YA G) (ca p (j + 1))), .int ((YA G) (ca p (j + 2))), .int (((XA G) (ca p (j + 1))) - ((XA G) (ca p j)))]) rfl ?_
        refine lv_isub hx hb dX3_isFolded_59 ?_
        refine lv_imul hx hb dX3_isFolded_60 ?_
        refine lv_aload_n hx hb dX3_isFolded_61 rfl (lv_at hl 4 rfl) ?_
        refine va_get (D := D) (ci := 3) (v := .ref a2) (C := RX3) (T := TX3) (N := 5) hx hb hts iw_X3_isFolded_X3 hown hKa hP 0 rfl rfl 1 (by decide) (hts (.fieldLink RX3 15 "ColourPatches$Mesh" "ys" "[I") (by decide +kernel)) (fun _ h9 => h9) rfl dX3_isFolded_62 ?_
        refine lv_iload hx hb dX3_isFolded_65 (lv_at hl 1 rfl) ?_
        refine gn_iald hx hb hKa hP 2 0 rfl rfl (k := ca p (j + 1)) (by omega) (by omega) dX3_isFolded_67 ?_
        refine W.eq (g2 := F0 mi 68 ls [.int ((YA G) (ca p (j + 1))), .int ((((XA G) (ca p (j + 1))) - ((XA G) (ca p j))) * (((YA G) (ca p (j + 2))) - ((YA G) (ca p (j + 1)))))]) rfl ?_
        refine lv_aload_n hx hb dX3_isFolded_68 rfl (lv_at hl 4 rfl) ?_
        refine va_get (D := D) (ci := 3) (v := .ref a2) (C := RX3) (T := TX3) (N := 5) hx hb hts iw_X3_isFolded_X3 hown hKa hP 0 rfl rfl 1 (by decide) (hts (.fieldLink RX3 15 "ColourPatches$Mesh" "ys" "[I") (by decide +kernel)) (fun _ h9 => h9) rfl dX3_isFolded_69 ?_
        refine lv_iload_n hx hb dX3_isFolded_72 rfl (lv_at hl 2 rfl) ?_
        refine gn_iald hx hb hKa hP 2 0 rfl rfl (k := ca p j) (by omega) (by omega) dX3_isFolded_73 ?_
        refine W.eq (g2 := F0 mi 74 ls [.int ((YA G) (ca p j)), .int ((YA G) (ca p (j + 1))), .int ((((XA G) (ca p (j + 1))) - ((XA G) (ca p j))) * (((YA G) (ca p (j + 2))) - ((YA G) (ca p (j + 1)))))]) rfl ?_
        refine lv_isub hx hb dX3_isFolded_74 ?_
        refine lv_aload_n hx hb dX3_isFolded_75 rfl (lv_at hl 4 rfl) ?_
        refine va_get (D := D) (ci := 3) (v := .ref a1) (C := RX3) (T := TX3) (N := 5) hx hb hts iw_X3_isFolded_X3 hown hKa hP 0 rfl rfl 0 (by decide) (hts (.fieldLink RX3 9 "ColourPatches$Mesh" "xs" "[I") (by decide +kernel)) (fun _ h9 => h9) rfl dX3_isFolded_76 ?_
        refine lv_iload hx hb dX3_isFolded_79 (lv_at hl 0 rfl) ?_
        refine gn_iald hx hb hKa hP 1 0 rfl rfl (k := ca p (j + 2)) (by omega) (by omega) dX3_isFolded_81 ?_
        refine W.eq (g2 := F0 mi 82 ls [.int ((XA G) (ca p (j + 2))), .int (((YA G) (ca p (j + 1))) - ((YA G) (ca p j))), .int ((((XA G) (ca p (j + 1))) - ((XA G) (ca p j))) * (((YA G) (ca p (j + 2))) - ((YA G) (ca p (j + 1)))))]) rfl ?_
        refine lv_aload_n hx hb dX3_isFolded_82 rfl (lv_at hl 4 rfl) ?_
        refine va_get (D := D) (ci := 3) (v := .ref a1) (C := RX3) (T := TX3) (N := 5) hx hb hts iw_X3_isFolded_X3 hown hKa hP 0 rfl rfl 0 (by decide) (hts (.fieldLink RX3 9 "ColourPatches$Mesh" "xs" "[I") (by decide +kernel)) (fun _ h9 => h9) rfl dX3_isFolded_83 ?_
        refine lv_iload hx hb dX3_isFolded_86 (lv_at hl 1 rfl) ?_
        refine gn_iald hx hb hKa hP 1 0 rfl rfl (k := ca p (j + 1)) (by omega) (by omega) dX3_isFolded_88 ?_
        refine W.eq (g2 := F0 mi 89 ls [.int ((XA G) (ca p (j + 1))), .int ((XA G) (ca p (j + 2))), .int (((YA G) (ca p (j + 1))) - ((YA G) (ca p j))), .int ((((XA G) (ca p (j + 1))) - ((XA G) (ca p j))) * (((YA G) (ca p (j + 2))) - ((YA G) (ca p (j + 1)))))]) rfl ?_
        refine lv_isub hx hb dX3_isFolded_89 ?_
        refine lv_imul hx hb dX3_isFolded_90 ?_
        refine lv_isub hx hb dX3_isFolded_91 ?_
        refine lv_istore (lv' := [(6, .int (((((XA G) (ca p (j + 1))) - ((XA G) (ca p j))) * (((YA G) (ca p (j + 2))) - ((YA G) (ca p (j + 1))))) - ((((YA G) (ca p (j + 1))) - ((YA G) (ca p j))) * (((XA G) (ca p (j + 2))) - ((XA G) (ca p (j + 1))))))), (5, .int (nI (ca p (j + 2)))), (4, .int (nI (ca p (j + 1)))), (3, .int (nI (ca p j))), (2, .int (nI j)), (0, .ref a), (1, .int (nI p))]) hx hb dX3_isFolded_92 hl (by decide) rfl (fun ls hl => ?_)
        refine lv_iload hx hb dX3_isFolded_94 (lv_at hl 0 rfl) ?_
        refine lv_if_gt hx hb (tgt := 101) dX3_isFolded_96 (by decide) (fun c_96 => ?_) (fun c_96 => ?_)
        · refine gn_iinc (lv' := [(2, .int (nI (j + 1))), (6, .int (((((XA G) (ca p (j + 1))) - ((XA G) (ca p j))) * (((YA G) (ca p (j + 2))) - ((YA G) (ca p (j + 1))))) - ((((YA G) (ca p (j + 1))) - ((YA G) (ca p j))) * (((XA G) (ca p (j + 2))) - ((XA G) (ca p (j + 1))))))), (5, .int (nI (ca p (j + 2)))), (4, .int (nI (ca p (j + 1)))), (3, .int (nI (ca p j))), (0, .ref a), (1, .int (nI p))]) hx hb dX3_isFolded_101 hl (k := 4) rfl (by decide) rfl (fun ls hl => ?_)
          refine lv_goto (tgt := 2) hx hb dX3_isFolded_104 (by decide) ?_
          exact ih2 (j + 1) (show (j + 1) ≤ 4 from by first | omega | assumption | rfl) (show ∀ t, t < (j + 1) → ¬ turnI G p t ≤ 0 from lt_s hu (Int32.not_le.mpr c_96)) (by first | omega | assumption) _ (lv_sub hl [0, 5, 6] rfl)
        · refine lv_iconst (v := nI 1) hx hb dX3_isFolded_99 (by decide) ?_
          exact rtR_z hQ hx hb hr hlk dX3_isFolded_100 (by decide +kernel) (Or.inl ⟨foldB_t (t := j) (by omega) (Int32.not_lt.mp c_96), rfl⟩)
  exact L2 ((4 - 0) + 1) 0 (show 0 ≤ 4 from by first | omega | assumption | rfl) (show ∀ t, t < 0 → ¬ turnI G p t ≤ 0 from fun t ht => absurd ht (Nat.not_lt_zero t)) (Nat.lt_succ_self _) _ (lv_sub hl [0, 1, 2] rfl)
abbrev rmX3_foldedPatches : Room := { frames := 4, cells := 0, slots := 0, locals := 92 }
set_option maxHeartbeats 4000000 in
set_option maxRecDepth 100000 in
theorem c_X3_foldedPatches (l : Launch) (D : va_G) (cI cC cQ : ClassId) (a a1 a2 a3 a4 a5 : Nat) (G : Nat → Nat → Int32) : Met l yX3_foldedPatches wsX3_foldedPatches rmX3_foldedPatches (PR D cI cC cQ [.ref a] [(a, .inr (3, [.ref a1, .ref a2, .ref a3, .ref a4, .ref a5])), (a1, .inl (cI, 20, .inl (XA G))), (a2, .inl (cI, 20, .inl (YA G))), (a3, .inl (cI, 60, .inl (PA G))), (a4, .inl (cI, 20, .inl (HA G))), (a5, .inl (cI, 120, .inl (SA G)))]) (vp_Si (fun z => z = nI (sumN (foldN G) 12))) 0 0 (fun _ => False) := by
  refine metR (cc := cX3_foldedPatches) (maxL := 3) (ret := (some .int)) (by decide) rfl (Nat.le_of_ble_eq_true rfl) ?_
  intro pg ev s mi args below meth cd ls Q hQ hx hb hml hr hts hown hlk hK hP hl
  have hKa := hK.1
  have hl : lv_has ls 3 [(0, .ref a)] := hl
  refine lv_iconst (v := nI 0) hx hb dX3_foldedPatches_0 (by decide) ?_
  refine lv_istore_n (lv' := [(1, .int (nI 0)), (0, .ref a)]) hx hb dX3_foldedPatches_1 rfl hl (by decide) rfl (fun ls hl => ?_)
  refine lv_iconst (v := nI 0) hx hb dX3_foldedPatches_2 (by decide) ?_
  refine lv_istore_n (lv' := [(2, .int (nI 0)), (1, .int (nI 0)), (0, .ref a)]) hx hb dX3_foldedPatches_3 rfl hl (by decide) rfl (fun ls hl => ?_)
  have L4 : ∀ (nn : Nat) (j : Nat) (u : Nat) (hj : j ≤ 12) (hu : u = sumN (foldN G) j) (_ : 12 - j < nn) (ls : Array Slot) (_ : lv_has ls 3 [(1, .int (nI u)), (2, .int (nI j)), (0, .ref a)]), W pg l ev (headSpec wsX3_foldedPatches rmX3_foldedPatches).room s mi args below meth cd s.heap [] 0 0 Q (F0 mi 4 ls []) := by
    intro nn
    induction nn with
    | zero =>
      intro j u hj hu hmeas
      exact absurd hmeas (Nat.not_lt_zero _)
    | succ nn ih4 =>
      intro j u hj hu hmeas  ls hl
      refine lv_iload_n hx hb dX3_foldedPatches_4 rfl (lv_at hl 1 rfl) ?_
      refine lv_bipush (v := nI 12) hx hb dX3_foldedPatches_5 (by decide) ?_
      refine gn_icmp_ge hx hb (by omega) (by decide) (tgt := 27) dX3_foldedPatches_7 (by decide) (fun c_7 => ?_) (fun c_7 => ?_)
      · refine lv_iload_n hx hb dX3_foldedPatches_27 rfl (lv_at hl 0 rfl) ?_
        exact rtR_i hQ hx hb hr hlk dX3_foldedPatches_28 (by rw [hu, show j = 12 by omega])
      · refine lv_aload_n hx hb dX3_foldedPatches_10 rfl (lv_at hl 2 rfl) ?_
        refine lv_iload_n hx hb dX3_foldedPatches_11 rfl (lv_at hl 1 rfl) ?_
        have hPc := hP.sub (ws' := [(a, .inr (3, [.ref a1, .ref a2, .ref a3, .ref a4, .ref a5])), (a1, .inl (cI, 20, .inl (XA G))), (a2, .inl (cI, 20, .inl (YA G))), (a3, .inl (cI, 60, .inl (PA G))), (a4, .inl (cI, 20, .inl (HA G))), (a5, .inl (cI, 120, .inl (SA G)))]) [0, 1, 2, 3, 4, 5] rfl
        refine clR (va_runV (As := [.int (nI j)]) (rest := []) ⟨hx, hb, hml, hown, hts⟩ (c_X3_isFolded l D cI cC cQ a a1 a2 a3 a4 a5 G j (by first | assumption | omega)) (cwV (rm := rmX3_isFolded) 1 hts gX3_foldedPatches_X3_isFolded rfl rfl rfl (by decide +kernel) ⟨Nat.le_of_ble_eq_true rfl, Nat.le_of_ble_eq_true rfl⟩) ⟨PR.blind, va_recv hKa hPc (ci := 3) (q0 := 0) rfl rfl, PR.go hPc hK⟩ rfl rfl hl.1 rfl (lv_room (Nat.le_of_ble_eq_true rfl)) dX3_foldedPatches_12 ⟨Nat.le_of_ble_eq_true rfl, Nat.le_of_ble_eq_true rfl⟩) (fun r_12 h_12 => ?_)
        rcases h_12 with ⟨b_12, rfl⟩ | ⟨b_12, rfl⟩
        · refine gn_if_eq hx hb (by decide) (tgt := 21) dX3_foldedPatches_15 (by decide) (fun cq => absurd cq (by decide)) (fun cq => ?_)
          refine gn_iinc (lv' := [(1, .int (nI (u + 1))), (2, .int (nI j)), (0, .ref a)]) hx hb dX3_foldedPatches_18 hl (k := 0) rfl (by decide) rfl (fun ls hl => ?_)
          refine gn_iinc (lv' := [(2, .int (nI (j + 1))), (1, .int (nI (u + 1))), (0, .ref a)]) hx hb dX3_foldedPatches_21 hl (k := 1) rfl (by decide) rfl (fun ls hl => ?_)
          refine lv_goto (tgt := 4) hx hb dX3_foldedPatches_24 (by decide) ?_
          exact ih4 (j + 1) (u + 1) (show (j + 1) ≤ 12 from by first | omega | assumption | rfl) (show (u + 1) = sumN (foldN G) (j + 1) from by rw [hu]; show _ = _ + foldN G j; rw [foldN, if_pos b_12]) (by first | omega | assumption) _ (lv_sub hl [1, 0, 2] rfl)
        · refine gn_if_eq hx hb (by decide) (tgt := 21) dX3_foldedPatches_15 (by decide) (fun cq => ?_) (fun cq => absurd cq (by decide))
          refine gn_iinc (lv' := [(2, .int (nI (j + 1))), (1, .int (nI u)), (0, .ref a)]) hx hb dX3_foldedPatches_21 hl (k := 1) rfl (by decide) rfl (fun ls hl => ?_)
          refine lv_goto (tgt := 4) hx hb dX3_foldedPatches_24 (by decide) ?_
          exact ih4 (j + 1) u (show (j + 1) ≤ 12 from by first | omega | assumption | rfl) (show u = sumN (foldN G) (j + 1) from by rw [hu]; show _ = _ + foldN G j; rw [foldN, if_neg b_12]; rfl) (by first | omega | assumption) _ (lv_sub hl [1, 0, 2] rfl)
  exact L4 ((12 - 0) + 1) 0 0 (show 0 ≤ 12 from by first | omega | assumption | rfl) (show 0 = sumN (foldN G) 0 from rfl) (Nat.lt_succ_self _) _ (lv_sub hl [1, 0, 2] rfl)
abbrev rmX3_doubleArea : Room := { frames := 3, cells := 0, slots := 0, locals := 66 }
set_option maxRecDepth 20000 in
theorem iw_X3_doubleArea_X3 : ∀ w ∈ u_ws RX3 TX3 5, w ∈ wsX3_doubleArea := by decide +kernel
set_option maxHeartbeats 4000000 in
set_option maxRecDepth 100000 in
theorem c_X3_doubleArea (l : Launch) (D : va_G) (cI cC cQ : ClassId) (a a1 a2 a3 a4 a5 : Nat) (G : Nat → Nat → Int32) (p : Nat) (hp : p < 12) : Met l yX3_doubleArea wsX3_doubleArea rmX3_doubleArea (PR D cI cC cQ [.ref a, .int (nI p)] [(a, .inr (3, [.ref a1, .ref a2, .ref a3, .ref a4, .ref a5])), (a1, .inl (cI, 20, .inl (XA G))), (a2, .inl (cI, 20, .inl (YA G))), (a3, .inl (cI, 60, .inl (PA G))), (a4, .inl (cI, 20, .inl (HA G))), (a5, .inl (cI, 120, .inl (SA G)))]) (vp_Si (fun z => z = absI (sumI (areaT G p) 4))) 0 0 (fun _ => False) := by
  refine metR (cc := cX3_doubleArea) (maxL := 6) (ret := (some .int)) (by decide) rfl (Nat.le_of_ble_eq_true rfl) ?_
  intro pg ev s mi args below meth cd ls Q hQ hx hb hml hr hts hown hlk hK hP hl
  have hKa := hK.1
  have hl : lv_has ls 6 [(0, .ref a), (1, .int (nI p))] := hl
  refine lv_iconst (v := nI 0) hx hb dX3_doubleArea_0 (by decide) ?_
  refine lv_istore_n (lv' := [(2, .int (nI 0)), (0, .ref a), (1, .int (nI p))]) hx hb dX3_doubleArea_1 rfl hl (by decide) rfl (fun ls hl => ?_)
  refine lv_iconst (v := nI 0) hx hb dX3_doubleArea_2 (by decide) ?_
  refine lv_istore_n (lv' := [(3, .int (nI 0)), (2, .int (nI 0)), (0, .ref a), (1, .int (nI p))]) hx hb dX3_doubleArea_3 rfl hl (by decide) rfl (fun ls hl => ?_)
  have L4 : ∀ (nn : Nat) (j : Nat) (u : Int32) (hj : j ≤ 4) (hu : u = sumI (areaT G p) j) (_ : 4 - j < nn) (ls : Array Slot) (_ : lv_has ls 6 [(2, .int u), (3, .int (nI j)), (0, .ref a), (1, .int (nI p))]), W pg l ev (headSpec wsX3_doubleArea rmX3_doubleArea).room s mi args below meth cd s.heap [] 0 0 Q (F0 mi 4 ls []) := by
    intro nn
    induction nn with
    | zero =>
      intro j u hj hu hmeas
      exact absurd hmeas (Nat.not_lt_zero _)
    | succ nn ih4 =>
      intro j u hj hu hmeas  ls hl
      refine lv_iload_n hx hb dX3_doubleArea_4 rfl (lv_at hl 1 rfl) ?_
      refine lv_iconst (v := nI 4) hx hb dX3_doubleArea_5 (by decide) ?_
      refine gn_icmp_ge hx hb (by omega) (by decide) (tgt := 65) dX3_doubleArea_6 (by decide) (fun c_6 => ?_) (fun c_6 => ?_)
      · refine lv_iload_n hx hb dX3_doubleArea_65 rfl (lv_at hl 0 rfl) ?_
        refine va_mabs hx hb (hml.trans hl.1.symm) hown (hts (.methodLink RX3 70 Lib.Math.abs.name) (by decide +kernel)) (hts (.static Lib.Math.abs.name) (by decide +kernel)) (hts (.initialized "java/lang/Math") (by decide +kernel)) (hts (.code Lib.Math.abs.name Lib.Math.abs.code 1 (some .int)) (by decide +kernel)) (Nat.le_of_ble_eq_true rfl) (Nat.le_of_ble_eq_true rfl) (Nat.zero_le _) (Nat.zero_le _) dX3_doubleArea_66 ?_
        exact rtR_i hQ hx hb hr hlk dX3_doubleArea_69 (by rw [hu, show j = 4 by omega]; rfl)
      · refine lv_iload_n hx hb dX3_doubleArea_9 rfl (lv_at hl 3 rfl) ?_
        refine lv_iload_n hx hb dX3_doubleArea_10 rfl (lv_at hl 1 rfl) ?_
        have hPc := hP.sub (ws' := []) [] rfl
        refine clRe (E := nI (ca p j)) (va_runSN (As := [.int (nI p), .int (nI j)]) (rest := []) ⟨hx, hb, hml, hown, hts⟩ (c_X7_cornerAround l D cI cC cQ p j (by first | assumption | omega) (by first | assumption | omega)) ⟨va_cnB (rm := rmX7_cornerAround) 2 hts gX3_doubleArea_X7_cornerAround_n63 rfl rfl rfl (hK.2 _ (List.mem_of_getElem? (i := 1) rfl)) (hts (.initialized RX7) (by decide +kernel)) (by decide +kernel) ⟨Nat.le_of_ble_eq_true rfl, Nat.le_of_ble_eq_true rfl⟩, hts (.static yX7_cornerAround) (by decide +kernel), trivial⟩ ⟨PR.blind, PR.go hPc hK⟩ rfl rfl hl.1 rfl (lv_room (Nat.le_of_ble_eq_true rfl)) dX3_doubleArea_11 ⟨Nat.le_of_ble_eq_true rfl, Nat.le_of_ble_eq_true rfl⟩) ?_
        have hbd_11 : ca p j < 20 := ca_lt (by omega)
        refine lv_istore (lv' := [(4, .int (nI (ca p j))), (2, .int u), (3, .int (nI j)), (0, .ref a), (1, .int (nI p))]) hx hb dX3_doubleArea_14 hl (by decide) rfl (fun ls hl => ?_)
        refine lv_iload_n hx hb dX3_doubleArea_16 rfl (lv_at hl 4 rfl) ?_
        refine lv_iload_n hx hb dX3_doubleArea_17 rfl (lv_at hl 2 rfl) ?_
        refine lv_iconst (v := nI 1) hx hb dX3_doubleArea_18 (by decide) ?_
        refine gn_add hx hb dX3_doubleArea_19 ?_
        have hPc := hP.sub (ws' := []) [] rfl
        refine clRe (E := nI (ca p (j + 1))) (va_runSN (As := [.int (nI p), .int (nI (j + 1))]) (rest := []) ⟨hx, hb, hml, hown, hts⟩ (c_X7_cornerAround l D cI cC cQ p (j + 1) (by first | assumption | omega) (by first | assumption | omega)) ⟨va_cnB (rm := rmX7_cornerAround) 2 hts gX3_doubleArea_X7_cornerAround_n63 rfl rfl rfl (hK.2 _ (List.mem_of_getElem? (i := 1) rfl)) (hts (.initialized RX7) (by decide +kernel)) (by decide +kernel) ⟨Nat.le_of_ble_eq_true rfl, Nat.le_of_ble_eq_true rfl⟩, hts (.static yX7_cornerAround) (by decide +kernel), trivial⟩ ⟨PR.blind, PR.go hPc hK⟩ rfl rfl hl.1 rfl (lv_room (Nat.le_of_ble_eq_true rfl)) dX3_doubleArea_20 ⟨Nat.le_of_ble_eq_true rfl, Nat.le_of_ble_eq_true rfl⟩) ?_
        have hbd_20 : ca p (j + 1) < 20 := ca_lt (by omega)
        refine lv_istore (lv' := [(5, .int (nI (ca p (j + 1)))), (4, .int (nI (ca p j))), (2, .int u), (3, .int (nI j)), (0, .ref a), (1, .int (nI p))]) hx hb dX3_doubleArea_23 hl (by decide) rfl (fun ls hl => ?_)
        refine lv_iload_n hx hb dX3_doubleArea_25 rfl (lv_at hl 2 rfl) ?_
        refine lv_aload_n hx hb dX3_doubleArea_26 rfl (lv_at hl 4 rfl) ?_
        refine va_get (D := D) (ci := 3) (v := .ref a1) (C := RX3) (T := TX3) (N := 5) hx hb hts iw_X3_doubleArea_X3 hown hKa hP 0 rfl rfl 0 (by decide) (hts (.fieldLink RX3 9 "ColourPatches$Mesh" "xs" "[I") (by decide +kernel)) (fun _ h9 => h9) rfl dX3_doubleArea_27 ?_
        refine lv_iload hx hb dX3_doubleArea_30 (lv_at hl 1 rfl) ?_
        refine gn_iald hx hb hKa hP 1 0 rfl rfl (k := ca p j) (by omega) (by omega) dX3_doubleArea_32 ?_
        refine W.eq (g2 := F0 mi 33 ls [.int ((XA G) (ca p j)), .int u]) rfl ?_
        refine lv_aload_n hx hb dX3_doubleArea_33 rfl (lv_at hl 4 rfl) ?_
        refine va_get (D := D) (ci := 3) (v := .ref a2) (C := RX3) (T := TX3) (N := 5) hx hb hts iw_X3_doubleArea_X3 hown hKa hP 0 rfl rfl 1 (by decide) (hts (.fieldLink RX3 15 "ColourPatches$Mesh" "ys" "[I") (by decide +kernel)) (fun _ h9 => h9) rfl dX3_doubleArea_34 ?_
        refine lv_iload hx hb dX3_doubleArea_37 (lv_at hl 0 rfl) ?_
        refine gn_iald hx hb hKa hP 2 0 rfl rfl (k := ca p (j + 1)) (by omega) (by omega) dX3_doubleArea_39 ?_
        refine W.eq (g2 := F0 mi 40 ls [.int ((YA G) (ca p (j + 1))), .int ((XA G) (ca p j)), .int u]) rfl ?_
        refine lv_imul hx hb dX3_doubleArea_40 ?_
        refine lv_aload_n hx hb dX3_doubleArea_41 rfl (lv_at hl 4 rfl) ?_
        refine va_get (D := D) (ci := 3) (v := .ref a1) (C := RX3) (T := TX3) (N := 5) hx hb hts iw_X3_doubleArea_X3 hown hKa hP 0 rfl rfl 0 (by decide) (hts (.fieldLink RX3 9 "ColourPatches$Mesh" "xs" "[I") (by decide +kernel)) (fun _ h9 => h9) rfl dX3_doubleArea_42 ?_
        refine lv_iload hx hb dX3_doubleArea_45 (lv_at hl 0 rfl) ?_
        refine gn_iald hx hb hKa hP 1 0 rfl rfl (k := ca p (j + 1)) (by omega) (by omega) dX3_doubleArea_47 ?_
        refine W.eq (g2 := F0 mi 48 ls [.int ((XA G) (ca p (j + 1))), .int (((XA G) (ca p j)) * ((YA G) (ca p (j + 1)))), .int u]) rfl ?_
        refine lv_aload_n hx hb dX3_doubleArea_48 rfl (lv_at hl 4 rfl) ?_
        refine va_get (D := D) (ci := 3) (v := .ref a2) (C := RX3) (T := TX3) (N := 5) hx hb hts iw_X3_doubleArea_X3 hown hKa hP 0 rfl rfl 1 (by decide) (hts (.fieldLink RX3 15 "ColourPatches$Mesh" "ys" "[I") (by decide +kernel)) (fun _ h9 => h9) rfl dX3_doubleArea_49 ?_
        refine lv_iload hx hb dX3_doubleArea_52 (lv_at hl 1 rfl) ?_
        refine gn_iald hx hb hKa hP 2 0 rfl rfl (k := ca p j) (by omega) (by omega) dX3_doubleArea_54 ?_
        refine W.eq (g2 := F0 mi 55 ls [.int ((YA G) (ca p j)), .int ((XA G) (ca p (j + 1))), .int (((XA G) (ca p j)) * ((YA G) (ca p (j + 1)))), .int u]) rfl ?_
        refine lv_imul hx hb dX3_doubleArea_55 ?_
        refine lv_isub hx hb dX3_doubleArea_56 ?_
        refine lv_iadd hx hb dX3_doubleArea_57 ?_
        refine lv_istore_n (lv' := [(2, .int (u + ((((XA G) (ca p j)) * ((YA G) (ca p (j + 1)))) - (((XA G) (ca p (j + 1))) * ((YA G) (ca p j)))))), (5, .int (nI (ca p (j + 1)))), (4, .int (nI (ca p j))), (3, .int (nI j)), (0, .ref a), (1, .int (nI p))]) hx hb dX3_doubleArea_58 rfl hl (by decide) rfl (fun ls hl => ?_)
        refine gn_iinc (lv' := [(3, .int (nI (j + 1))), (2, .int (u + ((((XA G) (ca p j)) * ((YA G) (ca p (j + 1)))) - (((XA G) (ca p (j + 1))) * ((YA G) (ca p j)))))), (5, .int (nI (ca p (j + 1)))), (4, .int (nI (ca p j))), (0, .ref a), (1, .int (nI p))]) hx hb dX3_doubleArea_59 hl (k := 3) rfl (by decide) rfl (fun ls hl => ?_)
        refine lv_goto (tgt := 4) hx hb dX3_doubleArea_62 (by decide) ?_
        exact ih4 (j + 1) (u + ((((XA G) (ca p j)) * ((YA G) (ca p (j + 1)))) - (((XA G) (ca p (j + 1))) * ((YA G) (ca p j))))) (show (j + 1) ≤ 4 from by first | omega | assumption | rfl) (show (u + ((((XA G) (ca p j)) * ((YA G) (ca p (j + 1)))) - (((XA G) (ca p (j + 1))) * ((YA G) (ca p j))))) = sumI (areaT G p) (j + 1) from by rw [hu]; rfl) (by first | omega | assumption) _ (lv_sub hl [1, 0, 4, 5] rfl)
  exact L4 ((4 - 0) + 1) 0 (nI 0) (show 0 ≤ 4 from by first | omega | assumption | rfl) (show (nI 0) = sumI (areaT G p) 0 from rfl) (Nat.lt_succ_self _) _ (lv_sub hl [1, 0, 2, 3] rfl)
abbrev rmX7_placeOfPoint : Room := { frames := 2, cells := 0, slots := 0, locals := 44 }
set_option maxHeartbeats 4000000 in
set_option maxRecDepth 100000 in
theorem c_X7_placeOfPoint (l : Launch) (D : va_G) (cI cC cQ : ClassId) (b : Nat) (f : Nat → Int32) (p u v : Nat) (hp : p < 12) (hu : u < 9) (hv : v < 9) : Met l yX7_placeOfPoint wsX7_placeOfPoint rmX7_placeOfPoint (PR D cI cC cQ [.ref b, .int (nI p), .int (nI u), .int (nI v)] [(b, .inl (cI, 20, .inl f))]) (vp_Si (fun z => z = plc f p u v)) 0 0 (fun _ => False) := by
  refine metR (cc := cX7_placeOfPoint) (maxL := 8) (ret := (some .int)) (by decide) rfl (Nat.le_of_ble_eq_true rfl) ?_
  intro pg ev s mi args below meth cd ls Q hQ hx hb hml hr hts hown hlk hK hP hl
  have hKa := hK.1
  have hl : lv_has ls 8 [(0, .ref b), (1, .int (nI p)), (2, .int (nI u)), (3, .int (nI v))] := hl
  refine lv_iconst (v := nI 0) hx hb dX7_placeOfPoint_0 (by decide) ?_
  refine lv_istore (lv' := [(4, .int (nI 0)), (0, .ref b), (1, .int (nI p)), (2, .int (nI u)), (3, .int (nI v))]) hx hb dX7_placeOfPoint_1 hl (by decide) rfl (fun ls hl => ?_)
  refine lv_iconst (v := nI 0) hx hb dX7_placeOfPoint_3 (by decide) ?_
  refine lv_istore (lv' := [(5, .int (nI 0)), (4, .int (nI 0)), (0, .ref b), (1, .int (nI p)), (2, .int (nI u)), (3, .int (nI v))]) hx hb dX7_placeOfPoint_4 hl (by decide) rfl (fun ls hl => ?_)
  have L6 : ∀ (nn : Nat) (j : Nat) (w : Int32) (hj : j ≤ 4) (hw : w = sumI (fun k => f (cp p k) * wx (k % 2) u * wx (k / 2) v) j) (_ : 4 - j < nn) (ls : Array Slot) (_ : lv_has ls 8 [(4, .int w), (5, .int (nI j)), (0, .ref b), (1, .int (nI p)), (2, .int (nI u)), (3, .int (nI v))]), W pg l ev (headSpec wsX7_placeOfPoint rmX7_placeOfPoint).room s mi args below meth cd s.heap [] 0 0 Q (F0 mi 6 ls []) := by
    intro nn
    induction nn with
    | zero =>
      intro j w hj hw hmeas
      exact absurd hmeas (Nat.not_lt_zero _)
    | succ nn ih6 =>
      intro j w hj hw hmeas  ls hl
      refine lv_iload hx hb dX7_placeOfPoint_6 (lv_at hl 1 rfl) ?_
      refine lv_iconst (v := nI 4) hx hb dX7_placeOfPoint_8 (by decide) ?_
      refine gn_icmp_ge hx hb (by omega) (by decide) (tgt := 71) dX7_placeOfPoint_9 (by decide) (fun c_9 => ?_) (fun c_9 => ?_)
      · refine lv_iload hx hb dX7_placeOfPoint_71 (lv_at hl 0 rfl) ?_
        refine lv_bipush (v := nI 64) hx hb dX7_placeOfPoint_73 (by decide) ?_
        refine lv_idiv hx hb dX7_placeOfPoint_75 (by decide) ?_
        exact rtR_i hQ hx hb hr hlk dX7_placeOfPoint_76 (by rw [hw, show j = 4 by omega]; rfl)
      · refine lv_iload hx hb dX7_placeOfPoint_12 (lv_at hl 1 rfl) ?_
        refine lv_iconst (v := nI 2) hx hb dX7_placeOfPoint_14 (by decide) ?_
        refine gn_rem hx hb (by omega) (by omega) (by omega) dX7_placeOfPoint_15 ?_
        refine gn_if_ne hx hb (by omega) (tgt := 26) dX7_placeOfPoint_16 (by decide) (fun c_16 => ?_) (fun c_16 => ?_)
        · refine lv_iload_n hx hb dX7_placeOfPoint_26 rfl (lv_at hl 4 rfl) ?_
          refine lv_istore (lv' := [(6, .int (nI u)), (4, .int w), (5, .int (nI j)), (0, .ref b), (1, .int (nI p)), (2, .int (nI u)), (3, .int (nI v))]) hx hb dX7_placeOfPoint_27 hl (by decide) rfl (fun ls hl => ?_)
          refine lv_iload hx hb dX7_placeOfPoint_29 (lv_at hl 2 rfl) ?_
          refine lv_iconst (v := nI 2) hx hb dX7_placeOfPoint_31 (by decide) ?_
          refine gn_div hx hb (by omega) (by omega) (by omega) dX7_placeOfPoint_32 ?_
          refine gn_if_ne hx hb (by omega) (tgt := 43) dX7_placeOfPoint_33 (by decide) (fun c_33 => ?_) (fun c_33 => ?_)
          · refine lv_iload_n hx hb dX7_placeOfPoint_43 rfl (lv_at hl 6 rfl) ?_
            refine lv_istore (lv' := [(7, .int (nI v)), (6, .int (nI u)), (4, .int w), (5, .int (nI j)), (0, .ref b), (1, .int (nI p)), (2, .int (nI u)), (3, .int (nI v))]) hx hb dX7_placeOfPoint_44 hl (by decide) rfl (fun ls hl => ?_)
            refine lv_iload hx hb dX7_placeOfPoint_46 (lv_at hl 2 rfl) ?_
            refine lv_aload_n hx hb dX7_placeOfPoint_48 rfl (lv_at hl 4 rfl) ?_
            refine lv_iload_n hx hb dX7_placeOfPoint_49 rfl (lv_at hl 5 rfl) ?_
            refine lv_iload hx hb dX7_placeOfPoint_50 (lv_at hl 3 rfl) ?_
            have hPc := hP.sub (ws' := []) [] rfl
            refine clRe (E := nI (cp p j)) (va_runS (As := [.int (nI p), .int (nI j)]) (rest := [.ref b, .int w]) ⟨hx, hb, hml, hown, hts⟩ (c_X7_cornerOfPatch l D cI cC cQ p j (by first | assumption | omega) (by first | assumption | omega)) (va_cwS (rm := rmX7_cornerOfPatch) 2 hts gX7_placeOfPoint_X7_cornerOfPatch rfl rfl rfl (by decide +kernel) ⟨Nat.le_of_ble_eq_true rfl, Nat.le_of_ble_eq_true rfl⟩) ⟨PR.blind, PR.go hPc hK⟩ rfl rfl hl.1 rfl (lv_room (Nat.le_of_ble_eq_true rfl)) dX7_placeOfPoint_52 ⟨Nat.le_of_ble_eq_true rfl, Nat.le_of_ble_eq_true rfl⟩) ?_
            have hbd_52 : cp p j < 20 := cp_lt (by omega) (by omega)
            refine gn_iald hx hb hKa hP 0 0 rfl rfl (k := cp p j) (by omega) (by omega) dX7_placeOfPoint_55 ?_
            refine lv_iload hx hb dX7_placeOfPoint_56 (lv_at hl 1 rfl) ?_
            refine lv_imul hx hb dX7_placeOfPoint_58 ?_
            refine lv_iload hx hb dX7_placeOfPoint_59 (lv_at hl 0 rfl) ?_
            refine lv_imul hx hb dX7_placeOfPoint_61 ?_
            refine lv_iadd hx hb dX7_placeOfPoint_62 ?_
            refine lv_istore (lv' := [(4, .int (w + (((f (cp p j)) * (nI u)) * (nI v)))), (7, .int (nI v)), (6, .int (nI u)), (5, .int (nI j)), (0, .ref b), (1, .int (nI p)), (2, .int (nI u)), (3, .int (nI v))]) hx hb dX7_placeOfPoint_63 hl (by decide) rfl (fun ls hl => ?_)
            refine gn_iinc (lv' := [(5, .int (nI (j + 1))), (4, .int (w + (((f (cp p j)) * (nI u)) * (nI v)))), (7, .int (nI v)), (6, .int (nI u)), (0, .ref b), (1, .int (nI p)), (2, .int (nI u)), (3, .int (nI v))]) hx hb dX7_placeOfPoint_65 hl (k := 3) rfl (by decide) rfl (fun ls hl => ?_)
            refine lv_goto (tgt := 6) hx hb dX7_placeOfPoint_68 (by decide) ?_
            exact ih6 (j + 1) (w + (((f (cp p j)) * (nI u)) * (nI v))) (show (j + 1) ≤ 4 from by first | omega | assumption | rfl) (show (w + (((f (cp p j)) * (nI u)) * (nI v))) = sumI (fun k => f (cp p k) * wx (k % 2) u * wx (k / 2) v) (j + 1) from by rw [hw]; show _ = _ + f (cp p j) * wx (j % 2) u * wx (j / 2) v; simp only [wx]; rw [if_neg c_16, if_neg c_33]) (by first | omega | assumption) _ (lv_sub hl [1, 0, 4, 5, 6, 7] rfl)
          · refine lv_bipush (v := nI 8) hx hb dX7_placeOfPoint_36 (by decide) ?_
            refine lv_iload_n hx hb dX7_placeOfPoint_38 rfl (lv_at hl 6 rfl) ?_
            refine gn_sub hx hb (by omega) dX7_placeOfPoint_39 ?_
            refine lv_goto (tgt := 44) hx hb dX7_placeOfPoint_40 (by decide) ?_
            refine lv_istore (lv' := [(7, .int (nI (8 - v))), (6, .int (nI u)), (4, .int w), (5, .int (nI j)), (0, .ref b), (1, .int (nI p)), (2, .int (nI u)), (3, .int (nI v))]) hx hb dX7_placeOfPoint_44 hl (by decide) rfl (fun ls hl => ?_)
            refine lv_iload hx hb dX7_placeOfPoint_46 (lv_at hl 2 rfl) ?_
            refine lv_aload_n hx hb dX7_placeOfPoint_48 rfl (lv_at hl 4 rfl) ?_
            refine lv_iload_n hx hb dX7_placeOfPoint_49 rfl (lv_at hl 5 rfl) ?_
            refine lv_iload hx hb dX7_placeOfPoint_50 (lv_at hl 3 rfl) ?_
            have hPc := hP.sub (ws' := []) [] rfl
            refine clRe (E := nI (cp p j)) (va_runS (As := [.int (nI p), .int (nI j)]) (rest := [.ref b, .int w]) ⟨hx, hb, hml, hown, hts⟩ (c_X7_cornerOfPatch l D cI cC cQ p j (by first | assumption | omega) (by first | assumption | omega)) (va_cwS (rm := rmX7_cornerOfPatch) 2 hts gX7_placeOfPoint_X7_cornerOfPatch rfl rfl rfl (by decide +kernel) ⟨Nat.le_of_ble_eq_true rfl, Nat.le_of_ble_eq_true rfl⟩) ⟨PR.blind, PR.go hPc hK⟩ rfl rfl hl.1 rfl (lv_room (Nat.le_of_ble_eq_true rfl)) dX7_placeOfPoint_52 ⟨Nat.le_of_ble_eq_true rfl, Nat.le_of_ble_eq_true rfl⟩) ?_
            have hbd_52 : cp p j < 20 := cp_lt (by omega) (by omega)
            refine gn_iald hx hb hKa hP 0 0 rfl rfl (k := cp p j) (by omega) (by omega) dX7_placeOfPoint_55 ?_
            refine lv_iload hx hb dX7_placeOfPoint_56 (lv_at hl 1 rfl) ?_
            refine lv_imul hx hb dX7_placeOfPoint_58 ?_
            refine lv_iload hx hb dX7_placeOfPoint_59 (lv_at hl 0 rfl) ?_
            refine lv_imul hx hb dX7_placeOfPoint_61 ?_
            refine lv_iadd hx hb dX7_placeOfPoint_62 ?_
            refine lv_istore (lv' := [(4, .int (w + (((f (cp p j)) * (nI u)) * (nI (8 - v))))), (7, .int (nI (8 - v))), (6, .int (nI u)), (5, .int (nI j)), (0, .ref b), (1, .int (nI p)), (2, .int (nI u)), (3, .int (nI v))]) hx hb dX7_placeOfPoint_63 hl (by decide) rfl (fun ls hl => ?_)
            refine gn_iinc (lv' := [(5, .int (nI (j + 1))), (4, .int (w + (((f (cp p j)) * (nI u)) * (nI (8 - v))))), (7, .int (nI (8 - v))), (6, .int (nI u)), (0, .ref b), (1, .int (nI p)), (2, .int (nI u)), (3, .int (nI v))]) hx hb dX7_placeOfPoint_65 hl (k := 3) rfl (by decide) rfl (fun ls hl => ?_)
            refine lv_goto (tgt := 6) hx hb dX7_placeOfPoint_68 (by decide) ?_
            exact ih6 (j + 1) (w + (((f (cp p j)) * (nI u)) * (nI (8 - v)))) (show (j + 1) ≤ 4 from by first | omega | assumption | rfl) (show (w + (((f (cp p j)) * (nI u)) * (nI (8 - v)))) = sumI (fun k => f (cp p k) * wx (k % 2) u * wx (k / 2) v) (j + 1) from by rw [hw]; show _ = _ + f (cp p j) * wx (j % 2) u * wx (j / 2) v; simp only [wx]; rw [if_neg c_16, if_pos c_33]) (by first | omega | assumption) _ (lv_sub hl [1, 0, 4, 5, 6, 7] rfl)
        · refine lv_bipush (v := nI 8) hx hb dX7_placeOfPoint_19 (by decide) ?_
          refine lv_iload_n hx hb dX7_placeOfPoint_21 rfl (lv_at hl 4 rfl) ?_
          refine gn_sub hx hb (by omega) dX7_placeOfPoint_22 ?_
          refine lv_goto (tgt := 27) hx hb dX7_placeOfPoint_23 (by decide) ?_
          refine lv_istore (lv' := [(6, .int (nI (8 - u))), (4, .int w), (5, .int (nI j)), (0, .ref b), (1, .int (nI p)), (2, .int (nI u)), (3, .int (nI v))]) hx hb dX7_placeOfPoint_27 hl (by decide) rfl (fun ls hl => ?_)
          refine lv_iload hx hb dX7_placeOfPoint_29 (lv_at hl 2 rfl) ?_
          refine lv_iconst (v := nI 2) hx hb dX7_placeOfPoint_31 (by decide) ?_
          refine gn_div hx hb (by omega) (by omega) (by omega) dX7_placeOfPoint_32 ?_
          refine gn_if_ne hx hb (by omega) (tgt := 43) dX7_placeOfPoint_33 (by decide) (fun c_33 => ?_) (fun c_33 => ?_)
          · refine lv_iload_n hx hb dX7_placeOfPoint_43 rfl (lv_at hl 6 rfl) ?_
            refine lv_istore (lv' := [(7, .int (nI v)), (6, .int (nI (8 - u))), (4, .int w), (5, .int (nI j)), (0, .ref b), (1, .int (nI p)), (2, .int (nI u)), (3, .int (nI v))]) hx hb dX7_placeOfPoint_44 hl (by decide) rfl (fun ls hl => ?_)
            refine lv_iload hx hb dX7_placeOfPoint_46 (lv_at hl 2 rfl) ?_
            refine lv_aload_n hx hb dX7_placeOfPoint_48 rfl (lv_at hl 4 rfl) ?_
            refine lv_iload_n hx hb dX7_placeOfPoint_49 rfl (lv_at hl 5 rfl) ?_
            refine lv_iload hx hb dX7_placeOfPoint_50 (lv_at hl 3 rfl) ?_
            have hPc := hP.sub (ws' := []) [] rfl
            refine clRe (E := nI (cp p j)) (va_runS (As := [.int (nI p), .int (nI j)]) (rest := [.ref b, .int w]) ⟨hx, hb, hml, hown, hts⟩ (c_X7_cornerOfPatch l D cI cC cQ p j (by first | assumption | omega) (by first | assumption | omega)) (va_cwS (rm := rmX7_cornerOfPatch) 2 hts gX7_placeOfPoint_X7_cornerOfPatch rfl rfl rfl (by decide +kernel) ⟨Nat.le_of_ble_eq_true rfl, Nat.le_of_ble_eq_true rfl⟩) ⟨PR.blind, PR.go hPc hK⟩ rfl rfl hl.1 rfl (lv_room (Nat.le_of_ble_eq_true rfl)) dX7_placeOfPoint_52 ⟨Nat.le_of_ble_eq_true rfl, Nat.le_of_ble_eq_true rfl⟩) ?_
            have hbd_52 : cp p j < 20 := cp_lt (by omega) (by omega)
            refine gn_iald hx hb hKa hP 0 0 rfl rfl (k := cp p j) (by omega) (by omega) dX7_placeOfPoint_55 ?_
            refine lv_iload hx hb dX7_placeOfPoint_56 (lv_at hl 1 rfl) ?_
            refine lv_imul hx hb dX7_placeOfPoint_58 ?_
            refine lv_iload hx hb dX7_placeOfPoint_59 (lv_at hl 0 rfl) ?_
            refine lv_imul hx hb dX7_placeOfPoint_61 ?_
            refine lv_iadd hx hb dX7_placeOfPoint_62 ?_
            refine lv_istore (lv' := [(4, .int (w + (((f (cp p j)) * (nI (8 - u))) * (nI v)))), (7, .int (nI v)), (6, .int (nI (8 - u))), (5, .int (nI j)), (0, .ref b), (1, .int (nI p)), (2, .int (nI u)), (3, .int (nI v))]) hx hb dX7_placeOfPoint_63 hl (by decide) rfl (fun ls hl => ?_)
            refine gn_iinc (lv' := [(5, .int (nI (j + 1))), (4, .int (w + (((f (cp p j)) * (nI (8 - u))) * (nI v)))), (7, .int (nI v)), (6, .int (nI (8 - u))), (0, .ref b), (1, .int (nI p)), (2, .int (nI u)), (3, .int (nI v))]) hx hb dX7_placeOfPoint_65 hl (k := 3) rfl (by decide) rfl (fun ls hl => ?_)
            refine lv_goto (tgt := 6) hx hb dX7_placeOfPoint_68 (by decide) ?_
            exact ih6 (j + 1) (w + (((f (cp p j)) * (nI (8 - u))) * (nI v))) (show (j + 1) ≤ 4 from by first | omega | assumption | rfl) (show (w + (((f (cp p j)) * (nI (8 - u))) * (nI v))) = sumI (fun k => f (cp p k) * wx (k % 2) u * wx (k / 2) v) (j + 1) from by rw [hw]; show _ = _ + f (cp p j) * wx (j % 2) u * wx (j / 2) v; simp only [wx]; rw [if_pos c_16, if_neg c_33]) (by first | omega | assumption) _ (lv_sub hl [1, 0, 4, 5, 6, 7] rfl)
          · refine lv_bipush (v := nI 8) hx hb dX7_placeOfPoint_36 (by decide) ?_
            refine lv_iload_n hx hb dX7_placeOfPoint_38 rfl (lv_at hl 6 rfl) ?_
            refine gn_sub hx hb (by omega) dX7_placeOfPoint_39 ?_
            refine lv_goto (tgt := 44) hx hb dX7_placeOfPoint_40 (by decide) ?_
            refine lv_istore (lv' := [(7, .int (nI (8 - v))), (6, .int (nI (8 - u))), (4, .int w), (5, .int (nI j)), (0, .ref b), (1, .int (nI p)), (2, .int (nI u)), (3, .int (nI v))]) hx hb dX7_placeOfPoint_44 hl (by decide) rfl (fun ls hl => ?_)
            refine lv_iload hx hb dX7_placeOfPoint_46 (lv_at hl 2 rfl) ?_
            refine lv_aload_n hx hb dX7_placeOfPoint_48 rfl (lv_at hl 4 rfl) ?_
            refine lv_iload_n hx hb dX7_placeOfPoint_49 rfl (lv_at hl 5 rfl) ?_
            refine lv_iload hx hb dX7_placeOfPoint_50 (lv_at hl 3 rfl) ?_
            have hPc := hP.sub (ws' := []) [] rfl
            refine clRe (E := nI (cp p j)) (va_runS (As := [.int (nI p), .int (nI j)]) (rest := [.ref b, .int w]) ⟨hx, hb, hml, hown, hts⟩ (c_X7_cornerOfPatch l D cI cC cQ p j (by first | assumption | omega) (by first | assumption | omega)) (va_cwS (rm := rmX7_cornerOfPatch) 2 hts gX7_placeOfPoint_X7_cornerOfPatch rfl rfl rfl (by decide +kernel) ⟨Nat.le_of_ble_eq_true rfl, Nat.le_of_ble_eq_true rfl⟩) ⟨PR.blind, PR.go hPc hK⟩ rfl rfl hl.1 rfl (lv_room (Nat.le_of_ble_eq_true rfl)) dX7_placeOfPoint_52 ⟨Nat.le_of_ble_eq_true rfl, Nat.le_of_ble_eq_true rfl⟩) ?_
            have hbd_52 : cp p j < 20 := cp_lt (by omega) (by omega)
            refine gn_iald hx hb hKa hP 0 0 rfl rfl (k := cp p j) (by omega) (by omega) dX7_placeOfPoint_55 ?_
            refine lv_iload hx hb dX7_placeOfPoint_56 (lv_at hl 1 rfl) ?_
            refine lv_imul hx hb dX7_placeOfPoint_58 ?_
            refine lv_iload hx hb dX7_placeOfPoint_59 (lv_at hl 0 rfl) ?_
            refine lv_imul hx hb dX7_placeOfPoint_61 ?_
            refine lv_iadd hx hb dX7_placeOfPoint_62 ?_
            refine lv_istore (lv' := [(4, .int (w + (((f (cp p j)) * (nI (8 - u))) * (nI (8 - v))))), (7, .int (nI (8 - v))), (6, .int (nI (8 - u))), (5, .int (nI j)), (0, .ref b), (1, .int (nI p)), (2, .int (nI u)), (3, .int (nI v))]) hx hb dX7_placeOfPoint_63 hl (by decide) rfl (fun ls hl => ?_)
            refine gn_iinc (lv' := [(5, .int (nI (j + 1))), (4, .int (w + (((f (cp p j)) * (nI (8 - u))) * (nI (8 - v))))), (7, .int (nI (8 - v))), (6, .int (nI (8 - u))), (0, .ref b), (1, .int (nI p)), (2, .int (nI u)), (3, .int (nI v))]) hx hb dX7_placeOfPoint_65 hl (k := 3) rfl (by decide) rfl (fun ls hl => ?_)
            refine lv_goto (tgt := 6) hx hb dX7_placeOfPoint_68 (by decide) ?_
            exact ih6 (j + 1) (w + (((f (cp p j)) * (nI (8 - u))) * (nI (8 - v)))) (show (j + 1) ≤ 4 from by first | omega | assumption | rfl) (show (w + (((f (cp p j)) * (nI (8 - u))) * (nI (8 - v)))) = sumI (fun k => f (cp p k) * wx (k % 2) u * wx (k / 2) v) (j + 1) from by rw [hw]; show _ = _ + f (cp p j) * wx (j % 2) u * wx (j / 2) v; simp only [wx]; rw [if_pos c_16, if_pos c_33]) (by first | omega | assumption) _ (lv_sub hl [1, 0, 4, 5, 6, 7] rfl)
  exact L6 ((4 - 0) + 1) 0 (nI 0) (show 0 ≤ 4 from by first | omega | assumption | rfl) (show (nI 0) = sumI (fun k => f (cp p k) * wx (k % 2) u * wx (k / 2) v) 0 from rfl) (Nat.lt_succ_self _) _ (lv_sub hl [1, 0, 2, 3, 4, 5] rfl)
abbrev rmX7_packedColour : Room := { frames := 0, cells := 0, slots := 0, locals := 0 }
set_option maxHeartbeats 4000000 in
set_option maxRecDepth 100000 in
theorem c_X7_packedColour (l : Launch) (D : va_G) (cI cC cQ : ClassId) (a b c : Int32) (ha : inR 0 255 a) (hb2 : inR 0 255 b) (hc : inR 0 255 c) : Met l yX7_packedColour wsX7_packedColour rmX7_packedColour (PR D cI cC cQ [.int a, .int b, .int c] []) (vp_Si (fun z => z = pk3 a b c)) 0 0 (fun _ => False) := by
  refine metR (cc := cX7_packedColour) (maxL := 3) (ret := (some .int)) (by decide) rfl (Nat.le_of_ble_eq_true rfl) ?_
  intro pg ev s mi args below meth cd ls Q hQ hx hb hml hr hts hown hlk hK hP hl
  have hKa := hK.1
  have hl : lv_has ls 3 [(0, .int a), (1, .int b), (2, .int c)] := hl
  refine lv_iload_n hx hb dX7_packedColour_0 rfl (lv_at hl 0 rfl) ?_
  refine lv_bipush (v := nI 16) hx hb dX7_packedColour_1 (by decide) ?_
  refine lv_ishl hx hb dX7_packedColour_3 ?_
  refine lv_iload_n hx hb dX7_packedColour_4 rfl (lv_at hl 1 rfl) ?_
  refine lv_bipush (v := nI 8) hx hb dX7_packedColour_5 (by decide) ?_
  refine lv_ishl hx hb dX7_packedColour_7 ?_
  refine lv_ior hx hb dX7_packedColour_8 ?_
  refine lv_iload_n hx hb dX7_packedColour_9 rfl (lv_at hl 2 rfl) ?_
  refine lv_ior hx hb dX7_packedColour_10 ?_
  exact rtR_i hQ hx hb hr hlk dX7_packedColour_11 (pk3_bits ha hb2 hc)
abbrev rmX7_standsAhead : Room := { frames := 0, cells := 0, slots := 0, locals := 0 }
set_option maxHeartbeats 4000000 in
set_option maxRecDepth 100000 in
theorem c_X7_standsAhead (l : Launch) (D : va_G) (cI cC cQ : ClassId) (b n : Nat) (f : Nat → Int32) (t : Nat) (hn : n < 1000) (ht : t < n) : Met l yX7_standsAhead wsX7_standsAhead rmX7_standsAhead (PR D cI cC cQ [.ref b, .int (nI t)] [(b, .inl (cI, n, .inl f))]) (vp_Si (fun z => BB (nwB f t = false) z)) 0 0 (fun _ => False) := by
  refine metR (cc := cX7_standsAhead) (maxL := 3) (ret := (some .boolean)) (by decide) rfl (Nat.le_of_ble_eq_true rfl) ?_
  intro pg ev s mi args below meth cd ls Q hQ hx hb hml hr hts hown hlk hK hP hl
  have hKa := hK.1
  have hl : lv_has ls 3 [(0, .ref b), (1, .int (nI t))] := hl
  refine lv_iconst (v := nI 0) hx hb dX7_standsAhead_0 (by decide) ?_
  refine lv_istore_n (lv' := [(2, .int (nI 0)), (0, .ref b), (1, .int (nI t))]) hx hb dX7_standsAhead_1 rfl hl (by decide) rfl (fun ls hl => ?_)
  have L2 : ∀ (nn : Nat) (j : Nat) (hj : j ≤ t) (hu : ∀ i, i < j → f i ≠ f t) (_ : t - j < nn) (ls : Array Slot) (_ : lv_has ls 3 [(2, .int (nI j)), (0, .ref b), (1, .int (nI t))]), W pg l ev (headSpec wsX7_standsAhead rmX7_standsAhead).room s mi args below meth cd s.heap [] 0 0 Q (F0 mi 2 ls []) := by
    intro nn
    induction nn with
    | zero =>
      intro j hj hu hmeas
      exact absurd hmeas (Nat.not_lt_zero _)
    | succ nn ih2 =>
      intro j hj hu hmeas  ls hl
      refine lv_iload_n hx hb dX7_standsAhead_2 rfl (lv_at hl 0 rfl) ?_
      refine lv_iload_n hx hb dX7_standsAhead_3 rfl (lv_at hl 2 rfl) ?_
      refine gn_icmp_ge hx hb (by omega) (by omega) (tgt := 24) dX7_standsAhead_4 (by decide) (fun c_4 => ?_) (fun c_4 => ?_)
      · refine lv_iconst (v := nI 0) hx hb dX7_standsAhead_24 (by decide) ?_
        exact rtR_z hQ hx hb hr hlk dX7_standsAhead_25 (by decide +kernel) (Or.inr ⟨by rw [nwB_t (fun i hi => hu i (by omega))]; decide, rfl⟩)
      · refine lv_aload_n hx hb dX7_standsAhead_7 rfl (lv_at hl 1 rfl) ?_
        refine lv_iload_n hx hb dX7_standsAhead_8 rfl (lv_at hl 0 rfl) ?_
        refine gn_iald hx hb hKa hP 0 0 rfl rfl (k := j) (by omega) (by omega) dX7_standsAhead_9 ?_
        refine lv_aload_n hx hb dX7_standsAhead_10 rfl (lv_at hl 1 rfl) ?_
        refine lv_iload_n hx hb dX7_standsAhead_11 rfl (lv_at hl 2 rfl) ?_
        refine gn_iald hx hb hKa hP 0 0 rfl rfl (k := t) (by omega) (by omega) dX7_standsAhead_12 ?_
        refine lv_icmp_ne hx hb (tgt := 18) dX7_standsAhead_13 (by decide) (fun c_13 => ?_) (fun c_13 => ?_)
        · refine gn_iinc (lv' := [(2, .int (nI (j + 1))), (0, .ref b), (1, .int (nI t))]) hx hb dX7_standsAhead_18 hl (k := 0) rfl (by decide) rfl (fun ls hl => ?_)
          refine lv_goto (tgt := 2) hx hb dX7_standsAhead_21 (by decide) ?_
          exact ih2 (j + 1) (show (j + 1) ≤ t from by first | omega | assumption | rfl) (show ∀ i, i < (j + 1) → f i ≠ f t from lt_s hu c_13) (by first | omega | assumption) _ (lv_sub hl [0, 1, 2] rfl)
        · refine lv_iconst (v := nI 1) hx hb dX7_standsAhead_16 (by decide) ?_
          exact rtR_z hQ hx hb hr hlk dX7_standsAhead_17 (by decide +kernel) (Or.inl ⟨nwB_f (j := j) (by omega) c_13, rfl⟩)
  exact L2 ((t - 0) + 1) 0 (show 0 ≤ t from by first | omega | assumption | rfl) (show ∀ i, i < 0 → f i ≠ f t from fun i hi => absurd hi (Nat.not_lt_zero i)) (Nat.lt_succ_self _) _ (lv_sub hl [0, 1, 2] rfl)
abbrev rmX7_unlikeNumbers : Room := { frames := 1, cells := 0, slots := 0, locals := 22 }
set_option maxHeartbeats 4000000 in
set_option maxRecDepth 100000 in
theorem c_X7_unlikeNumbers (l : Launch) (D : va_G) (cI cC cQ : ClassId) (b n : Nat) (f : Nat → Int32) (hn : n < 1000) : Met l yX7_unlikeNumbers wsX7_unlikeNumbers rmX7_unlikeNumbers (PR D cI cC cQ [.ref b] [(b, .inl (cI, n, .inl f))]) (vp_Si (fun z => z = nI (sumN (nwN f) n))) 0 0 (fun _ => False) := by
  refine metR (cc := cX7_unlikeNumbers) (maxL := 3) (ret := (some .int)) (by decide) rfl (Nat.le_of_ble_eq_true rfl) ?_
  intro pg ev s mi args below meth cd ls Q hQ hx hb hml hr hts hown hlk hK hP hl
  have hKa := hK.1
  have hl : lv_has ls 3 [(0, .ref b)] := hl
  refine lv_iconst (v := nI 0) hx hb dX7_unlikeNumbers_0 (by decide) ?_
  refine lv_istore_n (lv' := [(1, .int (nI 0)), (0, .ref b)]) hx hb dX7_unlikeNumbers_1 rfl hl (by decide) rfl (fun ls hl => ?_)
  refine lv_iconst (v := nI 0) hx hb dX7_unlikeNumbers_2 (by decide) ?_
  refine lv_istore_n (lv' := [(2, .int (nI 0)), (1, .int (nI 0)), (0, .ref b)]) hx hb dX7_unlikeNumbers_3 rfl hl (by decide) rfl (fun ls hl => ?_)
  have L4 : ∀ (nn : Nat) (j : Nat) (u : Nat) (hj : j ≤ n) (hu : u = sumN (nwN f) j) (_ : n - j < nn) (ls : Array Slot) (_ : lv_has ls 3 [(1, .int (nI u)), (2, .int (nI j)), (0, .ref b)]), W pg l ev (headSpec wsX7_unlikeNumbers rmX7_unlikeNumbers).room s mi args below meth cd s.heap [] 0 0 Q (F0 mi 4 ls []) := by
    intro nn
    induction nn with
    | zero =>
      intro j u hj hu hmeas
      exact absurd hmeas (Nat.not_lt_zero _)
    | succ nn ih4 =>
      intro j u hj hu hmeas  ls hl
      refine lv_iload_n hx hb dX7_unlikeNumbers_4 rfl (lv_at hl 1 rfl) ?_
      refine lv_aload_n hx hb dX7_unlikeNumbers_5 rfl (lv_at hl 2 rfl) ?_
      refine va_alen (v := nI n) hx hb hKa hP 0 0 rfl rfl rfl dX7_unlikeNumbers_6 ?_
      refine gn_icmp_ge hx hb (by omega) (by omega) (tgt := 27) dX7_unlikeNumbers_7 (by decide) (fun c_7 => ?_) (fun c_7 => ?_)
      · refine lv_iload_n hx hb dX7_unlikeNumbers_27 rfl (lv_at hl 0 rfl) ?_
        exact rtR_i hQ hx hb hr hlk dX7_unlikeNumbers_28 (by rw [hu, show j = n by omega])
      · refine lv_aload_n hx hb dX7_unlikeNumbers_10 rfl (lv_at hl 2 rfl) ?_
        refine lv_iload_n hx hb dX7_unlikeNumbers_11 rfl (lv_at hl 1 rfl) ?_
        have hPc := hP.sub (ws' := [(b, .inl (cI, n, .inl f))]) [0] rfl
        refine clR (va_runS (As := [.ref b, .int (nI j)]) (rest := []) ⟨hx, hb, hml, hown, hts⟩ (c_X7_standsAhead l D cI cC cQ b n f j (by first | assumption | omega) (by first | assumption | omega)) (va_cwS (rm := rmX7_standsAhead) 2 hts gX7_unlikeNumbers_X7_standsAhead rfl rfl rfl (by decide +kernel) ⟨Nat.le_of_ble_eq_true rfl, Nat.le_of_ble_eq_true rfl⟩) ⟨PR.blind, PR.go hPc hK⟩ rfl rfl hl.1 rfl (lv_room (Nat.le_of_ble_eq_true rfl)) dX7_unlikeNumbers_12 ⟨Nat.le_of_ble_eq_true rfl, Nat.le_of_ble_eq_true rfl⟩) (fun r_12 h_12 => ?_)
        rcases h_12 with ⟨b_12, rfl⟩ | ⟨b_12, rfl⟩
        · refine gn_if_ne hx hb (by decide) (tgt := 21) dX7_unlikeNumbers_15 (by decide) (fun cq => ?_) (fun cq => absurd cq (by decide))
          refine gn_iinc (lv' := [(2, .int (nI (j + 1))), (1, .int (nI u)), (0, .ref b)]) hx hb dX7_unlikeNumbers_21 hl (k := 1) rfl (by decide) rfl (fun ls hl => ?_)
          refine lv_goto (tgt := 4) hx hb dX7_unlikeNumbers_24 (by decide) ?_
          exact ih4 (j + 1) u (show (j + 1) ≤ n from by first | omega | assumption | rfl) (show u = sumN (nwN f) (j + 1) from by rw [hu]; show _ = _ + nwN f j; rw [nwN, if_neg (by rw [b_12]; decide)]; rfl) (by first | omega | assumption) _ (lv_sub hl [1, 0, 2] rfl)
        · refine gn_if_ne hx hb (by decide) (tgt := 21) dX7_unlikeNumbers_15 (by decide) (fun cq => absurd cq (by decide)) (fun cq => ?_)
          refine gn_iinc (lv' := [(1, .int (nI (u + 1))), (2, .int (nI j)), (0, .ref b)]) hx hb dX7_unlikeNumbers_18 hl (k := 0) rfl (by decide) rfl (fun ls hl => ?_)
          refine gn_iinc (lv' := [(2, .int (nI (j + 1))), (1, .int (nI (u + 1))), (0, .ref b)]) hx hb dX7_unlikeNumbers_21 hl (k := 1) rfl (by decide) rfl (fun ls hl => ?_)
          refine lv_goto (tgt := 4) hx hb dX7_unlikeNumbers_24 (by decide) ?_
          exact ih4 (j + 1) (u + 1) (show (j + 1) ≤ n from by first | omega | assumption | rfl) (show (u + 1) = sumN (nwN f) (j + 1) from by rw [hu]; show _ = _ + nwN f j; rw [nwN, if_pos (Bool.not_eq_false _ ▸ b_12)]) (by first | omega | assumption) _ (lv_sub hl [1, 0, 2] rfl)
  exact L4 ((n - 0) + 1) 0 0 (show 0 ≤ n from by first | omega | assumption | rfl) (show 0 = sumN (nwN f) 0 from rfl) (Nat.lt_succ_self _) _ (lv_sub hl [1, 0, 2] rfl)
abbrev rmX0_partWeight : Room := { frames := 0, cells := 0, slots := 0, locals := 0 }
set_option maxHeartbeats 4000000 in
set_option maxRecDepth 100000 in
theorem c_X0_partWeight (l : Launch) (D : va_G) (cI cC cQ : ClassId) (t : Int32) (f : Nat) (hf : f < 2) : Met l yX0_partWeight wsX0_partWeight rmX0_partWeight (PR D cI cC cQ [.int t, .int (nI f)] []) (vp_Si (fun z => z = wP t f)) 0 0 (fun _ => False) := by
  refine metR (cc := cX0_partWeight) (maxL := 2) (ret := (some .int)) (by decide) rfl (Nat.le_of_ble_eq_true rfl) ?_
  intro pg ev s mi args below meth cd ls Q hQ hx hb hml hr hts hown hlk hK hP hl
  have hKa := hK.1
  have hl : lv_has ls 2 [(0, .int t), (1, .int (nI f))] := hl
  refine lv_iload_n hx hb dX0_partWeight_0 rfl (lv_at hl 1 rfl) ?_
  refine gn_if_ne hx hb (by omega) (tgt := 25) dX0_partWeight_1 (by decide) (fun c_1 => ?_) (fun c_1 => ?_)
  · refine lv_bipush (v := nI 24) hx hb dX0_partWeight_25 (by decide) ?_
    refine lv_iload_n hx hb dX0_partWeight_27 rfl (lv_at hl 0 rfl) ?_
    refine lv_imul hx hb dX0_partWeight_28 ?_
    refine lv_iload_n hx hb dX0_partWeight_29 rfl (lv_at hl 0 rfl) ?_
    refine lv_imul hx hb dX0_partWeight_30 ?_
    refine lv_iconst (v := nI 2) hx hb dX0_partWeight_31 (by decide) ?_
    refine lv_iload_n hx hb dX0_partWeight_32 rfl (lv_at hl 0 rfl) ?_
    refine lv_imul hx hb dX0_partWeight_33 ?_
    refine lv_iload_n hx hb dX0_partWeight_34 rfl (lv_at hl 0 rfl) ?_
    refine lv_imul hx hb dX0_partWeight_35 ?_
    refine lv_iload_n hx hb dX0_partWeight_36 rfl (lv_at hl 0 rfl) ?_
    refine lv_imul hx hb dX0_partWeight_37 ?_
    refine lv_isub hx hb dX0_partWeight_38 ?_
    exact rtR_i hQ hx hb hr hlk dX0_partWeight_39 (by unfold wP; rw [if_neg c_1])
  · refine lv_iconst (v := nI 2) hx hb dX0_partWeight_4 (by decide) ?_
    refine lv_iload_n hx hb dX0_partWeight_5 rfl (lv_at hl 0 rfl) ?_
    refine lv_imul hx hb dX0_partWeight_6 ?_
    refine lv_iload_n hx hb dX0_partWeight_7 rfl (lv_at hl 0 rfl) ?_
    refine lv_imul hx hb dX0_partWeight_8 ?_
    refine lv_iload_n hx hb dX0_partWeight_9 rfl (lv_at hl 0 rfl) ?_
    refine lv_imul hx hb dX0_partWeight_10 ?_
    refine lv_bipush (v := nI 24) hx hb dX0_partWeight_11 (by decide) ?_
    refine lv_iload_n hx hb dX0_partWeight_13 rfl (lv_at hl 0 rfl) ?_
    refine lv_imul hx hb dX0_partWeight_14 ?_
    refine lv_iload_n hx hb dX0_partWeight_15 rfl (lv_at hl 0 rfl) ?_
    refine lv_imul hx hb dX0_partWeight_16 ?_
    refine lv_isub hx hb dX0_partWeight_17 ?_
    refine lv_sipush (v := nI 512) hx hb dX0_partWeight_18 (by decide) ?_
    refine lv_iadd hx hb dX0_partWeight_21 ?_
    refine lv_goto (tgt := 39) hx hb dX0_partWeight_22 (by decide) ?_
    exact rtR_i hQ hx hb hr hlk dX0_partWeight_39 (by unfold wP; rw [if_pos c_1])
abbrev rmX0_slopeWeight : Room := { frames := 0, cells := 0, slots := 0, locals := 0 }
set_option maxHeartbeats 4000000 in
set_option maxRecDepth 100000 in
theorem c_X0_slopeWeight (l : Launch) (D : va_G) (cI cC cQ : ClassId) (t : Int32) (f : Nat) (hf : f < 2) : Met l yX0_slopeWeight wsX0_slopeWeight rmX0_slopeWeight (PR D cI cC cQ [.int t, .int (nI f)] []) (vp_Si (fun z => z = wS t f)) 0 0 (fun _ => False) := by
  refine metR (cc := cX0_slopeWeight) (maxL := 2) (ret := (some .int)) (by decide) rfl (Nat.le_of_ble_eq_true rfl) ?_
  intro pg ev s mi args below meth cd ls Q hQ hx hb hml hr hts hown hlk hK hP hl
  have hKa := hK.1
  have hl : lv_has ls 2 [(0, .int t), (1, .int (nI f))] := hl
  refine lv_iload_n hx hb dX0_slopeWeight_0 rfl (lv_at hl 1 rfl) ?_
  refine gn_if_ne hx hb (by omega) (tgt := 24) dX0_slopeWeight_1 (by decide) (fun c_1 => ?_) (fun c_1 => ?_)
  · refine lv_iload_n hx hb dX0_slopeWeight_24 rfl (lv_at hl 0 rfl) ?_
    refine lv_iload_n hx hb dX0_slopeWeight_25 rfl (lv_at hl 0 rfl) ?_
    refine lv_imul hx hb dX0_slopeWeight_26 ?_
    refine lv_iload_n hx hb dX0_slopeWeight_27 rfl (lv_at hl 0 rfl) ?_
    refine lv_imul hx hb dX0_slopeWeight_28 ?_
    refine lv_bipush (v := nI 8) hx hb dX0_slopeWeight_29 (by decide) ?_
    refine lv_iload_n hx hb dX0_slopeWeight_31 rfl (lv_at hl 0 rfl) ?_
    refine lv_imul hx hb dX0_slopeWeight_32 ?_
    refine lv_iload_n hx hb dX0_slopeWeight_33 rfl (lv_at hl 0 rfl) ?_
    refine lv_imul hx hb dX0_slopeWeight_34 ?_
    refine lv_isub hx hb dX0_slopeWeight_35 ?_
    exact rtR_i hQ hx hb hr hlk dX0_slopeWeight_36 (by unfold wS; rw [if_neg c_1])
  · refine lv_iload_n hx hb dX0_slopeWeight_4 rfl (lv_at hl 0 rfl) ?_
    refine lv_iload_n hx hb dX0_slopeWeight_5 rfl (lv_at hl 0 rfl) ?_
    refine lv_imul hx hb dX0_slopeWeight_6 ?_
    refine lv_iload_n hx hb dX0_slopeWeight_7 rfl (lv_at hl 0 rfl) ?_
    refine lv_imul hx hb dX0_slopeWeight_8 ?_
    refine lv_bipush (v := nI 16) hx hb dX0_slopeWeight_9 (by decide) ?_
    refine lv_iload_n hx hb dX0_slopeWeight_11 rfl (lv_at hl 0 rfl) ?_
    refine lv_imul hx hb dX0_slopeWeight_12 ?_
    refine lv_iload_n hx hb dX0_slopeWeight_13 rfl (lv_at hl 0 rfl) ?_
    refine lv_imul hx hb dX0_slopeWeight_14 ?_
    refine lv_isub hx hb dX0_slopeWeight_15 ?_
    refine lv_bipush (v := nI 64) hx hb dX0_slopeWeight_16 (by decide) ?_
    refine lv_iload_n hx hb dX0_slopeWeight_18 rfl (lv_at hl 0 rfl) ?_
    refine lv_imul hx hb dX0_slopeWeight_19 ?_
    refine lv_iadd hx hb dX0_slopeWeight_20 ?_
    refine lv_goto (tgt := 36) hx hb dX0_slopeWeight_21 (by decide) ?_
    exact rtR_i hQ hx hb hr hlk dX0_slopeWeight_36 (by unfold wS; rw [if_pos c_1])
abbrev rmX0_partAt : Room := { frames := 1, cells := 0, slots := 0, locals := 22 }
set_option maxRecDepth 20000 in
theorem iw_X0_partAt_X0 : ∀ w ∈ u_ws RX0 TX0 3, w ∈ wsX0_partAt := by decide +kernel
set_option maxHeartbeats 4000000 in
set_option maxRecDepth 100000 in
theorem c_X0_partAt (l : Launch) (D : va_G) (cI cC cQ : ClassId) (a a1 a2 a3 : Nat) (x y w : Nat → Int32) (u v : Nat) (hu : u < 9) (hv : v < 9) : Met l yX0_partAt wsX0_partAt rmX0_partAt (PR D cI cC cQ [.ref a, .int (nI u), .int (nI v)] [(a, .inr (0, [.ref a1, .ref a2, .ref a3])), (a1, .inl (cI, 4, .inl x)), (a2, .inl (cI, 4, .inl y)), (a3, .inl (cI, 4, .inl w))]) (vp_Si (fun z => z = bl x y w u v)) 0 0 (fun _ => False) := by
  refine metR (cc := cX0_partAt) (maxL := 9) (ret := (some .int)) (by decide) rfl (Nat.le_of_ble_eq_true rfl) ?_
  intro pg ev s mi args below meth cd ls Q hQ hx hb hml hr hts hown hlk hK hP hl
  have hKa := hK.1
  have hl : lv_has ls 9 [(0, .ref a), (1, .int (nI u)), (2, .int (nI v))] := hl
  refine lv_iconst (v := nI 0) hx hb dX0_partAt_0 (by decide) ?_
  refine lv_istore_n (lv' := [(3, .int (nI 0)), (0, .ref a), (1, .int (nI u)), (2, .int (nI v))]) hx hb dX0_partAt_1 rfl hl (by decide) rfl (fun ls hl => ?_)
  refine lv_iconst (v := nI 0) hx hb dX0_partAt_2 (by decide) ?_
  refine lv_istore (lv' := [(4, .int (nI 0)), (3, .int (nI 0)), (0, .ref a), (1, .int (nI u)), (2, .int (nI v))]) hx hb dX0_partAt_3 hl (by decide) rfl (fun ls hl => ?_)
  have L5 : ∀ (nn : Nat) (j : Nat) (m2 : Int32) (hj : j ≤ 4) (hw : m2 = sumI (blT x y w u v) j) (_ : 4 - j < nn) (ls : Array Slot) (_ : lv_has ls 9 [(3, .int m2), (4, .int (nI j)), (0, .ref a), (1, .int (nI u)), (2, .int (nI v))]), W pg l ev (headSpec wsX0_partAt rmX0_partAt).room s mi args below meth cd s.heap [] 0 0 Q (F0 mi 5 ls []) := by
    intro nn
    induction nn with
    | zero =>
      intro j m2 hj hw hmeas
      exact absurd hmeas (Nat.not_lt_zero _)
    | succ nn ih5 =>
      intro j m2 hj hw hmeas  ls hl
      refine lv_iload hx hb dX0_partAt_5 (lv_at hl 1 rfl) ?_
      refine lv_iconst (v := nI 4) hx hb dX0_partAt_7 (by decide) ?_
      refine gn_icmp_ge hx hb (by omega) (by decide) (tgt := 101) dX0_partAt_8 (by decide) (fun c_8 => ?_) (fun c_8 => ?_)
      · refine lv_iconst (v := nI 0) hx hb dX0_partAt_101 (by decide) ?_
        refine lv_sipush (v := nI 255) hx hb dX0_partAt_102 (by decide) ?_
        refine lv_iload_n hx hb dX0_partAt_105 rfl (lv_at hl 0 rfl) ?_
        refine lv_ldc (v := nI 262144) hx hb hown (hts (.constant RX0 40 (nI 262144)) (by decide +kernel)) dX0_partAt_106 ?_
        have hPc := hP.sub (ws' := []) [] rfl
        refine clRe (E := fdv m2 (nI 262144)) (va_runS (As := [.int m2, .int (nI 262144)]) (rest := [.int (nI 255), .int (nI 0)]) ⟨hx, hb, hml, hown, hts⟩ (c_J9_floorDiv_7cf53 l D cI cC cQ m2 (nI 262144) (by decide)) (va_cwS (rm := rmJ9_floorDiv_7cf53) 2 hts gX0_partAt_J9_floorDiv_7cf53 rfl rfl rfl (by decide +kernel) ⟨Nat.le_of_ble_eq_true rfl, Nat.le_of_ble_eq_true rfl⟩) ⟨PR.blind, PR.go hPc hK⟩ rfl rfl hl.1 rfl (lv_room (Nat.le_of_ble_eq_true rfl)) dX0_partAt_108 ⟨Nat.le_of_ble_eq_true rfl, Nat.le_of_ble_eq_true rfl⟩) ?_
        refine va_mmin hx hb (hml.trans hl.1.symm) hown (hts (.methodLink RX0 46 Lib.Math.min.name) (by decide +kernel)) (hts (.static Lib.Math.min.name) (by decide +kernel)) (hts (.initialized "java/lang/Math") (by decide +kernel)) (hts (.code Lib.Math.min.name Lib.Math.min.code 2 (some .int)) (by decide +kernel)) (Nat.le_of_ble_eq_true rfl) (Nat.le_of_ble_eq_true rfl) (Nat.zero_le _) (Nat.zero_le _) dX0_partAt_111 ?_
        refine va_mmax hx hb (hml.trans hl.1.symm) hown (hts (.methodLink RX0 49 Lib.Math.max.name) (by decide +kernel)) (hts (.static Lib.Math.max.name) (by decide +kernel)) (hts (.initialized "java/lang/Math") (by decide +kernel)) (hts (.code Lib.Math.max.name Lib.Math.max.code 2 (some .int)) (by decide +kernel)) (Nat.le_of_ble_eq_true rfl) (Nat.le_of_ble_eq_true rfl) (Nat.zero_le _) (Nat.zero_le _) dX0_partAt_114 ?_
        exact rtR_i hQ hx hb hr hlk dX0_partAt_117 (by rw [hw, show j = 4 by omega]; rfl)
      · refine lv_iload_n hx hb dX0_partAt_11 rfl (lv_at hl 3 rfl) ?_
        refine lv_iload hx hb dX0_partAt_12 (lv_at hl 1 rfl) ?_
        refine lv_iconst (v := nI 2) hx hb dX0_partAt_14 (by decide) ?_
        refine gn_rem hx hb (by omega) (by omega) (by omega) dX0_partAt_15 ?_
        have hPc := hP.sub (ws' := []) [] rfl
        refine clRe (E := wP (nI u) (j % 2)) (va_runS (As := [.int (nI u), .int (nI (j % 2))]) (rest := []) ⟨hx, hb, hml, hown, hts⟩ (c_X0_partWeight l D cI cC cQ (nI u) (j % 2) (by first | assumption | omega)) (va_cwS (rm := rmX0_partWeight) 2 hts gX0_partAt_X0_partWeight rfl rfl rfl (by decide +kernel) ⟨Nat.le_of_ble_eq_true rfl, Nat.le_of_ble_eq_true rfl⟩) ⟨PR.blind, PR.go hPc hK⟩ rfl rfl hl.1 rfl (lv_room (Nat.le_of_ble_eq_true rfl)) dX0_partAt_16 ⟨Nat.le_of_ble_eq_true rfl, Nat.le_of_ble_eq_true rfl⟩) ?_
        refine lv_istore (lv' := [(5, .int (wP (nI u) (j % 2))), (3, .int m2), (4, .int (nI j)), (0, .ref a), (1, .int (nI u)), (2, .int (nI v))]) hx hb dX0_partAt_19 hl (by decide) rfl (fun ls hl => ?_)
        refine lv_iload_n hx hb dX0_partAt_21 rfl (lv_at hl 5 rfl) ?_
        refine lv_iload hx hb dX0_partAt_22 (lv_at hl 2 rfl) ?_
        refine lv_iconst (v := nI 2) hx hb dX0_partAt_24 (by decide) ?_
        refine gn_div hx hb (by omega) (by omega) (by omega) dX0_partAt_25 ?_
        have hPc := hP.sub (ws' := []) [] rfl
        refine clRe (E := wP (nI v) (j / 2)) (va_runS (As := [.int (nI v), .int (nI (j / 2))]) (rest := []) ⟨hx, hb, hml, hown, hts⟩ (c_X0_partWeight l D cI cC cQ (nI v) (j / 2) (by first | assumption | omega)) (va_cwS (rm := rmX0_partWeight) 2 hts gX0_partAt_X0_partWeight rfl rfl rfl (by decide +kernel) ⟨Nat.le_of_ble_eq_true rfl, Nat.le_of_ble_eq_true rfl⟩) ⟨PR.blind, PR.go hPc hK⟩ rfl rfl hl.1 rfl (lv_room (Nat.le_of_ble_eq_true rfl)) dX0_partAt_26 ⟨Nat.le_of_ble_eq_true rfl, Nat.le_of_ble_eq_true rfl⟩) ?_
        refine lv_istore (lv' := [(6, .int (wP (nI v) (j / 2))), (5, .int (wP (nI u) (j % 2))), (3, .int m2), (4, .int (nI j)), (0, .ref a), (1, .int (nI u)), (2, .int (nI v))]) hx hb dX0_partAt_29 hl (by decide) rfl (fun ls hl => ?_)
        refine lv_iload_n hx hb dX0_partAt_31 rfl (lv_at hl 5 rfl) ?_
        refine lv_iload hx hb dX0_partAt_32 (lv_at hl 3 rfl) ?_
        refine lv_iconst (v := nI 2) hx hb dX0_partAt_34 (by decide) ?_
        refine gn_rem hx hb (by omega) (by omega) (by omega) dX0_partAt_35 ?_
        have hPc := hP.sub (ws' := []) [] rfl
        refine clRe (E := wS (nI u) (j % 2)) (va_runS (As := [.int (nI u), .int (nI (j % 2))]) (rest := []) ⟨hx, hb, hml, hown, hts⟩ (c_X0_slopeWeight l D cI cC cQ (nI u) (j % 2) (by first | assumption | omega)) (va_cwS (rm := rmX0_slopeWeight) 2 hts gX0_partAt_X0_slopeWeight rfl rfl rfl (by decide +kernel) ⟨Nat.le_of_ble_eq_true rfl, Nat.le_of_ble_eq_true rfl⟩) ⟨PR.blind, PR.go hPc hK⟩ rfl rfl hl.1 rfl (lv_room (Nat.le_of_ble_eq_true rfl)) dX0_partAt_36 ⟨Nat.le_of_ble_eq_true rfl, Nat.le_of_ble_eq_true rfl⟩) ?_
        refine lv_istore (lv' := [(7, .int (wS (nI u) (j % 2))), (6, .int (wP (nI v) (j / 2))), (5, .int (wP (nI u) (j % 2))), (3, .int m2), (4, .int (nI j)), (0, .ref a), (1, .int (nI u)), (2, .int (nI v))]) hx hb dX0_partAt_39 hl (by decide) rfl (fun ls hl => ?_)
        refine lv_iload_n hx hb dX0_partAt_41 rfl (lv_at hl 7 rfl) ?_
        refine lv_iload hx hb dX0_partAt_42 (lv_at hl 4 rfl) ?_
        refine lv_iconst (v := nI 2) hx hb dX0_partAt_44 (by decide) ?_
        refine gn_div hx hb (by omega) (by omega) (by omega) dX0_partAt_45 ?_
        have hPc := hP.sub (ws' := []) [] rfl
        refine clRe (E := wS (nI v) (j / 2)) (va_runS (As := [.int (nI v), .int (nI (j / 2))]) (rest := []) ⟨hx, hb, hml, hown, hts⟩ (c_X0_slopeWeight l D cI cC cQ (nI v) (j / 2) (by first | assumption | omega)) (va_cwS (rm := rmX0_slopeWeight) 2 hts gX0_partAt_X0_slopeWeight rfl rfl rfl (by decide +kernel) ⟨Nat.le_of_ble_eq_true rfl, Nat.le_of_ble_eq_true rfl⟩) ⟨PR.blind, PR.go hPc hK⟩ rfl rfl hl.1 rfl (lv_room (Nat.le_of_ble_eq_true rfl)) dX0_partAt_46 ⟨Nat.le_of_ble_eq_true rfl, Nat.le_of_ble_eq_true rfl⟩) ?_
        refine lv_istore (lv' := [(8, .int (wS (nI v) (j / 2))), (7, .int (wS (nI u) (j % 2))), (6, .int (wP (nI v) (j / 2))), (5, .int (wP (nI u) (j % 2))), (3, .int m2), (4, .int (nI j)), (0, .ref a), (1, .int (nI u)), (2, .int (nI v))]) hx hb dX0_partAt_49 hl (by decide) rfl (fun ls hl => ?_)
        refine lv_iload_n hx hb dX0_partAt_51 rfl (lv_at hl 4 rfl) ?_
        refine lv_aload_n hx hb dX0_partAt_52 rfl (lv_at hl 6 rfl) ?_
        refine va_get (D := D) (ci := 0) (v := .ref a1) (C := RX0) (T := TX0) (N := 3) hx hb hts iw_X0_partAt_X0 hown hKa hP 0 rfl rfl 0 (by decide) (hts (.fieldLink RX0 9 "ColourPatches$Blend" "parts" "[I") (by decide +kernel)) (fun _ h9 => h9) rfl dX0_partAt_53 ?_
        refine lv_iload hx hb dX0_partAt_56 (lv_at hl 5 rfl) ?_
        refine gn_iald hx hb hKa hP 1 0 rfl rfl (k := j) (by omega) (by omega) dX0_partAt_58 ?_
        refine lv_iload hx hb dX0_partAt_59 (lv_at hl 3 rfl) ?_
        refine lv_imul hx hb dX0_partAt_61 ?_
        refine lv_iload hx hb dX0_partAt_62 (lv_at hl 2 rfl) ?_
        refine lv_imul hx hb dX0_partAt_64 ?_
        refine lv_aload_n hx hb dX0_partAt_65 rfl (lv_at hl 6 rfl) ?_
        refine va_get (D := D) (ci := 0) (v := .ref a2) (C := RX0) (T := TX0) (N := 3) hx hb hts iw_X0_partAt_X0 hown hKa hP 0 rfl rfl 1 (by decide) (hts (.fieldLink RX0 15 "ColourPatches$Blend" "rowSlopes" "[I") (by decide +kernel)) (fun _ h9 => h9) rfl dX0_partAt_66 ?_
        refine lv_iload hx hb dX0_partAt_69 (lv_at hl 5 rfl) ?_
        refine gn_iald hx hb hKa hP 2 0 rfl rfl (k := j) (by omega) (by omega) dX0_partAt_71 ?_
        refine lv_iload hx hb dX0_partAt_72 (lv_at hl 1 rfl) ?_
        refine lv_imul hx hb dX0_partAt_74 ?_
        refine lv_iload hx hb dX0_partAt_75 (lv_at hl 2 rfl) ?_
        refine lv_imul hx hb dX0_partAt_77 ?_
        refine lv_iadd hx hb dX0_partAt_78 ?_
        refine lv_aload_n hx hb dX0_partAt_79 rfl (lv_at hl 6 rfl) ?_
        refine va_get (D := D) (ci := 0) (v := .ref a3) (C := RX0) (T := TX0) (N := 3) hx hb hts iw_X0_partAt_X0 hown hKa hP 0 rfl rfl 2 (by decide) (hts (.fieldLink RX0 18 "ColourPatches$Blend" "columnSlopes" "[I") (by decide +kernel)) (fun _ h9 => h9) rfl dX0_partAt_80 ?_
        refine lv_iload hx hb dX0_partAt_83 (lv_at hl 5 rfl) ?_
        refine gn_iald hx hb hKa hP 3 0 rfl rfl (k := j) (by omega) (by omega) dX0_partAt_85 ?_
        refine lv_iload hx hb dX0_partAt_86 (lv_at hl 3 rfl) ?_
        refine lv_imul hx hb dX0_partAt_88 ?_
        refine lv_iload hx hb dX0_partAt_89 (lv_at hl 0 rfl) ?_
        refine lv_imul hx hb dX0_partAt_91 ?_
        refine lv_iadd hx hb dX0_partAt_92 ?_
        refine lv_iadd hx hb dX0_partAt_93 ?_
        refine lv_istore_n (lv' := [(3, .int (m2 + (((((x j) * (wP (nI u) (j % 2))) * (wP (nI v) (j / 2))) + (((y j) * (wS (nI u) (j % 2))) * (wP (nI v) (j / 2)))) + (((w j) * (wP (nI u) (j % 2))) * (wS (nI v) (j / 2)))))), (8, .int (wS (nI v) (j / 2))), (7, .int (wS (nI u) (j % 2))), (6, .int (wP (nI v) (j / 2))), (5, .int (wP (nI u) (j % 2))), (4, .int (nI j)), (0, .ref a), (1, .int (nI u)), (2, .int (nI v))]) hx hb dX0_partAt_94 rfl hl (by decide) rfl (fun ls hl => ?_)
        refine gn_iinc (lv' := [(4, .int (nI (j + 1))), (3, .int (m2 + (((((x j) * (wP (nI u) (j % 2))) * (wP (nI v) (j / 2))) + (((y j) * (wS (nI u) (j % 2))) * (wP (nI v) (j / 2)))) + (((w j) * (wP (nI u) (j % 2))) * (wS (nI v) (j / 2)))))), (8, .int (wS (nI v) (j / 2))), (7, .int (wS (nI u) (j % 2))), (6, .int (wP (nI v) (j / 2))), (5, .int (wP (nI u) (j % 2))), (0, .ref a), (1, .int (nI u)), (2, .int (nI v))]) hx hb dX0_partAt_95 hl (k := 5) rfl (by decide) rfl (fun ls hl => ?_)
        refine lv_goto (tgt := 5) hx hb dX0_partAt_98 (by decide) ?_
        exact ih5 (j + 1) (m2 + (((((x j) * (wP (nI u) (j % 2))) * (wP (nI v) (j / 2))) + (((y j) * (wS (nI u) (j % 2))) * (wP (nI v) (j / 2)))) + (((w j) * (wP (nI u) (j % 2))) * (wS (nI v) (j / 2))))) (show (j + 1) ≤ 4 from by first | omega | assumption | rfl) (show (m2 + (((((x j) * (wP (nI u) (j % 2))) * (wP (nI v) (j / 2))) + (((y j) * (wS (nI u) (j % 2))) * (wP (nI v) (j / 2)))) + (((w j) * (wP (nI u) (j % 2))) * (wS (nI v) (j / 2))))) = sumI (blT x y w u v) (j + 1) from by rw [hw]; rfl) (by first | omega | assumption) _ (lv_sub hl [1, 0, 6, 7, 8] rfl)
  exact L5 ((4 - 0) + 1) 0 (nI 0) (show 0 ≤ 4 from by first | omega | assumption | rfl) (show (nI 0) = sumI (blT x y w u v) 0 from rfl) (Nat.lt_succ_self _) _ (lv_sub hl [1, 0, 2, 3, 4] rfl)
abbrev rmX0_partInside : Room := { frames := 2, cells := 0, slots := 0, locals := 50 }
set_option maxHeartbeats 4000000 in
set_option maxRecDepth 100000 in
theorem c_X0_partInside (l : Launch) (D : va_G) (cI cC cQ : ClassId) (a a1 a2 a3 : Nat) (x y w : Nat → Int32) (t u v : Nat) (ht : t < 2) (hu : u < 9) (hv : v < 9) : Met l yX0_partInside wsX0_partInside rmX0_partInside (PR D cI cC cQ [.ref a, .int (nI t), .int (nI u), .int (nI v)] [(a, .inr (0, [.ref a1, .ref a2, .ref a3])), (a1, .inl (cI, 4, .inl x)), (a2, .inl (cI, 4, .inl y)), (a3, .inl (cI, 4, .inl w))]) (vp_Si (fun z => z = if t = 0 then bl x y w u v else bl x y w v u)) 0 0 (fun _ => False) := by
  refine metR (cc := cX0_partInside) (maxL := 4) (ret := (some .int)) (by decide) rfl (Nat.le_of_ble_eq_true rfl) ?_
  intro pg ev s mi args below meth cd ls Q hQ hx hb hml hr hts hown hlk hK hP hl
  have hKa := hK.1
  have hl : lv_has ls 4 [(0, .ref a), (1, .int (nI t)), (2, .int (nI u)), (3, .int (nI v))] := hl
  refine lv_iload_n hx hb dX0_partInside_0 rfl (lv_at hl 1 rfl) ?_
  refine gn_if_ne hx hb (by omega) (tgt := 13) dX0_partInside_1 (by decide) (fun c_1 => ?_) (fun c_1 => ?_)
  · refine lv_aload_n hx hb dX0_partInside_13 rfl (lv_at hl 0 rfl) ?_
    refine lv_iload_n hx hb dX0_partInside_14 rfl (lv_at hl 3 rfl) ?_
    refine lv_iload_n hx hb dX0_partInside_15 rfl (lv_at hl 2 rfl) ?_
    have hPc := hP.sub (ws' := [(a, .inr (0, [.ref a1, .ref a2, .ref a3])), (a1, .inl (cI, 4, .inl x)), (a2, .inl (cI, 4, .inl y)), (a3, .inl (cI, 4, .inl w))]) [0, 1, 2, 3] rfl
    refine clRe (E := bl x y w v u) (va_runV (As := [.int (nI v), .int (nI u)]) (rest := []) ⟨hx, hb, hml, hown, hts⟩ (c_X0_partAt l D cI cC cQ a a1 a2 a3 x y w v u (by first | assumption | omega) (by first | assumption | omega)) (cwV (rm := rmX0_partAt) 2 hts gX0_partInside_X0_partAt rfl rfl rfl (by decide +kernel) ⟨Nat.le_of_ble_eq_true rfl, Nat.le_of_ble_eq_true rfl⟩) ⟨PR.blind, va_recv hKa hPc (ci := 0) (q0 := 0) rfl rfl, PR.go hPc hK⟩ rfl rfl hl.1 rfl (lv_room (Nat.le_of_ble_eq_true rfl)) dX0_partInside_16 ⟨Nat.le_of_ble_eq_true rfl, Nat.le_of_ble_eq_true rfl⟩) ?_
    exact rtR_i hQ hx hb hr hlk dX0_partInside_19 (by rw [if_neg c_1])
  · refine lv_aload_n hx hb dX0_partInside_4 rfl (lv_at hl 0 rfl) ?_
    refine lv_iload_n hx hb dX0_partInside_5 rfl (lv_at hl 2 rfl) ?_
    refine lv_iload_n hx hb dX0_partInside_6 rfl (lv_at hl 3 rfl) ?_
    have hPc := hP.sub (ws' := [(a, .inr (0, [.ref a1, .ref a2, .ref a3])), (a1, .inl (cI, 4, .inl x)), (a2, .inl (cI, 4, .inl y)), (a3, .inl (cI, 4, .inl w))]) [0, 1, 2, 3] rfl
    refine clRe (E := bl x y w u v) (va_runV (As := [.int (nI u), .int (nI v)]) (rest := []) ⟨hx, hb, hml, hown, hts⟩ (c_X0_partAt l D cI cC cQ a a1 a2 a3 x y w u v (by first | assumption | omega) (by first | assumption | omega)) (cwV (rm := rmX0_partAt) 2 hts gX0_partInside_X0_partAt rfl rfl rfl (by decide +kernel) ⟨Nat.le_of_ble_eq_true rfl, Nat.le_of_ble_eq_true rfl⟩) ⟨PR.blind, va_recv hKa hPc (ci := 0) (q0 := 0) rfl rfl, PR.go hPc hK⟩ rfl rfl hl.1 rfl (lv_room (Nat.le_of_ble_eq_true rfl)) dX0_partInside_7 ⟨Nat.le_of_ble_eq_true rfl, Nat.le_of_ble_eq_true rfl⟩) ?_
    refine lv_goto (tgt := 19) hx hb dX0_partInside_10 (by decide) ?_
    exact rtR_i hQ hx hb hr hlk dX0_partInside_19 (by rw [if_pos c_1])
