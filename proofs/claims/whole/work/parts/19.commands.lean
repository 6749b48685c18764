abbrev rmX1_digitOf : Room := { frames := 0, cells := 0, slots := 0, locals := 0 }
set_option maxHeartbeats 4000000 in
set_option maxRecDepth 100000 in
theorem c_X1_digitOf (l : Launch) (D : va_G) (cI cC cQ : ClassId) (ch : Nat) (hch : ch < 127) : Met l yX1_digitOf wsX1_digitOf rmX1_digitOf (PR D cI cC cQ [.int (nI ch)] []) (vp_Si (fun z => DG ch z)) 0 0 (fun _ => False) := by
  refine metR (cc := cX1_digitOf) (maxL := 1) (ret := (some .int)) (by decide) rfl (Nat.le_of_ble_eq_true rfl) ?_
  intro pg ev s mi args below meth cd ls Q hQ hx hb hml hr hts hown hlk hK hP hl
  have hKa := hK.1
  have hl : lv_has ls 1 [(0, .int (nI ch))] := hl
  refine lv_iload_n hx hb dX1_digitOf_0 rfl (lv_at hl 0 rfl) ?_
  refine lv_bipush (v := nI 48) hx hb dX1_digitOf_1 (by decide) ?_
  refine gn_icmp_lt hx hb (by omega) (by decide) (tgt := 19) dX1_digitOf_3 (by decide) (fun c_3 => ?_) (fun c_3 => ?_)
  · refine lv_iconst (v := (-1)) hx hb dX1_digitOf_19 (by decide) ?_
    exact rtR_i hQ hx hb hr hlk dX1_digitOf_20 (Or.inr ⟨fun q => by omega, rfl⟩)
  · refine lv_iload_n hx hb dX1_digitOf_6 rfl (lv_at hl 0 rfl) ?_
    refine lv_bipush (v := nI 57) hx hb dX1_digitOf_7 (by decide) ?_
    refine gn_icmp_gt hx hb (by omega) (by decide) (tgt := 19) dX1_digitOf_9 (by decide) (fun c_9 => ?_) (fun c_9 => ?_)
    · refine lv_iconst (v := (-1)) hx hb dX1_digitOf_19 (by decide) ?_
      exact rtR_i hQ hx hb hr hlk dX1_digitOf_20 (Or.inr ⟨fun q => by omega, rfl⟩)
    · refine lv_iload_n hx hb dX1_digitOf_12 rfl (lv_at hl 0 rfl) ?_
      refine lv_bipush (v := nI 48) hx hb dX1_digitOf_13 (by decide) ?_
      refine gn_sub hx hb (by omega) dX1_digitOf_15 ?_
      refine lv_goto (tgt := 20) hx hb dX1_digitOf_16 (by decide) ?_
      exact rtR_i hQ hx hb hr hlk dX1_digitOf_20 (Or.inl ⟨⟨c_3, c_9⟩, rfl⟩)
abbrev rmX1_sixteenOf : Room := { frames := 1, cells := 0, slots := 0, locals := 20 }
set_option maxHeartbeats 4000000 in
set_option maxRecDepth 100000 in
theorem c_X1_sixteenOf (l : Launch) (D : va_G) (cI cC cQ : ClassId) (ch : Nat) (hch : ch < 127) : Met l yX1_sixteenOf wsX1_sixteenOf rmX1_sixteenOf (PR D cI cC cQ [.int (nI ch)] []) (vp_Si (fun z => HX ch z)) 0 0 (fun _ => False) := by
  refine metR (cc := cX1_sixteenOf) (maxL := 1) (ret := (some .int)) (by decide) rfl (Nat.le_of_ble_eq_true rfl) ?_
  intro pg ev s mi args below meth cd ls Q hQ hx hb hml hr hts hown hlk hK hP hl
  have hKa := hK.1
  have hl : lv_has ls 1 [(0, .int (nI ch))] := hl
  refine lv_iload_n hx hb dX1_sixteenOf_0 rfl (lv_at hl 0 rfl) ?_
  refine lv_bipush (v := nI 97) hx hb dX1_sixteenOf_1 (by decide) ?_
  refine gn_icmp_lt hx hb (by omega) (by decide) (tgt := 22) dX1_sixteenOf_3 (by decide) (fun c_3 => ?_) (fun c_3 => ?_)
  · refine lv_iload_n hx hb dX1_sixteenOf_22 rfl (lv_at hl 0 rfl) ?_
    have hPc := hP.sub (ws' := []) [] rfl
    refine clR (va_runS (As := [.int (nI ch)]) (rest := []) ⟨hx, hb, hml, hown, hts⟩ (c_X1_digitOf l D cI cC cQ ch (by first | assumption | omega)) (va_cwS (rm := rmX1_digitOf) 1 hts gX1_sixteenOf_X1_digitOf rfl rfl rfl (by decide +kernel) ⟨Nat.le_of_ble_eq_true rfl, Nat.le_of_ble_eq_true rfl⟩) ⟨PR.blind, PR.go hPc hK⟩ rfl rfl hl.1 rfl (lv_room (Nat.le_of_ble_eq_true rfl)) dX1_sixteenOf_23 ⟨Nat.le_of_ble_eq_true rfl, Nat.le_of_ble_eq_true rfl⟩) (fun r_23 h_23 => ?_)
    rcases h_23 with ⟨d_23, rfl⟩ | ⟨d_23, rfl⟩
    · exact rtR_i hQ hx hb hr hlk dX1_sixteenOf_26 (Or.inl ⟨Or.inr d_23, by unfold hxV; rw [if_neg (by omega)]⟩)
    · exact rtR_i hQ hx hb hr hlk dX1_sixteenOf_26 (Or.inr ⟨fun q => q.elim (fun z => by omega) d_23, rfl⟩)
  · refine lv_iload_n hx hb dX1_sixteenOf_6 rfl (lv_at hl 0 rfl) ?_
    refine lv_bipush (v := nI 102) hx hb dX1_sixteenOf_7 (by decide) ?_
    refine gn_icmp_gt hx hb (by omega) (by decide) (tgt := 22) dX1_sixteenOf_9 (by decide) (fun c_9 => ?_) (fun c_9 => ?_)
    · refine lv_iload_n hx hb dX1_sixteenOf_22 rfl (lv_at hl 0 rfl) ?_
      have hPc := hP.sub (ws' := []) [] rfl
      refine clR (va_runS (As := [.int (nI ch)]) (rest := []) ⟨hx, hb, hml, hown, hts⟩ (c_X1_digitOf l D cI cC cQ ch (by first | assumption | omega)) (va_cwS (rm := rmX1_digitOf) 1 hts gX1_sixteenOf_X1_digitOf rfl rfl rfl (by decide +kernel) ⟨Nat.le_of_ble_eq_true rfl, Nat.le_of_ble_eq_true rfl⟩) ⟨PR.blind, PR.go hPc hK⟩ rfl rfl hl.1 rfl (lv_room (Nat.le_of_ble_eq_true rfl)) dX1_sixteenOf_23 ⟨Nat.le_of_ble_eq_true rfl, Nat.le_of_ble_eq_true rfl⟩) (fun r_23 h_23 => ?_)
      rcases h_23 with ⟨d_23, rfl⟩ | ⟨d_23, rfl⟩
      · exact rtR_i hQ hx hb hr hlk dX1_sixteenOf_26 (Or.inl ⟨Or.inr d_23, by unfold hxV; rw [if_neg (by omega)]⟩)
      · exact rtR_i hQ hx hb hr hlk dX1_sixteenOf_26 (Or.inr ⟨fun q => q.elim (fun z => by omega) d_23, rfl⟩)
    · refine lv_iload_n hx hb dX1_sixteenOf_12 rfl (lv_at hl 0 rfl) ?_
      refine lv_bipush (v := nI 97) hx hb dX1_sixteenOf_13 (by decide) ?_
      refine gn_sub hx hb (by omega) dX1_sixteenOf_15 ?_
      refine lv_bipush (v := nI 10) hx hb dX1_sixteenOf_16 (by decide) ?_
      refine gn_add hx hb dX1_sixteenOf_18 ?_
      refine lv_goto (tgt := 26) hx hb dX1_sixteenOf_19 (by decide) ?_
      exact rtR_i hQ hx hb hr hlk dX1_sixteenOf_26 (Or.inl ⟨Or.inl ⟨c_3, c_9⟩, by unfold hxV; rw [if_pos c_3]; congr 1; omega⟩)
abbrev rmX1_takeSign : Room := { frames := 1, cells := 0, slots := 0, locals := 21 }
set_option maxRecDepth 20000 in
theorem iw_X1_takeSign_X1 : ∀ w ∈ u_ws RX1 TX1 7, w ∈ wsX1_takeSign := by decide +kernel
set_option maxHeartbeats 4000000 in
set_option maxRecDepth 100000 in
theorem c_X1_takeSign (l : Launch) (D : va_G) (cI cC cQ : ClassId) (a : Nat) (kd c1 r1 x y v : Int32) (e : Nat) (t t1 : Nat) (n : Nat) (T : Nat → Nat) (q : Nat) (sz : Nat) (hn : n ≤ 60) (hT : ∀ k, T k < 127) (he : e < 1000) (hq : q < 127) : Met l yX1_takeSign wsX1_takeSign rmX1_takeSign (PW D cI cC cQ [.ref a, .ref t, .int (nI q)] [(a, .inr (1, [.int kd, .int c1, .int r1, .int x, .int y, .int v, .int (nI e)])), (t, .inr (6, [.ref t1, .int (nI n)])), (t1, .inl (cC, 60, .inl (TA T)))] sz) (va_Qi (fun (z : Int32) (u : Unit) => BB (sg T n e = q) z) (fun (u : Unit) t9 => va_P D vwCl [(a, .inr (1, [.int kd, .int c1, .int r1, .int x, .int y, .int v, .int (nI (e + 1))])), (t, .inr (6, [.ref t1, .int (nI n)])), (t1, .inl (cC, 60, .inl (TA T)))] t9.heap) (va_A [(a, .inr (1, [.int kd, .int c1, .int r1, .int x, .int y, .int v, .int (nI e)])), (t, .inr (6, [.ref t1, .int (nI n)])), (t1, .inl (cC, 60, .inl (TA T)))] sz)) 0 0 (va_A [(a, .inr (1, [.int kd, .int c1, .int r1, .int x, .int y, .int v, .int (nI e)])), (t, .inr (6, [.ref t1, .int (nI n)])), (t1, .inl (cC, 60, .inl (TA T)))] sz) := by
  refine metW (y := yX1_takeSign) (ws := wsX1_takeSign) (rm := rmX1_takeSign) (D := D) (cI := cI) (cC := cC) (cQ := cQ) (av := [.ref a, .ref t, .int (nI q)]) (wd := [(a, .inr (1, [.int kd, .int c1, .int r1, .int x, .int y, .int v, .int (nI e)])), (t, .inr (6, [.ref t1, .int (nI n)])), (t1, .inl (cC, 60, .inl (TA T)))]) (sz := sz) (Qf := fun A => va_Qi (fun (z : Int32) (u : Unit) => BB (sg T n e = q) z) (fun (u : Unit) t9 => va_P D vwCl [(a, .inr (1, [.int kd, .int c1, .int r1, .int x, .int y, .int v, .int (nI (e + 1))])), (t, .inr (6, [.ref t1, .int (nI n)])), (t1, .inl (cC, 60, .inl (TA T)))] t9.heap) A) (cc := cX1_takeSign) (maxL := 4) (ret := (some .boolean)) (by decide) rfl (Nat.le_of_ble_eq_true rfl) ?_
  intro pg ev s mi args below meth cd ls A Q hQ hx hb hml hr hts hown hlk hnm hK hP hD hS hA hl
  have hKa := hK.1
  have hl : lv_has ls 4 [(0, .ref a), (1, .ref t), (2, .int (nI q))] := hl
  refine lv_aload_n hx hb dX1_takeSign_0 rfl (lv_at hl 1 rfl) ?_
  refine lv_aload_n hx hb dX1_takeSign_1 rfl (lv_at hl 0 rfl) ?_
  refine va_get (D := D) (ci := 1) (v := .int (nI e)) (C := RX1) (T := TX1) (N := 7) hx hb hts iw_X1_takeSign_X1 hown hKa hP 0 rfl rfl 6 (by decide) (hts (.fieldLink RX1 32 "ColourPatches$Command" "end" "I") (by decide +kernel)) (fun _ h9 => h9) rfl dX1_takeSign_2 ?_
  have hPc := hP.sub (ws' := [(t, .inr (6, [.ref t1, .int (nI n)])), (t1, .inl (cC, 60, .inl (TA T)))]) [1, 2] rfl
  refine clRe (E := nI (sg T n e)) (va_runV (As := [.int (nI e)]) (rest := []) ⟨hx, hb, hml, hown, hts⟩ (c_X6_signAt l D cI cC cQ t t1 n T e (by first | assumption | omega) (by first | assumption | omega) (by first | assumption | omega)) (cwV (rm := rmX6_signAt) 1 hts gX1_takeSign_X6_signAt rfl rfl rfl (by decide +kernel) ⟨Nat.le_of_ble_eq_true rfl, Nat.le_of_ble_eq_true rfl⟩) ⟨PR.blind, va_recv hKa hPc (ci := 6) (q0 := 0) rfl rfl, PR.go hPc hK⟩ rfl rfl hl.1 rfl (lv_room (Nat.le_of_ble_eq_true rfl)) dX1_takeSign_5 ⟨Nat.le_of_ble_eq_true rfl, Nat.le_of_ble_eq_true rfl⟩) ?_
  have hsg_5 : sg T n e < 127 := sg_lt (by assumption) n (e)
  refine lv_iload_n hx hb dX1_takeSign_8 rfl (lv_at hl 2 rfl) ?_
  refine gn_icmp_ne hx hb (by omega) (by omega) (tgt := 16) dX1_takeSign_9 (by decide) (fun c_9 => ?_) (fun c_9 => ?_)
  · refine lv_iconst (v := nI 0) hx hb dX1_takeSign_16 (by decide) ?_
    refine lv_istore_n (lv' := [(3, .int (nI 0)), (0, .ref a), (1, .ref t), (2, .int (nI q))]) hx hb dX1_takeSign_17 rfl hl (by decide) rfl (fun ls hl => ?_)
    refine lv_aload_n hx hb dX1_takeSign_18 rfl (lv_at hl 1 rfl) ?_
    refine lv_dup hx hb dX1_takeSign_19 rfl ?_
    refine va_get (D := D) (ci := 1) (v := .int (nI e)) (C := RX1) (T := TX1) (N := 7) hx hb hts iw_X1_takeSign_X1 hown hKa hP 0 rfl rfl 6 (by decide) (hts (.fieldLink RX1 32 "ColourPatches$Command" "end" "I") (by decide +kernel)) (fun _ h9 => h9) rfl dX1_takeSign_20 ?_
    refine lv_iconst (v := nI 1) hx hb dX1_takeSign_23 (by decide) ?_
    refine gn_add hx hb dX1_takeSign_24 ?_
    refine va_put (D := D) (ci := 1) (v := .int (nI (e + 1))) (ty := .int) (C := RX1) (T := TX1) (N := 7) hx hb hts iw_X1_takeSign_X1 tyX1 tyX1_ok nmX1 hown hKa hP hD hS 0 rfl rfl 6 (by decide) (hts (.fieldLink RX1 32 "ColourPatches$Command" "end" "I") (by decide +kernel)) (fun _ h9 => h9) rfl (by decide +kernel) rfl rfl (Nat.le_of_ble_eq_true rfl) dX1_takeSign_25 (fun H locs hP hD hS => ?_)
    have hP : va_P D vwCl [(a, .inr (1, [.int kd, .int c1, .int r1, .int x, .int y, .int v, .int (nI (e + 1))])), (t, .inr (6, [.ref t1, .int (nI n)])), (t1, .inl (cC, 60, .inl (TA T)))] H := hP
    have hD : va_D A [(a, .inr (1, [.int kd, .int c1, .int r1, .int x, .int y, .int v, .int (nI (e + 1))])), (t, .inr (6, [.ref t1, .int (nI n)])), (t1, .inl (cC, 60, .inl (TA T)))] := hD
    refine lv_iload_n hx hb dX1_takeSign_28 rfl (lv_at hl 0 rfl) ?_
    exact rtW_z () hQ hx hb hr hlk hS hP dX1_takeSign_29 (by decide +kernel) (Or.inr ⟨c_9, rfl⟩)
  · refine lv_iconst (v := nI 1) hx hb dX1_takeSign_12 (by decide) ?_
    refine lv_goto (tgt := 17) hx hb dX1_takeSign_13 (by decide) ?_
    refine lv_istore_n (lv' := [(3, .int (nI 1)), (0, .ref a), (1, .ref t), (2, .int (nI q))]) hx hb dX1_takeSign_17 rfl hl (by decide) rfl (fun ls hl => ?_)
    refine lv_aload_n hx hb dX1_takeSign_18 rfl (lv_at hl 1 rfl) ?_
    refine lv_dup hx hb dX1_takeSign_19 rfl ?_
    refine va_get (D := D) (ci := 1) (v := .int (nI e)) (C := RX1) (T := TX1) (N := 7) hx hb hts iw_X1_takeSign_X1 hown hKa hP 0 rfl rfl 6 (by decide) (hts (.fieldLink RX1 32 "ColourPatches$Command" "end" "I") (by decide +kernel)) (fun _ h9 => h9) rfl dX1_takeSign_20 ?_
    refine lv_iconst (v := nI 1) hx hb dX1_takeSign_23 (by decide) ?_
    refine gn_add hx hb dX1_takeSign_24 ?_
    refine va_put (D := D) (ci := 1) (v := .int (nI (e + 1))) (ty := .int) (C := RX1) (T := TX1) (N := 7) hx hb hts iw_X1_takeSign_X1 tyX1 tyX1_ok nmX1 hown hKa hP hD hS 0 rfl rfl 6 (by decide) (hts (.fieldLink RX1 32 "ColourPatches$Command" "end" "I") (by decide +kernel)) (fun _ h9 => h9) rfl (by decide +kernel) rfl rfl (Nat.le_of_ble_eq_true rfl) dX1_takeSign_25 (fun H locs hP hD hS => ?_)
    have hP : va_P D vwCl [(a, .inr (1, [.int kd, .int c1, .int r1, .int x, .int y, .int v, .int (nI (e + 1))])), (t, .inr (6, [.ref t1, .int (nI n)])), (t1, .inl (cC, 60, .inl (TA T)))] H := hP
    have hD : va_D A [(a, .inr (1, [.int kd, .int c1, .int r1, .int x, .int y, .int v, .int (nI (e + 1))])), (t, .inr (6, [.ref t1, .int (nI n)])), (t1, .inl (cC, 60, .inl (TA T)))] := hD
    refine lv_iload_n hx hb dX1_takeSign_28 rfl (lv_at hl 0 rfl) ?_
    exact rtW_z () hQ hx hb hr hlk hS hP dX1_takeSign_29 (by decide +kernel) (Or.inl ⟨c_9, rfl⟩)
abbrev rmX1_takePart : Room := { frames := 2, cells := 0, slots := 0, locals := 40 }
set_option maxRecDepth 20000 in
theorem iw_X1_takePart_X1 : ∀ w ∈ u_ws RX1 TX1 7, w ∈ wsX1_takePart := by decide +kernel
set_option maxHeartbeats 4000000 in
set_option maxRecDepth 100000 in
theorem c_X1_takePart (l : Launch) (D : va_G) (cI cC cQ : ClassId) (a : Nat) (kd c1 r1 x y v : Int32) (e : Nat) (t t1 : Nat) (n : Nat) (T : Nat → Nat) (sz : Nat) (hn : n ≤ 60) (hT : ∀ k, T k < 127) (he : e < 1000) : Met l yX1_takePart wsX1_takePart rmX1_takePart (PW D cI cC cQ [.ref a, .ref t] [(a, .inr (1, [.int kd, .int c1, .int r1, .int x, .int y, .int v, .int (nI e)])), (t, .inr (6, [.ref t1, .int (nI n)])), (t1, .inl (cC, 60, .inl (TA T)))] sz) (va_Qi (fun (z : Int32) (u : Unit) => PT T n e z) (fun (u : Unit) t9 => va_P D vwCl [(a, .inr (1, [.int kd, .int c1, .int r1, .int x, .int y, .int v, .int (nI (e + 2))])), (t, .inr (6, [.ref t1, .int (nI n)])), (t1, .inl (cC, 60, .inl (TA T)))] t9.heap) (va_A [(a, .inr (1, [.int kd, .int c1, .int r1, .int x, .int y, .int v, .int (nI e)])), (t, .inr (6, [.ref t1, .int (nI n)])), (t1, .inl (cC, 60, .inl (TA T)))] sz)) 0 0 (va_A [(a, .inr (1, [.int kd, .int c1, .int r1, .int x, .int y, .int v, .int (nI e)])), (t, .inr (6, [.ref t1, .int (nI n)])), (t1, .inl (cC, 60, .inl (TA T)))] sz) := by
  refine metW (y := yX1_takePart) (ws := wsX1_takePart) (rm := rmX1_takePart) (D := D) (cI := cI) (cC := cC) (cQ := cQ) (av := [.ref a, .ref t]) (wd := [(a, .inr (1, [.int kd, .int c1, .int r1, .int x, .int y, .int v, .int (nI e)])), (t, .inr (6, [.ref t1, .int (nI n)])), (t1, .inl (cC, 60, .inl (TA T)))]) (sz := sz) (Qf := fun A => va_Qi (fun (z : Int32) (u : Unit) => PT T n e z) (fun (u : Unit) t9 => va_P D vwCl [(a, .inr (1, [.int kd, .int c1, .int r1, .int x, .int y, .int v, .int (nI (e + 2))])), (t, .inr (6, [.ref t1, .int (nI n)])), (t1, .inl (cC, 60, .inl (TA T)))] t9.heap) A) (cc := cX1_takePart) (maxL := 4) (ret := (some .int)) (by decide) rfl (Nat.le_of_ble_eq_true rfl) ?_
  intro pg ev s mi args below meth cd ls A Q hQ hx hb hml hr hts hown hlk hnm hK hP hD hS hA hl
  have hKa := hK.1
  have hl : lv_has ls 4 [(0, .ref a), (1, .ref t)] := hl
  refine lv_aload_n hx hb dX1_takePart_0 rfl (lv_at hl 1 rfl) ?_
  refine lv_aload_n hx hb dX1_takePart_1 rfl (lv_at hl 0 rfl) ?_
  refine va_get (D := D) (ci := 1) (v := .int (nI e)) (C := RX1) (T := TX1) (N := 7) hx hb hts iw_X1_takePart_X1 hown hKa hP 0 rfl rfl 6 (by decide) (hts (.fieldLink RX1 32 "ColourPatches$Command" "end" "I") (by decide +kernel)) (fun _ h9 => h9) rfl dX1_takePart_2 ?_
  have hPc := hP.sub (ws' := [(t, .inr (6, [.ref t1, .int (nI n)])), (t1, .inl (cC, 60, .inl (TA T)))]) [1, 2] rfl
  refine clRe (E := nI (sg T n e)) (va_runV (As := [.int (nI e)]) (rest := []) ⟨hx, hb, hml, hown, hts⟩ (c_X6_signAt l D cI cC cQ t t1 n T e (by first | assumption | omega) (by first | assumption | omega) (by first | assumption | omega)) (cwV (rm := rmX6_signAt) 1 hts gX1_takePart_X6_signAt rfl rfl rfl (by decide +kernel) ⟨Nat.le_of_ble_eq_true rfl, Nat.le_of_ble_eq_true rfl⟩) ⟨PR.blind, va_recv hKa hPc (ci := 6) (q0 := 0) rfl rfl, PR.go hPc hK⟩ rfl rfl hl.1 rfl (lv_room (Nat.le_of_ble_eq_true rfl)) dX1_takePart_5 ⟨Nat.le_of_ble_eq_true rfl, Nat.le_of_ble_eq_true rfl⟩) ?_
  have hsg_5 : sg T n e < 127 := sg_lt (by assumption) n (e)
  have hPc := hP.sub (ws' := []) [] rfl
  refine clR (va_runS (As := [.int (nI (sg T n e))]) (rest := []) ⟨hx, hb, hml, hown, hts⟩ (c_X1_sixteenOf l D cI cC cQ (sg T n e) (by first | assumption | omega)) (va_cwS (rm := rmX1_sixteenOf) 1 hts gX1_takePart_X1_sixteenOf rfl rfl rfl (by decide +kernel) ⟨Nat.le_of_ble_eq_true rfl, Nat.le_of_ble_eq_true rfl⟩) ⟨PR.blind, PR.go hPc hK⟩ rfl rfl hl.1 rfl (lv_room (Nat.le_of_ble_eq_true rfl)) dX1_takePart_8 ⟨Nat.le_of_ble_eq_true rfl, Nat.le_of_ble_eq_true rfl⟩) (fun r_8 h_8 => ?_)
  rcases h_8 with ⟨d_8, rfl⟩ | ⟨d_8, rfl⟩
  · have hv8 := hxV_lt d_8
    refine lv_istore_n (lv' := [(2, .int (nI (hxV (sg T n e)))), (0, .ref a), (1, .ref t)]) hx hb dX1_takePart_11 rfl hl (by decide) rfl (fun ls hl => ?_)
    refine lv_aload_n hx hb dX1_takePart_12 rfl (lv_at hl 2 rfl) ?_
    refine lv_aload_n hx hb dX1_takePart_13 rfl (lv_at hl 1 rfl) ?_
    refine va_get (D := D) (ci := 1) (v := .int (nI e)) (C := RX1) (T := TX1) (N := 7) hx hb hts iw_X1_takePart_X1 hown hKa hP 0 rfl rfl 6 (by decide) (hts (.fieldLink RX1 32 "ColourPatches$Command" "end" "I") (by decide +kernel)) (fun _ h9 => h9) rfl dX1_takePart_14 ?_
    refine lv_iconst (v := nI 1) hx hb dX1_takePart_17 (by decide) ?_
    refine gn_add hx hb dX1_takePart_18 ?_
    have hPc := hP.sub (ws' := [(t, .inr (6, [.ref t1, .int (nI n)])), (t1, .inl (cC, 60, .inl (TA T)))]) [1, 2] rfl
    refine clRe (E := nI (sg T n (e + 1))) (va_runV (As := [.int (nI (e + 1))]) (rest := []) ⟨hx, hb, hml, hown, hts⟩ (c_X6_signAt l D cI cC cQ t t1 n T (e + 1) (by first | assumption | omega) (by first | assumption | omega) (by first | assumption | omega)) (cwV (rm := rmX6_signAt) 1 hts gX1_takePart_X6_signAt rfl rfl rfl (by decide +kernel) ⟨Nat.le_of_ble_eq_true rfl, Nat.le_of_ble_eq_true rfl⟩) ⟨PR.blind, va_recv hKa hPc (ci := 6) (q0 := 0) rfl rfl, PR.go hPc hK⟩ rfl rfl hl.1 rfl (lv_room (Nat.le_of_ble_eq_true rfl)) dX1_takePart_19 ⟨Nat.le_of_ble_eq_true rfl, Nat.le_of_ble_eq_true rfl⟩) ?_
    have hsg_19 : sg T n (e + 1) < 127 := sg_lt (by assumption) n ((e + 1))
    have hPc := hP.sub (ws' := []) [] rfl
    refine clR (va_runS (As := [.int (nI (sg T n (e + 1)))]) (rest := []) ⟨hx, hb, hml, hown, hts⟩ (c_X1_sixteenOf l D cI cC cQ (sg T n (e + 1)) (by first | assumption | omega)) (va_cwS (rm := rmX1_sixteenOf) 1 hts gX1_takePart_X1_sixteenOf rfl rfl rfl (by decide +kernel) ⟨Nat.le_of_ble_eq_true rfl, Nat.le_of_ble_eq_true rfl⟩) ⟨PR.blind, PR.go hPc hK⟩ rfl rfl hl.1 rfl (lv_room (Nat.le_of_ble_eq_true rfl)) dX1_takePart_22 ⟨Nat.le_of_ble_eq_true rfl, Nat.le_of_ble_eq_true rfl⟩) (fun r_22 h_22 => ?_)
    rcases h_22 with ⟨d_22, rfl⟩ | ⟨d_22, rfl⟩
    · have hv22 := hxV_lt d_22
      refine lv_istore_n (lv' := [(3, .int (nI (hxV (sg T n (e + 1))))), (2, .int (nI (hxV (sg T n e)))), (0, .ref a), (1, .ref t)]) hx hb dX1_takePart_25 rfl hl (by decide) rfl (fun ls hl => ?_)
      refine lv_aload_n hx hb dX1_takePart_26 rfl (lv_at hl 2 rfl) ?_
      refine lv_dup hx hb dX1_takePart_27 rfl ?_
      refine va_get (D := D) (ci := 1) (v := .int (nI e)) (C := RX1) (T := TX1) (N := 7) hx hb hts iw_X1_takePart_X1 hown hKa hP 0 rfl rfl 6 (by decide) (hts (.fieldLink RX1 32 "ColourPatches$Command" "end" "I") (by decide +kernel)) (fun _ h9 => h9) rfl dX1_takePart_28 ?_
      refine lv_iconst (v := nI 2) hx hb dX1_takePart_31 (by decide) ?_
      refine gn_add hx hb dX1_takePart_32 ?_
      refine va_put (D := D) (ci := 1) (v := .int (nI (e + 2))) (ty := .int) (C := RX1) (T := TX1) (N := 7) hx hb hts iw_X1_takePart_X1 tyX1 tyX1_ok nmX1 hown hKa hP hD hS 0 rfl rfl 6 (by decide) (hts (.fieldLink RX1 32 "ColourPatches$Command" "end" "I") (by decide +kernel)) (fun _ h9 => h9) rfl (by decide +kernel) rfl rfl (Nat.le_of_ble_eq_true rfl) dX1_takePart_33 (fun H locs hP hD hS => ?_)
      have hP : va_P D vwCl [(a, .inr (1, [.int kd, .int c1, .int r1, .int x, .int y, .int v, .int (nI (e + 2))])), (t, .inr (6, [.ref t1, .int (nI n)])), (t1, .inl (cC, 60, .inl (TA T)))] H := hP
      have hD : va_D A [(a, .inr (1, [.int kd, .int c1, .int r1, .int x, .int y, .int v, .int (nI (e + 2))])), (t, .inr (6, [.ref t1, .int (nI n)])), (t1, .inl (cC, 60, .inl (TA T)))] := hD
      refine lv_iload_n hx hb dX1_takePart_36 rfl (lv_at hl 1 rfl) ?_
      refine gn_if_lt hx hb (by omega) (tgt := 53) dX1_takePart_37 (by decide) ?_
      refine lv_iload_n hx hb dX1_takePart_40 rfl (lv_at hl 0 rfl) ?_
      refine gn_if_lt hx hb (by omega) (tgt := 53) dX1_takePart_41 (by decide) ?_
      refine lv_iload_n hx hb dX1_takePart_44 rfl (lv_at hl 1 rfl) ?_
      refine lv_bipush (v := nI 16) hx hb dX1_takePart_45 (by decide) ?_
      refine gn_mul hx hb dX1_takePart_47 ?_
      refine lv_iload_n hx hb dX1_takePart_48 rfl (lv_at hl 0 rfl) ?_
      refine gn_add hx hb dX1_takePart_49 ?_
      refine lv_goto (tgt := 54) hx hb dX1_takePart_50 (by decide) ?_
      exact rtW_i () hQ hx hb hr hlk hS hP dX1_takePart_54 (Or.inl ⟨⟨d_8, d_22⟩, rfl⟩)
    · refine lv_istore_n (lv' := [(3, .int (-1)), (2, .int (nI (hxV (sg T n e)))), (0, .ref a), (1, .ref t)]) hx hb dX1_takePart_25 rfl hl (by decide) rfl (fun ls hl => ?_)
      refine lv_aload_n hx hb dX1_takePart_26 rfl (lv_at hl 2 rfl) ?_
      refine lv_dup hx hb dX1_takePart_27 rfl ?_
      refine va_get (D := D) (ci := 1) (v := .int (nI e)) (C := RX1) (T := TX1) (N := 7) hx hb hts iw_X1_takePart_X1 hown hKa hP 0 rfl rfl 6 (by decide) (hts (.fieldLink RX1 32 "ColourPatches$Command" "end" "I") (by decide +kernel)) (fun _ h9 => h9) rfl dX1_takePart_28 ?_
      refine lv_iconst (v := nI 2) hx hb dX1_takePart_31 (by decide) ?_
      refine gn_add hx hb dX1_takePart_32 ?_
      refine va_put (D := D) (ci := 1) (v := .int (nI (e + 2))) (ty := .int) (C := RX1) (T := TX1) (N := 7) hx hb hts iw_X1_takePart_X1 tyX1 tyX1_ok nmX1 hown hKa hP hD hS 0 rfl rfl 6 (by decide) (hts (.fieldLink RX1 32 "ColourPatches$Command" "end" "I") (by decide +kernel)) (fun _ h9 => h9) rfl (by decide +kernel) rfl rfl (Nat.le_of_ble_eq_true rfl) dX1_takePart_33 (fun H locs hP hD hS => ?_)
      have hP : va_P D vwCl [(a, .inr (1, [.int kd, .int c1, .int r1, .int x, .int y, .int v, .int (nI (e + 2))])), (t, .inr (6, [.ref t1, .int (nI n)])), (t1, .inl (cC, 60, .inl (TA T)))] H := hP
      have hD : va_D A [(a, .inr (1, [.int kd, .int c1, .int r1, .int x, .int y, .int v, .int (nI (e + 2))])), (t, .inr (6, [.ref t1, .int (nI n)])), (t1, .inl (cC, 60, .inl (TA T)))] := hD
      refine lv_iload_n hx hb dX1_takePart_36 rfl (lv_at hl 1 rfl) ?_
      refine gn_if_lt hx hb (by omega) (tgt := 53) dX1_takePart_37 (by decide) ?_
      refine lv_iload_n hx hb dX1_takePart_40 rfl (lv_at hl 0 rfl) ?_
      refine lv_if_lt hx hb (tgt := 53) dX1_takePart_41 (by decide) (fun cq => ?_) (fun cq => absurd cq (by decide))
      refine lv_iconst (v := (-1)) hx hb dX1_takePart_53 (by decide) ?_
      exact rtW_i () hQ hx hb hr hlk hS hP dX1_takePart_54 (Or.inr ⟨fun q => d_22 q.2, rfl⟩)
  · refine lv_istore_n (lv' := [(2, .int (-1)), (0, .ref a), (1, .ref t)]) hx hb dX1_takePart_11 rfl hl (by decide) rfl (fun ls hl => ?_)
    refine lv_aload_n hx hb dX1_takePart_12 rfl (lv_at hl 2 rfl) ?_
    refine lv_aload_n hx hb dX1_takePart_13 rfl (lv_at hl 1 rfl) ?_
    refine va_get (D := D) (ci := 1) (v := .int (nI e)) (C := RX1) (T := TX1) (N := 7) hx hb hts iw_X1_takePart_X1 hown hKa hP 0 rfl rfl 6 (by decide) (hts (.fieldLink RX1 32 "ColourPatches$Command" "end" "I") (by decide +kernel)) (fun _ h9 => h9) rfl dX1_takePart_14 ?_
    refine lv_iconst (v := nI 1) hx hb dX1_takePart_17 (by decide) ?_
    refine gn_add hx hb dX1_takePart_18 ?_
    have hPc := hP.sub (ws' := [(t, .inr (6, [.ref t1, .int (nI n)])), (t1, .inl (cC, 60, .inl (TA T)))]) [1, 2] rfl
    refine clRe (E := nI (sg T n (e + 1))) (va_runV (As := [.int (nI (e + 1))]) (rest := []) ⟨hx, hb, hml, hown, hts⟩ (c_X6_signAt l D cI cC cQ t t1 n T (e + 1) (by first | assumption | omega) (by first | assumption | omega) (by first | assumption | omega)) (cwV (rm := rmX6_signAt) 1 hts gX1_takePart_X6_signAt rfl rfl rfl (by decide +kernel) ⟨Nat.le_of_ble_eq_true rfl, Nat.le_of_ble_eq_true rfl⟩) ⟨PR.blind, va_recv hKa hPc (ci := 6) (q0 := 0) rfl rfl, PR.go hPc hK⟩ rfl rfl hl.1 rfl (lv_room (Nat.le_of_ble_eq_true rfl)) dX1_takePart_19 ⟨Nat.le_of_ble_eq_true rfl, Nat.le_of_ble_eq_true rfl⟩) ?_
    have hsg_19 : sg T n (e + 1) < 127 := sg_lt (by assumption) n ((e + 1))
    have hPc := hP.sub (ws' := []) [] rfl
    refine clR (va_runS (As := [.int (nI (sg T n (e + 1)))]) (rest := []) ⟨hx, hb, hml, hown, hts⟩ (c_X1_sixteenOf l D cI cC cQ (sg T n (e + 1)) (by first | assumption | omega)) (va_cwS (rm := rmX1_sixteenOf) 1 hts gX1_takePart_X1_sixteenOf rfl rfl rfl (by decide +kernel) ⟨Nat.le_of_ble_eq_true rfl, Nat.le_of_ble_eq_true rfl⟩) ⟨PR.blind, PR.go hPc hK⟩ rfl rfl hl.1 rfl (lv_room (Nat.le_of_ble_eq_true rfl)) dX1_takePart_22 ⟨Nat.le_of_ble_eq_true rfl, Nat.le_of_ble_eq_true rfl⟩) (fun r_22 h_22 => ?_)
    rcases h_22 with ⟨d_22, rfl⟩ | ⟨d_22, rfl⟩
    · have hv22 := hxV_lt d_22
      refine lv_istore_n (lv' := [(3, .int (nI (hxV (sg T n (e + 1))))), (2, .int (-1)), (0, .ref a), (1, .ref t)]) hx hb dX1_takePart_25 rfl hl (by decide) rfl (fun ls hl => ?_)
      refine lv_aload_n hx hb dX1_takePart_26 rfl (lv_at hl 2 rfl) ?_
      refine lv_dup hx hb dX1_takePart_27 rfl ?_
      refine va_get (D := D) (ci := 1) (v := .int (nI e)) (C := RX1) (T := TX1) (N := 7) hx hb hts iw_X1_takePart_X1 hown hKa hP 0 rfl rfl 6 (by decide) (hts (.fieldLink RX1 32 "ColourPatches$Command" "end" "I") (by decide +kernel)) (fun _ h9 => h9) rfl dX1_takePart_28 ?_
      refine lv_iconst (v := nI 2) hx hb dX1_takePart_31 (by decide) ?_
      refine gn_add hx hb dX1_takePart_32 ?_
      refine va_put (D := D) (ci := 1) (v := .int (nI (e + 2))) (ty := .int) (C := RX1) (T := TX1) (N := 7) hx hb hts iw_X1_takePart_X1 tyX1 tyX1_ok nmX1 hown hKa hP hD hS 0 rfl rfl 6 (by decide) (hts (.fieldLink RX1 32 "ColourPatches$Command" "end" "I") (by decide +kernel)) (fun _ h9 => h9) rfl (by decide +kernel) rfl rfl (Nat.le_of_ble_eq_true rfl) dX1_takePart_33 (fun H locs hP hD hS => ?_)
      have hP : va_P D vwCl [(a, .inr (1, [.int kd, .int c1, .int r1, .int x, .int y, .int v, .int (nI (e + 2))])), (t, .inr (6, [.ref t1, .int (nI n)])), (t1, .inl (cC, 60, .inl (TA T)))] H := hP
      have hD : va_D A [(a, .inr (1, [.int kd, .int c1, .int r1, .int x, .int y, .int v, .int (nI (e + 2))])), (t, .inr (6, [.ref t1, .int (nI n)])), (t1, .inl (cC, 60, .inl (TA T)))] := hD
      refine lv_iload_n hx hb dX1_takePart_36 rfl (lv_at hl 1 rfl) ?_
      refine lv_if_lt hx hb (tgt := 53) dX1_takePart_37 (by decide) (fun cq => ?_) (fun cq => absurd cq (by decide))
      refine lv_iconst (v := (-1)) hx hb dX1_takePart_53 (by decide) ?_
      exact rtW_i () hQ hx hb hr hlk hS hP dX1_takePart_54 (Or.inr ⟨fun q => d_8 q.1, rfl⟩)
    · refine lv_istore_n (lv' := [(3, .int (-1)), (2, .int (-1)), (0, .ref a), (1, .ref t)]) hx hb dX1_takePart_25 rfl hl (by decide) rfl (fun ls hl => ?_)
      refine lv_aload_n hx hb dX1_takePart_26 rfl (lv_at hl 2 rfl) ?_
      refine lv_dup hx hb dX1_takePart_27 rfl ?_
      refine va_get (D := D) (ci := 1) (v := .int (nI e)) (C := RX1) (T := TX1) (N := 7) hx hb hts iw_X1_takePart_X1 hown hKa hP 0 rfl rfl 6 (by decide) (hts (.fieldLink RX1 32 "ColourPatches$Command" "end" "I") (by decide +kernel)) (fun _ h9 => h9) rfl dX1_takePart_28 ?_
      refine lv_iconst (v := nI 2) hx hb dX1_takePart_31 (by decide) ?_
      refine gn_add hx hb dX1_takePart_32 ?_
      refine va_put (D := D) (ci := 1) (v := .int (nI (e + 2))) (ty := .int) (C := RX1) (T := TX1) (N := 7) hx hb hts iw_X1_takePart_X1 tyX1 tyX1_ok nmX1 hown hKa hP hD hS 0 rfl rfl 6 (by decide) (hts (.fieldLink RX1 32 "ColourPatches$Command" "end" "I") (by decide +kernel)) (fun _ h9 => h9) rfl (by decide +kernel) rfl rfl (Nat.le_of_ble_eq_true rfl) dX1_takePart_33 (fun H locs hP hD hS => ?_)
      have hP : va_P D vwCl [(a, .inr (1, [.int kd, .int c1, .int r1, .int x, .int y, .int v, .int (nI (e + 2))])), (t, .inr (6, [.ref t1, .int (nI n)])), (t1, .inl (cC, 60, .inl (TA T)))] H := hP
      have hD : va_D A [(a, .inr (1, [.int kd, .int c1, .int r1, .int x, .int y, .int v, .int (nI (e + 2))])), (t, .inr (6, [.ref t1, .int (nI n)])), (t1, .inl (cC, 60, .inl (TA T)))] := hD
      refine lv_iload_n hx hb dX1_takePart_36 rfl (lv_at hl 1 rfl) ?_
      refine lv_if_lt hx hb (tgt := 53) dX1_takePart_37 (by decide) (fun cq => ?_) (fun cq => absurd cq (by decide))
      refine lv_iconst (v := (-1)) hx hb dX1_takePart_53 (by decide) ?_
      exact rtW_i () hQ hx hb hr hlk hS hP dX1_takePart_54 (Or.inr ⟨fun q => d_8 q.1, rfl⟩)
abbrev rmX1_takeColour : Room := { frames := 3, cells := 0, slots := 0, locals := 63 }
set_option maxRecDepth 20000 in
theorem iw_X1_takeColour_X1 : ∀ w ∈ u_ws RX1 TX1 7, w ∈ wsX1_takeColour := by decide +kernel
set_option maxHeartbeats 4000000 in
set_option maxRecDepth 100000 in
theorem c_X1_takeColour (l : Launch) (D : va_G) (cI cC cQ : ClassId) (a : Nat) (kd c1 r1 x y v : Int32) (e : Nat) (t t1 : Nat) (n : Nat) (T : Nat → Nat) (sz : Nat) (hn : n ≤ 60) (hT : ∀ k, T k < 127) (he : e < 900) : Met l yX1_takeColour wsX1_takeColour rmX1_takeColour (PW D cI cC cQ [.ref a, .ref t] [(a, .inr (1, [.int kd, .int c1, .int r1, .int x, .int y, .int v, .int (nI e)])), (t, .inr (6, [.ref t1, .int (nI n)])), (t1, .inl (cC, 60, .inl (TA T)))] sz) (va_Qi (fun (z : Int32) (u : Int32 × Int32 × Int32) => BB (ptP T n e ∧ ptP T n (e + 2) ∧ ptP T n (e + 4)) z ∧ ((ptP T n e ∧ ptP T n (e + 2) ∧ ptP T n (e + 4)) → u = (nI (ptV T n e), nI (ptV T n (e + 2)), nI (ptV T n (e + 4))))) (fun (u : Int32 × Int32 × Int32) t9 => va_P D vwCl [(a, .inr (1, [.int kd, .int c1, .int r1, .int u.1, .int u.2.1, .int u.2.2, .int (nI (e + 6))])), (t, .inr (6, [.ref t1, .int (nI n)])), (t1, .inl (cC, 60, .inl (TA T)))] t9.heap) (va_A [(a, .inr (1, [.int kd, .int c1, .int r1, .int x, .int y, .int v, .int (nI e)])), (t, .inr (6, [.ref t1, .int (nI n)])), (t1, .inl (cC, 60, .inl (TA T)))] sz)) 0 0 (va_A [(a, .inr (1, [.int kd, .int c1, .int r1, .int x, .int y, .int v, .int (nI e)])), (t, .inr (6, [.ref t1, .int (nI n)])), (t1, .inl (cC, 60, .inl (TA T)))] sz) := by
  refine metW (y := yX1_takeColour) (ws := wsX1_takeColour) (rm := rmX1_takeColour) (D := D) (cI := cI) (cC := cC) (cQ := cQ) (av := [.ref a, .ref t]) (wd := [(a, .inr (1, [.int kd, .int c1, .int r1, .int x, .int y, .int v, .int (nI e)])), (t, .inr (6, [.ref t1, .int (nI n)])), (t1, .inl (cC, 60, .inl (TA T)))]) (sz := sz) (Qf := fun A => va_Qi (fun (z : Int32) (u : Int32 × Int32 × Int32) => BB (ptP T n e ∧ ptP T n (e + 2) ∧ ptP T n (e + 4)) z ∧ ((ptP T n e ∧ ptP T n (e + 2) ∧ ptP T n (e + 4)) → u = (nI (ptV T n e), nI (ptV T n (e + 2)), nI (ptV T n (e + 4))))) (fun (u : Int32 × Int32 × Int32) t9 => va_P D vwCl [(a, .inr (1, [.int kd, .int c1, .int r1, .int u.1, .int u.2.1, .int u.2.2, .int (nI (e + 6))])), (t, .inr (6, [.ref t1, .int (nI n)])), (t1, .inl (cC, 60, .inl (TA T)))] t9.heap) A) (cc := cX1_takeColour) (maxL := 2) (ret := (some .boolean)) (by decide) rfl (Nat.le_of_ble_eq_true rfl) ?_
  intro pg ev s mi args below meth cd ls A Q hQ hx hb hml hr hts hown hlk hnm hK hP hD hS hA hl
  have hKa := hK.1
  have hl : lv_has ls 2 [(0, .ref a), (1, .ref t)] := hl
  refine lv_aload_n hx hb dX1_takeColour_0 rfl (lv_at hl 0 rfl) ?_
  refine lv_aload_n hx hb dX1_takeColour_1 rfl (lv_at hl 0 rfl) ?_
  refine lv_aload_n hx hb dX1_takeColour_2 rfl (lv_at hl 1 rfl) ?_
  have hPc := hP.sub (ws' := [(a, .inr (1, [.int kd, .int c1, .int r1, .int x, .int y, .int v, .int (nI e)])), (t, .inr (6, [.ref t1, .int (nI n)])), (t1, .inl (cC, 60, .inl (TA T)))]) [0, 1, 2] rfl
  have hDc := hD.sub (ws' := [(a, .inr (1, [.int kd, .int c1, .int r1, .int x, .int y, .int v, .int (nI e)])), (t, .inr (6, [.ref t1, .int (nI n)])), (t1, .inl (cC, 60, .inl (TA T)))]) [0, 1, 2] (by decide) rfl
  refine clW (wc := [(a, .inr (1, [.int kd, .int c1, .int r1, .int x, .int y, .int v, .int (nI e)])), (t, .inr (6, [.ref t1, .int (nI n)])), (t1, .inl (cC, 60, .inl (TA T)))]) (w1 := fun (u_3 : Unit) => [(a, .inr (1, [.int kd, .int c1, .int r1, .int x, .int y, .int v, .int (nI (e + 2))])), (t, .inr (6, [.ref t1, .int (nI n)])), (t1, .inl (cC, 60, .inl (TA T)))]) (wr := []) (wn := fun (u_3 : Unit) => [(a, .inr (1, [.int kd, .int c1, .int r1, .int x, .int y, .int v, .int (nI (e + 2))])), (t, .inr (6, [.ref t1, .int (nI n)])), (t1, .inl (cC, 60, .inl (TA T)))]) hP hD hS hA [0, 1, 2] [] [0, 1, 2] rfl rfl rfl rfl (by decide) (fun _ => rfl) (fun _ => rfl) (fun _ => rfl) (va_runV (As := [.ref t]) (rest := [.ref a]) ⟨hx, hb, hml, hown, hts⟩ (c_X1_takePart l D cI cC cQ a kd c1 r1 x y v e t t1 n T s.heap.size (by first | assumption | omega) (by first | assumption | omega) (by first | assumption | omega)) (cwV (rm := rmX1_takePart) 1 hts gX1_takeColour_X1_takePart rfl rfl rfl (by decide +kernel) ⟨Nat.le_of_ble_eq_true rfl, Nat.le_of_ble_eq_true rfl⟩) ⟨PW.blind, va_recv hKa hPc (ci := 1) (q0 := 0) rfl rfl, PW.go hPc hK hDc⟩ rfl rfl hl.1 rfl (lv_room (Nat.le_of_ble_eq_true rfl)) dX1_takeColour_3 ⟨Nat.le_of_ble_eq_true rfl, Nat.le_of_ble_eq_true rfl⟩) (fun r_3 u_3 H locs h_3 hP hD hS => ?_)
  have hP : va_P D vwCl [(a, .inr (1, [.int kd, .int c1, .int r1, .int x, .int y, .int v, .int (nI (e + 2))])), (t, .inr (6, [.ref t1, .int (nI n)])), (t1, .inl (cC, 60, .inl (TA T)))] H := hP
  have hD : va_D A [(a, .inr (1, [.int kd, .int c1, .int r1, .int x, .int y, .int v, .int (nI (e + 2))])), (t, .inr (6, [.ref t1, .int (nI n)])), (t1, .inl (cC, 60, .inl (TA T)))] := hD
  rcases h_3 with ⟨d_3, rfl⟩ | ⟨d_3, rfl⟩
  · have hv3 := ptV_lt d_3
    refine va_put (D := D) (ci := 1) (v := .int (nI (ptV T n e))) (ty := .int) (C := RX1) (T := TX1) (N := 7) hx hb hts iw_X1_takeColour_X1 tyX1 tyX1_ok nmX1 hown hKa hP hD hS 0 rfl rfl 3 (by decide) (hts (.fieldLink RX1 50 "ColourPatches$Command" "one" "I") (by decide +kernel)) (fun _ h9 => h9) rfl (by decide +kernel) rfl rfl (Nat.le_of_ble_eq_true rfl) dX1_takeColour_6 (fun H locs hP hD hS => ?_)
    have hP : va_P D vwCl [(a, .inr (1, [.int kd, .int c1, .int r1, .int (nI (ptV T n e)), .int y, .int v, .int (nI (e + 2))])), (t, .inr (6, [.ref t1, .int (nI n)])), (t1, .inl (cC, 60, .inl (TA T)))] H := hP
    have hD : va_D A [(a, .inr (1, [.int kd, .int c1, .int r1, .int (nI (ptV T n e)), .int y, .int v, .int (nI (e + 2))])), (t, .inr (6, [.ref t1, .int (nI n)])), (t1, .inl (cC, 60, .inl (TA T)))] := hD
    refine lv_aload_n hx hb dX1_takeColour_9 rfl (lv_at hl 0 rfl) ?_
    refine lv_aload_n hx hb dX1_takeColour_10 rfl (lv_at hl 0 rfl) ?_
    refine lv_aload_n hx hb dX1_takeColour_11 rfl (lv_at hl 1 rfl) ?_
    have hPc := hP.sub (ws' := [(a, .inr (1, [.int kd, .int c1, .int r1, .int (nI (ptV T n e)), .int y, .int v, .int (nI (e + 2))])), (t, .inr (6, [.ref t1, .int (nI n)])), (t1, .inl (cC, 60, .inl (TA T)))]) [0, 1, 2] rfl
    have hDc := hD.sub (ws' := [(a, .inr (1, [.int kd, .int c1, .int r1, .int (nI (ptV T n e)), .int y, .int v, .int (nI (e + 2))])), (t, .inr (6, [.ref t1, .int (nI n)])), (t1, .inl (cC, 60, .inl (TA T)))]) [0, 1, 2] (by decide) rfl
    refine clW (wc := [(a, .inr (1, [.int kd, .int c1, .int r1, .int (nI (ptV T n e)), .int y, .int v, .int (nI (e + 2))])), (t, .inr (6, [.ref t1, .int (nI n)])), (t1, .inl (cC, 60, .inl (TA T)))]) (w1 := fun (u_12 : Unit) => [(a, .inr (1, [.int kd, .int c1, .int r1, .int (nI (ptV T n e)), .int y, .int v, .int (nI ((e + 2) + 2))])), (t, .inr (6, [.ref t1, .int (nI n)])), (t1, .inl (cC, 60, .inl (TA T)))]) (wr := []) (wn := fun (u_12 : Unit) => [(a, .inr (1, [.int kd, .int c1, .int r1, .int (nI (ptV T n e)), .int y, .int v, .int (nI ((e + 2) + 2))])), (t, .inr (6, [.ref t1, .int (nI n)])), (t1, .inl (cC, 60, .inl (TA T)))]) hP hD hS hA [0, 1, 2] [] [0, 1, 2] rfl rfl rfl rfl (by decide) (fun _ => rfl) (fun _ => rfl) (fun _ => rfl) (va_runV (As := [.ref t]) (rest := [.ref a]) ⟨hx, hb, hml, hown, hts⟩ (c_X1_takePart l D cI cC cQ a kd c1 r1 (nI (ptV T n e)) y v (e + 2) t t1 n T H.size (by first | assumption | omega) (by first | assumption | omega) (by first | assumption | omega)) (cwV (rm := rmX1_takePart) 1 hts gX1_takeColour_X1_takePart rfl rfl rfl (by decide +kernel) ⟨Nat.le_of_ble_eq_true rfl, Nat.le_of_ble_eq_true rfl⟩) ⟨PW.blind, va_recv hKa hPc (ci := 1) (q0 := 0) rfl rfl, PW.go hPc hK hDc⟩ rfl rfl hl.1 rfl (lv_room (Nat.le_of_ble_eq_true rfl)) dX1_takeColour_12 ⟨Nat.le_of_ble_eq_true rfl, Nat.le_of_ble_eq_true rfl⟩) (fun r_12 u_12 H locs h_12 hP hD hS => ?_)
    have hP : va_P D vwCl [(a, .inr (1, [.int kd, .int c1, .int r1, .int (nI (ptV T n e)), .int y, .int v, .int (nI ((e + 2) + 2))])), (t, .inr (6, [.ref t1, .int (nI n)])), (t1, .inl (cC, 60, .inl (TA T)))] H := hP
    have hD : va_D A [(a, .inr (1, [.int kd, .int c1, .int r1, .int (nI (ptV T n e)), .int y, .int v, .int (nI ((e + 2) + 2))])), (t, .inr (6, [.ref t1, .int (nI n)])), (t1, .inl (cC, 60, .inl (TA T)))] := hD
    rcases h_12 with ⟨d_12, rfl⟩ | ⟨d_12, rfl⟩
    · have hv12 := ptV_lt d_12
      refine va_put (D := D) (ci := 1) (v := .int (nI (ptV T n (e + 2)))) (ty := .int) (C := RX1) (T := TX1) (N := 7) hx hb hts iw_X1_takeColour_X1 tyX1 tyX1_ok nmX1 hown hKa hP hD hS 0 rfl rfl 4 (by decide) (hts (.fieldLink RX1 53 "ColourPatches$Command" "two" "I") (by decide +kernel)) (fun _ h9 => h9) rfl (by decide +kernel) rfl rfl (Nat.le_of_ble_eq_true rfl) dX1_takeColour_15 (fun H locs hP hD hS => ?_)
      have hP : va_P D vwCl [(a, .inr (1, [.int kd, .int c1, .int r1, .int (nI (ptV T n e)), .int (nI (ptV T n (e + 2))), .int v, .int (nI ((e + 2) + 2))])), (t, .inr (6, [.ref t1, .int (nI n)])), (t1, .inl (cC, 60, .inl (TA T)))] H := hP
      have hD : va_D A [(a, .inr (1, [.int kd, .int c1, .int r1, .int (nI (ptV T n e)), .int (nI (ptV T n (e + 2))), .int v, .int (nI ((e + 2) + 2))])), (t, .inr (6, [.ref t1, .int (nI n)])), (t1, .inl (cC, 60, .inl (TA T)))] := hD
      refine lv_aload_n hx hb dX1_takeColour_18 rfl (lv_at hl 0 rfl) ?_
      refine lv_aload_n hx hb dX1_takeColour_19 rfl (lv_at hl 0 rfl) ?_
      refine lv_aload_n hx hb dX1_takeColour_20 rfl (lv_at hl 1 rfl) ?_
      have hPc := hP.sub (ws' := [(a, .inr (1, [.int kd, .int c1, .int r1, .int (nI (ptV T n e)), .int (nI (ptV T n (e + 2))), .int v, .int (nI ((e + 2) + 2))])), (t, .inr (6, [.ref t1, .int (nI n)])), (t1, .inl (cC, 60, .inl (TA T)))]) [0, 1, 2] rfl
      have hDc := hD.sub (ws' := [(a, .inr (1, [.int kd, .int c1, .int r1, .int (nI (ptV T n e)), .int (nI (ptV T n (e + 2))), .int v, .int (nI ((e + 2) + 2))])), (t, .inr (6, [.ref t1, .int (nI n)])), (t1, .inl (cC, 60, .inl (TA T)))]) [0, 1, 2] (by decide) rfl
      refine clW (wc := [(a, .inr (1, [.int kd, .int c1, .int r1, .int (nI (ptV T n e)), .int (nI (ptV T n (e + 2))), .int v, .int (nI ((e + 2) + 2))])), (t, .inr (6, [.ref t1, .int (nI n)])), (t1, .inl (cC, 60, .inl (TA T)))]) (w1 := fun (u_21 : Unit) => [(a, .inr (1, [.int kd, .int c1, .int r1, .int (nI (ptV T n e)), .int (nI (ptV T n (e + 2))), .int v, .int (nI (((e + 2) + 2) + 2))])), (t, .inr (6, [.ref t1, .int (nI n)])), (t1, .inl (cC, 60, .inl (TA T)))]) (wr := []) (wn := fun (u_21 : Unit) => [(a, .inr (1, [.int kd, .int c1, .int r1, .int (nI (ptV T n e)), .int (nI (ptV T n (e + 2))), .int v, .int (nI (((e + 2) + 2) + 2))])), (t, .inr (6, [.ref t1, .int (nI n)])), (t1, .inl (cC, 60, .inl (TA T)))]) hP hD hS hA [0, 1, 2] [] [0, 1, 2] rfl rfl rfl rfl (by decide) (fun _ => rfl) (fun _ => rfl) (fun _ => rfl) (va_runV (As := [.ref t]) (rest := [.ref a]) ⟨hx, hb, hml, hown, hts⟩ (c_X1_takePart l D cI cC cQ a kd c1 r1 (nI (ptV T n e)) (nI (ptV T n (e + 2))) v ((e + 2) + 2) t t1 n T H.size (by first | assumption | omega) (by first | assumption | omega) (by first | assumption | omega)) (cwV (rm := rmX1_takePart) 1 hts gX1_takeColour_X1_takePart rfl rfl rfl (by decide +kernel) ⟨Nat.le_of_ble_eq_true rfl, Nat.le_of_ble_eq_true rfl⟩) ⟨PW.blind, va_recv hKa hPc (ci := 1) (q0 := 0) rfl rfl, PW.go hPc hK hDc⟩ rfl rfl hl.1 rfl (lv_room (Nat.le_of_ble_eq_true rfl)) dX1_takeColour_21 ⟨Nat.le_of_ble_eq_true rfl, Nat.le_of_ble_eq_true rfl⟩) (fun r_21 u_21 H locs h_21 hP hD hS => ?_)
      have hP : va_P D vwCl [(a, .inr (1, [.int kd, .int c1, .int r1, .int (nI (ptV T n e)), .int (nI (ptV T n (e + 2))), .int v, .int (nI (((e + 2) + 2) + 2))])), (t, .inr (6, [.ref t1, .int (nI n)])), (t1, .inl (cC, 60, .inl (TA T)))] H := hP
      have hD : va_D A [(a, .inr (1, [.int kd, .int c1, .int r1, .int (nI (ptV T n e)), .int (nI (ptV T n (e + 2))), .int v, .int (nI (((e + 2) + 2) + 2))])), (t, .inr (6, [.ref t1, .int (nI n)])), (t1, .inl (cC, 60, .inl (TA T)))] := hD
      rcases h_21 with ⟨d_21, rfl⟩ | ⟨d_21, rfl⟩
      · have hv21 := ptV_lt d_21
        refine va_put (D := D) (ci := 1) (v := .int (nI (ptV T n ((e + 2) + 2)))) (ty := .int) (C := RX1) (T := TX1) (N := 7) hx hb hts iw_X1_takeColour_X1 tyX1 tyX1_ok nmX1 hown hKa hP hD hS 0 rfl rfl 5 (by decide) (hts (.fieldLink RX1 56 "ColourPatches$Command" "three" "I") (by decide +kernel)) (fun _ h9 => h9) rfl (by decide +kernel) rfl rfl (Nat.le_of_ble_eq_true rfl) dX1_takeColour_24 (fun H locs hP hD hS => ?_)
        have hP : va_P D vwCl [(a, .inr (1, [.int kd, .int c1, .int r1, .int (nI (ptV T n e)), .int (nI (ptV T n (e + 2))), .int (nI (ptV T n ((e + 2) + 2))), .int (nI (((e + 2) + 2) + 2))])), (t, .inr (6, [.ref t1, .int (nI n)])), (t1, .inl (cC, 60, .inl (TA T)))] H := hP
        have hD : va_D A [(a, .inr (1, [.int kd, .int c1, .int r1, .int (nI (ptV T n e)), .int (nI (ptV T n (e + 2))), .int (nI (ptV T n ((e + 2) + 2))), .int (nI (((e + 2) + 2) + 2))])), (t, .inr (6, [.ref t1, .int (nI n)])), (t1, .inl (cC, 60, .inl (TA T)))] := hD
        refine lv_aload_n hx hb dX1_takeColour_27 rfl (lv_at hl 0 rfl) ?_
        refine va_get (D := D) (ci := 1) (v := .int (nI (ptV T n e))) (C := RX1) (T := TX1) (N := 7) hx hb hts iw_X1_takeColour_X1 hown hKa hP 0 rfl rfl 3 (by decide) (hts (.fieldLink RX1 50 "ColourPatches$Command" "one" "I") (by decide +kernel)) (fun _ h9 => h9) rfl dX1_takeColour_28 ?_
        refine gn_if_lt hx hb (by omega) (tgt := 52) dX1_takeColour_31 (by decide) ?_
        refine lv_aload_n hx hb dX1_takeColour_34 rfl (lv_at hl 0 rfl) ?_
        refine va_get (D := D) (ci := 1) (v := .int (nI (ptV T n (e + 2)))) (C := RX1) (T := TX1) (N := 7) hx hb hts iw_X1_takeColour_X1 hown hKa hP 0 rfl rfl 4 (by decide) (hts (.fieldLink RX1 53 "ColourPatches$Command" "two" "I") (by decide +kernel)) (fun _ h9 => h9) rfl dX1_takeColour_35 ?_
        refine gn_if_lt hx hb (by omega) (tgt := 52) dX1_takeColour_38 (by decide) ?_
        refine lv_aload_n hx hb dX1_takeColour_41 rfl (lv_at hl 0 rfl) ?_
        refine va_get (D := D) (ci := 1) (v := .int (nI (ptV T n ((e + 2) + 2)))) (C := RX1) (T := TX1) (N := 7) hx hb hts iw_X1_takeColour_X1 hown hKa hP 0 rfl rfl 5 (by decide) (hts (.fieldLink RX1 56 "ColourPatches$Command" "three" "I") (by decide +kernel)) (fun _ h9 => h9) rfl dX1_takeColour_42 ?_
        refine gn_if_lt hx hb (by omega) (tgt := 52) dX1_takeColour_45 (by decide) ?_
        refine lv_iconst (v := nI 1) hx hb dX1_takeColour_48 (by decide) ?_
        refine lv_goto (tgt := 53) hx hb dX1_takeColour_49 (by decide) ?_
        exact rtW_z (nI (ptV T n e), nI (ptV T n (e + 2)), nI (ptV T n ((e + 2) + 2))) hQ hx hb hr hlk hS hP dX1_takeColour_53 (by decide +kernel) (⟨Or.inl ⟨⟨d_3, d_12, d_21⟩, rfl⟩, fun _ => rfl⟩)
      · refine va_put (D := D) (ci := 1) (v := .int (-1)) (ty := .int) (C := RX1) (T := TX1) (N := 7) hx hb hts iw_X1_takeColour_X1 tyX1 tyX1_ok nmX1 hown hKa hP hD hS 0 rfl rfl 5 (by decide) (hts (.fieldLink RX1 56 "ColourPatches$Command" "three" "I") (by decide +kernel)) (fun _ h9 => h9) rfl (by decide +kernel) rfl rfl (Nat.le_of_ble_eq_true rfl) dX1_takeColour_24 (fun H locs hP hD hS => ?_)
        have hP : va_P D vwCl [(a, .inr (1, [.int kd, .int c1, .int r1, .int (nI (ptV T n e)), .int (nI (ptV T n (e + 2))), .int (-1), .int (nI (((e + 2) + 2) + 2))])), (t, .inr (6, [.ref t1, .int (nI n)])), (t1, .inl (cC, 60, .inl (TA T)))] H := hP
        have hD : va_D A [(a, .inr (1, [.int kd, .int c1, .int r1, .int (nI (ptV T n e)), .int (nI (ptV T n (e + 2))), .int (-1), .int (nI (((e + 2) + 2) + 2))])), (t, .inr (6, [.ref t1, .int (nI n)])), (t1, .inl (cC, 60, .inl (TA T)))] := hD
        refine lv_aload_n hx hb dX1_takeColour_27 rfl (lv_at hl 0 rfl) ?_
        refine va_get (D := D) (ci := 1) (v := .int (nI (ptV T n e))) (C := RX1) (T := TX1) (N := 7) hx hb hts iw_X1_takeColour_X1 hown hKa hP 0 rfl rfl 3 (by decide) (hts (.fieldLink RX1 50 "ColourPatches$Command" "one" "I") (by decide +kernel)) (fun _ h9 => h9) rfl dX1_takeColour_28 ?_
        refine gn_if_lt hx hb (by omega) (tgt := 52) dX1_takeColour_31 (by decide) ?_
        refine lv_aload_n hx hb dX1_takeColour_34 rfl (lv_at hl 0 rfl) ?_
        refine va_get (D := D) (ci := 1) (v := .int (nI (ptV T n (e + 2)))) (C := RX1) (T := TX1) (N := 7) hx hb hts iw_X1_takeColour_X1 hown hKa hP 0 rfl rfl 4 (by decide) (hts (.fieldLink RX1 53 "ColourPatches$Command" "two" "I") (by decide +kernel)) (fun _ h9 => h9) rfl dX1_takeColour_35 ?_
        refine gn_if_lt hx hb (by omega) (tgt := 52) dX1_takeColour_38 (by decide) ?_
        refine lv_aload_n hx hb dX1_takeColour_41 rfl (lv_at hl 0 rfl) ?_
        refine va_get (D := D) (ci := 1) (v := .int (-1)) (C := RX1) (T := TX1) (N := 7) hx hb hts iw_X1_takeColour_X1 hown hKa hP 0 rfl rfl 5 (by decide) (hts (.fieldLink RX1 56 "ColourPatches$Command" "three" "I") (by decide +kernel)) (fun _ h9 => h9) rfl dX1_takeColour_42 ?_
        refine lv_if_lt hx hb (tgt := 52) dX1_takeColour_45 (by decide) (fun cq => ?_) (fun cq => absurd cq (by decide))
        refine lv_iconst (v := nI 0) hx hb dX1_takeColour_52 (by decide) ?_
        exact rtW_z (nI (ptV T n e), nI (ptV T n (e + 2)), (-1)) hQ hx hb hr hlk hS hP dX1_takeColour_53 (by decide +kernel) (⟨Or.inr ⟨fun q => d_21 q.2.2, rfl⟩, fun q => absurd q.2.2 d_21⟩)
    · refine va_put (D := D) (ci := 1) (v := .int (-1)) (ty := .int) (C := RX1) (T := TX1) (N := 7) hx hb hts iw_X1_takeColour_X1 tyX1 tyX1_ok nmX1 hown hKa hP hD hS 0 rfl rfl 4 (by decide) (hts (.fieldLink RX1 53 "ColourPatches$Command" "two" "I") (by decide +kernel)) (fun _ h9 => h9) rfl (by decide +kernel) rfl rfl (Nat.le_of_ble_eq_true rfl) dX1_takeColour_15 (fun H locs hP hD hS => ?_)
      have hP : va_P D vwCl [(a, .inr (1, [.int kd, .int c1, .int r1, .int (nI (ptV T n e)), .int (-1), .int v, .int (nI ((e + 2) + 2))])), (t, .inr (6, [.ref t1, .int (nI n)])), (t1, .inl (cC, 60, .inl (TA T)))] H := hP
      have hD : va_D A [(a, .inr (1, [.int kd, .int c1, .int r1, .int (nI (ptV T n e)), .int (-1), .int v, .int (nI ((e + 2) + 2))])), (t, .inr (6, [.ref t1, .int (nI n)])), (t1, .inl (cC, 60, .inl (TA T)))] := hD
      refine lv_aload_n hx hb dX1_takeColour_18 rfl (lv_at hl 0 rfl) ?_
      refine lv_aload_n hx hb dX1_takeColour_19 rfl (lv_at hl 0 rfl) ?_
      refine lv_aload_n hx hb dX1_takeColour_20 rfl (lv_at hl 1 rfl) ?_
      have hPc := hP.sub (ws' := [(a, .inr (1, [.int kd, .int c1, .int r1, .int (nI (ptV T n e)), .int (-1), .int v, .int (nI ((e + 2) + 2))])), (t, .inr (6, [.ref t1, .int (nI n)])), (t1, .inl (cC, 60, .inl (TA T)))]) [0, 1, 2] rfl
      have hDc := hD.sub (ws' := [(a, .inr (1, [.int kd, .int c1, .int r1, .int (nI (ptV T n e)), .int (-1), .int v, .int (nI ((e + 2) + 2))])), (t, .inr (6, [.ref t1, .int (nI n)])), (t1, .inl (cC, 60, .inl (TA T)))]) [0, 1, 2] (by decide) rfl
      refine clW (wc := [(a, .inr (1, [.int kd, .int c1, .int r1, .int (nI (ptV T n e)), .int (-1), .int v, .int (nI ((e + 2) + 2))])), (t, .inr (6, [.ref t1, .int (nI n)])), (t1, .inl (cC, 60, .inl (TA T)))]) (w1 := fun (u_21 : Unit) => [(a, .inr (1, [.int kd, .int c1, .int r1, .int (nI (ptV T n e)), .int (-1), .int v, .int (nI (((e + 2) + 2) + 2))])), (t, .inr (6, [.ref t1, .int (nI n)])), (t1, .inl (cC, 60, .inl (TA T)))]) (wr := []) (wn := fun (u_21 : Unit) => [(a, .inr (1, [.int kd, .int c1, .int r1, .int (nI (ptV T n e)), .int (-1), .int v, .int (nI (((e + 2) + 2) + 2))])), (t, .inr (6, [.ref t1, .int (nI n)])), (t1, .inl (cC, 60, .inl (TA T)))]) hP hD hS hA [0, 1, 2] [] [0, 1, 2] rfl rfl rfl rfl (by decide) (fun _ => rfl) (fun _ => rfl) (fun _ => rfl) (va_runV (As := [.ref t]) (rest := [.ref a]) ⟨hx, hb, hml, hown, hts⟩ (c_X1_takePart l D cI cC cQ a kd c1 r1 (nI (ptV T n e)) (-1) v ((e + 2) + 2) t t1 n T H.size (by first | assumption | omega) (by first | assumption | omega) (by first | assumption | omega)) (cwV (rm := rmX1_takePart) 1 hts gX1_takeColour_X1_takePart rfl rfl rfl (by decide +kernel) ⟨Nat.le_of_ble_eq_true rfl, Nat.le_of_ble_eq_true rfl⟩) ⟨PW.blind, va_recv hKa hPc (ci := 1) (q0 := 0) rfl rfl, PW.go hPc hK hDc⟩ rfl rfl hl.1 rfl (lv_room (Nat.le_of_ble_eq_true rfl)) dX1_takeColour_21 ⟨Nat.le_of_ble_eq_true rfl, Nat.le_of_ble_eq_true rfl⟩) (fun r_21 u_21 H locs h_21 hP hD hS => ?_)
      have hP : va_P D vwCl [(a, .inr (1, [.int kd, .int c1, .int r1, .int (nI (ptV T n e)), .int (-1), .int v, .int (nI (((e + 2) + 2) + 2))])), (t, .inr (6, [.ref t1, .int (nI n)])), (t1, .inl (cC, 60, .inl (TA T)))] H := hP
      have hD : va_D A [(a, .inr (1, [.int kd, .int c1, .int r1, .int (nI (ptV T n e)), .int (-1), .int v, .int (nI (((e + 2) + 2) + 2))])), (t, .inr (6, [.ref t1, .int (nI n)])), (t1, .inl (cC, 60, .inl (TA T)))] := hD
      rcases h_21 with ⟨d_21, rfl⟩ | ⟨d_21, rfl⟩
      · have hv21 := ptV_lt d_21
        refine va_put (D := D) (ci := 1) (v := .int (nI (ptV T n ((e + 2) + 2)))) (ty := .int) (C := RX1) (T := TX1) (N := 7) hx hb hts iw_X1_takeColour_X1 tyX1 tyX1_ok nmX1 hown hKa hP hD hS 0 rfl rfl 5 (by decide) (hts (.fieldLink RX1 56 "ColourPatches$Command" "three" "I") (by decide +kernel)) (fun _ h9 => h9) rfl (by decide +kernel) rfl rfl (Nat.le_of_ble_eq_true rfl) dX1_takeColour_24 (fun H locs hP hD hS => ?_)
        have hP : va_P D vwCl [(a, .inr (1, [.int kd, .int c1, .int r1, .int (nI (ptV T n e)), .int (-1), .int (nI (ptV T n ((e + 2) + 2))), .int (nI (((e + 2) + 2) + 2))])), (t, .inr (6, [.ref t1, .int (nI n)])), (t1, .inl (cC, 60, .inl (TA T)))] H := hP
        have hD : va_D A [(a, .inr (1, [.int kd, .int c1, .int r1, .int (nI (ptV T n e)), .int (-1), .int (nI (ptV T n ((e + 2) + 2))), .int (nI (((e + 2) + 2) + 2))])), (t, .inr (6, [.ref t1, .int (nI n)])), (t1, .inl (cC, 60, .inl (TA T)))] := hD
        refine lv_aload_n hx hb dX1_takeColour_27 rfl (lv_at hl 0 rfl) ?_
        refine va_get (D := D) (ci := 1) (v := .int (nI (ptV T n e))) (C := RX1) (T := TX1) (N := 7) hx hb hts iw_X1_takeColour_X1 hown hKa hP 0 rfl rfl 3 (by decide) (hts (.fieldLink RX1 50 "ColourPatches$Command" "one" "I") (by decide +kernel)) (fun _ h9 => h9) rfl dX1_takeColour_28 ?_
        refine gn_if_lt hx hb (by omega) (tgt := 52) dX1_takeColour_31 (by decide) ?_
        refine lv_aload_n hx hb dX1_takeColour_34 rfl (lv_at hl 0 rfl) ?_
        refine va_get (D := D) (ci := 1) (v := .int (-1)) (C := RX1) (T := TX1) (N := 7) hx hb hts iw_X1_takeColour_X1 hown hKa hP 0 rfl rfl 4 (by decide) (hts (.fieldLink RX1 53 "ColourPatches$Command" "two" "I") (by decide +kernel)) (fun _ h9 => h9) rfl dX1_takeColour_35 ?_
        refine lv_if_lt hx hb (tgt := 52) dX1_takeColour_38 (by decide) (fun cq => ?_) (fun cq => absurd cq (by decide))
        refine lv_iconst (v := nI 0) hx hb dX1_takeColour_52 (by decide) ?_
        exact rtW_z (nI (ptV T n e), -1, nI (ptV T n ((e + 2) + 2))) hQ hx hb hr hlk hS hP dX1_takeColour_53 (by decide +kernel) (⟨Or.inr ⟨fun q => d_12 q.2.1, rfl⟩, fun q => absurd q.2.1 d_12⟩)
      · refine va_put (D := D) (ci := 1) (v := .int (-1)) (ty := .int) (C := RX1) (T := TX1) (N := 7) hx hb hts iw_X1_takeColour_X1 tyX1 tyX1_ok nmX1 hown hKa hP hD hS 0 rfl rfl 5 (by decide) (hts (.fieldLink RX1 56 "ColourPatches$Command" "three" "I") (by decide +kernel)) (fun _ h9 => h9) rfl (by decide +kernel) rfl rfl (Nat.le_of_ble_eq_true rfl) dX1_takeColour_24 (fun H locs hP hD hS => ?_)
        have hP : va_P D vwCl [(a, .inr (1, [.int kd, .int c1, .int r1, .int (nI (ptV T n e)), .int (-1), .int (-1), .int (nI (((e + 2) + 2) + 2))])), (t, .inr (6, [.ref t1, .int (nI n)])), (t1, .inl (cC, 60, .inl (TA T)))] H := hP
        have hD : va_D A [(a, .inr (1, [.int kd, .int c1, .int r1, .int (nI (ptV T n e)), .int (-1), .int (-1), .int (nI (((e + 2) + 2) + 2))])), (t, .inr (6, [.ref t1, .int (nI n)])), (t1, .inl (cC, 60, .inl (TA T)))] := hD
        refine lv_aload_n hx hb dX1_takeColour_27 rfl (lv_at hl 0 rfl) ?_
        refine va_get (D := D) (ci := 1) (v := .int (nI (ptV T n e))) (C := RX1) (T := TX1) (N := 7) hx hb hts iw_X1_takeColour_X1 hown hKa hP 0 rfl rfl 3 (by decide) (hts (.fieldLink RX1 50 "ColourPatches$Command" "one" "I") (by decide +kernel)) (fun _ h9 => h9) rfl dX1_takeColour_28 ?_
        refine gn_if_lt hx hb (by omega) (tgt := 52) dX1_takeColour_31 (by decide) ?_
        refine lv_aload_n hx hb dX1_takeColour_34 rfl (lv_at hl 0 rfl) ?_
        refine va_get (D := D) (ci := 1) (v := .int (-1)) (C := RX1) (T := TX1) (N := 7) hx hb hts iw_X1_takeColour_X1 hown hKa hP 0 rfl rfl 4 (by decide) (hts (.fieldLink RX1 53 "ColourPatches$Command" "two" "I") (by decide +kernel)) (fun _ h9 => h9) rfl dX1_takeColour_35 ?_
        refine lv_if_lt hx hb (tgt := 52) dX1_takeColour_38 (by decide) (fun cq => ?_) (fun cq => absurd cq (by decide))
        refine lv_iconst (v := nI 0) hx hb dX1_takeColour_52 (by decide) ?_
        exact rtW_z (nI (ptV T n e), -1, (-1)) hQ hx hb hr hlk hS hP dX1_takeColour_53 (by decide +kernel) (⟨Or.inr ⟨fun q => d_12 q.2.1, rfl⟩, fun q => absurd q.2.1 d_12⟩)
  · refine va_put (D := D) (ci := 1) (v := .int (-1)) (ty := .int) (C := RX1) (T := TX1) (N := 7) hx hb hts iw_X1_takeColour_X1 tyX1 tyX1_ok nmX1 hown hKa hP hD hS 0 rfl rfl 3 (by decide) (hts (.fieldLink RX1 50 "ColourPatches$Command" "one" "I") (by decide +kernel)) (fun _ h9 => h9) rfl (by decide +kernel) rfl rfl (Nat.le_of_ble_eq_true rfl) dX1_takeColour_6 (fun H locs hP hD hS => ?_)
    have hP : va_P D vwCl [(a, .inr (1, [.int kd, .int c1, .int r1, .int (-1), .int y, .int v, .int (nI (e + 2))])), (t, .inr (6, [.ref t1, .int (nI n)])), (t1, .inl (cC, 60, .inl (TA T)))] H := hP
    have hD : va_D A [(a, .inr (1, [.int kd, .int c1, .int r1, .int (-1), .int y, .int v, .int (nI (e + 2))])), (t, .inr (6, [.ref t1, .int (nI n)])), (t1, .inl (cC, 60, .inl (TA T)))] := hD
    refine lv_aload_n hx hb dX1_takeColour_9 rfl (lv_at hl 0 rfl) ?_
    refine lv_aload_n hx hb dX1_takeColour_10 rfl (lv_at hl 0 rfl) ?_
    refine lv_aload_n hx hb dX1_takeColour_11 rfl (lv_at hl 1 rfl) ?_
    have hPc := hP.sub (ws' := [(a, .inr (1, [.int kd, .int c1, .int r1, .int (-1), .int y, .int v, .int (nI (e + 2))])), (t, .inr (6, [.ref t1, .int (nI n)])), (t1, .inl (cC, 60, .inl (TA T)))]) [0, 1, 2] rfl
    have hDc := hD.sub (ws' := [(a, .inr (1, [.int kd, .int c1, .int r1, .int (-1), .int y, .int v, .int (nI (e + 2))])), (t, .inr (6, [.ref t1, .int (nI n)])), (t1, .inl (cC, 60, .inl (TA T)))]) [0, 1, 2] (by decide) rfl
    refine clW (wc := [(a, .inr (1, [.int kd, .int c1, .int r1, .int (-1), .int y, .int v, .int (nI (e + 2))])), (t, .inr (6, [.ref t1, .int (nI n)])), (t1, .inl (cC, 60, .inl (TA T)))]) (w1 := fun (u_12 : Unit) => [(a, .inr (1, [.int kd, .int c1, .int r1, .int (-1), .int y, .int v, .int (nI ((e + 2) + 2))])), (t, .inr (6, [.ref t1, .int (nI n)])), (t1, .inl (cC, 60, .inl (TA T)))]) (wr := []) (wn := fun (u_12 : Unit) => [(a, .inr (1, [.int kd, .int c1, .int r1, .int (-1), .int y, .int v, .int (nI ((e + 2) + 2))])), (t, .inr (6, [.ref t1, .int (nI n)])), (t1, .inl (cC, 60, .inl (TA T)))]) hP hD hS hA [0, 1, 2] [] [0, 1, 2] rfl rfl rfl rfl (by decide) (fun _ => rfl) (fun _ => rfl) (fun _ => rfl) (va_runV (As := [.ref t]) (rest := [.ref a]) ⟨hx, hb, hml, hown, hts⟩ (c_X1_takePart l D cI cC cQ a kd c1 r1 (-1) y v (e + 2) t t1 n T H.size (by first | assumption | omega) (by first | assumption | omega) (by first | assumption | omega)) (cwV (rm := rmX1_takePart) 1 hts gX1_takeColour_X1_takePart rfl rfl rfl (by decide +kernel) ⟨Nat.le_of_ble_eq_true rfl, Nat.le_of_ble_eq_true rfl⟩) ⟨PW.blind, va_recv hKa hPc (ci := 1) (q0 := 0) rfl rfl, PW.go hPc hK hDc⟩ rfl rfl hl.1 rfl (lv_room (Nat.le_of_ble_eq_true rfl)) dX1_takeColour_12 ⟨Nat.le_of_ble_eq_true rfl, Nat.le_of_ble_eq_true rfl⟩) (fun r_12 u_12 H locs h_12 hP hD hS => ?_)
    have hP : va_P D vwCl [(a, .inr (1, [.int kd, .int c1, .int r1, .int (-1), .int y, .int v, .int (nI ((e + 2) + 2))])), (t, .inr (6, [.ref t1, .int (nI n)])), (t1, .inl (cC, 60, .inl (TA T)))] H := hP
    have hD : va_D A [(a, .inr (1, [.int kd, .int c1, .int r1, .int (-1), .int y, .int v, .int (nI ((e + 2) + 2))])), (t, .inr (6, [.ref t1, .int (nI n)])), (t1, .inl (cC, 60, .inl (TA T)))] := hD
    rcases h_12 with ⟨d_12, rfl⟩ | ⟨d_12, rfl⟩
    · have hv12 := ptV_lt d_12
      refine va_put (D := D) (ci := 1) (v := .int (nI (ptV T n (e + 2)))) (ty := .int) (C := RX1) (T := TX1) (N := 7) hx hb hts iw_X1_takeColour_X1 tyX1 tyX1_ok nmX1 hown hKa hP hD hS 0 rfl rfl 4 (by decide) (hts (.fieldLink RX1 53 "ColourPatches$Command" "two" "I") (by decide +kernel)) (fun _ h9 => h9) rfl (by decide +kernel) rfl rfl (Nat.le_of_ble_eq_true rfl) dX1_takeColour_15 (fun H locs hP hD hS => ?_)
      have hP : va_P D vwCl [(a, .inr (1, [.int kd, .int c1, .int r1, .int (-1), .int (nI (ptV T n (e + 2))), .int v, .int (nI ((e + 2) + 2))])), (t, .inr (6, [.ref t1, .int (nI n)])), (t1, .inl (cC, 60, .inl (TA T)))] H := hP
      have hD : va_D A [(a, .inr (1, [.int kd, .int c1, .int r1, .int (-1), .int (nI (ptV T n (e + 2))), .int v, .int (nI ((e + 2) + 2))])), (t, .inr (6, [.ref t1, .int (nI n)])), (t1, .inl (cC, 60, .inl (TA T)))] := hD
      refine lv_aload_n hx hb dX1_takeColour_18 rfl (lv_at hl 0 rfl) ?_
      refine lv_aload_n hx hb dX1_takeColour_19 rfl (lv_at hl 0 rfl) ?_
      refine lv_aload_n hx hb dX1_takeColour_20 rfl (lv_at hl 1 rfl) ?_
      have hPc := hP.sub (ws' := [(a, .inr (1, [.int kd, .int c1, .int r1, .int (-1), .int (nI (ptV T n (e + 2))), .int v, .int (nI ((e + 2) + 2))])), (t, .inr (6, [.ref t1, .int (nI n)])), (t1, .inl (cC, 60, .inl (TA T)))]) [0, 1, 2] rfl
      have hDc := hD.sub (ws' := [(a, .inr (1, [.int kd, .int c1, .int r1, .int (-1), .int (nI (ptV T n (e + 2))), .int v, .int (nI ((e + 2) + 2))])), (t, .inr (6, [.ref t1, .int (nI n)])), (t1, .inl (cC, 60, .inl (TA T)))]) [0, 1, 2] (by decide) rfl
      refine clW (wc := [(a, .inr (1, [.int kd, .int c1, .int r1, .int (-1), .int (nI (ptV T n (e + 2))), .int v, .int (nI ((e + 2) + 2))])), (t, .inr (6, [.ref t1, .int (nI n)])), (t1, .inl (cC, 60, .inl (TA T)))]) (w1 := fun (u_21 : Unit) => [(a, .inr (1, [.int kd, .int c1, .int r1, .int (-1), .int (nI (ptV T n (e + 2))), .int v, .int (nI (((e + 2) + 2) + 2))])), (t, .inr (6, [.ref t1, .int (nI n)])), (t1, .inl (cC, 60, .inl (TA T)))]) (wr := []) (wn := fun (u_21 : Unit) => [(a, .inr (1, [.int kd, .int c1, .int r1, .int (-1), .int (nI (ptV T n (e + 2))), .int v, .int (nI (((e + 2) + 2) + 2))])), (t, .inr (6, [.ref t1, .int (nI n)])), (t1, .inl (cC, 60, .inl (TA T)))]) hP hD hS hA [0, 1, 2] [] [0, 1, 2] rfl rfl rfl rfl (by decide) (fun _ => rfl) (fun _ => rfl) (fun _ => rfl) (va_runV (As := [.ref t]) (rest := [.ref a]) ⟨hx, hb, hml, hown, hts⟩ (c_X1_takePart l D cI cC cQ a kd c1 r1 (-1) (nI (ptV T n (e + 2))) v ((e + 2) + 2) t t1 n T H.size (by first | assumption | omega) (by first | assumption | omega) (by first | assumption | omega)) (cwV (rm := rmX1_takePart) 1 hts gX1_takeColour_X1_takePart rfl rfl rfl (by decide +kernel) ⟨Nat.le_of_ble_eq_true rfl, Nat.le_of_ble_eq_true rfl⟩) ⟨PW.blind, va_recv hKa hPc (ci := 1) (q0 := 0) rfl rfl, PW.go hPc hK hDc⟩ rfl rfl hl.1 rfl (lv_room (Nat.le_of_ble_eq_true rfl)) dX1_takeColour_21 ⟨Nat.le_of_ble_eq_true rfl, Nat.le_of_ble_eq_true rfl⟩) (fun r_21 u_21 H locs h_21 hP hD hS => ?_)
      have hP : va_P D vwCl [(a, .inr (1, [.int kd, .int c1, .int r1, .int (-1), .int (nI (ptV T n (e + 2))), .int v, .int (nI (((e + 2) + 2) + 2))])), (t, .inr (6, [.ref t1, .int (nI n)])), (t1, .inl (cC, 60, .inl (TA T)))] H := hP
      have hD : va_D A [(a, .inr (1, [.int kd, .int c1, .int r1, .int (-1), .int (nI (ptV T n (e + 2))), .int v, .int (nI (((e + 2) + 2) + 2))])), (t, .inr (6, [.ref t1, .int (nI n)])), (t1, .inl (cC, 60, .inl (TA T)))] := hD
      rcases h_21 with ⟨d_21, rfl⟩ | ⟨d_21, rfl⟩
      · have hv21 := ptV_lt d_21
        refine va_put (D := D) (ci := 1) (v := .int (nI (ptV T n ((e + 2) + 2)))) (ty := .int) (C := RX1) (T := TX1) (N := 7) hx hb hts iw_X1_takeColour_X1 tyX1 tyX1_ok nmX1 hown hKa hP hD hS 0 rfl rfl 5 (by decide) (hts (.fieldLink RX1 56 "ColourPatches$Command" "three" "I") (by decide +kernel)) (fun _ h9 => h9) rfl (by decide +kernel) rfl rfl (Nat.le_of_ble_eq_true rfl) dX1_takeColour_24 (fun H locs hP hD hS => ?_)
        have hP : va_P D vwCl [(a, .inr (1, [.int kd, .int c1, .int r1, .int (-1), .int (nI (ptV T n (e + 2))), .int (nI (ptV T n ((e + 2) + 2))), .int (nI (((e + 2) + 2) + 2))])), (t, .inr (6, [.ref t1, .int (nI n)])), (t1, .inl (cC, 60, .inl (TA T)))] H := hP
        have hD : va_D A [(a, .inr (1, [.int kd, .int c1, .int r1, .int (-1), .int (nI (ptV T n (e + 2))), .int (nI (ptV T n ((e + 2) + 2))), .int (nI (((e + 2) + 2) + 2))])), (t, .inr (6, [.ref t1, .int (nI n)])), (t1, .inl (cC, 60, .inl (TA T)))] := hD
        refine lv_aload_n hx hb dX1_takeColour_27 rfl (lv_at hl 0 rfl) ?_
        refine va_get (D := D) (ci := 1) (v := .int (-1)) (C := RX1) (T := TX1) (N := 7) hx hb hts iw_X1_takeColour_X1 hown hKa hP 0 rfl rfl 3 (by decide) (hts (.fieldLink RX1 50 "ColourPatches$Command" "one" "I") (by decide +kernel)) (fun _ h9 => h9) rfl dX1_takeColour_28 ?_
        refine lv_if_lt hx hb (tgt := 52) dX1_takeColour_31 (by decide) (fun cq => ?_) (fun cq => absurd cq (by decide))
        refine lv_iconst (v := nI 0) hx hb dX1_takeColour_52 (by decide) ?_
        exact rtW_z (-1, nI (ptV T n (e + 2)), nI (ptV T n ((e + 2) + 2))) hQ hx hb hr hlk hS hP dX1_takeColour_53 (by decide +kernel) (⟨Or.inr ⟨fun q => d_3 q.1, rfl⟩, fun q => absurd q.1 d_3⟩)
      · refine va_put (D := D) (ci := 1) (v := .int (-1)) (ty := .int) (C := RX1) (T := TX1) (N := 7) hx hb hts iw_X1_takeColour_X1 tyX1 tyX1_ok nmX1 hown hKa hP hD hS 0 rfl rfl 5 (by decide) (hts (.fieldLink RX1 56 "ColourPatches$Command" "three" "I") (by decide +kernel)) (fun _ h9 => h9) rfl (by decide +kernel) rfl rfl (Nat.le_of_ble_eq_true rfl) dX1_takeColour_24 (fun H locs hP hD hS => ?_)
        have hP : va_P D vwCl [(a, .inr (1, [.int kd, .int c1, .int r1, .int (-1), .int (nI (ptV T n (e + 2))), .int (-1), .int (nI (((e + 2) + 2) + 2))])), (t, .inr (6, [.ref t1, .int (nI n)])), (t1, .inl (cC, 60, .inl (TA T)))] H := hP
        have hD : va_D A [(a, .inr (1, [.int kd, .int c1, .int r1, .int (-1), .int (nI (ptV T n (e + 2))), .int (-1), .int (nI (((e + 2) + 2) + 2))])), (t, .inr (6, [.ref t1, .int (nI n)])), (t1, .inl (cC, 60, .inl (TA T)))] := hD
        refine lv_aload_n hx hb dX1_takeColour_27 rfl (lv_at hl 0 rfl) ?_
        refine va_get (D := D) (ci := 1) (v := .int (-1)) (C := RX1) (T := TX1) (N := 7) hx hb hts iw_X1_takeColour_X1 hown hKa hP 0 rfl rfl 3 (by decide) (hts (.fieldLink RX1 50 "ColourPatches$Command" "one" "I") (by decide +kernel)) (fun _ h9 => h9) rfl dX1_takeColour_28 ?_
        refine lv_if_lt hx hb (tgt := 52) dX1_takeColour_31 (by decide) (fun cq => ?_) (fun cq => absurd cq (by decide))
        refine lv_iconst (v := nI 0) hx hb dX1_takeColour_52 (by decide) ?_
        exact rtW_z (-1, nI (ptV T n (e + 2)), (-1)) hQ hx hb hr hlk hS hP dX1_takeColour_53 (by decide +kernel) (⟨Or.inr ⟨fun q => d_3 q.1, rfl⟩, fun q => absurd q.1 d_3⟩)
    · refine va_put (D := D) (ci := 1) (v := .int (-1)) (ty := .int) (C := RX1) (T := TX1) (N := 7) hx hb hts iw_X1_takeColour_X1 tyX1 tyX1_ok nmX1 hown hKa hP hD hS 0 rfl rfl 4 (by decide) (hts (.fieldLink RX1 53 "ColourPatches$Command" "two" "I") (by decide +kernel)) (fun _ h9 => h9) rfl (by decide +kernel) rfl rfl (Nat.le_of_ble_eq_true rfl) dX1_takeColour_15 (fun H locs hP hD hS => ?_)
      have hP : va_P D vwCl [(a, .inr (1, [.int kd, .int c1, .int r1, .int (-1), .int (-1), .int v, .int (nI ((e + 2) + 2))])), (t, .inr (6, [.ref t1, .int (nI n)])), (t1, .inl (cC, 60, .inl (TA T)))] H := hP
      have hD : va_D A [(a, .inr (1, [.int kd, .int c1, .int r1, .int (-1), .int (-1), .int v, .int (nI ((e + 2) + 2))])), (t, .inr (6, [.ref t1, .int (nI n)])), (t1, .inl (cC, 60, .inl (TA T)))] := hD
      refine lv_aload_n hx hb dX1_takeColour_18 rfl (lv_at hl 0 rfl) ?_
      refine lv_aload_n hx hb dX1_takeColour_19 rfl (lv_at hl 0 rfl) ?_
      refine lv_aload_n hx hb dX1_takeColour_20 rfl (lv_at hl 1 rfl) ?_
      have hPc := hP.sub (ws' := [(a, .inr (1, [.int kd, .int c1, .int r1, .int (-1), .int (-1), .int v, .int (nI ((e + 2) + 2))])), (t, .inr (6, [.ref t1, .int (nI n)])), (t1, .inl (cC, 60, .inl (TA T)))]) [0, 1, 2] rfl
      have hDc := hD.sub (ws' := [(a, .inr (1, [.int kd, .int c1, .int r1, .int (-1), .int (-1), .int v, .int (nI ((e + 2) + 2))])), (t, .inr (6, [.ref t1, .int (nI n)])), (t1, .inl (cC, 60, .inl (TA T)))]) [0, 1, 2] (by decide) rfl
      refine clW (wc := [(a, .inr (1, [.int kd, .int c1, .int r1, .int (-1), .int (-1), .int v, .int (nI ((e + 2) + 2))])), (t, .inr (6, [.ref t1, .int (nI n)])), (t1, .inl (cC, 60, .inl (TA T)))]) (w1 := fun (u_21 : Unit) => [(a, .inr (1, [.int kd, .int c1, .int r1, .int (-1), .int (-1), .int v, .int (nI (((e + 2) + 2) + 2))])), (t, .inr (6, [.ref t1, .int (nI n)])), (t1, .inl (cC, 60, .inl (TA T)))]) (wr := []) (wn := fun (u_21 : Unit) => [(a, .inr (1, [.int kd, .int c1, .int r1, .int (-1), .int (-1), .int v, .int (nI (((e + 2) + 2) + 2))])), (t, .inr (6, [.ref t1, .int (nI n)])), (t1, .inl (cC, 60, .inl (TA T)))]) hP hD hS hA [0, 1, 2] [] [0, 1, 2] rfl rfl rfl rfl (by decide) (fun _ => rfl) (fun _ => rfl) (fun _ => rfl) (va_runV (As := [.ref t]) (rest := [.ref a]) ⟨hx, hb, hml, hown, hts⟩ (c_X1_takePart l D cI cC cQ a kd c1 r1 (-1) (-1) v ((e + 2) + 2) t t1 n T H.size (by first | assumption | omega) (by first | assumption | omega) (by first | assumption | omega)) (cwV (rm := rmX1_takePart) 1 hts gX1_takeColour_X1_takePart rfl rfl rfl (by decide +kernel) ⟨Nat.le_of_ble_eq_true rfl, Nat.le_of_ble_eq_true rfl⟩) ⟨PW.blind, va_recv hKa hPc (ci := 1) (q0 := 0) rfl rfl, PW.go hPc hK hDc⟩ rfl rfl hl.1 rfl (lv_room (Nat.le_of_ble_eq_true rfl)) dX1_takeColour_21 ⟨Nat.le_of_ble_eq_true rfl, Nat.le_of_ble_eq_true rfl⟩) (fun r_21 u_21 H locs h_21 hP hD hS => ?_)
      have hP : va_P D vwCl [(a, .inr (1, [.int kd, .int c1, .int r1, .int (-1), .int (-1), .int v, .int (nI (((e + 2) + 2) + 2))])), (t, .inr (6, [.ref t1, .int (nI n)])), (t1, .inl (cC, 60, .inl (TA T)))] H := hP
      have hD : va_D A [(a, .inr (1, [.int kd, .int c1, .int r1, .int (-1), .int (-1), .int v, .int (nI (((e + 2) + 2) + 2))])), (t, .inr (6, [.ref t1, .int (nI n)])), (t1, .inl (cC, 60, .inl (TA T)))] := hD
      rcases h_21 with ⟨d_21, rfl⟩ | ⟨d_21, rfl⟩
      · have hv21 := ptV_lt d_21
        refine va_put (D := D) (ci := 1) (v := .int (nI (ptV T n ((e + 2) + 2)))) (ty := .int) (C := RX1) (T := TX1) (N := 7) hx hb hts iw_X1_takeColour_X1 tyX1 tyX1_ok nmX1 hown hKa hP hD hS 0 rfl rfl 5 (by decide) (hts (.fieldLink RX1 56 "ColourPatches$Command" "three" "I") (by decide +kernel)) (fun _ h9 => h9) rfl (by decide +kernel) rfl rfl (Nat.le_of_ble_eq_true rfl) dX1_takeColour_24 (fun H locs hP hD hS => ?_)
        have hP : va_P D vwCl [(a, .inr (1, [.int kd, .int c1, .int r1, .int (-1), .int (-1), .int (nI (ptV T n ((e + 2) + 2))), .int (nI (((e + 2) + 2) + 2))])), (t, .inr (6, [.ref t1, .int (nI n)])), (t1, .inl (cC, 60, .inl (TA T)))] H := hP
        have hD : va_D A [(a, .inr (1, [.int kd, .int c1, .int r1, .int (-1), .int (-1), .int (nI (ptV T n ((e + 2) + 2))), .int (nI (((e + 2) + 2) + 2))])), (t, .inr (6, [.ref t1, .int (nI n)])), (t1, .inl (cC, 60, .inl (TA T)))] := hD
        refine lv_aload_n hx hb dX1_takeColour_27 rfl (lv_at hl 0 rfl) ?_
        refine va_get (D := D) (ci := 1) (v := .int (-1)) (C := RX1) (T := TX1) (N := 7) hx hb hts iw_X1_takeColour_X1 hown hKa hP 0 rfl rfl 3 (by decide) (hts (.fieldLink RX1 50 "ColourPatches$Command" "one" "I") (by decide +kernel)) (fun _ h9 => h9) rfl dX1_takeColour_28 ?_
        refine lv_if_lt hx hb (tgt := 52) dX1_takeColour_31 (by decide) (fun cq => ?_) (fun cq => absurd cq (by decide))
        refine lv_iconst (v := nI 0) hx hb dX1_takeColour_52 (by decide) ?_
        exact rtW_z (-1, -1, nI (ptV T n ((e + 2) + 2))) hQ hx hb hr hlk hS hP dX1_takeColour_53 (by decide +kernel) (⟨Or.inr ⟨fun q => d_3 q.1, rfl⟩, fun q => absurd q.1 d_3⟩)
      · refine va_put (D := D) (ci := 1) (v := .int (-1)) (ty := .int) (C := RX1) (T := TX1) (N := 7) hx hb hts iw_X1_takeColour_X1 tyX1 tyX1_ok nmX1 hown hKa hP hD hS 0 rfl rfl 5 (by decide) (hts (.fieldLink RX1 56 "ColourPatches$Command" "three" "I") (by decide +kernel)) (fun _ h9 => h9) rfl (by decide +kernel) rfl rfl (Nat.le_of_ble_eq_true rfl) dX1_takeColour_24 (fun H locs hP hD hS => ?_)
        have hP : va_P D vwCl [(a, .inr (1, [.int kd, .int c1, .int r1, .int (-1), .int (-1), .int (-1), .int (nI (((e + 2) + 2) + 2))])), (t, .inr (6, [.ref t1, .int (nI n)])), (t1, .inl (cC, 60, .inl (TA T)))] H := hP
        have hD : va_D A [(a, .inr (1, [.int kd, .int c1, .int r1, .int (-1), .int (-1), .int (-1), .int (nI (((e + 2) + 2) + 2))])), (t, .inr (6, [.ref t1, .int (nI n)])), (t1, .inl (cC, 60, .inl (TA T)))] := hD
        refine lv_aload_n hx hb dX1_takeColour_27 rfl (lv_at hl 0 rfl) ?_
        refine va_get (D := D) (ci := 1) (v := .int (-1)) (C := RX1) (T := TX1) (N := 7) hx hb hts iw_X1_takeColour_X1 hown hKa hP 0 rfl rfl 3 (by decide) (hts (.fieldLink RX1 50 "ColourPatches$Command" "one" "I") (by decide +kernel)) (fun _ h9 => h9) rfl dX1_takeColour_28 ?_
        refine lv_if_lt hx hb (tgt := 52) dX1_takeColour_31 (by decide) (fun cq => ?_) (fun cq => absurd cq (by decide))
        refine lv_iconst (v := nI 0) hx hb dX1_takeColour_52 (by decide) ?_
        exact rtW_z (-1, -1, (-1)) hQ hx hb hr hlk hS hP dX1_takeColour_53 (by decide +kernel) (⟨Or.inr ⟨fun q => d_3 q.1, rfl⟩, fun q => absurd q.1 d_3⟩)
abbrev rmX1_takeNumber : Room := { frames := 1, cells := 0, slots := 0, locals := 21 }
set_option maxRecDepth 20000 in
theorem iw_X1_takeNumber_X1 : ∀ w ∈ u_ws RX1 TX1 7, w ∈ wsX1_takeNumber := by decide +kernel
set_option maxHeartbeats 4000000 in
set_option maxRecDepth 100000 in
theorem c_X1_takeNumber (l : Launch) (D : va_G) (cI cC cQ : ClassId) (a : Nat) (kd c1 r1 x y v : Int32) (e : Nat) (t t1 : Nat) (n : Nat) (T : Nat → Nat) (sz : Nat) (hn : n ≤ 60) (hT : ∀ k, T k < 127) (he : e < 900) : Met l yX1_takeNumber wsX1_takeNumber rmX1_takeNumber (PW D cI cC cQ [.ref a, .ref t] [(a, .inr (1, [.int kd, .int c1, .int r1, .int x, .int y, .int v, .int (nI e)])), (t, .inr (6, [.ref t1, .int (nI n)])), (t1, .inl (cC, 60, .inl (TA T)))] sz) (va_Qi (fun (z : Int32) (u : Unit) => NM T n e z) (fun (u : Unit) t9 => va_P D vwCl [(a, .inr (1, [.int kd, .int c1, .int r1, .int x, .int y, .int v, .int (nI (e + nd T n e 3))])), (t, .inr (6, [.ref t1, .int (nI n)])), (t1, .inl (cC, 60, .inl (TA T)))] t9.heap) (va_A [(a, .inr (1, [.int kd, .int c1, .int r1, .int x, .int y, .int v, .int (nI e)])), (t, .inr (6, [.ref t1, .int (nI n)])), (t1, .inl (cC, 60, .inl (TA T)))] sz)) 0 0 (va_A [(a, .inr (1, [.int kd, .int c1, .int r1, .int x, .int y, .int v, .int (nI e)])), (t, .inr (6, [.ref t1, .int (nI n)])), (t1, .inl (cC, 60, .inl (TA T)))] sz) := by
  refine metW (y := yX1_takeNumber) (ws := wsX1_takeNumber) (rm := rmX1_takeNumber) (D := D) (cI := cI) (cC := cC) (cQ := cQ) (av := [.ref a, .ref t]) (wd := [(a, .inr (1, [.int kd, .int c1, .int r1, .int x, .int y, .int v, .int (nI e)])), (t, .inr (6, [.ref t1, .int (nI n)])), (t1, .inl (cC, 60, .inl (TA T)))]) (sz := sz) (Qf := fun A => va_Qi (fun (z : Int32) (u : Unit) => NM T n e z) (fun (u : Unit) t9 => va_P D vwCl [(a, .inr (1, [.int kd, .int c1, .int r1, .int x, .int y, .int v, .int (nI (e + nd T n e 3))])), (t, .inr (6, [.ref t1, .int (nI n)])), (t1, .inl (cC, 60, .inl (TA T)))] t9.heap) A) (cc := cX1_takeNumber) (maxL := 5) (ret := (some .int)) (by decide) rfl (Nat.le_of_ble_eq_true rfl) ?_
  intro pg ev s mi args below meth cd ls A Q hQ hx hb hml hr hts hown hlk hnm hK hP hD hS hA hl
  have hKa := hK.1
  have hl : lv_has ls 5 [(0, .ref a), (1, .ref t)] := hl
  refine lv_iconst (v := (-1)) hx hb dX1_takeNumber_0 (by decide) ?_
  refine lv_istore_n (lv' := [(2, .int (-1)), (0, .ref a), (1, .ref t)]) hx hb dX1_takeNumber_1 rfl hl (by decide) rfl (fun ls hl => ?_)
  refine lv_iconst (v := nI 0) hx hb dX1_takeNumber_2 (by decide) ?_
  refine lv_istore_n (lv' := [(3, .int (nI 0)), (2, .int (-1)), (0, .ref a), (1, .ref t)]) hx hb dX1_takeNumber_3 rfl hl (by decide) rfl (fun ls hl => ?_)
  have L4 : ∀ (nn : Nat) (j : Nat) (e2 : Nat) (nm : Int32) (hj : j ≤ 3) (he2 : e2 = e + j) (hnm : nm = if j = 0 then (-1) else nI (va T n e j)) (hdg : ∀ i, i < j → dgP (sg T n (e + i))) (_ : 3 - j < nn) (H : Heap) (locs : List Loc) (hP : va_P D vwCl [(a, .inr (1, [.int kd, .int c1, .int r1, .int x, .int y, .int v, .int (nI e2)])), (t, .inr (6, [.ref t1, .int (nI n)])), (t1, .inl (cC, 60, .inl (TA T)))] H) (hD : va_D A [(a, .inr (1, [.int kd, .int c1, .int r1, .int x, .int y, .int v, .int (nI e2)])), (t, .inr (6, [.ref t1, .int (nI n)])), (t1, .inl (cC, 60, .inl (TA T)))]) (hS : va_S A s.heap H locs) (ls : Array Slot) (_ : lv_has ls 5 [(2, .int nm), (3, .int (nI j)), (0, .ref a), (1, .ref t)]), W pg l ev (headSpec wsX1_takeNumber rmX1_takeNumber).room s mi args below meth cd H locs 0 0 Q (F0 mi 4 ls []) := by
    intro nn
    induction nn with
    | zero =>
      intro j e2 nm hj he2 hnm hdg hmeas
      exact absurd hmeas (Nat.not_lt_zero _)
    | succ nn ih4 =>
      intro j e2 nm hj he2 hnm hdg hmeas H locs hP hD hS ls hl
      refine lv_iload_n hx hb dX1_takeNumber_4 rfl (lv_at hl 1 rfl) ?_
      refine lv_iconst (v := nI 3) hx hb dX1_takeNumber_5 (by decide) ?_
      refine gn_icmp_ge hx hb (by omega) (by decide) (tgt := 62) dX1_takeNumber_6 (by decide) (fun c_6 => ?_) (fun c_6 => ?_)
      · refine lv_iload_n hx hb dX1_takeNumber_62 rfl (lv_at hl 0 rfl) ?_
        subst he2
        have hnd : nd T n e 3 = j := by rw [show j = 3 by omega]; exact nd_all 3 (fun i hi => hdg i (by omega))
        have hP : va_P D vwCl [(a, .inr (1, [.int kd, .int c1, .int r1, .int x, .int y, .int v, .int (nI (e + nd T n e 3))])), (t, .inr (6, [.ref t1, .int (nI n)])), (t1, .inl (cC, 60, .inl (TA T)))] H := by rw [hnd]; exact hP
        exact rtW_i () hQ hx hb hr hlk hS hP dX1_takeNumber_63 (nm_fin hnd hnm)
      · subst he2
        refine lv_aload_n hx hb dX1_takeNumber_9 rfl (lv_at hl 3 rfl) ?_
        refine lv_aload_n hx hb dX1_takeNumber_10 rfl (lv_at hl 2 rfl) ?_
        refine va_get (D := D) (ci := 1) (v := .int (nI (e + j))) (C := RX1) (T := TX1) (N := 7) hx hb hts iw_X1_takeNumber_X1 hown hKa hP 0 rfl rfl 6 (by decide) (hts (.fieldLink RX1 32 "ColourPatches$Command" "end" "I") (by decide +kernel)) (fun _ h9 => h9) rfl dX1_takeNumber_11 ?_
        have hPc := hP.sub (ws' := [(t, .inr (6, [.ref t1, .int (nI n)])), (t1, .inl (cC, 60, .inl (TA T)))]) [1, 2] rfl
        refine clRe (E := nI (sg T n (e + j))) (va_runV (As := [.int (nI (e + j))]) (rest := []) ⟨hx, hb, hml, hown, hts⟩ (c_X6_signAt l D cI cC cQ t t1 n T (e + j) (by first | assumption | omega) (by first | assumption | omega) (by first | assumption | omega)) (cwV (rm := rmX6_signAt) 1 hts gX1_takeNumber_X6_signAt rfl rfl rfl (by decide +kernel) ⟨Nat.le_of_ble_eq_true rfl, Nat.le_of_ble_eq_true rfl⟩) ⟨PR.blind, va_recv hKa hPc (ci := 6) (q0 := 0) rfl rfl, PR.go hPc hK⟩ rfl rfl hl.1 rfl (lv_room (Nat.le_of_ble_eq_true rfl)) dX1_takeNumber_14 ⟨Nat.le_of_ble_eq_true rfl, Nat.le_of_ble_eq_true rfl⟩) ?_
        have hsg_14 : sg T n (e + j) < 127 := sg_lt (by assumption) n ((e + j))
        have hPc := hP.sub (ws' := []) [] rfl
        refine clR (va_runS (As := [.int (nI (sg T n (e + j)))]) (rest := []) ⟨hx, hb, hml, hown, hts⟩ (c_X1_digitOf l D cI cC cQ (sg T n (e + j)) (by first | assumption | omega)) (va_cwS (rm := rmX1_digitOf) 1 hts gX1_takeNumber_X1_digitOf rfl rfl rfl (by decide +kernel) ⟨Nat.le_of_ble_eq_true rfl, Nat.le_of_ble_eq_true rfl⟩) ⟨PR.blind, PR.go hPc hK⟩ rfl rfl hl.1 rfl (lv_room (Nat.le_of_ble_eq_true rfl)) dX1_takeNumber_17 ⟨Nat.le_of_ble_eq_true rfl, Nat.le_of_ble_eq_true rfl⟩) (fun r_17 h_17 => ?_)
        rcases h_17 with ⟨d_17, rfl⟩ | ⟨d_17, rfl⟩
        · refine lv_istore (lv' := [(4, .int (nI ((sg T n (e + j)) - 48))), (2, .int nm), (3, .int (nI j)), (0, .ref a), (1, .ref t)]) hx hb dX1_takeNumber_20 hl (by decide) rfl (fun ls hl => ?_)
          refine lv_iload hx hb dX1_takeNumber_22 (lv_at hl 0 rfl) ?_
          refine gn_if_ge hx hb (by omega) (tgt := 29) dX1_takeNumber_24 (by decide) ?_
          refine lv_iload_n hx hb dX1_takeNumber_29 rfl (lv_at hl 2 rfl) ?_
          refine gn_if_ne hx hb (by omega) (tgt := 38) dX1_takeNumber_30 (by decide) (fun c_30 => ?_) (fun c_30 => ?_)
          · rw [if_neg c_30] at hnm
            subst hnm
            refine lv_iload_n hx hb dX1_takeNumber_38 rfl (lv_at hl 1 rfl) ?_
            refine lv_bipush (v := nI 10) hx hb dX1_takeNumber_39 (by decide) ?_
            refine gn_mul hx hb dX1_takeNumber_41 ?_
            refine lv_iload hx hb dX1_takeNumber_42 (lv_at hl 0 rfl) ?_
            refine gn_add hx hb dX1_takeNumber_44 ?_
            refine lv_istore_n (lv' := [(2, .int (nI (((va T n e j) * 10) + ((sg T n (e + j)) - 48)))), (4, .int (nI ((sg T n (e + j)) - 48))), (3, .int (nI j)), (0, .ref a), (1, .ref t)]) hx hb dX1_takeNumber_45 rfl hl (by decide) rfl (fun ls hl => ?_)
            refine lv_aload_n hx hb dX1_takeNumber_46 rfl (lv_at hl 3 rfl) ?_
            refine lv_dup hx hb dX1_takeNumber_47 rfl ?_
            refine va_get (D := D) (ci := 1) (v := .int (nI (e + j))) (C := RX1) (T := TX1) (N := 7) hx hb hts iw_X1_takeNumber_X1 hown hKa hP 0 rfl rfl 6 (by decide) (hts (.fieldLink RX1 32 "ColourPatches$Command" "end" "I") (by decide +kernel)) (fun _ h9 => h9) rfl dX1_takeNumber_48 ?_
            refine lv_iconst (v := nI 1) hx hb dX1_takeNumber_51 (by decide) ?_
            refine gn_add hx hb dX1_takeNumber_52 ?_
            refine va_put (D := D) (ci := 1) (v := .int (nI ((e + j) + 1))) (ty := .int) (C := RX1) (T := TX1) (N := 7) hx hb hts iw_X1_takeNumber_X1 tyX1 tyX1_ok nmX1 hown hKa hP hD hS 0 rfl rfl 6 (by decide) (hts (.fieldLink RX1 32 "ColourPatches$Command" "end" "I") (by decide +kernel)) (fun _ h9 => h9) rfl (by decide +kernel) rfl rfl (Nat.le_of_ble_eq_true rfl) dX1_takeNumber_53 (fun H locs hP hD hS => ?_)
            have hP : va_P D vwCl [(a, .inr (1, [.int kd, .int c1, .int r1, .int x, .int y, .int v, .int (nI ((e + j) + 1))])), (t, .inr (6, [.ref t1, .int (nI n)])), (t1, .inl (cC, 60, .inl (TA T)))] H := hP
            have hD : va_D A [(a, .inr (1, [.int kd, .int c1, .int r1, .int x, .int y, .int v, .int (nI ((e + j) + 1))])), (t, .inr (6, [.ref t1, .int (nI n)])), (t1, .inl (cC, 60, .inl (TA T)))] := hD
            refine gn_iinc (lv' := [(3, .int (nI (j + 1))), (2, .int (nI (((va T n e j) * 10) + ((sg T n (e + j)) - 48)))), (4, .int (nI ((sg T n (e + j)) - 48))), (0, .ref a), (1, .ref t)]) hx hb dX1_takeNumber_56 hl (k := 2) rfl (by decide) rfl (fun ls hl => ?_)
            refine lv_goto (tgt := 4) hx hb dX1_takeNumber_59 (by decide) ?_
            exact ih4 (j + 1) ((e + j) + 1) (nI (((va T n e j) * 10) + ((sg T n (e + j)) - 48))) (show (j + 1) ≤ 3 from by first | omega | assumption | rfl) (show ((e + j) + 1) = e + (j + 1) from by omega) (show (nI (((va T n e j) * 10) + ((sg T n (e + j)) - 48))) = if (j + 1) = 0 then (-1) else nI (va T n e (j + 1)) from by rw [if_neg (by omega)]; rfl) (show ∀ i, i < (j + 1) → dgP (sg T n (e + i)) from lt_s hdg d_17) (by first | omega | assumption) H locs hP hD hS _ (lv_sub hl [1, 0, 3, 4] rfl)
          · refine lv_iload hx hb dX1_takeNumber_33 (lv_at hl 0 rfl) ?_
            refine lv_goto (tgt := 45) hx hb dX1_takeNumber_35 (by decide) ?_
            refine lv_istore_n (lv' := [(2, .int (nI ((sg T n (e + j)) - 48))), (4, .int (nI ((sg T n (e + j)) - 48))), (3, .int (nI j)), (0, .ref a), (1, .ref t)]) hx hb dX1_takeNumber_45 rfl hl (by decide) rfl (fun ls hl => ?_)
            refine lv_aload_n hx hb dX1_takeNumber_46 rfl (lv_at hl 3 rfl) ?_
            refine lv_dup hx hb dX1_takeNumber_47 rfl ?_
            refine va_get (D := D) (ci := 1) (v := .int (nI (e + j))) (C := RX1) (T := TX1) (N := 7) hx hb hts iw_X1_takeNumber_X1 hown hKa hP 0 rfl rfl 6 (by decide) (hts (.fieldLink RX1 32 "ColourPatches$Command" "end" "I") (by decide +kernel)) (fun _ h9 => h9) rfl dX1_takeNumber_48 ?_
            refine lv_iconst (v := nI 1) hx hb dX1_takeNumber_51 (by decide) ?_
            refine gn_add hx hb dX1_takeNumber_52 ?_
            refine va_put (D := D) (ci := 1) (v := .int (nI ((e + j) + 1))) (ty := .int) (C := RX1) (T := TX1) (N := 7) hx hb hts iw_X1_takeNumber_X1 tyX1 tyX1_ok nmX1 hown hKa hP hD hS 0 rfl rfl 6 (by decide) (hts (.fieldLink RX1 32 "ColourPatches$Command" "end" "I") (by decide +kernel)) (fun _ h9 => h9) rfl (by decide +kernel) rfl rfl (Nat.le_of_ble_eq_true rfl) dX1_takeNumber_53 (fun H locs hP hD hS => ?_)
            have hP : va_P D vwCl [(a, .inr (1, [.int kd, .int c1, .int r1, .int x, .int y, .int v, .int (nI ((e + j) + 1))])), (t, .inr (6, [.ref t1, .int (nI n)])), (t1, .inl (cC, 60, .inl (TA T)))] H := hP
            have hD : va_D A [(a, .inr (1, [.int kd, .int c1, .int r1, .int x, .int y, .int v, .int (nI ((e + j) + 1))])), (t, .inr (6, [.ref t1, .int (nI n)])), (t1, .inl (cC, 60, .inl (TA T)))] := hD
            refine gn_iinc (lv' := [(3, .int (nI (j + 1))), (2, .int (nI ((sg T n (e + j)) - 48))), (4, .int (nI ((sg T n (e + j)) - 48))), (0, .ref a), (1, .ref t)]) hx hb dX1_takeNumber_56 hl (k := 2) rfl (by decide) rfl (fun ls hl => ?_)
            refine lv_goto (tgt := 4) hx hb dX1_takeNumber_59 (by decide) ?_
            exact ih4 (j + 1) ((e + j) + 1) (nI ((sg T n (e + j)) - 48)) (show (j + 1) ≤ 3 from by first | omega | assumption | rfl) (show ((e + j) + 1) = e + (j + 1) from by omega) (show (nI ((sg T n (e + j)) - 48)) = if (j + 1) = 0 then (-1) else nI (va T n e (j + 1)) from by rw [if_neg (by omega)]; show nI (sg T n (e + j) - 48) = nI (va T n e j * 10 + (sg T n (e + j) - 48)); rw [show j = 0 from c_30]; show nI (sg T n (e + 0) - 48) = nI (0 * 10 + (sg T n (e + 0) - 48)); rw [Nat.zero_mul, Nat.zero_add]) (show ∀ i, i < (j + 1) → dgP (sg T n (e + i)) from lt_s hdg d_17) (by first | omega | assumption) H locs hP hD hS _ (lv_sub hl [1, 0, 3, 4] rfl)
        · refine lv_istore (lv' := [(4, .int (-1)), (2, .int nm), (3, .int (nI j)), (0, .ref a), (1, .ref t)]) hx hb dX1_takeNumber_20 hl (by decide) rfl (fun ls hl => ?_)
          refine lv_iload hx hb dX1_takeNumber_22 (lv_at hl 0 rfl) ?_
          refine lv_if_ge hx hb (tgt := 29) dX1_takeNumber_24 (by decide) (fun cq => absurd cq (by decide)) (fun cq => ?_)
          refine lv_iload_n hx hb dX1_takeNumber_27 rfl (lv_at hl 1 rfl) ?_
          have hnd : nd T n e 3 = j := nd_stop hdg d_17 3 (by omega)
          have hP : va_P D vwCl [(a, .inr (1, [.int kd, .int c1, .int r1, .int x, .int y, .int v, .int (nI (e + nd T n e 3))])), (t, .inr (6, [.ref t1, .int (nI n)])), (t1, .inl (cC, 60, .inl (TA T)))] H := by rw [hnd]; exact hP
          exact rtW_i () hQ hx hb hr hlk hS hP dX1_takeNumber_28 (nm_fin hnd hnm)
  exact L4 ((3 - 0) + 1) 0 e (-1) (show 0 ≤ 3 from by first | omega | assumption | rfl) (show e = e + 0 from rfl) (show (-1) = if 0 = 0 then (-1) else nI (va T n e 0) from rfl) (show ∀ i, i < 0 → dgP (sg T n (e + i)) from fun i hi => absurd hi (Nat.not_lt_zero i)) (Nat.lt_succ_self _) s.heap [] hP hD hS _ (lv_sub hl [1, 0, 2, 3] rfl)
abbrev rmX1_takePlace : Room := { frames := 2, cells := 0, slots := 0, locals := 45 }
set_option maxRecDepth 20000 in
theorem iw_X1_takePlace_X1 : ∀ w ∈ u_ws RX1 TX1 7, w ∈ wsX1_takePlace := by decide +kernel
set_option maxHeartbeats 4000000 in
set_option maxRecDepth 100000 in
theorem c_X1_takePlace (l : Launch) (D : va_G) (cI cC cQ : ClassId) (a : Nat) (kd c1 r1 x y v : Int32) (e : Nat) (t t1 : Nat) (n : Nat) (T : Nat → Nat) (sz : Nat) (hn : n ≤ 60) (hT : ∀ k, T k < 127) (he : e < 800) : Met l yX1_takePlace wsX1_takePlace rmX1_takePlace (PW D cI cC cQ [.ref a, .ref t] [(a, .inr (1, [.int kd, .int c1, .int r1, .int x, .int y, .int v, .int (nI e)])), (t, .inr (6, [.ref t1, .int (nI n)])), (t1, .inl (cC, 60, .inl (TA T)))] sz) (va_Qi (fun (z : Int32) (u : Int32 × Int32 × Nat) => BB (plP T n e) z ∧ (plP T n e → u = (nI (va T n e (nd T n e 3)), nI (va T n (e + nd T n e 3 + 1) (nd T n (e + nd T n e 3 + 1) 3)), e + nd T n e 3 + 1 + nd T n (e + nd T n e 3 + 1) 3))) (fun (u : Int32 × Int32 × Nat) t9 => va_P D vwCl [(a, .inr (1, [.int kd, .int c1, .int r1, .int u.1, .int u.2.1, .int v, .int (nI u.2.2)])), (t, .inr (6, [.ref t1, .int (nI n)])), (t1, .inl (cC, 60, .inl (TA T)))] t9.heap) (va_A [(a, .inr (1, [.int kd, .int c1, .int r1, .int x, .int y, .int v, .int (nI e)])), (t, .inr (6, [.ref t1, .int (nI n)])), (t1, .inl (cC, 60, .inl (TA T)))] sz)) 0 0 (va_A [(a, .inr (1, [.int kd, .int c1, .int r1, .int x, .int y, .int v, .int (nI e)])), (t, .inr (6, [.ref t1, .int (nI n)])), (t1, .inl (cC, 60, .inl (TA T)))] sz) := by
  refine metW (y := yX1_takePlace) (ws := wsX1_takePlace) (rm := rmX1_takePlace) (D := D) (cI := cI) (cC := cC) (cQ := cQ) (av := [.ref a, .ref t]) (wd := [(a, .inr (1, [.int kd, .int c1, .int r1, .int x, .int y, .int v, .int (nI e)])), (t, .inr (6, [.ref t1, .int (nI n)])), (t1, .inl (cC, 60, .inl (TA T)))]) (sz := sz) (Qf := fun A => va_Qi (fun (z : Int32) (u : Int32 × Int32 × Nat) => BB (plP T n e) z ∧ (plP T n e → u = (nI (va T n e (nd T n e 3)), nI (va T n (e + nd T n e 3 + 1) (nd T n (e + nd T n e 3 + 1) 3)), e + nd T n e 3 + 1 + nd T n (e + nd T n e 3 + 1) 3))) (fun (u : Int32 × Int32 × Nat) t9 => va_P D vwCl [(a, .inr (1, [.int kd, .int c1, .int r1, .int u.1, .int u.2.1, .int v, .int (nI u.2.2)])), (t, .inr (6, [.ref t1, .int (nI n)])), (t1, .inl (cC, 60, .inl (TA T)))] t9.heap) A) (cc := cX1_takePlace) (maxL := 2) (ret := (some .boolean)) (by decide) rfl (Nat.le_of_ble_eq_true rfl) ?_
  intro pg ev s mi args below meth cd ls A Q hQ hx hb hml hr hts hown hlk hnm hK hP hD hS hA hl
  have hKa := hK.1
  have hl : lv_has ls 2 [(0, .ref a), (1, .ref t)] := hl
  have hnd1 := nd_le T n e 3
  refine lv_aload_n hx hb dX1_takePlace_0 rfl (lv_at hl 0 rfl) ?_
  refine lv_aload_n hx hb dX1_takePlace_1 rfl (lv_at hl 0 rfl) ?_
  refine lv_aload_n hx hb dX1_takePlace_2 rfl (lv_at hl 1 rfl) ?_
  have hPc := hP.sub (ws' := [(a, .inr (1, [.int kd, .int c1, .int r1, .int x, .int y, .int v, .int (nI e)])), (t, .inr (6, [.ref t1, .int (nI n)])), (t1, .inl (cC, 60, .inl (TA T)))]) [0, 1, 2] rfl
  have hDc := hD.sub (ws' := [(a, .inr (1, [.int kd, .int c1, .int r1, .int x, .int y, .int v, .int (nI e)])), (t, .inr (6, [.ref t1, .int (nI n)])), (t1, .inl (cC, 60, .inl (TA T)))]) [0, 1, 2] (by decide) rfl
  refine clW (wc := [(a, .inr (1, [.int kd, .int c1, .int r1, .int x, .int y, .int v, .int (nI e)])), (t, .inr (6, [.ref t1, .int (nI n)])), (t1, .inl (cC, 60, .inl (TA T)))]) (w1 := fun (u_3 : Unit) => [(a, .inr (1, [.int kd, .int c1, .int r1, .int x, .int y, .int v, .int (nI (e + nd T n e 3))])), (t, .inr (6, [.ref t1, .int (nI n)])), (t1, .inl (cC, 60, .inl (TA T)))]) (wr := []) (wn := fun (u_3 : Unit) => [(a, .inr (1, [.int kd, .int c1, .int r1, .int x, .int y, .int v, .int (nI (e + nd T n e 3))])), (t, .inr (6, [.ref t1, .int (nI n)])), (t1, .inl (cC, 60, .inl (TA T)))]) hP hD hS hA [0, 1, 2] [] [0, 1, 2] rfl rfl rfl rfl (by decide) (fun _ => rfl) (fun _ => rfl) (fun _ => rfl) (va_runV (As := [.ref t]) (rest := [.ref a]) ⟨hx, hb, hml, hown, hts⟩ (c_X1_takeNumber l D cI cC cQ a kd c1 r1 x y v e t t1 n T s.heap.size (by first | assumption | omega) (by first | assumption | omega) (by first | assumption | omega)) (cwV (rm := rmX1_takeNumber) 1 hts gX1_takePlace_X1_takeNumber rfl rfl rfl (by decide +kernel) ⟨Nat.le_of_ble_eq_true rfl, Nat.le_of_ble_eq_true rfl⟩) ⟨PW.blind, va_recv hKa hPc (ci := 1) (q0 := 0) rfl rfl, PW.go hPc hK hDc⟩ rfl rfl hl.1 rfl (lv_room (Nat.le_of_ble_eq_true rfl)) dX1_takePlace_3 ⟨Nat.le_of_ble_eq_true rfl, Nat.le_of_ble_eq_true rfl⟩) (fun r_3 u_3 H locs h_3 hP hD hS => ?_)
  have hP : va_P D vwCl [(a, .inr (1, [.int kd, .int c1, .int r1, .int x, .int y, .int v, .int (nI (e + nd T n e 3))])), (t, .inr (6, [.ref t1, .int (nI n)])), (t1, .inl (cC, 60, .inl (TA T)))] H := hP
  have hD : va_D A [(a, .inr (1, [.int kd, .int c1, .int r1, .int x, .int y, .int v, .int (nI (e + nd T n e 3))])), (t, .inr (6, [.ref t1, .int (nI n)])), (t1, .inl (cC, 60, .inl (TA T)))] := hD
  rcases h_3 with ⟨d_3, rfl⟩ | ⟨d_3, rfl⟩
  · have hv3 := va3_lt T n e
    refine va_put (D := D) (ci := 1) (v := .int (nI (va T n e (nd T n e 3)))) (ty := .int) (C := RX1) (T := TX1) (N := 7) hx hb hts iw_X1_takePlace_X1 tyX1 tyX1_ok nmX1 hown hKa hP hD hS 0 rfl rfl 3 (by decide) (hts (.fieldLink RX1 50 "ColourPatches$Command" "one" "I") (by decide +kernel)) (fun _ h9 => h9) rfl (by decide +kernel) rfl rfl (Nat.le_of_ble_eq_true rfl) dX1_takePlace_6 (fun H locs hP hD hS => ?_)
    have hP : va_P D vwCl [(a, .inr (1, [.int kd, .int c1, .int r1, .int (nI (va T n e (nd T n e 3))), .int y, .int v, .int (nI (e + nd T n e 3))])), (t, .inr (6, [.ref t1, .int (nI n)])), (t1, .inl (cC, 60, .inl (TA T)))] H := hP
    have hD : va_D A [(a, .inr (1, [.int kd, .int c1, .int r1, .int (nI (va T n e (nd T n e 3))), .int y, .int v, .int (nI (e + nd T n e 3))])), (t, .inr (6, [.ref t1, .int (nI n)])), (t1, .inl (cC, 60, .inl (TA T)))] := hD
    refine lv_aload_n hx hb dX1_takePlace_9 rfl (lv_at hl 0 rfl) ?_
    refine va_get (D := D) (ci := 1) (v := .int (nI (va T n e (nd T n e 3)))) (C := RX1) (T := TX1) (N := 7) hx hb hts iw_X1_takePlace_X1 hown hKa hP 0 rfl rfl 3 (by decide) (hts (.fieldLink RX1 50 "ColourPatches$Command" "one" "I") (by decide +kernel)) (fun _ h9 => h9) rfl dX1_takePlace_10 ?_
    refine gn_if_lt hx hb (by omega) (tgt := 26) dX1_takePlace_13 (by decide) ?_
    refine lv_aload_n hx hb dX1_takePlace_16 rfl (lv_at hl 0 rfl) ?_
    refine lv_aload_n hx hb dX1_takePlace_17 rfl (lv_at hl 1 rfl) ?_
    refine lv_bipush (v := nI 44) hx hb dX1_takePlace_18 (by decide) ?_
    have hPc := hP.sub (ws' := [(a, .inr (1, [.int kd, .int c1, .int r1, .int (nI (va T n e (nd T n e 3))), .int y, .int v, .int (nI (e + nd T n e 3))])), (t, .inr (6, [.ref t1, .int (nI n)])), (t1, .inl (cC, 60, .inl (TA T)))]) [0, 1, 2] rfl
    have hDc := hD.sub (ws' := [(a, .inr (1, [.int kd, .int c1, .int r1, .int (nI (va T n e (nd T n e 3))), .int y, .int v, .int (nI (e + nd T n e 3))])), (t, .inr (6, [.ref t1, .int (nI n)])), (t1, .inl (cC, 60, .inl (TA T)))]) [0, 1, 2] (by decide) rfl
    refine clW (wc := [(a, .inr (1, [.int kd, .int c1, .int r1, .int (nI (va T n e (nd T n e 3))), .int y, .int v, .int (nI (e + nd T n e 3))])), (t, .inr (6, [.ref t1, .int (nI n)])), (t1, .inl (cC, 60, .inl (TA T)))]) (w1 := fun (u_20 : Unit) => [(a, .inr (1, [.int kd, .int c1, .int r1, .int (nI (va T n e (nd T n e 3))), .int y, .int v, .int (nI ((e + nd T n e 3) + 1))])), (t, .inr (6, [.ref t1, .int (nI n)])), (t1, .inl (cC, 60, .inl (TA T)))]) (wr := []) (wn := fun (u_20 : Unit) => [(a, .inr (1, [.int kd, .int c1, .int r1, .int (nI (va T n e (nd T n e 3))), .int y, .int v, .int (nI ((e + nd T n e 3) + 1))])), (t, .inr (6, [.ref t1, .int (nI n)])), (t1, .inl (cC, 60, .inl (TA T)))]) hP hD hS hA [0, 1, 2] [] [0, 1, 2] rfl rfl rfl rfl (by decide) (fun _ => rfl) (fun _ => rfl) (fun _ => rfl) (va_runV (As := [.ref t, .int (nI 44)]) (rest := []) ⟨hx, hb, hml, hown, hts⟩ (c_X1_takeSign l D cI cC cQ a kd c1 r1 (nI (va T n e (nd T n e 3))) y v (e + nd T n e 3) t t1 n T 44 H.size (by first | assumption | omega) (by first | assumption | omega) (by first | assumption | omega) (by first | assumption | omega)) (cwV (rm := rmX1_takeSign) 2 hts gX1_takePlace_X1_takeSign rfl rfl rfl (by decide +kernel) ⟨Nat.le_of_ble_eq_true rfl, Nat.le_of_ble_eq_true rfl⟩) ⟨PW.blind, va_recv hKa hPc (ci := 1) (q0 := 0) rfl rfl, PW.go hPc hK hDc⟩ rfl rfl hl.1 rfl (lv_room (Nat.le_of_ble_eq_true rfl)) dX1_takePlace_20 ⟨Nat.le_of_ble_eq_true rfl, Nat.le_of_ble_eq_true rfl⟩) (fun r_20 u_20 H locs h_20 hP hD hS => ?_)
    have hP : va_P D vwCl [(a, .inr (1, [.int kd, .int c1, .int r1, .int (nI (va T n e (nd T n e 3))), .int y, .int v, .int (nI ((e + nd T n e 3) + 1))])), (t, .inr (6, [.ref t1, .int (nI n)])), (t1, .inl (cC, 60, .inl (TA T)))] H := hP
    have hD : va_D A [(a, .inr (1, [.int kd, .int c1, .int r1, .int (nI (va T n e (nd T n e 3))), .int y, .int v, .int (nI ((e + nd T n e 3) + 1))])), (t, .inr (6, [.ref t1, .int (nI n)])), (t1, .inl (cC, 60, .inl (TA T)))] := hD
    rcases h_20 with ⟨b_20, rfl⟩ | ⟨b_20, rfl⟩
    · refine gn_if_ne hx hb (by decide) (tgt := 28) dX1_takePlace_23 (by decide) (fun cq => ?_) (fun cq => absurd cq (by decide))
      have hnd2 := nd_le T n (e + nd T n e 3 + 1) 3
      refine lv_aload_n hx hb dX1_takePlace_28 rfl (lv_at hl 0 rfl) ?_
      refine lv_aload_n hx hb dX1_takePlace_29 rfl (lv_at hl 0 rfl) ?_
      refine lv_aload_n hx hb dX1_takePlace_30 rfl (lv_at hl 1 rfl) ?_
      have hPc := hP.sub (ws' := [(a, .inr (1, [.int kd, .int c1, .int r1, .int (nI (va T n e (nd T n e 3))), .int y, .int v, .int (nI ((e + nd T n e 3) + 1))])), (t, .inr (6, [.ref t1, .int (nI n)])), (t1, .inl (cC, 60, .inl (TA T)))]) [0, 1, 2] rfl
      have hDc := hD.sub (ws' := [(a, .inr (1, [.int kd, .int c1, .int r1, .int (nI (va T n e (nd T n e 3))), .int y, .int v, .int (nI ((e + nd T n e 3) + 1))])), (t, .inr (6, [.ref t1, .int (nI n)])), (t1, .inl (cC, 60, .inl (TA T)))]) [0, 1, 2] (by decide) rfl
      refine clW (wc := [(a, .inr (1, [.int kd, .int c1, .int r1, .int (nI (va T n e (nd T n e 3))), .int y, .int v, .int (nI ((e + nd T n e 3) + 1))])), (t, .inr (6, [.ref t1, .int (nI n)])), (t1, .inl (cC, 60, .inl (TA T)))]) (w1 := fun (u_31 : Unit) => [(a, .inr (1, [.int kd, .int c1, .int r1, .int (nI (va T n e (nd T n e 3))), .int y, .int v, .int (nI (((e + nd T n e 3) + 1) + nd T n ((e + nd T n e 3) + 1) 3))])), (t, .inr (6, [.ref t1, .int (nI n)])), (t1, .inl (cC, 60, .inl (TA T)))]) (wr := []) (wn := fun (u_31 : Unit) => [(a, .inr (1, [.int kd, .int c1, .int r1, .int (nI (va T n e (nd T n e 3))), .int y, .int v, .int (nI (((e + nd T n e 3) + 1) + nd T n ((e + nd T n e 3) + 1) 3))])), (t, .inr (6, [.ref t1, .int (nI n)])), (t1, .inl (cC, 60, .inl (TA T)))]) hP hD hS hA [0, 1, 2] [] [0, 1, 2] rfl rfl rfl rfl (by decide) (fun _ => rfl) (fun _ => rfl) (fun _ => rfl) (va_runV (As := [.ref t]) (rest := [.ref a]) ⟨hx, hb, hml, hown, hts⟩ (c_X1_takeNumber l D cI cC cQ a kd c1 r1 (nI (va T n e (nd T n e 3))) y v ((e + nd T n e 3) + 1) t t1 n T H.size (by first | assumption | omega) (by first | assumption | omega) (by first | assumption | omega)) (cwV (rm := rmX1_takeNumber) 1 hts gX1_takePlace_X1_takeNumber rfl rfl rfl (by decide +kernel) ⟨Nat.le_of_ble_eq_true rfl, Nat.le_of_ble_eq_true rfl⟩) ⟨PW.blind, va_recv hKa hPc (ci := 1) (q0 := 0) rfl rfl, PW.go hPc hK hDc⟩ rfl rfl hl.1 rfl (lv_room (Nat.le_of_ble_eq_true rfl)) dX1_takePlace_31 ⟨Nat.le_of_ble_eq_true rfl, Nat.le_of_ble_eq_true rfl⟩) (fun r_31 u_31 H locs h_31 hP hD hS => ?_)
      have hP : va_P D vwCl [(a, .inr (1, [.int kd, .int c1, .int r1, .int (nI (va T n e (nd T n e 3))), .int y, .int v, .int (nI (((e + nd T n e 3) + 1) + nd T n ((e + nd T n e 3) + 1) 3))])), (t, .inr (6, [.ref t1, .int (nI n)])), (t1, .inl (cC, 60, .inl (TA T)))] H := hP
      have hD : va_D A [(a, .inr (1, [.int kd, .int c1, .int r1, .int (nI (va T n e (nd T n e 3))), .int y, .int v, .int (nI (((e + nd T n e 3) + 1) + nd T n ((e + nd T n e 3) + 1) 3))])), (t, .inr (6, [.ref t1, .int (nI n)])), (t1, .inl (cC, 60, .inl (TA T)))] := hD
      rcases h_31 with ⟨d_31, rfl⟩ | ⟨d_31, rfl⟩
      · have hv31 := va3_lt T n (e + nd T n e 3 + 1)
        refine va_put (D := D) (ci := 1) (v := .int (nI (va T n ((e + nd T n e 3) + 1) (nd T n ((e + nd T n e 3) + 1) 3)))) (ty := .int) (C := RX1) (T := TX1) (N := 7) hx hb hts iw_X1_takePlace_X1 tyX1 tyX1_ok nmX1 hown hKa hP hD hS 0 rfl rfl 4 (by decide) (hts (.fieldLink RX1 53 "ColourPatches$Command" "two" "I") (by decide +kernel)) (fun _ h9 => h9) rfl (by decide +kernel) rfl rfl (Nat.le_of_ble_eq_true rfl) dX1_takePlace_34 (fun H locs hP hD hS => ?_)
        have hP : va_P D vwCl [(a, .inr (1, [.int kd, .int c1, .int r1, .int (nI (va T n e (nd T n e 3))), .int (nI (va T n ((e + nd T n e 3) + 1) (nd T n ((e + nd T n e 3) + 1) 3))), .int v, .int (nI (((e + nd T n e 3) + 1) + nd T n ((e + nd T n e 3) + 1) 3))])), (t, .inr (6, [.ref t1, .int (nI n)])), (t1, .inl (cC, 60, .inl (TA T)))] H := hP
        have hD : va_D A [(a, .inr (1, [.int kd, .int c1, .int r1, .int (nI (va T n e (nd T n e 3))), .int (nI (va T n ((e + nd T n e 3) + 1) (nd T n ((e + nd T n e 3) + 1) 3))), .int v, .int (nI (((e + nd T n e 3) + 1) + nd T n ((e + nd T n e 3) + 1) 3))])), (t, .inr (6, [.ref t1, .int (nI n)])), (t1, .inl (cC, 60, .inl (TA T)))] := hD
        refine lv_aload_n hx hb dX1_takePlace_37 rfl (lv_at hl 0 rfl) ?_
        refine va_get (D := D) (ci := 1) (v := .int (nI (va T n ((e + nd T n e 3) + 1) (nd T n ((e + nd T n e 3) + 1) 3)))) (C := RX1) (T := TX1) (N := 7) hx hb hts iw_X1_takePlace_X1 hown hKa hP 0 rfl rfl 4 (by decide) (hts (.fieldLink RX1 53 "ColourPatches$Command" "two" "I") (by decide +kernel)) (fun _ h9 => h9) rfl dX1_takePlace_38 ?_
        refine gn_if_lt hx hb (by omega) (tgt := 48) dX1_takePlace_41 (by decide) ?_
        refine lv_iconst (v := nI 1) hx hb dX1_takePlace_44 (by decide) ?_
        refine lv_goto (tgt := 49) hx hb dX1_takePlace_45 (by decide) ?_
        exact rtW_z (nI (va T n e (nd T n e 3)), nI (va T n ((e + nd T n e 3) + 1) (nd T n ((e + nd T n e 3) + 1) 3)), ((e + nd T n e 3) + 1) + nd T n ((e + nd T n e 3) + 1) 3) hQ hx hb hr hlk hS hP dX1_takePlace_49 (by decide +kernel) (⟨Or.inl ⟨⟨d_3, b_20, d_31⟩, rfl⟩, fun _ => rfl⟩)
      · refine va_put (D := D) (ci := 1) (v := .int (-1)) (ty := .int) (C := RX1) (T := TX1) (N := 7) hx hb hts iw_X1_takePlace_X1 tyX1 tyX1_ok nmX1 hown hKa hP hD hS 0 rfl rfl 4 (by decide) (hts (.fieldLink RX1 53 "ColourPatches$Command" "two" "I") (by decide +kernel)) (fun _ h9 => h9) rfl (by decide +kernel) rfl rfl (Nat.le_of_ble_eq_true rfl) dX1_takePlace_34 (fun H locs hP hD hS => ?_)
        have hP : va_P D vwCl [(a, .inr (1, [.int kd, .int c1, .int r1, .int (nI (va T n e (nd T n e 3))), .int (-1), .int v, .int (nI (((e + nd T n e 3) + 1) + nd T n ((e + nd T n e 3) + 1) 3))])), (t, .inr (6, [.ref t1, .int (nI n)])), (t1, .inl (cC, 60, .inl (TA T)))] H := hP
        have hD : va_D A [(a, .inr (1, [.int kd, .int c1, .int r1, .int (nI (va T n e (nd T n e 3))), .int (-1), .int v, .int (nI (((e + nd T n e 3) + 1) + nd T n ((e + nd T n e 3) + 1) 3))])), (t, .inr (6, [.ref t1, .int (nI n)])), (t1, .inl (cC, 60, .inl (TA T)))] := hD
        refine lv_aload_n hx hb dX1_takePlace_37 rfl (lv_at hl 0 rfl) ?_
        refine va_get (D := D) (ci := 1) (v := .int (-1)) (C := RX1) (T := TX1) (N := 7) hx hb hts iw_X1_takePlace_X1 hown hKa hP 0 rfl rfl 4 (by decide) (hts (.fieldLink RX1 53 "ColourPatches$Command" "two" "I") (by decide +kernel)) (fun _ h9 => h9) rfl dX1_takePlace_38 ?_
        refine lv_if_lt hx hb (tgt := 48) dX1_takePlace_41 (by decide) (fun cq => ?_) (fun cq => absurd cq (by decide))
        refine lv_iconst (v := nI 0) hx hb dX1_takePlace_48 (by decide) ?_
        exact rtW_z (nI (va T n e (nd T n e 3)), (-1), ((e + nd T n e 3) + 1) + nd T n ((e + nd T n e 3) + 1) 3) hQ hx hb hr hlk hS hP dX1_takePlace_49 (by decide +kernel) (⟨Or.inr ⟨fun q => d_31 q.2.2, rfl⟩, fun q => absurd q.2.2 d_31⟩)
    · refine gn_if_ne hx hb (by decide) (tgt := 28) dX1_takePlace_23 (by decide) (fun cq => absurd cq (by decide)) (fun cq => ?_)
      refine lv_iconst (v := nI 0) hx hb dX1_takePlace_26 (by decide) ?_
      exact rtW_z (nI (va T n e (nd T n e 3)), y, (e + nd T n e 3) + 1) hQ hx hb hr hlk hS hP dX1_takePlace_27 (by decide +kernel) (⟨Or.inr ⟨fun q => b_20 q.2.1, rfl⟩, fun q => absurd q.2.1 b_20⟩)
  · refine va_put (D := D) (ci := 1) (v := .int (-1)) (ty := .int) (C := RX1) (T := TX1) (N := 7) hx hb hts iw_X1_takePlace_X1 tyX1 tyX1_ok nmX1 hown hKa hP hD hS 0 rfl rfl 3 (by decide) (hts (.fieldLink RX1 50 "ColourPatches$Command" "one" "I") (by decide +kernel)) (fun _ h9 => h9) rfl (by decide +kernel) rfl rfl (Nat.le_of_ble_eq_true rfl) dX1_takePlace_6 (fun H locs hP hD hS => ?_)
    have hP : va_P D vwCl [(a, .inr (1, [.int kd, .int c1, .int r1, .int (-1), .int y, .int v, .int (nI (e + nd T n e 3))])), (t, .inr (6, [.ref t1, .int (nI n)])), (t1, .inl (cC, 60, .inl (TA T)))] H := hP
    have hD : va_D A [(a, .inr (1, [.int kd, .int c1, .int r1, .int (-1), .int y, .int v, .int (nI (e + nd T n e 3))])), (t, .inr (6, [.ref t1, .int (nI n)])), (t1, .inl (cC, 60, .inl (TA T)))] := hD
    refine lv_aload_n hx hb dX1_takePlace_9 rfl (lv_at hl 0 rfl) ?_
    refine va_get (D := D) (ci := 1) (v := .int (-1)) (C := RX1) (T := TX1) (N := 7) hx hb hts iw_X1_takePlace_X1 hown hKa hP 0 rfl rfl 3 (by decide) (hts (.fieldLink RX1 50 "ColourPatches$Command" "one" "I") (by decide +kernel)) (fun _ h9 => h9) rfl dX1_takePlace_10 ?_
    refine lv_if_lt hx hb (tgt := 26) dX1_takePlace_13 (by decide) (fun cq => ?_) (fun cq => absurd cq (by decide))
    refine lv_iconst (v := nI 0) hx hb dX1_takePlace_26 (by decide) ?_
    exact rtW_z ((-1), y, e + nd T n e 3) hQ hx hb hr hlk hS hP dX1_takePlace_27 (by decide +kernel) (⟨Or.inr ⟨fun q => d_3 q.1, rfl⟩, fun q => absurd q.1 d_3⟩)
abbrev rmX1_readFrom : Room := { frames := 4, cells := 0, slots := 0, locals := 84 }
set_option maxRecDepth 20000 in
theorem iw_X1_readFrom_X1 : ∀ w ∈ u_ws RX1 TX1 7, w ∈ wsX1_readFrom := by decide +kernel
set_option maxHeartbeats 4000000 in
set_option maxRecDepth 100000 in
theorem c_X1_readFrom (l : Launch) (D : va_G) (cI cC cQ : ClassId) (a : Nat) (kd c1 r1 x y v : Int32) (e : Nat) (t t1 : Nat) (n : Nat) (T : Nat → Nat) (s0 : Nat) (sz : Nat) (hn : n ≤ 60) (hT : ∀ k, T k < 127) (he : s0 < 100) : Met l yX1_readFrom wsX1_readFrom rmX1_readFrom (PW D cI cC cQ [.ref a, .ref t, .int (nI s0)] [(a, .inr (1, [.int kd, .int c1, .int r1, .int x, .int y, .int v, .int (nI e)])), (t, .inr (6, [.ref t1, .int (nI n)])), (t1, .inl (cC, 60, .inl (TA T)))] sz) (va_Qi (fun (z : Int32) (u : Int32 × Int32 × Int32 × Int32 × Int32 × Nat) => BB (¬ rd T n s0 = none) z ∧ ∀ q, rd T n s0 = some q → mch q u) (fun (u : Int32 × Int32 × Int32 × Int32 × Int32 × Nat) t9 => va_P D vwCl [(a, .inr (1, [.int (nI (sg T n s0)), .int u.1, .int u.2.1, .int u.2.2.1, .int u.2.2.2.1, .int u.2.2.2.2.1, .int (nI u.2.2.2.2.2)])), (t, .inr (6, [.ref t1, .int (nI n)])), (t1, .inl (cC, 60, .inl (TA T)))] t9.heap) (va_A [(a, .inr (1, [.int kd, .int c1, .int r1, .int x, .int y, .int v, .int (nI e)])), (t, .inr (6, [.ref t1, .int (nI n)])), (t1, .inl (cC, 60, .inl (TA T)))] sz)) 0 0 (va_A [(a, .inr (1, [.int kd, .int c1, .int r1, .int x, .int y, .int v, .int (nI e)])), (t, .inr (6, [.ref t1, .int (nI n)])), (t1, .inl (cC, 60, .inl (TA T)))] sz) := by
  refine metW (y := yX1_readFrom) (ws := wsX1_readFrom) (rm := rmX1_readFrom) (D := D) (cI := cI) (cC := cC) (cQ := cQ) (av := [.ref a, .ref t, .int (nI s0)]) (wd := [(a, .inr (1, [.int kd, .int c1, .int r1, .int x, .int y, .int v, .int (nI e)])), (t, .inr (6, [.ref t1, .int (nI n)])), (t1, .inl (cC, 60, .inl (TA T)))]) (sz := sz) (Qf := fun A => va_Qi (fun (z : Int32) (u : Int32 × Int32 × Int32 × Int32 × Int32 × Nat) => BB (¬ rd T n s0 = none) z ∧ ∀ q, rd T n s0 = some q → mch q u) (fun (u : Int32 × Int32 × Int32 × Int32 × Int32 × Nat) t9 => va_P D vwCl [(a, .inr (1, [.int (nI (sg T n s0)), .int u.1, .int u.2.1, .int u.2.2.1, .int u.2.2.2.1, .int u.2.2.2.2.1, .int (nI u.2.2.2.2.2)])), (t, .inr (6, [.ref t1, .int (nI n)])), (t1, .inl (cC, 60, .inl (TA T)))] t9.heap) A) (cc := cX1_readFrom) (maxL := 4) (ret := (some .boolean)) (by decide) rfl (Nat.le_of_ble_eq_true rfl) ?_
  intro pg ev s mi args below meth cd ls A Q hQ hx hb hml hr hts hown hlk hnm hK hP hD hS hA hl
  have hKa := hK.1
  have hl : lv_has ls 4 [(0, .ref a), (1, .ref t), (2, .int (nI s0))] := hl
  refine lv_aload_n hx hb dX1_readFrom_0 rfl (lv_at hl 0 rfl) ?_
  refine lv_aload_n hx hb dX1_readFrom_1 rfl (lv_at hl 1 rfl) ?_
  refine lv_iload_n hx hb dX1_readFrom_2 rfl (lv_at hl 2 rfl) ?_
  have hPc := hP.sub (ws' := [(t, .inr (6, [.ref t1, .int (nI n)])), (t1, .inl (cC, 60, .inl (TA T)))]) [1, 2] rfl
  refine clRe (E := nI (sg T n s0)) (va_runV (As := [.int (nI s0)]) (rest := [.ref a]) ⟨hx, hb, hml, hown, hts⟩ (c_X6_signAt l D cI cC cQ t t1 n T s0 (by first | assumption | omega) (by first | assumption | omega) (by first | assumption | omega)) (cwV (rm := rmX6_signAt) 1 hts gX1_readFrom_X6_signAt rfl rfl rfl (by decide +kernel) ⟨Nat.le_of_ble_eq_true rfl, Nat.le_of_ble_eq_true rfl⟩) ⟨PR.blind, va_recv hKa hPc (ci := 6) (q0 := 0) rfl rfl, PR.go hPc hK⟩ rfl rfl hl.1 rfl (lv_room (Nat.le_of_ble_eq_true rfl)) dX1_readFrom_3 ⟨Nat.le_of_ble_eq_true rfl, Nat.le_of_ble_eq_true rfl⟩) ?_
  have hsg_3 : sg T n s0 < 127 := sg_lt (by assumption) n (s0)
  refine va_put (D := D) (ci := 1) (v := .int (nI (sg T n s0))) (ty := .char) (C := RX1) (T := TX1) (N := 7) hx hb hts iw_X1_readFrom_X1 tyX1 tyX1_ok nmX1 hown hKa hP hD hS 0 rfl rfl 0 (by decide) (hts (.fieldLink RX1 15 "ColourPatches$Command" "kind" "C") (by decide +kernel)) (fun _ h9 => h9) rfl (by decide +kernel) ((pk_charN (by omega)).1) (pk_charN (by omega)).2 (Nat.le_of_ble_eq_true rfl) dX1_readFrom_6 (fun H locs hP hD hS => ?_)
  have hP : va_P D vwCl [(a, .inr (1, [.int (nI (sg T n s0)), .int c1, .int r1, .int x, .int y, .int v, .int (nI e)])), (t, .inr (6, [.ref t1, .int (nI n)])), (t1, .inl (cC, 60, .inl (TA T)))] H := hP
  have hD : va_D A [(a, .inr (1, [.int (nI (sg T n s0)), .int c1, .int r1, .int x, .int y, .int v, .int (nI e)])), (t, .inr (6, [.ref t1, .int (nI n)])), (t1, .inl (cC, 60, .inl (TA T)))] := hD
  refine lv_aload_n hx hb dX1_readFrom_9 rfl (lv_at hl 0 rfl) ?_
  refine lv_aload_n hx hb dX1_readFrom_10 rfl (lv_at hl 1 rfl) ?_
  refine lv_iload_n hx hb dX1_readFrom_11 rfl (lv_at hl 2 rfl) ?_
  refine lv_iconst (v := nI 1) hx hb dX1_readFrom_12 (by decide) ?_
  refine gn_add hx hb dX1_readFrom_13 ?_
  have hPc := hP.sub (ws' := [(t, .inr (6, [.ref t1, .int (nI n)])), (t1, .inl (cC, 60, .inl (TA T)))]) [1, 2] rfl
  refine clRe (E := nI (sg T n (s0 + 1))) (va_runV (As := [.int (nI (s0 + 1))]) (rest := [.ref a]) ⟨hx, hb, hml, hown, hts⟩ (c_X6_signAt l D cI cC cQ t t1 n T (s0 + 1) (by first | assumption | omega) (by first | assumption | omega) (by first | assumption | omega)) (cwV (rm := rmX6_signAt) 1 hts gX1_readFrom_X6_signAt rfl rfl rfl (by decide +kernel) ⟨Nat.le_of_ble_eq_true rfl, Nat.le_of_ble_eq_true rfl⟩) ⟨PR.blind, va_recv hKa hPc (ci := 6) (q0 := 0) rfl rfl, PR.go hPc hK⟩ rfl rfl hl.1 rfl (lv_room (Nat.le_of_ble_eq_true rfl)) dX1_readFrom_14 ⟨Nat.le_of_ble_eq_true rfl, Nat.le_of_ble_eq_true rfl⟩) ?_
  have hsg_14 : sg T n (s0 + 1) < 127 := sg_lt (by assumption) n ((s0 + 1))
  have hPc := hP.sub (ws' := []) [] rfl
  refine clR (va_runS (As := [.int (nI (sg T n (s0 + 1)))]) (rest := [.ref a]) ⟨hx, hb, hml, hown, hts⟩ (c_X1_digitOf l D cI cC cQ (sg T n (s0 + 1)) (by first | assumption | omega)) (va_cwS (rm := rmX1_digitOf) 1 hts gX1_readFrom_X1_digitOf rfl rfl rfl (by decide +kernel) ⟨Nat.le_of_ble_eq_true rfl, Nat.le_of_ble_eq_true rfl⟩) ⟨PR.blind, PR.go hPc hK⟩ rfl rfl hl.1 rfl (lv_room (Nat.le_of_ble_eq_true rfl)) dX1_readFrom_17 ⟨Nat.le_of_ble_eq_true rfl, Nat.le_of_ble_eq_true rfl⟩) (fun r_17 h_17 => ?_)
  rcases h_17 with ⟨d_17, rfl⟩ | ⟨d_17, rfl⟩
  · refine va_put (D := D) (ci := 1) (v := .int (nI ((sg T n (s0 + 1)) - 48))) (ty := .int) (C := RX1) (T := TX1) (N := 7) hx hb hts iw_X1_readFrom_X1 tyX1 tyX1_ok nmX1 hown hKa hP hD hS 0 rfl rfl 1 (by decide) (hts (.fieldLink RX1 25 "ColourPatches$Command" "column" "I") (by decide +kernel)) (fun _ h9 => h9) rfl (by decide +kernel) rfl rfl (Nat.le_of_ble_eq_true rfl) dX1_readFrom_20 (fun H locs hP hD hS => ?_)
    have hP : va_P D vwCl [(a, .inr (1, [.int (nI (sg T n s0)), .int (nI ((sg T n (s0 + 1)) - 48)), .int r1, .int x, .int y, .int v, .int (nI e)])), (t, .inr (6, [.ref t1, .int (nI n)])), (t1, .inl (cC, 60, .inl (TA T)))] H := hP
    have hD : va_D A [(a, .inr (1, [.int (nI (sg T n s0)), .int (nI ((sg T n (s0 + 1)) - 48)), .int r1, .int x, .int y, .int v, .int (nI e)])), (t, .inr (6, [.ref t1, .int (nI n)])), (t1, .inl (cC, 60, .inl (TA T)))] := hD
    refine lv_aload_n hx hb dX1_readFrom_23 rfl (lv_at hl 0 rfl) ?_
    refine lv_aload_n hx hb dX1_readFrom_24 rfl (lv_at hl 1 rfl) ?_
    refine lv_iload_n hx hb dX1_readFrom_25 rfl (lv_at hl 2 rfl) ?_
    refine lv_iconst (v := nI 2) hx hb dX1_readFrom_26 (by decide) ?_
    refine gn_add hx hb dX1_readFrom_27 ?_
    have hPc := hP.sub (ws' := [(t, .inr (6, [.ref t1, .int (nI n)])), (t1, .inl (cC, 60, .inl (TA T)))]) [1, 2] rfl
    refine clRe (E := nI (sg T n (s0 + 2))) (va_runV (As := [.int (nI (s0 + 2))]) (rest := [.ref a]) ⟨hx, hb, hml, hown, hts⟩ (c_X6_signAt l D cI cC cQ t t1 n T (s0 + 2) (by first | assumption | omega) (by first | assumption | omega) (by first | assumption | omega)) (cwV (rm := rmX6_signAt) 1 hts gX1_readFrom_X6_signAt rfl rfl rfl (by decide +kernel) ⟨Nat.le_of_ble_eq_true rfl, Nat.le_of_ble_eq_true rfl⟩) ⟨PR.blind, va_recv hKa hPc (ci := 6) (q0 := 0) rfl rfl, PR.go hPc hK⟩ rfl rfl hl.1 rfl (lv_room (Nat.le_of_ble_eq_true rfl)) dX1_readFrom_28 ⟨Nat.le_of_ble_eq_true rfl, Nat.le_of_ble_eq_true rfl⟩) ?_
    have hsg_28 : sg T n (s0 + 2) < 127 := sg_lt (by assumption) n ((s0 + 2))
    have hPc := hP.sub (ws' := []) [] rfl
    refine clR (va_runS (As := [.int (nI (sg T n (s0 + 2)))]) (rest := [.ref a]) ⟨hx, hb, hml, hown, hts⟩ (c_X1_digitOf l D cI cC cQ (sg T n (s0 + 2)) (by first | assumption | omega)) (va_cwS (rm := rmX1_digitOf) 1 hts gX1_readFrom_X1_digitOf rfl rfl rfl (by decide +kernel) ⟨Nat.le_of_ble_eq_true rfl, Nat.le_of_ble_eq_true rfl⟩) ⟨PR.blind, PR.go hPc hK⟩ rfl rfl hl.1 rfl (lv_room (Nat.le_of_ble_eq_true rfl)) dX1_readFrom_31 ⟨Nat.le_of_ble_eq_true rfl, Nat.le_of_ble_eq_true rfl⟩) (fun r_31 h_31 => ?_)
    rcases h_31 with ⟨d_31, rfl⟩ | ⟨d_31, rfl⟩
    · refine va_put (D := D) (ci := 1) (v := .int (nI ((sg T n (s0 + 2)) - 48))) (ty := .int) (C := RX1) (T := TX1) (N := 7) hx hb hts iw_X1_readFrom_X1 tyX1 tyX1_ok nmX1 hown hKa hP hD hS 0 rfl rfl 2 (by decide) (hts (.fieldLink RX1 29 "ColourPatches$Command" "row" "I") (by decide +kernel)) (fun _ h9 => h9) rfl (by decide +kernel) rfl rfl (Nat.le_of_ble_eq_true rfl) dX1_readFrom_34 (fun H locs hP hD hS => ?_)
      have hP : va_P D vwCl [(a, .inr (1, [.int (nI (sg T n s0)), .int (nI ((sg T n (s0 + 1)) - 48)), .int (nI ((sg T n (s0 + 2)) - 48)), .int x, .int y, .int v, .int (nI e)])), (t, .inr (6, [.ref t1, .int (nI n)])), (t1, .inl (cC, 60, .inl (TA T)))] H := hP
      have hD : va_D A [(a, .inr (1, [.int (nI (sg T n s0)), .int (nI ((sg T n (s0 + 1)) - 48)), .int (nI ((sg T n (s0 + 2)) - 48)), .int x, .int y, .int v, .int (nI e)])), (t, .inr (6, [.ref t1, .int (nI n)])), (t1, .inl (cC, 60, .inl (TA T)))] := hD
      refine lv_aload_n hx hb dX1_readFrom_37 rfl (lv_at hl 0 rfl) ?_
      refine lv_iload_n hx hb dX1_readFrom_38 rfl (lv_at hl 2 rfl) ?_
      refine lv_iconst (v := nI 3) hx hb dX1_readFrom_39 (by decide) ?_
      refine gn_add hx hb dX1_readFrom_40 ?_
      refine va_put (D := D) (ci := 1) (v := .int (nI (s0 + 3))) (ty := .int) (C := RX1) (T := TX1) (N := 7) hx hb hts iw_X1_readFrom_X1 tyX1 tyX1_ok nmX1 hown hKa hP hD hS 0 rfl rfl 6 (by decide) (hts (.fieldLink RX1 32 "ColourPatches$Command" "end" "I") (by decide +kernel)) (fun _ h9 => h9) rfl (by decide +kernel) rfl rfl (Nat.le_of_ble_eq_true rfl) dX1_readFrom_41 (fun H locs hP hD hS => ?_)
      have hP : va_P D vwCl [(a, .inr (1, [.int (nI (sg T n s0)), .int (nI ((sg T n (s0 + 1)) - 48)), .int (nI ((sg T n (s0 + 2)) - 48)), .int x, .int y, .int v, .int (nI (s0 + 3))])), (t, .inr (6, [.ref t1, .int (nI n)])), (t1, .inl (cC, 60, .inl (TA T)))] H := hP
      have hD : va_D A [(a, .inr (1, [.int (nI (sg T n s0)), .int (nI ((sg T n (s0 + 1)) - 48)), .int (nI ((sg T n (s0 + 2)) - 48)), .int x, .int y, .int v, .int (nI (s0 + 3))])), (t, .inr (6, [.ref t1, .int (nI n)])), (t1, .inl (cC, 60, .inl (TA T)))] := hD
      refine lv_aload_n hx hb dX1_readFrom_44 rfl (lv_at hl 0 rfl) ?_
      refine va_get (D := D) (ci := 1) (v := .int (nI ((sg T n (s0 + 1)) - 48))) (C := RX1) (T := TX1) (N := 7) hx hb hts iw_X1_readFrom_X1 hown hKa hP 0 rfl rfl 1 (by decide) (hts (.fieldLink RX1 25 "ColourPatches$Command" "column" "I") (by decide +kernel)) (fun _ h9 => h9) rfl dX1_readFrom_45 ?_
      refine gn_if_lt hx hb (by omega) (tgt := 58) dX1_readFrom_48 (by decide) ?_
      refine lv_aload_n hx hb dX1_readFrom_51 rfl (lv_at hl 0 rfl) ?_
      refine va_get (D := D) (ci := 1) (v := .int (nI ((sg T n (s0 + 2)) - 48))) (C := RX1) (T := TX1) (N := 7) hx hb hts iw_X1_readFrom_X1 hown hKa hP 0 rfl rfl 2 (by decide) (hts (.fieldLink RX1 29 "ColourPatches$Command" "row" "I") (by decide +kernel)) (fun _ h9 => h9) rfl dX1_readFrom_52 ?_
      refine gn_if_ge hx hb (by omega) (tgt := 60) dX1_readFrom_55 (by decide) ?_
      refine lv_aload_n hx hb dX1_readFrom_60 rfl (lv_at hl 0 rfl) ?_
      refine va_get (D := D) (ci := 1) (v := .int (nI (sg T n s0))) (C := RX1) (T := TX1) (N := 7) hx hb hts iw_X1_readFrom_X1 hown hKa hP 0 rfl rfl 0 (by decide) (hts (.fieldLink RX1 15 "ColourPatches$Command" "kind" "C") (by decide +kernel)) (fun _ h9 => h9) rfl dX1_readFrom_61 ?_
      refine lv_bipush (v := nI 102) hx hb dX1_readFrom_64 (by decide) ?_
      refine gn_icmp_ne hx hb (by omega) (by decide) (tgt := 73) dX1_readFrom_66 (by decide) (fun c_66 => ?_) (fun c_66 => ?_)
      · refine lv_iconst (v := nI 0) hx hb dX1_readFrom_73 (by decide) ?_
        refine lv_istore_n (lv' := [(3, .int (nI 0)), (0, .ref a), (1, .ref t), (2, .int (nI s0))]) hx hb dX1_readFrom_74 rfl hl (by decide) rfl (fun ls hl => ?_)
        refine lv_aload_n hx hb dX1_readFrom_75 rfl (lv_at hl 1 rfl) ?_
        refine va_get (D := D) (ci := 1) (v := .int (nI (sg T n s0))) (C := RX1) (T := TX1) (N := 7) hx hb hts iw_X1_readFrom_X1 hown hKa hP 0 rfl rfl 0 (by decide) (hts (.fieldLink RX1 15 "ColourPatches$Command" "kind" "C") (by decide +kernel)) (fun _ h9 => h9) rfl dX1_readFrom_76 ?_
        refine lv_bipush (v := nI 99) hx hb dX1_readFrom_79 (by decide) ?_
        refine gn_icmp_ne hx hb (by omega) (by decide) (tgt := 111) dX1_readFrom_81 (by decide) (fun c_81 => ?_) (fun c_81 => ?_)
        · refine lv_aload_n hx hb dX1_readFrom_111 rfl (lv_at hl 1 rfl) ?_
          refine va_get (D := D) (ci := 1) (v := .int (nI (sg T n s0))) (C := RX1) (T := TX1) (N := 7) hx hb hts iw_X1_readFrom_X1 hown hKa hP 0 rfl rfl 0 (by decide) (hts (.fieldLink RX1 15 "ColourPatches$Command" "kind" "C") (by decide +kernel)) (fun _ h9 => h9) rfl dX1_readFrom_112 ?_
          refine lv_bipush (v := nI 109) hx hb dX1_readFrom_115 (by decide) ?_
          refine gn_icmp_ne hx hb (by omega) (by decide) (tgt := 144) dX1_readFrom_117 (by decide) (fun c_117 => ?_) (fun c_117 => ?_)
          · refine lv_iload_n hx hb dX1_readFrom_144 rfl (lv_at hl 0 rfl) ?_
            refine gn_if_eq hx hb (by decide) (tgt := 162) dX1_readFrom_145 (by decide) (fun cq => ?_) (fun cq => absurd cq (by decide))
            refine lv_iconst (v := nI 0) hx hb dX1_readFrom_162 (by decide) ?_
            exact rtW_z (nI ((sg T n (s0 + 1)) - 48), nI ((sg T n (s0 + 2)) - 48), x, y, v, s0 + 3) hQ hx hb hr hlk hS hP dX1_readFrom_163 (by decide +kernel) (⟨Or.inr ⟨fun q => q (rd_k c_66 c_81 c_117), rfl⟩, fun q hq => by rw [rd_k c_66 c_81 c_117] at hq; cases hq⟩)
          · refine lv_aload_n hx hb dX1_readFrom_120 rfl (lv_at hl 1 rfl) ?_
            refine lv_aload_n hx hb dX1_readFrom_121 rfl (lv_at hl 2 rfl) ?_
            refine lv_bipush (v := nI 58) hx hb dX1_readFrom_122 (by decide) ?_
            have hPc := hP.sub (ws' := [(a, .inr (1, [.int (nI (sg T n s0)), .int (nI ((sg T n (s0 + 1)) - 48)), .int (nI ((sg T n (s0 + 2)) - 48)), .int x, .int y, .int v, .int (nI (s0 + 3))])), (t, .inr (6, [.ref t1, .int (nI n)])), (t1, .inl (cC, 60, .inl (TA T)))]) [0, 1, 2] rfl
            have hDc := hD.sub (ws' := [(a, .inr (1, [.int (nI (sg T n s0)), .int (nI ((sg T n (s0 + 1)) - 48)), .int (nI ((sg T n (s0 + 2)) - 48)), .int x, .int y, .int v, .int (nI (s0 + 3))])), (t, .inr (6, [.ref t1, .int (nI n)])), (t1, .inl (cC, 60, .inl (TA T)))]) [0, 1, 2] (by decide) rfl
            refine clW (wc := [(a, .inr (1, [.int (nI (sg T n s0)), .int (nI ((sg T n (s0 + 1)) - 48)), .int (nI ((sg T n (s0 + 2)) - 48)), .int x, .int y, .int v, .int (nI (s0 + 3))])), (t, .inr (6, [.ref t1, .int (nI n)])), (t1, .inl (cC, 60, .inl (TA T)))]) (w1 := fun (u_124 : Unit) => [(a, .inr (1, [.int (nI (sg T n s0)), .int (nI ((sg T n (s0 + 1)) - 48)), .int (nI ((sg T n (s0 + 2)) - 48)), .int x, .int y, .int v, .int (nI ((s0 + 3) + 1))])), (t, .inr (6, [.ref t1, .int (nI n)])), (t1, .inl (cC, 60, .inl (TA T)))]) (wr := []) (wn := fun (u_124 : Unit) => [(a, .inr (1, [.int (nI (sg T n s0)), .int (nI ((sg T n (s0 + 1)) - 48)), .int (nI ((sg T n (s0 + 2)) - 48)), .int x, .int y, .int v, .int (nI ((s0 + 3) + 1))])), (t, .inr (6, [.ref t1, .int (nI n)])), (t1, .inl (cC, 60, .inl (TA T)))]) hP hD hS hA [0, 1, 2] [] [0, 1, 2] rfl rfl rfl rfl (by decide) (fun _ => rfl) (fun _ => rfl) (fun _ => rfl) (va_runV (As := [.ref t, .int (nI 58)]) (rest := []) ⟨hx, hb, hml, hown, hts⟩ (c_X1_takeSign l D cI cC cQ a (nI (sg T n s0)) (nI ((sg T n (s0 + 1)) - 48)) (nI ((sg T n (s0 + 2)) - 48)) x y v (s0 + 3) t t1 n T 58 H.size (by first | assumption | omega) (by first | assumption | omega) (by first | assumption | omega) (by first | assumption | omega)) (cwV (rm := rmX1_takeSign) 2 hts gX1_readFrom_X1_takeSign rfl rfl rfl (by decide +kernel) ⟨Nat.le_of_ble_eq_true rfl, Nat.le_of_ble_eq_true rfl⟩) ⟨PW.blind, va_recv hKa hPc (ci := 1) (q0 := 0) rfl rfl, PW.go hPc hK hDc⟩ rfl rfl hl.1 rfl (lv_room (Nat.le_of_ble_eq_true rfl)) dX1_readFrom_124 ⟨Nat.le_of_ble_eq_true rfl, Nat.le_of_ble_eq_true rfl⟩) (fun r_124 u_124 H locs h_124 hP hD hS => ?_)
            have hP : va_P D vwCl [(a, .inr (1, [.int (nI (sg T n s0)), .int (nI ((sg T n (s0 + 1)) - 48)), .int (nI ((sg T n (s0 + 2)) - 48)), .int x, .int y, .int v, .int (nI ((s0 + 3) + 1))])), (t, .inr (6, [.ref t1, .int (nI n)])), (t1, .inl (cC, 60, .inl (TA T)))] H := hP
            have hD : va_D A [(a, .inr (1, [.int (nI (sg T n s0)), .int (nI ((sg T n (s0 + 1)) - 48)), .int (nI ((sg T n (s0 + 2)) - 48)), .int x, .int y, .int v, .int (nI ((s0 + 3) + 1))])), (t, .inr (6, [.ref t1, .int (nI n)])), (t1, .inl (cC, 60, .inl (TA T)))] := hD
            rcases h_124 with ⟨b_124, rfl⟩ | ⟨b_124, rfl⟩
            · refine gn_if_eq hx hb (by decide) (tgt := 142) dX1_readFrom_127 (by decide) (fun cq => absurd cq (by decide)) (fun cq => ?_)
              refine lv_aload_n hx hb dX1_readFrom_130 rfl (lv_at hl 1 rfl) ?_
              refine lv_aload_n hx hb dX1_readFrom_131 rfl (lv_at hl 2 rfl) ?_
              have hPc := hP.sub (ws' := [(a, .inr (1, [.int (nI (sg T n s0)), .int (nI ((sg T n (s0 + 1)) - 48)), .int (nI ((sg T n (s0 + 2)) - 48)), .int x, .int y, .int v, .int (nI ((s0 + 3) + 1))])), (t, .inr (6, [.ref t1, .int (nI n)])), (t1, .inl (cC, 60, .inl (TA T)))]) [0, 1, 2] rfl
              have hDc := hD.sub (ws' := [(a, .inr (1, [.int (nI (sg T n s0)), .int (nI ((sg T n (s0 + 1)) - 48)), .int (nI ((sg T n (s0 + 2)) - 48)), .int x, .int y, .int v, .int (nI ((s0 + 3) + 1))])), (t, .inr (6, [.ref t1, .int (nI n)])), (t1, .inl (cC, 60, .inl (TA T)))]) [0, 1, 2] (by decide) rfl
              refine clW (wc := [(a, .inr (1, [.int (nI (sg T n s0)), .int (nI ((sg T n (s0 + 1)) - 48)), .int (nI ((sg T n (s0 + 2)) - 48)), .int x, .int y, .int v, .int (nI ((s0 + 3) + 1))])), (t, .inr (6, [.ref t1, .int (nI n)])), (t1, .inl (cC, 60, .inl (TA T)))]) (w1 := fun (u_132 : Int32 × Int32 × Nat) => [(a, .inr (1, [.int (nI (sg T n s0)), .int (nI ((sg T n (s0 + 1)) - 48)), .int (nI ((sg T n (s0 + 2)) - 48)), .int u_132.1, .int u_132.2.1, .int v, .int (nI u_132.2.2)])), (t, .inr (6, [.ref t1, .int (nI n)])), (t1, .inl (cC, 60, .inl (TA T)))]) (wr := []) (wn := fun (u_132 : Int32 × Int32 × Nat) => [(a, .inr (1, [.int (nI (sg T n s0)), .int (nI ((sg T n (s0 + 1)) - 48)), .int (nI ((sg T n (s0 + 2)) - 48)), .int u_132.1, .int u_132.2.1, .int v, .int (nI u_132.2.2)])), (t, .inr (6, [.ref t1, .int (nI n)])), (t1, .inl (cC, 60, .inl (TA T)))]) hP hD hS hA [0, 1, 2] [] [0, 1, 2] rfl rfl rfl rfl (by decide) (fun _ => rfl) (fun _ => rfl) (fun _ => rfl) (va_runV (As := [.ref t]) (rest := []) ⟨hx, hb, hml, hown, hts⟩ (c_X1_takePlace l D cI cC cQ a (nI (sg T n s0)) (nI ((sg T n (s0 + 1)) - 48)) (nI ((sg T n (s0 + 2)) - 48)) x y v ((s0 + 3) + 1) t t1 n T H.size (by first | assumption | omega) (by first | assumption | omega) (by first | assumption | omega)) (cwV (rm := rmX1_takePlace) 1 hts gX1_readFrom_X1_takePlace rfl rfl rfl (by decide +kernel) ⟨Nat.le_of_ble_eq_true rfl, Nat.le_of_ble_eq_true rfl⟩) ⟨PW.blind, va_recv hKa hPc (ci := 1) (q0 := 0) rfl rfl, PW.go hPc hK hDc⟩ rfl rfl hl.1 rfl (lv_room (Nat.le_of_ble_eq_true rfl)) dX1_readFrom_132 ⟨Nat.le_of_ble_eq_true rfl, Nat.le_of_ble_eq_true rfl⟩) (fun r_132 u_132 H locs h_132 hP hD hS => ?_)
              have hP : va_P D vwCl [(a, .inr (1, [.int (nI (sg T n s0)), .int (nI ((sg T n (s0 + 1)) - 48)), .int (nI ((sg T n (s0 + 2)) - 48)), .int u_132.1, .int u_132.2.1, .int v, .int (nI u_132.2.2)])), (t, .inr (6, [.ref t1, .int (nI n)])), (t1, .inl (cC, 60, .inl (TA T)))] H := hP
              have hD : va_D A [(a, .inr (1, [.int (nI (sg T n s0)), .int (nI ((sg T n (s0 + 1)) - 48)), .int (nI ((sg T n (s0 + 2)) - 48)), .int u_132.1, .int u_132.2.1, .int v, .int (nI u_132.2.2)])), (t, .inr (6, [.ref t1, .int (nI n)])), (t1, .inl (cC, 60, .inl (TA T)))] := hD
              rcases h_132.1 with ⟨b_132, rfl⟩ | ⟨b_132, rfl⟩
              · have hue : u_132.2.2 = s0 + 4 + nd T n (s0 + 4) 3 + 1 + nd T n (s0 + 4 + nd T n (s0 + 4) 3 + 1) 3 := by rw [h_132.2 b_132]
                have hn1 := nd_le T n (s0 + 4) 3
                have hn2 := nd_le T n (s0 + 4 + nd T n (s0 + 4) 3 + 1) 3
                refine gn_if_eq hx hb (by decide) (tgt := 142) dX1_readFrom_135 (by decide) (fun cq => absurd cq (by decide)) (fun cq => ?_)
                refine lv_iconst (v := nI 1) hx hb dX1_readFrom_138 (by decide) ?_
                refine lv_goto (tgt := 143) hx hb dX1_readFrom_139 (by decide) ?_
                refine lv_istore_n (lv' := [(3, .int (nI 1)), (0, .ref a), (1, .ref t), (2, .int (nI s0))]) hx hb dX1_readFrom_143 rfl hl (by decide) rfl (fun ls hl => ?_)
                refine lv_iload_n hx hb dX1_readFrom_144 rfl (lv_at hl 0 rfl) ?_
                refine gn_if_eq hx hb (by decide) (tgt := 162) dX1_readFrom_145 (by decide) (fun cq => absurd cq (by decide)) (fun cq => ?_)
                refine lv_aload_n hx hb dX1_readFrom_148 rfl (lv_at hl 1 rfl) ?_
                refine lv_aload_n hx hb dX1_readFrom_149 rfl (lv_at hl 2 rfl) ?_
                refine lv_bipush (v := nI 59) hx hb dX1_readFrom_150 (by decide) ?_
                have hPc := hP.sub (ws' := [(a, .inr (1, [.int (nI (sg T n s0)), .int (nI ((sg T n (s0 + 1)) - 48)), .int (nI ((sg T n (s0 + 2)) - 48)), .int u_132.1, .int u_132.2.1, .int v, .int (nI u_132.2.2)])), (t, .inr (6, [.ref t1, .int (nI n)])), (t1, .inl (cC, 60, .inl (TA T)))]) [0, 1, 2] rfl
                have hDc := hD.sub (ws' := [(a, .inr (1, [.int (nI (sg T n s0)), .int (nI ((sg T n (s0 + 1)) - 48)), .int (nI ((sg T n (s0 + 2)) - 48)), .int u_132.1, .int u_132.2.1, .int v, .int (nI u_132.2.2)])), (t, .inr (6, [.ref t1, .int (nI n)])), (t1, .inl (cC, 60, .inl (TA T)))]) [0, 1, 2] (by decide) rfl
                refine clW (wc := [(a, .inr (1, [.int (nI (sg T n s0)), .int (nI ((sg T n (s0 + 1)) - 48)), .int (nI ((sg T n (s0 + 2)) - 48)), .int u_132.1, .int u_132.2.1, .int v, .int (nI u_132.2.2)])), (t, .inr (6, [.ref t1, .int (nI n)])), (t1, .inl (cC, 60, .inl (TA T)))]) (w1 := fun (u_152 : Unit) => [(a, .inr (1, [.int (nI (sg T n s0)), .int (nI ((sg T n (s0 + 1)) - 48)), .int (nI ((sg T n (s0 + 2)) - 48)), .int u_132.1, .int u_132.2.1, .int v, .int (nI (u_132.2.2 + 1))])), (t, .inr (6, [.ref t1, .int (nI n)])), (t1, .inl (cC, 60, .inl (TA T)))]) (wr := []) (wn := fun (u_152 : Unit) => [(a, .inr (1, [.int (nI (sg T n s0)), .int (nI ((sg T n (s0 + 1)) - 48)), .int (nI ((sg T n (s0 + 2)) - 48)), .int u_132.1, .int u_132.2.1, .int v, .int (nI (u_132.2.2 + 1))])), (t, .inr (6, [.ref t1, .int (nI n)])), (t1, .inl (cC, 60, .inl (TA T)))]) hP hD hS hA [0, 1, 2] [] [0, 1, 2] rfl rfl rfl rfl (by decide) (fun _ => rfl) (fun _ => rfl) (fun _ => rfl) (va_runV (As := [.ref t, .int (nI 59)]) (rest := []) ⟨hx, hb, hml, hown, hts⟩ (c_X1_takeSign l D cI cC cQ a (nI (sg T n s0)) (nI ((sg T n (s0 + 1)) - 48)) (nI ((sg T n (s0 + 2)) - 48)) u_132.1 u_132.2.1 v u_132.2.2 t t1 n T 59 H.size (by first | assumption | omega) (by first | assumption | omega) (by first | assumption | omega) (by first | assumption | omega)) (cwV (rm := rmX1_takeSign) 2 hts gX1_readFrom_X1_takeSign rfl rfl rfl (by decide +kernel) ⟨Nat.le_of_ble_eq_true rfl, Nat.le_of_ble_eq_true rfl⟩) ⟨PW.blind, va_recv hKa hPc (ci := 1) (q0 := 0) rfl rfl, PW.go hPc hK hDc⟩ rfl rfl hl.1 rfl (lv_room (Nat.le_of_ble_eq_true rfl)) dX1_readFrom_152 ⟨Nat.le_of_ble_eq_true rfl, Nat.le_of_ble_eq_true rfl⟩) (fun r_152 u_152 H locs h_152 hP hD hS => ?_)
                have hP : va_P D vwCl [(a, .inr (1, [.int (nI (sg T n s0)), .int (nI ((sg T n (s0 + 1)) - 48)), .int (nI ((sg T n (s0 + 2)) - 48)), .int u_132.1, .int u_132.2.1, .int v, .int (nI (u_132.2.2 + 1))])), (t, .inr (6, [.ref t1, .int (nI n)])), (t1, .inl (cC, 60, .inl (TA T)))] H := hP
                have hD : va_D A [(a, .inr (1, [.int (nI (sg T n s0)), .int (nI ((sg T n (s0 + 1)) - 48)), .int (nI ((sg T n (s0 + 2)) - 48)), .int u_132.1, .int u_132.2.1, .int v, .int (nI (u_132.2.2 + 1))])), (t, .inr (6, [.ref t1, .int (nI n)])), (t1, .inl (cC, 60, .inl (TA T)))] := hD
                rcases h_152 with ⟨b_152, rfl⟩ | ⟨b_152, rfl⟩
                · refine gn_if_eq hx hb (by decide) (tgt := 162) dX1_readFrom_155 (by decide) (fun cq => absurd cq (by decide)) (fun cq => ?_)
                  refine lv_iconst (v := nI 1) hx hb dX1_readFrom_158 (by decide) ?_
                  refine lv_goto (tgt := 163) hx hb dX1_readFrom_159 (by decide) ?_
                  exact rtW_z (nI ((sg T n (s0 + 1)) - 48), nI ((sg T n (s0 + 2)) - 48), u_132.1, u_132.2.1, v, u_132.2.2 + 1) hQ hx hb hr hlk hS hP dX1_readFrom_163 (by decide +kernel) (⟨Or.inl ⟨(fun q => (by rw [((rd_m ⟨d_17, d_31⟩ c_117).trans (if_pos ⟨⟨b_124, b_132⟩, (by rw [← hue]; exact b_152)⟩))] at q; cases q)), rfl⟩, fun q hq => by rw [((rd_m ⟨d_17, d_31⟩ c_117).trans (if_pos ⟨⟨b_124, b_132⟩, (by rw [← hue]; exact b_152)⟩))] at hq; cases hq; exact (by have hu := h_132.2 b_132; exact ⟨rfl, rfl, fun z => absurd (show (109 : Nat) = 99 from z) (by decide), fun _ => ⟨by rw [hu], by rw [hu]⟩, by rw [hu]⟩)⟩)
                · refine gn_if_eq hx hb (by decide) (tgt := 162) dX1_readFrom_155 (by decide) (fun cq => ?_) (fun cq => absurd cq (by decide))
                  refine lv_iconst (v := nI 0) hx hb dX1_readFrom_162 (by decide) ?_
                  exact rtW_z (nI ((sg T n (s0 + 1)) - 48), nI ((sg T n (s0 + 2)) - 48), u_132.1, u_132.2.1, v, u_132.2.2 + 1) hQ hx hb hr hlk hS hP dX1_readFrom_163 (by decide +kernel) (⟨Or.inr ⟨fun q => q ((rd_m ⟨d_17, d_31⟩ c_117).trans (if_neg (fun q => b_152 (by rw [hue]; exact q.2)))), rfl⟩, fun q hq => by rw [((rd_m ⟨d_17, d_31⟩ c_117).trans (if_neg (fun q => b_152 (by rw [hue]; exact q.2))))] at hq; cases hq⟩)
              · refine gn_if_eq hx hb (by decide) (tgt := 142) dX1_readFrom_135 (by decide) (fun cq => ?_) (fun cq => absurd cq (by decide))
                refine lv_iconst (v := nI 0) hx hb dX1_readFrom_142 (by decide) ?_
                refine lv_istore_n (lv' := [(3, .int (nI 0)), (0, .ref a), (1, .ref t), (2, .int (nI s0))]) hx hb dX1_readFrom_143 rfl hl (by decide) rfl (fun ls hl => ?_)
                refine lv_iload_n hx hb dX1_readFrom_144 rfl (lv_at hl 0 rfl) ?_
                refine gn_if_eq hx hb (by decide) (tgt := 162) dX1_readFrom_145 (by decide) (fun cq => ?_) (fun cq => absurd cq (by decide))
                refine lv_iconst (v := nI 0) hx hb dX1_readFrom_162 (by decide) ?_
                exact rtW_z (nI ((sg T n (s0 + 1)) - 48), nI ((sg T n (s0 + 2)) - 48), u_132.1, u_132.2.1, v, u_132.2.2) hQ hx hb hr hlk hS hP dX1_readFrom_163 (by decide +kernel) (⟨Or.inr ⟨fun q => q ((rd_m ⟨d_17, d_31⟩ c_117).trans (if_neg (fun q => b_132 q.1.2))), rfl⟩, fun q hq => by rw [((rd_m ⟨d_17, d_31⟩ c_117).trans (if_neg (fun q => b_132 q.1.2)))] at hq; cases hq⟩)
            · refine gn_if_eq hx hb (by decide) (tgt := 142) dX1_readFrom_127 (by decide) (fun cq => ?_) (fun cq => absurd cq (by decide))
              refine lv_iconst (v := nI 0) hx hb dX1_readFrom_142 (by decide) ?_
              refine lv_istore_n (lv' := [(3, .int (nI 0)), (0, .ref a), (1, .ref t), (2, .int (nI s0))]) hx hb dX1_readFrom_143 rfl hl (by decide) rfl (fun ls hl => ?_)
              refine lv_iload_n hx hb dX1_readFrom_144 rfl (lv_at hl 0 rfl) ?_
              refine gn_if_eq hx hb (by decide) (tgt := 162) dX1_readFrom_145 (by decide) (fun cq => ?_) (fun cq => absurd cq (by decide))
              refine lv_iconst (v := nI 0) hx hb dX1_readFrom_162 (by decide) ?_
              exact rtW_z (nI ((sg T n (s0 + 1)) - 48), nI ((sg T n (s0 + 2)) - 48), x, y, v, (s0 + 3) + 1) hQ hx hb hr hlk hS hP dX1_readFrom_163 (by decide +kernel) (⟨Or.inr ⟨fun q => q ((rd_m ⟨d_17, d_31⟩ c_117).trans (if_neg (fun q => b_124 q.1.1))), rfl⟩, fun q hq => by rw [((rd_m ⟨d_17, d_31⟩ c_117).trans (if_neg (fun q => b_124 q.1.1)))] at hq; cases hq⟩)
        · refine lv_aload_n hx hb dX1_readFrom_84 rfl (lv_at hl 1 rfl) ?_
          refine lv_aload_n hx hb dX1_readFrom_85 rfl (lv_at hl 2 rfl) ?_
          refine lv_bipush (v := nI 58) hx hb dX1_readFrom_86 (by decide) ?_
          have hPc := hP.sub (ws' := [(a, .inr (1, [.int (nI (sg T n s0)), .int (nI ((sg T n (s0 + 1)) - 48)), .int (nI ((sg T n (s0 + 2)) - 48)), .int x, .int y, .int v, .int (nI (s0 + 3))])), (t, .inr (6, [.ref t1, .int (nI n)])), (t1, .inl (cC, 60, .inl (TA T)))]) [0, 1, 2] rfl
          have hDc := hD.sub (ws' := [(a, .inr (1, [.int (nI (sg T n s0)), .int (nI ((sg T n (s0 + 1)) - 48)), .int (nI ((sg T n (s0 + 2)) - 48)), .int x, .int y, .int v, .int (nI (s0 + 3))])), (t, .inr (6, [.ref t1, .int (nI n)])), (t1, .inl (cC, 60, .inl (TA T)))]) [0, 1, 2] (by decide) rfl
          refine clW (wc := [(a, .inr (1, [.int (nI (sg T n s0)), .int (nI ((sg T n (s0 + 1)) - 48)), .int (nI ((sg T n (s0 + 2)) - 48)), .int x, .int y, .int v, .int (nI (s0 + 3))])), (t, .inr (6, [.ref t1, .int (nI n)])), (t1, .inl (cC, 60, .inl (TA T)))]) (w1 := fun (u_88 : Unit) => [(a, .inr (1, [.int (nI (sg T n s0)), .int (nI ((sg T n (s0 + 1)) - 48)), .int (nI ((sg T n (s0 + 2)) - 48)), .int x, .int y, .int v, .int (nI ((s0 + 3) + 1))])), (t, .inr (6, [.ref t1, .int (nI n)])), (t1, .inl (cC, 60, .inl (TA T)))]) (wr := []) (wn := fun (u_88 : Unit) => [(a, .inr (1, [.int (nI (sg T n s0)), .int (nI ((sg T n (s0 + 1)) - 48)), .int (nI ((sg T n (s0 + 2)) - 48)), .int x, .int y, .int v, .int (nI ((s0 + 3) + 1))])), (t, .inr (6, [.ref t1, .int (nI n)])), (t1, .inl (cC, 60, .inl (TA T)))]) hP hD hS hA [0, 1, 2] [] [0, 1, 2] rfl rfl rfl rfl (by decide) (fun _ => rfl) (fun _ => rfl) (fun _ => rfl) (va_runV (As := [.ref t, .int (nI 58)]) (rest := []) ⟨hx, hb, hml, hown, hts⟩ (c_X1_takeSign l D cI cC cQ a (nI (sg T n s0)) (nI ((sg T n (s0 + 1)) - 48)) (nI ((sg T n (s0 + 2)) - 48)) x y v (s0 + 3) t t1 n T 58 H.size (by first | assumption | omega) (by first | assumption | omega) (by first | assumption | omega) (by first | assumption | omega)) (cwV (rm := rmX1_takeSign) 2 hts gX1_readFrom_X1_takeSign rfl rfl rfl (by decide +kernel) ⟨Nat.le_of_ble_eq_true rfl, Nat.le_of_ble_eq_true rfl⟩) ⟨PW.blind, va_recv hKa hPc (ci := 1) (q0 := 0) rfl rfl, PW.go hPc hK hDc⟩ rfl rfl hl.1 rfl (lv_room (Nat.le_of_ble_eq_true rfl)) dX1_readFrom_88 ⟨Nat.le_of_ble_eq_true rfl, Nat.le_of_ble_eq_true rfl⟩) (fun r_88 u_88 H locs h_88 hP hD hS => ?_)
          have hP : va_P D vwCl [(a, .inr (1, [.int (nI (sg T n s0)), .int (nI ((sg T n (s0 + 1)) - 48)), .int (nI ((sg T n (s0 + 2)) - 48)), .int x, .int y, .int v, .int (nI ((s0 + 3) + 1))])), (t, .inr (6, [.ref t1, .int (nI n)])), (t1, .inl (cC, 60, .inl (TA T)))] H := hP
          have hD : va_D A [(a, .inr (1, [.int (nI (sg T n s0)), .int (nI ((sg T n (s0 + 1)) - 48)), .int (nI ((sg T n (s0 + 2)) - 48)), .int x, .int y, .int v, .int (nI ((s0 + 3) + 1))])), (t, .inr (6, [.ref t1, .int (nI n)])), (t1, .inl (cC, 60, .inl (TA T)))] := hD
          rcases h_88 with ⟨b_88, rfl⟩ | ⟨b_88, rfl⟩
          · refine gn_if_eq hx hb (by decide) (tgt := 106) dX1_readFrom_91 (by decide) (fun cq => absurd cq (by decide)) (fun cq => ?_)
            refine lv_aload_n hx hb dX1_readFrom_94 rfl (lv_at hl 1 rfl) ?_
            refine lv_aload_n hx hb dX1_readFrom_95 rfl (lv_at hl 2 rfl) ?_
            have hPc := hP.sub (ws' := [(a, .inr (1, [.int (nI (sg T n s0)), .int (nI ((sg T n (s0 + 1)) - 48)), .int (nI ((sg T n (s0 + 2)) - 48)), .int x, .int y, .int v, .int (nI ((s0 + 3) + 1))])), (t, .inr (6, [.ref t1, .int (nI n)])), (t1, .inl (cC, 60, .inl (TA T)))]) [0, 1, 2] rfl
            have hDc := hD.sub (ws' := [(a, .inr (1, [.int (nI (sg T n s0)), .int (nI ((sg T n (s0 + 1)) - 48)), .int (nI ((sg T n (s0 + 2)) - 48)), .int x, .int y, .int v, .int (nI ((s0 + 3) + 1))])), (t, .inr (6, [.ref t1, .int (nI n)])), (t1, .inl (cC, 60, .inl (TA T)))]) [0, 1, 2] (by decide) rfl
            refine clW (wc := [(a, .inr (1, [.int (nI (sg T n s0)), .int (nI ((sg T n (s0 + 1)) - 48)), .int (nI ((sg T n (s0 + 2)) - 48)), .int x, .int y, .int v, .int (nI ((s0 + 3) + 1))])), (t, .inr (6, [.ref t1, .int (nI n)])), (t1, .inl (cC, 60, .inl (TA T)))]) (w1 := fun (u_96 : Int32 × Int32 × Int32) => [(a, .inr (1, [.int (nI (sg T n s0)), .int (nI ((sg T n (s0 + 1)) - 48)), .int (nI ((sg T n (s0 + 2)) - 48)), .int u_96.1, .int u_96.2.1, .int u_96.2.2, .int (nI (((s0 + 3) + 1) + 6))])), (t, .inr (6, [.ref t1, .int (nI n)])), (t1, .inl (cC, 60, .inl (TA T)))]) (wr := []) (wn := fun (u_96 : Int32 × Int32 × Int32) => [(a, .inr (1, [.int (nI (sg T n s0)), .int (nI ((sg T n (s0 + 1)) - 48)), .int (nI ((sg T n (s0 + 2)) - 48)), .int u_96.1, .int u_96.2.1, .int u_96.2.2, .int (nI (((s0 + 3) + 1) + 6))])), (t, .inr (6, [.ref t1, .int (nI n)])), (t1, .inl (cC, 60, .inl (TA T)))]) hP hD hS hA [0, 1, 2] [] [0, 1, 2] rfl rfl rfl rfl (by decide) (fun _ => rfl) (fun _ => rfl) (fun _ => rfl) (va_runV (As := [.ref t]) (rest := []) ⟨hx, hb, hml, hown, hts⟩ (c_X1_takeColour l D cI cC cQ a (nI (sg T n s0)) (nI ((sg T n (s0 + 1)) - 48)) (nI ((sg T n (s0 + 2)) - 48)) x y v ((s0 + 3) + 1) t t1 n T H.size (by first | assumption | omega) (by first | assumption | omega) (by first | assumption | omega)) (cwV (rm := rmX1_takeColour) 1 hts gX1_readFrom_X1_takeColour rfl rfl rfl (by decide +kernel) ⟨Nat.le_of_ble_eq_true rfl, Nat.le_of_ble_eq_true rfl⟩) ⟨PW.blind, va_recv hKa hPc (ci := 1) (q0 := 0) rfl rfl, PW.go hPc hK hDc⟩ rfl rfl hl.1 rfl (lv_room (Nat.le_of_ble_eq_true rfl)) dX1_readFrom_96 ⟨Nat.le_of_ble_eq_true rfl, Nat.le_of_ble_eq_true rfl⟩) (fun r_96 u_96 H locs h_96 hP hD hS => ?_)
            have hP : va_P D vwCl [(a, .inr (1, [.int (nI (sg T n s0)), .int (nI ((sg T n (s0 + 1)) - 48)), .int (nI ((sg T n (s0 + 2)) - 48)), .int u_96.1, .int u_96.2.1, .int u_96.2.2, .int (nI (((s0 + 3) + 1) + 6))])), (t, .inr (6, [.ref t1, .int (nI n)])), (t1, .inl (cC, 60, .inl (TA T)))] H := hP
            have hD : va_D A [(a, .inr (1, [.int (nI (sg T n s0)), .int (nI ((sg T n (s0 + 1)) - 48)), .int (nI ((sg T n (s0 + 2)) - 48)), .int u_96.1, .int u_96.2.1, .int u_96.2.2, .int (nI (((s0 + 3) + 1) + 6))])), (t, .inr (6, [.ref t1, .int (nI n)])), (t1, .inl (cC, 60, .inl (TA T)))] := hD
            rcases h_96.1 with ⟨b_96, rfl⟩ | ⟨b_96, rfl⟩
            · refine gn_if_eq hx hb (by decide) (tgt := 106) dX1_readFrom_99 (by decide) (fun cq => absurd cq (by decide)) (fun cq => ?_)
              refine lv_iconst (v := nI 1) hx hb dX1_readFrom_102 (by decide) ?_
              refine lv_goto (tgt := 107) hx hb dX1_readFrom_103 (by decide) ?_
              refine lv_istore_n (lv' := [(3, .int (nI 1)), (0, .ref a), (1, .ref t), (2, .int (nI s0))]) hx hb dX1_readFrom_107 rfl hl (by decide) rfl (fun ls hl => ?_)
              refine lv_goto (tgt := 144) hx hb dX1_readFrom_108 (by decide) ?_
              refine lv_iload_n hx hb dX1_readFrom_144 rfl (lv_at hl 0 rfl) ?_
              refine gn_if_eq hx hb (by decide) (tgt := 162) dX1_readFrom_145 (by decide) (fun cq => absurd cq (by decide)) (fun cq => ?_)
              refine lv_aload_n hx hb dX1_readFrom_148 rfl (lv_at hl 1 rfl) ?_
              refine lv_aload_n hx hb dX1_readFrom_149 rfl (lv_at hl 2 rfl) ?_
              refine lv_bipush (v := nI 59) hx hb dX1_readFrom_150 (by decide) ?_
              have hPc := hP.sub (ws' := [(a, .inr (1, [.int (nI (sg T n s0)), .int (nI ((sg T n (s0 + 1)) - 48)), .int (nI ((sg T n (s0 + 2)) - 48)), .int u_96.1, .int u_96.2.1, .int u_96.2.2, .int (nI (((s0 + 3) + 1) + 6))])), (t, .inr (6, [.ref t1, .int (nI n)])), (t1, .inl (cC, 60, .inl (TA T)))]) [0, 1, 2] rfl
              have hDc := hD.sub (ws' := [(a, .inr (1, [.int (nI (sg T n s0)), .int (nI ((sg T n (s0 + 1)) - 48)), .int (nI ((sg T n (s0 + 2)) - 48)), .int u_96.1, .int u_96.2.1, .int u_96.2.2, .int (nI (((s0 + 3) + 1) + 6))])), (t, .inr (6, [.ref t1, .int (nI n)])), (t1, .inl (cC, 60, .inl (TA T)))]) [0, 1, 2] (by decide) rfl
              refine clW (wc := [(a, .inr (1, [.int (nI (sg T n s0)), .int (nI ((sg T n (s0 + 1)) - 48)), .int (nI ((sg T n (s0 + 2)) - 48)), .int u_96.1, .int u_96.2.1, .int u_96.2.2, .int (nI (((s0 + 3) + 1) + 6))])), (t, .inr (6, [.ref t1, .int (nI n)])), (t1, .inl (cC, 60, .inl (TA T)))]) (w1 := fun (u_152 : Unit) => [(a, .inr (1, [.int (nI (sg T n s0)), .int (nI ((sg T n (s0 + 1)) - 48)), .int (nI ((sg T n (s0 + 2)) - 48)), .int u_96.1, .int u_96.2.1, .int u_96.2.2, .int (nI ((((s0 + 3) + 1) + 6) + 1))])), (t, .inr (6, [.ref t1, .int (nI n)])), (t1, .inl (cC, 60, .inl (TA T)))]) (wr := []) (wn := fun (u_152 : Unit) => [(a, .inr (1, [.int (nI (sg T n s0)), .int (nI ((sg T n (s0 + 1)) - 48)), .int (nI ((sg T n (s0 + 2)) - 48)), .int u_96.1, .int u_96.2.1, .int u_96.2.2, .int (nI ((((s0 + 3) + 1) + 6) + 1))])), (t, .inr (6, [.ref t1, .int (nI n)])), (t1, .inl (cC, 60, .inl (TA T)))]) hP hD hS hA [0, 1, 2] [] [0, 1, 2] rfl rfl rfl rfl (by decide) (fun _ => rfl) (fun _ => rfl) (fun _ => rfl) (va_runV (As := [.ref t, .int (nI 59)]) (rest := []) ⟨hx, hb, hml, hown, hts⟩ (c_X1_takeSign l D cI cC cQ a (nI (sg T n s0)) (nI ((sg T n (s0 + 1)) - 48)) (nI ((sg T n (s0 + 2)) - 48)) u_96.1 u_96.2.1 u_96.2.2 (((s0 + 3) + 1) + 6) t t1 n T 59 H.size (by first | assumption | omega) (by first | assumption | omega) (by first | assumption | omega) (by first | assumption | omega)) (cwV (rm := rmX1_takeSign) 2 hts gX1_readFrom_X1_takeSign rfl rfl rfl (by decide +kernel) ⟨Nat.le_of_ble_eq_true rfl, Nat.le_of_ble_eq_true rfl⟩) ⟨PW.blind, va_recv hKa hPc (ci := 1) (q0 := 0) rfl rfl, PW.go hPc hK hDc⟩ rfl rfl hl.1 rfl (lv_room (Nat.le_of_ble_eq_true rfl)) dX1_readFrom_152 ⟨Nat.le_of_ble_eq_true rfl, Nat.le_of_ble_eq_true rfl⟩) (fun r_152 u_152 H locs h_152 hP hD hS => ?_)
              have hP : va_P D vwCl [(a, .inr (1, [.int (nI (sg T n s0)), .int (nI ((sg T n (s0 + 1)) - 48)), .int (nI ((sg T n (s0 + 2)) - 48)), .int u_96.1, .int u_96.2.1, .int u_96.2.2, .int (nI ((((s0 + 3) + 1) + 6) + 1))])), (t, .inr (6, [.ref t1, .int (nI n)])), (t1, .inl (cC, 60, .inl (TA T)))] H := hP
              have hD : va_D A [(a, .inr (1, [.int (nI (sg T n s0)), .int (nI ((sg T n (s0 + 1)) - 48)), .int (nI ((sg T n (s0 + 2)) - 48)), .int u_96.1, .int u_96.2.1, .int u_96.2.2, .int (nI ((((s0 + 3) + 1) + 6) + 1))])), (t, .inr (6, [.ref t1, .int (nI n)])), (t1, .inl (cC, 60, .inl (TA T)))] := hD
              rcases h_152 with ⟨b_152, rfl⟩ | ⟨b_152, rfl⟩
              · refine gn_if_eq hx hb (by decide) (tgt := 162) dX1_readFrom_155 (by decide) (fun cq => absurd cq (by decide)) (fun cq => ?_)
                refine lv_iconst (v := nI 1) hx hb dX1_readFrom_158 (by decide) ?_
                refine lv_goto (tgt := 163) hx hb dX1_readFrom_159 (by decide) ?_
                exact rtW_z (nI ((sg T n (s0 + 1)) - 48), nI ((sg T n (s0 + 2)) - 48), u_96.1, u_96.2.1, u_96.2.2, (((s0 + 3) + 1) + 6) + 1) hQ hx hb hr hlk hS hP dX1_readFrom_163 (by decide +kernel) (⟨Or.inl ⟨(fun q => (by rw [((rd_c ⟨d_17, d_31⟩ c_81).trans (if_pos ⟨⟨b_88, b_96⟩, b_152⟩))] at q; cases q)), rfl⟩, fun q hq => by rw [((rd_c ⟨d_17, d_31⟩ c_81).trans (if_pos ⟨⟨b_88, b_96⟩, b_152⟩))] at hq; cases hq; exact (by have hu := h_96.2 b_96; exact ⟨rfl, rfl, fun _ => ⟨by rw [hu], by rw [hu], by rw [hu]⟩, fun z => absurd (show (99 : Nat) = 109 from z) (by decide), rfl⟩)⟩)
              · refine gn_if_eq hx hb (by decide) (tgt := 162) dX1_readFrom_155 (by decide) (fun cq => ?_) (fun cq => absurd cq (by decide))
                refine lv_iconst (v := nI 0) hx hb dX1_readFrom_162 (by decide) ?_
                exact rtW_z (nI ((sg T n (s0 + 1)) - 48), nI ((sg T n (s0 + 2)) - 48), u_96.1, u_96.2.1, u_96.2.2, (((s0 + 3) + 1) + 6) + 1) hQ hx hb hr hlk hS hP dX1_readFrom_163 (by decide +kernel) (⟨Or.inr ⟨fun q => q ((rd_c ⟨d_17, d_31⟩ c_81).trans (if_neg (fun q => b_152 q.2))), rfl⟩, fun q hq => by rw [((rd_c ⟨d_17, d_31⟩ c_81).trans (if_neg (fun q => b_152 q.2)))] at hq; cases hq⟩)
            · refine gn_if_eq hx hb (by decide) (tgt := 106) dX1_readFrom_99 (by decide) (fun cq => ?_) (fun cq => absurd cq (by decide))
              refine lv_iconst (v := nI 0) hx hb dX1_readFrom_106 (by decide) ?_
              refine lv_istore_n (lv' := [(3, .int (nI 0)), (0, .ref a), (1, .ref t), (2, .int (nI s0))]) hx hb dX1_readFrom_107 rfl hl (by decide) rfl (fun ls hl => ?_)
              refine lv_goto (tgt := 144) hx hb dX1_readFrom_108 (by decide) ?_
              refine lv_iload_n hx hb dX1_readFrom_144 rfl (lv_at hl 0 rfl) ?_
              refine gn_if_eq hx hb (by decide) (tgt := 162) dX1_readFrom_145 (by decide) (fun cq => ?_) (fun cq => absurd cq (by decide))
              refine lv_iconst (v := nI 0) hx hb dX1_readFrom_162 (by decide) ?_
              exact rtW_z (nI ((sg T n (s0 + 1)) - 48), nI ((sg T n (s0 + 2)) - 48), u_96.1, u_96.2.1, u_96.2.2, ((s0 + 3) + 1) + 6) hQ hx hb hr hlk hS hP dX1_readFrom_163 (by decide +kernel) (⟨Or.inr ⟨fun q => q ((rd_c ⟨d_17, d_31⟩ c_81).trans (if_neg (fun q => b_96 q.1.2))), rfl⟩, fun q hq => by rw [((rd_c ⟨d_17, d_31⟩ c_81).trans (if_neg (fun q => b_96 q.1.2)))] at hq; cases hq⟩)
          · refine gn_if_eq hx hb (by decide) (tgt := 106) dX1_readFrom_91 (by decide) (fun cq => ?_) (fun cq => absurd cq (by decide))
            refine lv_iconst (v := nI 0) hx hb dX1_readFrom_106 (by decide) ?_
            refine lv_istore_n (lv' := [(3, .int (nI 0)), (0, .ref a), (1, .ref t), (2, .int (nI s0))]) hx hb dX1_readFrom_107 rfl hl (by decide) rfl (fun ls hl => ?_)
            refine lv_goto (tgt := 144) hx hb dX1_readFrom_108 (by decide) ?_
            refine lv_iload_n hx hb dX1_readFrom_144 rfl (lv_at hl 0 rfl) ?_
            refine gn_if_eq hx hb (by decide) (tgt := 162) dX1_readFrom_145 (by decide) (fun cq => ?_) (fun cq => absurd cq (by decide))
            refine lv_iconst (v := nI 0) hx hb dX1_readFrom_162 (by decide) ?_
            exact rtW_z (nI ((sg T n (s0 + 1)) - 48), nI ((sg T n (s0 + 2)) - 48), x, y, v, (s0 + 3) + 1) hQ hx hb hr hlk hS hP dX1_readFrom_163 (by decide +kernel) (⟨Or.inr ⟨fun q => q ((rd_c ⟨d_17, d_31⟩ c_81).trans (if_neg (fun q => b_88 q.1.1))), rfl⟩, fun q hq => by rw [((rd_c ⟨d_17, d_31⟩ c_81).trans (if_neg (fun q => b_88 q.1.1)))] at hq; cases hq⟩)
      · refine lv_iconst (v := nI 1) hx hb dX1_readFrom_69 (by decide) ?_
        refine lv_goto (tgt := 74) hx hb dX1_readFrom_70 (by decide) ?_
        refine lv_istore_n (lv' := [(3, .int (nI 1)), (0, .ref a), (1, .ref t), (2, .int (nI s0))]) hx hb dX1_readFrom_74 rfl hl (by decide) rfl (fun ls hl => ?_)
        refine lv_aload_n hx hb dX1_readFrom_75 rfl (lv_at hl 1 rfl) ?_
        refine va_get (D := D) (ci := 1) (v := .int (nI (sg T n s0))) (C := RX1) (T := TX1) (N := 7) hx hb hts iw_X1_readFrom_X1 hown hKa hP 0 rfl rfl 0 (by decide) (hts (.fieldLink RX1 15 "ColourPatches$Command" "kind" "C") (by decide +kernel)) (fun _ h9 => h9) rfl dX1_readFrom_76 ?_
        refine lv_bipush (v := nI 99) hx hb dX1_readFrom_79 (by decide) ?_
        refine gn_icmp_ne hx hb (by omega) (by decide) (tgt := 111) dX1_readFrom_81 (by decide) (fun c_81 => ?_) (fun c_81 => ?_)
        · refine lv_aload_n hx hb dX1_readFrom_111 rfl (lv_at hl 1 rfl) ?_
          refine va_get (D := D) (ci := 1) (v := .int (nI (sg T n s0))) (C := RX1) (T := TX1) (N := 7) hx hb hts iw_X1_readFrom_X1 hown hKa hP 0 rfl rfl 0 (by decide) (hts (.fieldLink RX1 15 "ColourPatches$Command" "kind" "C") (by decide +kernel)) (fun _ h9 => h9) rfl dX1_readFrom_112 ?_
          refine lv_bipush (v := nI 109) hx hb dX1_readFrom_115 (by decide) ?_
          refine gn_icmp_ne hx hb (by omega) (by decide) (tgt := 144) dX1_readFrom_117 (by decide) (fun c_117 => ?_) (fun c_117 => ?_)
          · refine lv_iload_n hx hb dX1_readFrom_144 rfl (lv_at hl 0 rfl) ?_
            refine gn_if_eq hx hb (by decide) (tgt := 162) dX1_readFrom_145 (by decide) (fun cq => absurd cq (by decide)) (fun cq => ?_)
            refine lv_aload_n hx hb dX1_readFrom_148 rfl (lv_at hl 1 rfl) ?_
            refine lv_aload_n hx hb dX1_readFrom_149 rfl (lv_at hl 2 rfl) ?_
            refine lv_bipush (v := nI 59) hx hb dX1_readFrom_150 (by decide) ?_
            have hPc := hP.sub (ws' := [(a, .inr (1, [.int (nI (sg T n s0)), .int (nI ((sg T n (s0 + 1)) - 48)), .int (nI ((sg T n (s0 + 2)) - 48)), .int x, .int y, .int v, .int (nI (s0 + 3))])), (t, .inr (6, [.ref t1, .int (nI n)])), (t1, .inl (cC, 60, .inl (TA T)))]) [0, 1, 2] rfl
            have hDc := hD.sub (ws' := [(a, .inr (1, [.int (nI (sg T n s0)), .int (nI ((sg T n (s0 + 1)) - 48)), .int (nI ((sg T n (s0 + 2)) - 48)), .int x, .int y, .int v, .int (nI (s0 + 3))])), (t, .inr (6, [.ref t1, .int (nI n)])), (t1, .inl (cC, 60, .inl (TA T)))]) [0, 1, 2] (by decide) rfl
            refine clW (wc := [(a, .inr (1, [.int (nI (sg T n s0)), .int (nI ((sg T n (s0 + 1)) - 48)), .int (nI ((sg T n (s0 + 2)) - 48)), .int x, .int y, .int v, .int (nI (s0 + 3))])), (t, .inr (6, [.ref t1, .int (nI n)])), (t1, .inl (cC, 60, .inl (TA T)))]) (w1 := fun (u_152 : Unit) => [(a, .inr (1, [.int (nI (sg T n s0)), .int (nI ((sg T n (s0 + 1)) - 48)), .int (nI ((sg T n (s0 + 2)) - 48)), .int x, .int y, .int v, .int (nI ((s0 + 3) + 1))])), (t, .inr (6, [.ref t1, .int (nI n)])), (t1, .inl (cC, 60, .inl (TA T)))]) (wr := []) (wn := fun (u_152 : Unit) => [(a, .inr (1, [.int (nI (sg T n s0)), .int (nI ((sg T n (s0 + 1)) - 48)), .int (nI ((sg T n (s0 + 2)) - 48)), .int x, .int y, .int v, .int (nI ((s0 + 3) + 1))])), (t, .inr (6, [.ref t1, .int (nI n)])), (t1, .inl (cC, 60, .inl (TA T)))]) hP hD hS hA [0, 1, 2] [] [0, 1, 2] rfl rfl rfl rfl (by decide) (fun _ => rfl) (fun _ => rfl) (fun _ => rfl) (va_runV (As := [.ref t, .int (nI 59)]) (rest := []) ⟨hx, hb, hml, hown, hts⟩ (c_X1_takeSign l D cI cC cQ a (nI (sg T n s0)) (nI ((sg T n (s0 + 1)) - 48)) (nI ((sg T n (s0 + 2)) - 48)) x y v (s0 + 3) t t1 n T 59 H.size (by first | assumption | omega) (by first | assumption | omega) (by first | assumption | omega) (by first | assumption | omega)) (cwV (rm := rmX1_takeSign) 2 hts gX1_readFrom_X1_takeSign rfl rfl rfl (by decide +kernel) ⟨Nat.le_of_ble_eq_true rfl, Nat.le_of_ble_eq_true rfl⟩) ⟨PW.blind, va_recv hKa hPc (ci := 1) (q0 := 0) rfl rfl, PW.go hPc hK hDc⟩ rfl rfl hl.1 rfl (lv_room (Nat.le_of_ble_eq_true rfl)) dX1_readFrom_152 ⟨Nat.le_of_ble_eq_true rfl, Nat.le_of_ble_eq_true rfl⟩) (fun r_152 u_152 H locs h_152 hP hD hS => ?_)
            have hP : va_P D vwCl [(a, .inr (1, [.int (nI (sg T n s0)), .int (nI ((sg T n (s0 + 1)) - 48)), .int (nI ((sg T n (s0 + 2)) - 48)), .int x, .int y, .int v, .int (nI ((s0 + 3) + 1))])), (t, .inr (6, [.ref t1, .int (nI n)])), (t1, .inl (cC, 60, .inl (TA T)))] H := hP
            have hD : va_D A [(a, .inr (1, [.int (nI (sg T n s0)), .int (nI ((sg T n (s0 + 1)) - 48)), .int (nI ((sg T n (s0 + 2)) - 48)), .int x, .int y, .int v, .int (nI ((s0 + 3) + 1))])), (t, .inr (6, [.ref t1, .int (nI n)])), (t1, .inl (cC, 60, .inl (TA T)))] := hD
            rcases h_152 with ⟨b_152, rfl⟩ | ⟨b_152, rfl⟩
            · refine gn_if_eq hx hb (by decide) (tgt := 162) dX1_readFrom_155 (by decide) (fun cq => absurd cq (by decide)) (fun cq => ?_)
              refine lv_iconst (v := nI 1) hx hb dX1_readFrom_158 (by decide) ?_
              refine lv_goto (tgt := 163) hx hb dX1_readFrom_159 (by decide) ?_
              exact rtW_z (nI ((sg T n (s0 + 1)) - 48), nI ((sg T n (s0 + 2)) - 48), x, y, v, (s0 + 3) + 1) hQ hx hb hr hlk hS hP dX1_readFrom_163 (by decide +kernel) (⟨Or.inl ⟨(fun q => (by rw [((rd_f ⟨d_17, d_31⟩ c_66).trans (if_pos b_152))] at q; cases q)), rfl⟩, fun q hq => by rw [((rd_f ⟨d_17, d_31⟩ c_66).trans (if_pos b_152))] at hq; cases hq; exact (⟨rfl, rfl, fun z => absurd (show (102 : Nat) = 99 from z) (by decide), fun z => absurd (show (102 : Nat) = 109 from z) (by decide), rfl⟩)⟩)
            · refine gn_if_eq hx hb (by decide) (tgt := 162) dX1_readFrom_155 (by decide) (fun cq => ?_) (fun cq => absurd cq (by decide))
              refine lv_iconst (v := nI 0) hx hb dX1_readFrom_162 (by decide) ?_
              exact rtW_z (nI ((sg T n (s0 + 1)) - 48), nI ((sg T n (s0 + 2)) - 48), x, y, v, (s0 + 3) + 1) hQ hx hb hr hlk hS hP dX1_readFrom_163 (by decide +kernel) (⟨Or.inr ⟨fun q => q ((rd_f ⟨d_17, d_31⟩ c_66).trans (if_neg (b_152))), rfl⟩, fun q hq => by rw [((rd_f ⟨d_17, d_31⟩ c_66).trans (if_neg (b_152)))] at hq; cases hq⟩)
          · exact absurd c_117 (by omega)
        · exact absurd c_81 (by omega)
    · refine va_put (D := D) (ci := 1) (v := .int (-1)) (ty := .int) (C := RX1) (T := TX1) (N := 7) hx hb hts iw_X1_readFrom_X1 tyX1 tyX1_ok nmX1 hown hKa hP hD hS 0 rfl rfl 2 (by decide) (hts (.fieldLink RX1 29 "ColourPatches$Command" "row" "I") (by decide +kernel)) (fun _ h9 => h9) rfl (by decide +kernel) rfl rfl (Nat.le_of_ble_eq_true rfl) dX1_readFrom_34 (fun H locs hP hD hS => ?_)
      have hP : va_P D vwCl [(a, .inr (1, [.int (nI (sg T n s0)), .int (nI ((sg T n (s0 + 1)) - 48)), .int (-1), .int x, .int y, .int v, .int (nI e)])), (t, .inr (6, [.ref t1, .int (nI n)])), (t1, .inl (cC, 60, .inl (TA T)))] H := hP
      have hD : va_D A [(a, .inr (1, [.int (nI (sg T n s0)), .int (nI ((sg T n (s0 + 1)) - 48)), .int (-1), .int x, .int y, .int v, .int (nI e)])), (t, .inr (6, [.ref t1, .int (nI n)])), (t1, .inl (cC, 60, .inl (TA T)))] := hD
      refine lv_aload_n hx hb dX1_readFrom_37 rfl (lv_at hl 0 rfl) ?_
      refine lv_iload_n hx hb dX1_readFrom_38 rfl (lv_at hl 2 rfl) ?_
      refine lv_iconst (v := nI 3) hx hb dX1_readFrom_39 (by decide) ?_
      refine gn_add hx hb dX1_readFrom_40 ?_
      refine va_put (D := D) (ci := 1) (v := .int (nI (s0 + 3))) (ty := .int) (C := RX1) (T := TX1) (N := 7) hx hb hts iw_X1_readFrom_X1 tyX1 tyX1_ok nmX1 hown hKa hP hD hS 0 rfl rfl 6 (by decide) (hts (.fieldLink RX1 32 "ColourPatches$Command" "end" "I") (by decide +kernel)) (fun _ h9 => h9) rfl (by decide +kernel) rfl rfl (Nat.le_of_ble_eq_true rfl) dX1_readFrom_41 (fun H locs hP hD hS => ?_)
      have hP : va_P D vwCl [(a, .inr (1, [.int (nI (sg T n s0)), .int (nI ((sg T n (s0 + 1)) - 48)), .int (-1), .int x, .int y, .int v, .int (nI (s0 + 3))])), (t, .inr (6, [.ref t1, .int (nI n)])), (t1, .inl (cC, 60, .inl (TA T)))] H := hP
      have hD : va_D A [(a, .inr (1, [.int (nI (sg T n s0)), .int (nI ((sg T n (s0 + 1)) - 48)), .int (-1), .int x, .int y, .int v, .int (nI (s0 + 3))])), (t, .inr (6, [.ref t1, .int (nI n)])), (t1, .inl (cC, 60, .inl (TA T)))] := hD
      refine lv_aload_n hx hb dX1_readFrom_44 rfl (lv_at hl 0 rfl) ?_
      refine va_get (D := D) (ci := 1) (v := .int (nI ((sg T n (s0 + 1)) - 48))) (C := RX1) (T := TX1) (N := 7) hx hb hts iw_X1_readFrom_X1 hown hKa hP 0 rfl rfl 1 (by decide) (hts (.fieldLink RX1 25 "ColourPatches$Command" "column" "I") (by decide +kernel)) (fun _ h9 => h9) rfl dX1_readFrom_45 ?_
      refine gn_if_lt hx hb (by omega) (tgt := 58) dX1_readFrom_48 (by decide) ?_
      refine lv_aload_n hx hb dX1_readFrom_51 rfl (lv_at hl 0 rfl) ?_
      refine va_get (D := D) (ci := 1) (v := .int (-1)) (C := RX1) (T := TX1) (N := 7) hx hb hts iw_X1_readFrom_X1 hown hKa hP 0 rfl rfl 2 (by decide) (hts (.fieldLink RX1 29 "ColourPatches$Command" "row" "I") (by decide +kernel)) (fun _ h9 => h9) rfl dX1_readFrom_52 ?_
      refine lv_if_ge hx hb (tgt := 60) dX1_readFrom_55 (by decide) (fun cq => absurd cq (by decide)) (fun cq => ?_)
      refine lv_iconst (v := nI 0) hx hb dX1_readFrom_58 (by decide) ?_
      exact rtW_z (nI ((sg T n (s0 + 1)) - 48), (-1), x, y, v, s0 + 3) hQ hx hb hr hlk hS hP dX1_readFrom_59 (by decide +kernel) (⟨Or.inr ⟨fun q => q (rd_no (fun q => d_31 q.2)), rfl⟩, fun q hq => by rw [rd_no (fun q => d_31 q.2)] at hq; cases hq⟩)
  · refine va_put (D := D) (ci := 1) (v := .int (-1)) (ty := .int) (C := RX1) (T := TX1) (N := 7) hx hb hts iw_X1_readFrom_X1 tyX1 tyX1_ok nmX1 hown hKa hP hD hS 0 rfl rfl 1 (by decide) (hts (.fieldLink RX1 25 "ColourPatches$Command" "column" "I") (by decide +kernel)) (fun _ h9 => h9) rfl (by decide +kernel) rfl rfl (Nat.le_of_ble_eq_true rfl) dX1_readFrom_20 (fun H locs hP hD hS => ?_)
    have hP : va_P D vwCl [(a, .inr (1, [.int (nI (sg T n s0)), .int (-1), .int r1, .int x, .int y, .int v, .int (nI e)])), (t, .inr (6, [.ref t1, .int (nI n)])), (t1, .inl (cC, 60, .inl (TA T)))] H := hP
    have hD : va_D A [(a, .inr (1, [.int (nI (sg T n s0)), .int (-1), .int r1, .int x, .int y, .int v, .int (nI e)])), (t, .inr (6, [.ref t1, .int (nI n)])), (t1, .inl (cC, 60, .inl (TA T)))] := hD
    refine lv_aload_n hx hb dX1_readFrom_23 rfl (lv_at hl 0 rfl) ?_
    refine lv_aload_n hx hb dX1_readFrom_24 rfl (lv_at hl 1 rfl) ?_
    refine lv_iload_n hx hb dX1_readFrom_25 rfl (lv_at hl 2 rfl) ?_
    refine lv_iconst (v := nI 2) hx hb dX1_readFrom_26 (by decide) ?_
    refine gn_add hx hb dX1_readFrom_27 ?_
    have hPc := hP.sub (ws' := [(t, .inr (6, [.ref t1, .int (nI n)])), (t1, .inl (cC, 60, .inl (TA T)))]) [1, 2] rfl
    refine clRe (E := nI (sg T n (s0 + 2))) (va_runV (As := [.int (nI (s0 + 2))]) (rest := [.ref a]) ⟨hx, hb, hml, hown, hts⟩ (c_X6_signAt l D cI cC cQ t t1 n T (s0 + 2) (by first | assumption | omega) (by first | assumption | omega) (by first | assumption | omega)) (cwV (rm := rmX6_signAt) 1 hts gX1_readFrom_X6_signAt rfl rfl rfl (by decide +kernel) ⟨Nat.le_of_ble_eq_true rfl, Nat.le_of_ble_eq_true rfl⟩) ⟨PR.blind, va_recv hKa hPc (ci := 6) (q0 := 0) rfl rfl, PR.go hPc hK⟩ rfl rfl hl.1 rfl (lv_room (Nat.le_of_ble_eq_true rfl)) dX1_readFrom_28 ⟨Nat.le_of_ble_eq_true rfl, Nat.le_of_ble_eq_true rfl⟩) ?_
    have hsg_28 : sg T n (s0 + 2) < 127 := sg_lt (by assumption) n ((s0 + 2))
    have hPc := hP.sub (ws' := []) [] rfl
    refine clR (va_runS (As := [.int (nI (sg T n (s0 + 2)))]) (rest := [.ref a]) ⟨hx, hb, hml, hown, hts⟩ (c_X1_digitOf l D cI cC cQ (sg T n (s0 + 2)) (by first | assumption | omega)) (va_cwS (rm := rmX1_digitOf) 1 hts gX1_readFrom_X1_digitOf rfl rfl rfl (by decide +kernel) ⟨Nat.le_of_ble_eq_true rfl, Nat.le_of_ble_eq_true rfl⟩) ⟨PR.blind, PR.go hPc hK⟩ rfl rfl hl.1 rfl (lv_room (Nat.le_of_ble_eq_true rfl)) dX1_readFrom_31 ⟨Nat.le_of_ble_eq_true rfl, Nat.le_of_ble_eq_true rfl⟩) (fun r_31 h_31 => ?_)
    rcases h_31 with ⟨d_31, rfl⟩ | ⟨d_31, rfl⟩
    · refine va_put (D := D) (ci := 1) (v := .int (nI ((sg T n (s0 + 2)) - 48))) (ty := .int) (C := RX1) (T := TX1) (N := 7) hx hb hts iw_X1_readFrom_X1 tyX1 tyX1_ok nmX1 hown hKa hP hD hS 0 rfl rfl 2 (by decide) (hts (.fieldLink RX1 29 "ColourPatches$Command" "row" "I") (by decide +kernel)) (fun _ h9 => h9) rfl (by decide +kernel) rfl rfl (Nat.le_of_ble_eq_true rfl) dX1_readFrom_34 (fun H locs hP hD hS => ?_)
      have hP : va_P D vwCl [(a, .inr (1, [.int (nI (sg T n s0)), .int (-1), .int (nI ((sg T n (s0 + 2)) - 48)), .int x, .int y, .int v, .int (nI e)])), (t, .inr (6, [.ref t1, .int (nI n)])), (t1, .inl (cC, 60, .inl (TA T)))] H := hP
      have hD : va_D A [(a, .inr (1, [.int (nI (sg T n s0)), .int (-1), .int (nI ((sg T n (s0 + 2)) - 48)), .int x, .int y, .int v, .int (nI e)])), (t, .inr (6, [.ref t1, .int (nI n)])), (t1, .inl (cC, 60, .inl (TA T)))] := hD
      refine lv_aload_n hx hb dX1_readFrom_37 rfl (lv_at hl 0 rfl) ?_
      refine lv_iload_n hx hb dX1_readFrom_38 rfl (lv_at hl 2 rfl) ?_
      refine lv_iconst (v := nI 3) hx hb dX1_readFrom_39 (by decide) ?_
      refine gn_add hx hb dX1_readFrom_40 ?_
      refine va_put (D := D) (ci := 1) (v := .int (nI (s0 + 3))) (ty := .int) (C := RX1) (T := TX1) (N := 7) hx hb hts iw_X1_readFrom_X1 tyX1 tyX1_ok nmX1 hown hKa hP hD hS 0 rfl rfl 6 (by decide) (hts (.fieldLink RX1 32 "ColourPatches$Command" "end" "I") (by decide +kernel)) (fun _ h9 => h9) rfl (by decide +kernel) rfl rfl (Nat.le_of_ble_eq_true rfl) dX1_readFrom_41 (fun H locs hP hD hS => ?_)
      have hP : va_P D vwCl [(a, .inr (1, [.int (nI (sg T n s0)), .int (-1), .int (nI ((sg T n (s0 + 2)) - 48)), .int x, .int y, .int v, .int (nI (s0 + 3))])), (t, .inr (6, [.ref t1, .int (nI n)])), (t1, .inl (cC, 60, .inl (TA T)))] H := hP
      have hD : va_D A [(a, .inr (1, [.int (nI (sg T n s0)), .int (-1), .int (nI ((sg T n (s0 + 2)) - 48)), .int x, .int y, .int v, .int (nI (s0 + 3))])), (t, .inr (6, [.ref t1, .int (nI n)])), (t1, .inl (cC, 60, .inl (TA T)))] := hD
      refine lv_aload_n hx hb dX1_readFrom_44 rfl (lv_at hl 0 rfl) ?_
      refine va_get (D := D) (ci := 1) (v := .int (-1)) (C := RX1) (T := TX1) (N := 7) hx hb hts iw_X1_readFrom_X1 hown hKa hP 0 rfl rfl 1 (by decide) (hts (.fieldLink RX1 25 "ColourPatches$Command" "column" "I") (by decide +kernel)) (fun _ h9 => h9) rfl dX1_readFrom_45 ?_
      refine lv_if_lt hx hb (tgt := 58) dX1_readFrom_48 (by decide) (fun cq => ?_) (fun cq => absurd cq (by decide))
      refine lv_iconst (v := nI 0) hx hb dX1_readFrom_58 (by decide) ?_
      exact rtW_z ((-1), nI ((sg T n (s0 + 2)) - 48), x, y, v, s0 + 3) hQ hx hb hr hlk hS hP dX1_readFrom_59 (by decide +kernel) (⟨Or.inr ⟨fun q => q (rd_no (fun q => d_17 q.1)), rfl⟩, fun q hq => by rw [rd_no (fun q => d_17 q.1)] at hq; cases hq⟩)
    · refine va_put (D := D) (ci := 1) (v := .int (-1)) (ty := .int) (C := RX1) (T := TX1) (N := 7) hx hb hts iw_X1_readFrom_X1 tyX1 tyX1_ok nmX1 hown hKa hP hD hS 0 rfl rfl 2 (by decide) (hts (.fieldLink RX1 29 "ColourPatches$Command" "row" "I") (by decide +kernel)) (fun _ h9 => h9) rfl (by decide +kernel) rfl rfl (Nat.le_of_ble_eq_true rfl) dX1_readFrom_34 (fun H locs hP hD hS => ?_)
      have hP : va_P D vwCl [(a, .inr (1, [.int (nI (sg T n s0)), .int (-1), .int (-1), .int x, .int y, .int v, .int (nI e)])), (t, .inr (6, [.ref t1, .int (nI n)])), (t1, .inl (cC, 60, .inl (TA T)))] H := hP
      have hD : va_D A [(a, .inr (1, [.int (nI (sg T n s0)), .int (-1), .int (-1), .int x, .int y, .int v, .int (nI e)])), (t, .inr (6, [.ref t1, .int (nI n)])), (t1, .inl (cC, 60, .inl (TA T)))] := hD
      refine lv_aload_n hx hb dX1_readFrom_37 rfl (lv_at hl 0 rfl) ?_
      refine lv_iload_n hx hb dX1_readFrom_38 rfl (lv_at hl 2 rfl) ?_
      refine lv_iconst (v := nI 3) hx hb dX1_readFrom_39 (by decide) ?_
      refine gn_add hx hb dX1_readFrom_40 ?_
      refine va_put (D := D) (ci := 1) (v := .int (nI (s0 + 3))) (ty := .int) (C := RX1) (T := TX1) (N := 7) hx hb hts iw_X1_readFrom_X1 tyX1 tyX1_ok nmX1 hown hKa hP hD hS 0 rfl rfl 6 (by decide) (hts (.fieldLink RX1 32 "ColourPatches$Command" "end" "I") (by decide +kernel)) (fun _ h9 => h9) rfl (by decide +kernel) rfl rfl (Nat.le_of_ble_eq_true rfl) dX1_readFrom_41 (fun H locs hP hD hS => ?_)
      have hP : va_P D vwCl [(a, .inr (1, [.int (nI (sg T n s0)), .int (-1), .int (-1), .int x, .int y, .int v, .int (nI (s0 + 3))])), (t, .inr (6, [.ref t1, .int (nI n)])), (t1, .inl (cC, 60, .inl (TA T)))] H := hP
      have hD : va_D A [(a, .inr (1, [.int (nI (sg T n s0)), .int (-1), .int (-1), .int x, .int y, .int v, .int (nI (s0 + 3))])), (t, .inr (6, [.ref t1, .int (nI n)])), (t1, .inl (cC, 60, .inl (TA T)))] := hD
      refine lv_aload_n hx hb dX1_readFrom_44 rfl (lv_at hl 0 rfl) ?_
      refine va_get (D := D) (ci := 1) (v := .int (-1)) (C := RX1) (T := TX1) (N := 7) hx hb hts iw_X1_readFrom_X1 hown hKa hP 0 rfl rfl 1 (by decide) (hts (.fieldLink RX1 25 "ColourPatches$Command" "column" "I") (by decide +kernel)) (fun _ h9 => h9) rfl dX1_readFrom_45 ?_
      refine lv_if_lt hx hb (tgt := 58) dX1_readFrom_48 (by decide) (fun cq => ?_) (fun cq => absurd cq (by decide))
      refine lv_iconst (v := nI 0) hx hb dX1_readFrom_58 (by decide) ?_
      exact rtW_z ((-1), (-1), x, y, v, s0 + 3) hQ hx hb hr hlk hS hP dX1_readFrom_59 (by decide +kernel) (⟨Or.inr ⟨fun q => q (rd_no (fun q => d_17 q.1)), rfl⟩, fun q hq => by rw [rd_no (fun q => d_17 q.1)] at hq; cases hq⟩)
