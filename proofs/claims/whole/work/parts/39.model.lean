abbrev rmX8_isAt : Room := { frames := 1, cells := 0, slots := 0, locals := 22 }
set_option maxRecDepth 20000 in
theorem iw_X8_isAt_X8 : ∀ w ∈ u_ws RX8 TX8 18, w ∈ wsX8_isAt := by decide +kernel
set_option maxHeartbeats 4000000 in
set_option maxRecDepth 100000 in
theorem c_X8_isAt (l : Launch) (D : va_G) (cI cC cQ : ClassId) (a g0 g1 g2 g3 g4 g5 g6 g7 : Nat) (ik rn ps : Int32) (len s0 : Nat) (fr re cau co cm : Int32) (T : Nat → Nat) (lo hi : Nat) (hlen : len ≤ 60) (hT : ∀ k, T k < 127) (hs0 : s0 < 1000) (hlo1 : 1 ≤ lo) (hlo : lo < 127) (hhi : hi < 127) : Met l yX8_isAt wsX8_isAt rmX8_isAt (PR D cI cC cQ [.ref a, .int (nI lo), .int (nI hi)] [(a, .inr (8, [.ref g0, .ref g1, .ref g2, .ref g3, .int ik, .int rn, .int ps, .ref g4, .int (nI len), .ref g5, .ref g6, .int (nI s0), .int fr, .int re, .int cau, .int co, .int cm, .ref g7])), (g4, .inl (cI, 60, .inl (TA T)))]) (vp_Si (fun z => BB (lo ≤ sg T len s0 ∧ sg T len s0 ≤ hi) z)) 0 0 (fun _ => False) := by
  refine metR (cc := cX8_isAt) (maxL := 3) (ret := (some .boolean)) (by decide) rfl (Nat.le_of_ble_eq_true rfl) ?_
  intro pg ev s mi args below meth cd ls Q hQ hx hb hml hr hts hown hlk hK hP hl
  have hKa := hK.1
  have hl : lv_has ls 3 [(0, .ref a), (1, .int (nI lo)), (2, .int (nI hi))] := hl
  refine lv_aload_n hx hb dX8_isAt_0 rfl (lv_at hl 0 rfl) ?_
  refine va_get (D := D) (ci := 8) (v := .int (nI s0)) (C := RX8) (T := TX8) (N := 18) hx hb hts iw_X8_isAt_X8 hown hKa hP 0 rfl rfl 11 (by decide) (hts (.fieldLink RX8 146 "ColourPatchesModel" "spot" "I") (by decide +kernel)) (fun _ h9 => h9) rfl dX8_isAt_1 ?_
  refine lv_aload_n hx hb dX8_isAt_4 rfl (lv_at hl 0 rfl) ?_
  refine va_get (D := D) (ci := 8) (v := .int (nI len)) (C := RX8) (T := TX8) (N := 18) hx hb hts iw_X8_isAt_X8 hown hKa hP 0 rfl rfl 8 (by decide) (hts (.fieldLink RX8 126 "ColourPatchesModel" "typed" "I") (by decide +kernel)) (fun _ h9 => h9) rfl dX8_isAt_5 ?_
  refine gn_icmp_ge hx hb (by omega) (by omega) (tgt := 32) dX8_isAt_8 (by decide) (fun c_8 => ?_) (fun c_8 => ?_)
  · refine lv_iconst (v := nI 0) hx hb dX8_isAt_32 (by decide) ?_
    exact rtR_z hQ hx hb hr hlk dX8_isAt_33 (by decide +kernel) (Or.inr ⟨fun q => by rw [sg_out c_8] at q; omega, rfl⟩)
  · refine lv_aload_n hx hb dX8_isAt_11 rfl (lv_at hl 0 rfl) ?_
    refine va_get (D := D) (ci := 8) (v := .ref g4) (C := RX8) (T := TX8) (N := 18) hx hb hts iw_X8_isAt_X8 hown hKa hP 0 rfl rfl 7 (by decide) (hts (.fieldLink RX8 22 "ColourPatchesModel" "text" "[I") (by decide +kernel)) (fun _ h9 => h9) rfl dX8_isAt_12 ?_
    refine lv_aload_n hx hb dX8_isAt_15 rfl (lv_at hl 0 rfl) ?_
    refine va_get (D := D) (ci := 8) (v := .int (nI s0)) (C := RX8) (T := TX8) (N := 18) hx hb hts iw_X8_isAt_X8 hown hKa hP 0 rfl rfl 11 (by decide) (hts (.fieldLink RX8 146 "ColourPatchesModel" "spot" "I") (by decide +kernel)) (fun _ h9 => h9) rfl dX8_isAt_16 ?_
    refine gn_iald hx hb hKa hP 1 0 rfl rfl (k := s0) (by omega) (by omega) dX8_isAt_19 ?_
    refine W.eq (g2 := F0 mi 20 ls [.int (nI (T s0))]) rfl ?_
    refine lv_iload_n hx hb dX8_isAt_20 rfl (lv_at hl 1 rfl) ?_
    refine lv_iload_n hx hb dX8_isAt_21 rfl (lv_at hl 2 rfl) ?_
    have hPc := hP.sub (ws' := []) [] rfl
    refine clR (va_runS (As := [.int (nI (T s0)), .int (nI lo), .int (nI hi)]) (rest := []) ⟨hx, hb, hml, hown, hts⟩ (c_X8_in l D cI cC cQ (nI (T s0)) (nI lo) (nI hi) ) (va_cwS (rm := rmX8_in) 3 hts gX8_isAt_X8_in rfl rfl rfl (by decide +kernel) ⟨Nat.le_of_ble_eq_true rfl, Nat.le_of_ble_eq_true rfl⟩) ⟨PR.blind, PR.go hPc hK⟩ rfl rfl hl.1 rfl (lv_room (Nat.le_of_ble_eq_true rfl)) dX8_isAt_22 ⟨Nat.le_of_ble_eq_true rfl, Nat.le_of_ble_eq_true rfl⟩) (fun r_22 h_22 => ?_)
    rcases h_22 with ⟨b_22, rfl⟩ | ⟨b_22, rfl⟩
    · refine gn_if_eq hx hb (by decide) (tgt := 32) dX8_isAt_25 (by decide) (fun cq => absurd cq (by decide)) (fun cq => ?_)
      refine lv_iconst (v := nI 1) hx hb dX8_isAt_28 (by decide) ?_
      refine lv_goto (tgt := 33) hx hb dX8_isAt_29 (by decide) ?_
      exact rtR_z hQ hx hb hr hlk dX8_isAt_33 (by decide +kernel) (Or.inl ⟨by rw [sg_in c_8]; exact (at_nat hlo hhi (hT s0)).mp b_22, rfl⟩)
    · refine gn_if_eq hx hb (by decide) (tgt := 32) dX8_isAt_25 (by decide) (fun cq => ?_) (fun cq => absurd cq (by decide))
      refine lv_iconst (v := nI 0) hx hb dX8_isAt_32 (by decide) ?_
      exact rtR_z hQ hx hb hr hlk dX8_isAt_33 (by decide +kernel) (Or.inr ⟨fun q => b_22 ((at_nat hlo hhi (hT s0)).mpr (by rw [sg_in c_8] at q; exact q)), rfl⟩)
abbrev rmX8_sign : Room := { frames := 2, cells := 0, slots := 0, locals := 44 }
set_option maxRecDepth 20000 in
theorem iw_X8_sign_X8 : ∀ w ∈ u_ws RX8 TX8 18, w ∈ wsX8_sign := by decide +kernel
set_option maxHeartbeats 4000000 in
set_option maxRecDepth 100000 in
theorem c_X8_sign (l : Launch) (D : va_G) (cI cC cQ : ClassId) (a g0 g1 g2 g3 g4 g5 g6 g7 : Nat) (ik rn ps : Int32) (len s0 : Nat) (fr re cau co cm : Int32) (T : Nat → Nat) (c : Nat) (sz : Nat) (hlen : len ≤ 60) (hT : ∀ k, T k < 127) (hs0 : s0 < 1000) (hc1 : 1 ≤ c) (hc : c < 127) : Met l yX8_sign wsX8_sign rmX8_sign (PW D cI cC cQ [.ref a, .int (nI c)] [(a, .inr (8, [.ref g0, .ref g1, .ref g2, .ref g3, .int ik, .int rn, .int ps, .ref g4, .int (nI len), .ref g5, .ref g6, .int (nI s0), .int fr, .int re, .int cau, .int co, .int cm, .ref g7])), (g4, .inl (cI, 60, .inl (TA T)))] sz) (va_Qi (fun (z : Int32) (u : Unit) => BB (sg T len s0 = c) z) (fun (u : Unit) t9 => va_P D vwCl [(a, .inr (8, [.ref g0, .ref g1, .ref g2, .ref g3, .int ik, .int rn, .int ps, .ref g4, .int (nI len), .ref g5, .ref g6, .int (nI (sgE T len s0 c)), .int fr, .int re, .int cau, .int co, .int cm, .ref g7])), (g4, .inl (cI, 60, .inl (TA T)))] t9.heap) (va_A [(a, .inr (8, [.ref g0, .ref g1, .ref g2, .ref g3, .int ik, .int rn, .int ps, .ref g4, .int (nI len), .ref g5, .ref g6, .int (nI s0), .int fr, .int re, .int cau, .int co, .int cm, .ref g7])), (g4, .inl (cI, 60, .inl (TA T)))] sz)) 0 0 (va_A [(a, .inr (8, [.ref g0, .ref g1, .ref g2, .ref g3, .int ik, .int rn, .int ps, .ref g4, .int (nI len), .ref g5, .ref g6, .int (nI s0), .int fr, .int re, .int cau, .int co, .int cm, .ref g7])), (g4, .inl (cI, 60, .inl (TA T)))] sz) := by
  refine metW (y := yX8_sign) (ws := wsX8_sign) (rm := rmX8_sign) (D := D) (cI := cI) (cC := cC) (cQ := cQ) (av := [.ref a, .int (nI c)]) (wd := [(a, .inr (8, [.ref g0, .ref g1, .ref g2, .ref g3, .int ik, .int rn, .int ps, .ref g4, .int (nI len), .ref g5, .ref g6, .int (nI s0), .int fr, .int re, .int cau, .int co, .int cm, .ref g7])), (g4, .inl (cI, 60, .inl (TA T)))]) (sz := sz) (Qf := fun A => va_Qi (fun (z : Int32) (u : Unit) => BB (sg T len s0 = c) z) (fun (u : Unit) t9 => va_P D vwCl [(a, .inr (8, [.ref g0, .ref g1, .ref g2, .ref g3, .int ik, .int rn, .int ps, .ref g4, .int (nI len), .ref g5, .ref g6, .int (nI (sgE T len s0 c)), .int fr, .int re, .int cau, .int co, .int cm, .ref g7])), (g4, .inl (cI, 60, .inl (TA T)))] t9.heap) A) (cc := cX8_sign) (maxL := 3) (ret := (some .boolean)) (by decide) rfl (Nat.le_of_ble_eq_true rfl) ?_
  intro pg ev s mi args below meth cd ls A Q hQ hx hb hml hr hts hown hlk hnm hK hP hD hS hA hl
  have hKa := hK.1
  have hl : lv_has ls 3 [(0, .ref a), (1, .int (nI c))] := hl
  refine lv_aload_n hx hb dX8_sign_0 rfl (lv_at hl 0 rfl) ?_
  refine lv_iload_n hx hb dX8_sign_1 rfl (lv_at hl 1 rfl) ?_
  refine lv_iload_n hx hb dX8_sign_2 rfl (lv_at hl 1 rfl) ?_
  have hPc := hP.sub (ws' := [(a, .inr (8, [.ref g0, .ref g1, .ref g2, .ref g3, .int ik, .int rn, .int ps, .ref g4, .int (nI len), .ref g5, .ref g6, .int (nI s0), .int fr, .int re, .int cau, .int co, .int cm, .ref g7])), (g4, .inl (cI, 60, .inl (TA T)))]) [0, 1] rfl
  refine clR (va_runV (As := [.int (nI c), .int (nI c)]) (rest := []) ⟨hx, hb, hml, hown, hts⟩ (c_X8_isAt l D cI cC cQ a g0 g1 g2 g3 g4 g5 g6 g7 ik rn ps len s0 fr re cau co cm T c c (by first | assumption | omega) (by first | assumption | omega) (by first | assumption | omega) (by first | assumption | omega) (by first | assumption | omega) (by first | assumption | omega)) (cwV (rm := rmX8_isAt) 2 hts gX8_sign_X8_isAt rfl rfl rfl (by decide +kernel) ⟨Nat.le_of_ble_eq_true rfl, Nat.le_of_ble_eq_true rfl⟩) ⟨PR.blind, va_recv hKa hPc (ci := 8) (q0 := 0) rfl rfl, PR.go hPc hK⟩ rfl rfl hl.1 rfl (lv_room (Nat.le_of_ble_eq_true rfl)) dX8_sign_3 ⟨Nat.le_of_ble_eq_true rfl, Nat.le_of_ble_eq_true rfl⟩) (fun r_3 h_3 => ?_)
  rcases h_3 with ⟨b_3, rfl⟩ | ⟨b_3, rfl⟩
  · refine lv_istore_n (lv' := [(2, .int (nI 1)), (0, .ref a), (1, .int (nI c))]) hx hb dX8_sign_6 rfl hl (by decide) rfl (fun ls hl => ?_)
    refine lv_aload_n hx hb dX8_sign_7 rfl (lv_at hl 1 rfl) ?_
    refine lv_dup hx hb dX8_sign_8 rfl ?_
    refine va_get (D := D) (ci := 8) (v := .int (nI s0)) (C := RX8) (T := TX8) (N := 18) hx hb hts iw_X8_sign_X8 hown hKa hP 0 rfl rfl 11 (by decide) (hts (.fieldLink RX8 146 "ColourPatchesModel" "spot" "I") (by decide +kernel)) (fun _ h9 => h9) rfl dX8_sign_9 ?_
    refine lv_iload_n hx hb dX8_sign_12 rfl (lv_at hl 0 rfl) ?_
    refine gn_if_eq hx hb (by decide) (tgt := 20) dX8_sign_13 (by decide) (fun cq => absurd cq (by decide)) (fun cq => ?_)
    refine lv_iconst (v := nI 1) hx hb dX8_sign_16 (by decide) ?_
    refine lv_goto (tgt := 21) hx hb dX8_sign_17 (by decide) ?_
    refine gn_add hx hb dX8_sign_21 ?_
    refine va_put (D := D) (ci := 8) (v := .int (nI (s0 + 1))) (ty := .int) (C := RX8) (T := TX8) (N := 18) hx hb hts iw_X8_sign_X8 tyX8 tyX8_ok nmX8 hown hKa hP hD hS 0 rfl rfl 11 (by decide) (hts (.fieldLink RX8 146 "ColourPatchesModel" "spot" "I") (by decide +kernel)) (fun _ h9 => h9) rfl (by decide +kernel) rfl rfl (Nat.le_of_ble_eq_true rfl) dX8_sign_22 (fun H locs hP hD hS => ?_)
    have hP : va_P D vwCl [(a, .inr (8, [.ref g0, .ref g1, .ref g2, .ref g3, .int ik, .int rn, .int ps, .ref g4, .int (nI len), .ref g5, .ref g6, .int (nI (s0 + 1)), .int fr, .int re, .int cau, .int co, .int cm, .ref g7])), (g4, .inl (cI, 60, .inl (TA T)))] H := hP
    have hD : va_D A [(a, .inr (8, [.ref g0, .ref g1, .ref g2, .ref g3, .int ik, .int rn, .int ps, .ref g4, .int (nI len), .ref g5, .ref g6, .int (nI (s0 + 1)), .int fr, .int re, .int cau, .int co, .int cm, .ref g7])), (g4, .inl (cI, 60, .inl (TA T)))] := hD
    refine lv_iload_n hx hb dX8_sign_25 rfl (lv_at hl 0 rfl) ?_
    have hsc : sg T len s0 = c := by omega
    have eE : sgE T len s0 c = s0 + 1 := if_pos hsc
    have hP : va_P D vwCl [(a, .inr (8, [.ref g0, .ref g1, .ref g2, .ref g3, .int ik, .int rn, .int ps, .ref g4, .int (nI len), .ref g5, .ref g6, .int (nI (sgE T len s0 c)), .int fr, .int re, .int cau, .int co, .int cm, .ref g7])), (g4, .inl (cI, 60, .inl (TA T)))] H := by rw [eE]; exact hP
    exact rtW_z () hQ hx hb hr hlk hS hP dX8_sign_26 (by decide +kernel) (Or.inl ⟨hsc, rfl⟩)
  · refine lv_istore_n (lv' := [(2, .int (nI 0)), (0, .ref a), (1, .int (nI c))]) hx hb dX8_sign_6 rfl hl (by decide) rfl (fun ls hl => ?_)
    refine lv_aload_n hx hb dX8_sign_7 rfl (lv_at hl 1 rfl) ?_
    refine lv_dup hx hb dX8_sign_8 rfl ?_
    refine va_get (D := D) (ci := 8) (v := .int (nI s0)) (C := RX8) (T := TX8) (N := 18) hx hb hts iw_X8_sign_X8 hown hKa hP 0 rfl rfl 11 (by decide) (hts (.fieldLink RX8 146 "ColourPatchesModel" "spot" "I") (by decide +kernel)) (fun _ h9 => h9) rfl dX8_sign_9 ?_
    refine lv_iload_n hx hb dX8_sign_12 rfl (lv_at hl 0 rfl) ?_
    refine gn_if_eq hx hb (by decide) (tgt := 20) dX8_sign_13 (by decide) (fun cq => ?_) (fun cq => absurd cq (by decide))
    refine lv_iconst (v := nI 0) hx hb dX8_sign_20 (by decide) ?_
    refine gn_add hx hb dX8_sign_21 ?_
    refine va_put (D := D) (ci := 8) (v := .int (nI (s0 + 0))) (ty := .int) (C := RX8) (T := TX8) (N := 18) hx hb hts iw_X8_sign_X8 tyX8 tyX8_ok nmX8 hown hKa hP hD hS 0 rfl rfl 11 (by decide) (hts (.fieldLink RX8 146 "ColourPatchesModel" "spot" "I") (by decide +kernel)) (fun _ h9 => h9) rfl (by decide +kernel) rfl rfl (Nat.le_of_ble_eq_true rfl) dX8_sign_22 (fun H locs hP hD hS => ?_)
    have hP : va_P D vwCl [(a, .inr (8, [.ref g0, .ref g1, .ref g2, .ref g3, .int ik, .int rn, .int ps, .ref g4, .int (nI len), .ref g5, .ref g6, .int (nI (s0 + 0)), .int fr, .int re, .int cau, .int co, .int cm, .ref g7])), (g4, .inl (cI, 60, .inl (TA T)))] H := hP
    have hD : va_D A [(a, .inr (8, [.ref g0, .ref g1, .ref g2, .ref g3, .int ik, .int rn, .int ps, .ref g4, .int (nI len), .ref g5, .ref g6, .int (nI (s0 + 0)), .int fr, .int re, .int cau, .int co, .int cm, .ref g7])), (g4, .inl (cI, 60, .inl (TA T)))] := hD
    refine lv_iload_n hx hb dX8_sign_25 rfl (lv_at hl 0 rfl) ?_
    have hsc : ¬ sg T len s0 = c := by omega
    have eE : sgE T len s0 c = s0 := if_neg hsc
    have hP : va_P D vwCl [(a, .inr (8, [.ref g0, .ref g1, .ref g2, .ref g3, .int ik, .int rn, .int ps, .ref g4, .int (nI len), .ref g5, .ref g6, .int (nI (sgE T len s0 c)), .int fr, .int re, .int cau, .int co, .int cm, .ref g7])), (g4, .inl (cI, 60, .inl (TA T)))] H := by rw [eE]; exact hP
    exact rtW_z () hQ hx hb hr hlk hS hP dX8_sign_26 (by decide +kernel) (Or.inr ⟨hsc, rfl⟩)
abbrev rmX8_digits : Room := { frames := 2, cells := 0, slots := 0, locals := 44 }
set_option maxRecDepth 20000 in
theorem iw_X8_digits_X8 : ∀ w ∈ u_ws RX8 TX8 18, w ∈ wsX8_digits := by decide +kernel
set_option maxHeartbeats 4000000 in
set_option maxRecDepth 100000 in
theorem c_X8_digits (l : Launch) (D : va_G) (cI cC cQ : ClassId) (a g0 g1 g2 g3 g4 g5 g6 g7 : Nat) (ik rn ps : Int32) (len s0 : Nat) (fr re cau co cm : Int32) (T : Nat → Nat) (N : Nat → Int32) (wh mo : Nat) (sz : Nat) (hlen : len ≤ 60) (hT : ∀ k, T k < 127) (hs0 : s0 < 900) (hwh : wh < 5) (hmo : mo ≤ 3) : Met l yX8_digits wsX8_digits rmX8_digits (PW D cI cC cQ [.ref a, .int (nI wh), .int (nI mo)] [(a, .inr (8, [.ref g0, .ref g1, .ref g2, .ref g3, .int ik, .int rn, .int ps, .ref g4, .int (nI len), .ref g5, .ref g6, .int (nI s0), .int fr, .int re, .int cau, .int co, .int cm, .ref g7])), (g4, .inl (cI, 60, .inl (TA T))), (g7, .inl (cI, 5, .inl N))] sz) (va_Qi (fun (z : Int32) (u : Unit) => BB (0 < nd T len s0 mo) z) (fun (u : Unit) t9 => va_P D vwCl [(a, .inr (8, [.ref g0, .ref g1, .ref g2, .ref g3, .int ik, .int rn, .int ps, .ref g4, .int (nI len), .ref g5, .ref g6, .int (nI (s0 + nd T len s0 mo)), .int fr, .int re, .int cau, .int co, .int cm, .ref g7])), (g4, .inl (cI, 60, .inl (TA T))), (g7, .inl (cI, 5, .inl (upd N wh (nI (va T len s0 (nd T len s0 mo))))))] t9.heap) (va_A [(a, .inr (8, [.ref g0, .ref g1, .ref g2, .ref g3, .int ik, .int rn, .int ps, .ref g4, .int (nI len), .ref g5, .ref g6, .int (nI s0), .int fr, .int re, .int cau, .int co, .int cm, .ref g7])), (g4, .inl (cI, 60, .inl (TA T))), (g7, .inl (cI, 5, .inl N))] sz)) 0 0 (va_A [(a, .inr (8, [.ref g0, .ref g1, .ref g2, .ref g3, .int ik, .int rn, .int ps, .ref g4, .int (nI len), .ref g5, .ref g6, .int (nI s0), .int fr, .int re, .int cau, .int co, .int cm, .ref g7])), (g4, .inl (cI, 60, .inl (TA T))), (g7, .inl (cI, 5, .inl N))] sz) := by
  refine metW (y := yX8_digits) (ws := wsX8_digits) (rm := rmX8_digits) (D := D) (cI := cI) (cC := cC) (cQ := cQ) (av := [.ref a, .int (nI wh), .int (nI mo)]) (wd := [(a, .inr (8, [.ref g0, .ref g1, .ref g2, .ref g3, .int ik, .int rn, .int ps, .ref g4, .int (nI len), .ref g5, .ref g6, .int (nI s0), .int fr, .int re, .int cau, .int co, .int cm, .ref g7])), (g4, .inl (cI, 60, .inl (TA T))), (g7, .inl (cI, 5, .inl N))]) (sz := sz) (Qf := fun A => va_Qi (fun (z : Int32) (u : Unit) => BB (0 < nd T len s0 mo) z) (fun (u : Unit) t9 => va_P D vwCl [(a, .inr (8, [.ref g0, .ref g1, .ref g2, .ref g3, .int ik, .int rn, .int ps, .ref g4, .int (nI len), .ref g5, .ref g6, .int (nI (s0 + nd T len s0 mo)), .int fr, .int re, .int cau, .int co, .int cm, .ref g7])), (g4, .inl (cI, 60, .inl (TA T))), (g7, .inl (cI, 5, .inl (upd N wh (nI (va T len s0 (nd T len s0 mo))))))] t9.heap) A) (cc := cX8_digits) (maxL := 4) (ret := (some .boolean)) (by decide) rfl (Nat.le_of_ble_eq_true rfl) ?_
  intro pg ev s mi args below meth cd ls A Q hQ hx hb hml hr hts hown hlk hnm hK hP hD hS hA hl
  have hKa := hK.1
  have hl : lv_has ls 4 [(0, .ref a), (1, .int (nI wh)), (2, .int (nI mo))] := hl
  refine lv_aload_n hx hb dX8_digits_0 rfl (lv_at hl 0 rfl) ?_
  refine va_get (D := D) (ci := 8) (v := .int (nI s0)) (C := RX8) (T := TX8) (N := 18) hx hb hts iw_X8_digits_X8 hown hKa hP 0 rfl rfl 11 (by decide) (hts (.fieldLink RX8 146 "ColourPatchesModel" "spot" "I") (by decide +kernel)) (fun _ h9 => h9) rfl dX8_digits_1 ?_
  refine lv_istore_n (lv' := [(3, .int (nI s0)), (0, .ref a), (1, .int (nI wh)), (2, .int (nI mo))]) hx hb dX8_digits_4 rfl hl (by decide) rfl (fun ls hl => ?_)
  refine lv_aload_n hx hb dX8_digits_5 rfl (lv_at hl 1 rfl) ?_
  refine va_get (D := D) (ci := 8) (v := .ref g7) (C := RX8) (T := TX8) (N := 18) hx hb hts iw_X8_digits_X8 hown hKa hP 0 rfl rfl 17 (by decide) (hts (.fieldLink RX8 31 "ColourPatchesModel" "numbers" "[I") (by decide +kernel)) (fun _ h9 => h9) rfl dX8_digits_6 ?_
  refine lv_iload_n hx hb dX8_digits_9 rfl (lv_at hl 2 rfl) ?_
  refine lv_iconst (v := nI 0) hx hb dX8_digits_10 (by decide) ?_
  refine gn_iast (ws' := [(a, .inr (8, [.ref g0, .ref g1, .ref g2, .ref g3, .int ik, .int rn, .int ps, .ref g4, .int (nI len), .ref g5, .ref g6, .int (nI s0), .int fr, .int re, .int cau, .int co, .int cm, .ref g7])), (g4, .inl (cI, 60, .inl (TA T))), (g7, .inl (cI, 5, .inl (upd N wh (nI 0))))]) hx hb hKa hP hD hS 2 0 rfl rfl (k := wh) (by omega) (by omega) dX8_digits_11 rfl (fun H locs hP hD hS => ?_)
  have L12 : ∀ (nn : Nat) (j : Nat) (e2 : Nat) (hj : j ≤ mo) (he2 : e2 = s0 + j) (hdg : ∀ i, i < j → dgP (sg T len (s0 + i))) (_ : mo - j < nn) (H : Heap) (locs : List Loc) (hP : va_P D vwCl [(a, .inr (8, [.ref g0, .ref g1, .ref g2, .ref g3, .int ik, .int rn, .int ps, .ref g4, .int (nI len), .ref g5, .ref g6, .int (nI e2), .int fr, .int re, .int cau, .int co, .int cm, .ref g7])), (g4, .inl (cI, 60, .inl (TA T))), (g7, .inl (cI, 5, .inl (upd N wh (nI (va T len s0 j)))))] H) (hD : va_D A [(a, .inr (8, [.ref g0, .ref g1, .ref g2, .ref g3, .int ik, .int rn, .int ps, .ref g4, .int (nI len), .ref g5, .ref g6, .int (nI e2), .int fr, .int re, .int cau, .int co, .int cm, .ref g7])), (g4, .inl (cI, 60, .inl (TA T))), (g7, .inl (cI, 5, .inl (upd N wh (nI (va T len s0 j)))))]) (hS : va_S A s.heap H locs) (ls : Array Slot) (_ : lv_has ls 4 [(3, .int (nI s0)), (0, .ref a), (1, .int (nI wh)), (2, .int (nI mo))]), W pg l ev (headSpec wsX8_digits rmX8_digits).room s mi args below meth cd H locs 0 0 Q (F0 mi 12 ls []) := by
    intro nn
    induction nn with
    | zero =>
      intro j e2 hj he2 hdg hmeas
      exact absurd hmeas (Nat.not_lt_zero _)
    | succ nn ih12 =>
      intro j e2 hj he2 hdg hmeas H locs hP hD hS ls hl
      subst he2
      refine lv_aload_n hx hb dX8_digits_12 rfl (lv_at hl 1 rfl) ?_
      refine lv_bipush (v := nI 48) hx hb dX8_digits_13 (by decide) ?_
      refine lv_bipush (v := nI 57) hx hb dX8_digits_15 (by decide) ?_
      have hPc := hP.sub (ws' := [(a, .inr (8, [.ref g0, .ref g1, .ref g2, .ref g3, .int ik, .int rn, .int ps, .ref g4, .int (nI len), .ref g5, .ref g6, .int (nI (s0 + j)), .int fr, .int re, .int cau, .int co, .int cm, .ref g7])), (g4, .inl (cI, 60, .inl (TA T)))]) [0, 1] rfl
      refine clR (va_runV (As := [.int (nI 48), .int (nI 57)]) (rest := []) ⟨hx, hb, hml, hown, hts⟩ (c_X8_isAt l D cI cC cQ a g0 g1 g2 g3 g4 g5 g6 g7 ik rn ps len (s0 + j) fr re cau co cm T 48 57 (by first | assumption | omega) (by first | assumption | omega) (by first | assumption | omega) (by first | assumption | omega) (by first | assumption | omega) (by first | assumption | omega)) (cwV (rm := rmX8_isAt) 2 hts gX8_digits_X8_isAt rfl rfl rfl (by decide +kernel) ⟨Nat.le_of_ble_eq_true rfl, Nat.le_of_ble_eq_true rfl⟩) ⟨PR.blind, va_recv hKa hPc (ci := 8) (q0 := 0) rfl rfl, PR.go hPc hK⟩ rfl rfl hl.1 rfl (lv_room (Nat.le_of_ble_eq_true rfl)) dX8_digits_17 ⟨Nat.le_of_ble_eq_true rfl, Nat.le_of_ble_eq_true rfl⟩) (fun r_17 h_17 => ?_)
      rcases h_17 with ⟨b_17, rfl⟩ | ⟨b_17, rfl⟩
      · have hsT := sg_T (T := T) (n := len) (t := s0 + j) (by omega)
        refine gn_if_eq hx hb (by decide) (tgt := 74) dX8_digits_20 (by decide) (fun cq => absurd cq (by decide)) (fun cq => ?_)
        refine lv_aload_n hx hb dX8_digits_23 rfl (lv_at hl 1 rfl) ?_
        refine va_get (D := D) (ci := 8) (v := .int (nI (s0 + j))) (C := RX8) (T := TX8) (N := 18) hx hb hts iw_X8_digits_X8 hown hKa hP 0 rfl rfl 11 (by decide) (hts (.fieldLink RX8 146 "ColourPatchesModel" "spot" "I") (by decide +kernel)) (fun _ h9 => h9) rfl dX8_digits_24 ?_
        refine lv_iload_n hx hb dX8_digits_27 rfl (lv_at hl 0 rfl) ?_
        refine gn_sub hx hb (by omega) dX8_digits_28 ?_
        refine lv_iload_n hx hb dX8_digits_29 rfl (lv_at hl 3 rfl) ?_
        refine gn_icmp_ge hx hb (by omega) (by omega) (tgt := 74) dX8_digits_30 (by decide) (fun c_30 => ?_) (fun c_30 => ?_)
        · refine lv_aload_n hx hb dX8_digits_74 rfl (lv_at hl 1 rfl) ?_
          refine va_get (D := D) (ci := 8) (v := .int (nI (s0 + j))) (C := RX8) (T := TX8) (N := 18) hx hb hts iw_X8_digits_X8 hown hKa hP 0 rfl rfl 11 (by decide) (hts (.fieldLink RX8 146 "ColourPatchesModel" "spot" "I") (by decide +kernel)) (fun _ h9 => h9) rfl dX8_digits_75 ?_
          refine lv_iload_n hx hb dX8_digits_78 rfl (lv_at hl 0 rfl) ?_
          refine gn_icmp_le hx hb (by omega) (by omega) (tgt := 86) dX8_digits_79 (by decide) (fun c_79 => ?_) (fun c_79 => ?_)
          · refine lv_iconst (v := nI 0) hx hb dX8_digits_86 (by decide) ?_
            have hnd : nd T len s0 mo = j := by rw [show j = mo by omega]; exact nd_all mo (fun i hi => hdg i (by omega))
            have hP : va_P D vwCl [(a, .inr (8, [.ref g0, .ref g1, .ref g2, .ref g3, .int ik, .int rn, .int ps, .ref g4, .int (nI len), .ref g5, .ref g6, .int (nI (s0 + nd T len s0 mo)), .int fr, .int re, .int cau, .int co, .int cm, .ref g7])), (g4, .inl (cI, 60, .inl (TA T))), (g7, .inl (cI, 5, .inl (upd N wh (nI (va T len s0 (nd T len s0 mo))))))] H := by rw [hnd]; exact hP
            exact rtW_z () hQ hx hb hr hlk hS hP dX8_digits_87 (by decide +kernel) (Or.inr ⟨by omega, rfl⟩)
          · refine lv_iconst (v := nI 1) hx hb dX8_digits_82 (by decide) ?_
            refine lv_goto (tgt := 87) hx hb dX8_digits_83 (by decide) ?_
            have hnd : nd T len s0 mo = j := by rw [show j = mo by omega]; exact nd_all mo (fun i hi => hdg i (by omega))
            have hP : va_P D vwCl [(a, .inr (8, [.ref g0, .ref g1, .ref g2, .ref g3, .int ik, .int rn, .int ps, .ref g4, .int (nI len), .ref g5, .ref g6, .int (nI (s0 + nd T len s0 mo)), .int fr, .int re, .int cau, .int co, .int cm, .ref g7])), (g4, .inl (cI, 60, .inl (TA T))), (g7, .inl (cI, 5, .inl (upd N wh (nI (va T len s0 (nd T len s0 mo))))))] H := by rw [hnd]; exact hP
            exact rtW_z () hQ hx hb hr hlk hS hP dX8_digits_87 (by decide +kernel) (Or.inl ⟨by omega, rfl⟩)
        · refine lv_aload_n hx hb dX8_digits_33 rfl (lv_at hl 1 rfl) ?_
          refine va_get (D := D) (ci := 8) (v := .ref g7) (C := RX8) (T := TX8) (N := 18) hx hb hts iw_X8_digits_X8 hown hKa hP 0 rfl rfl 17 (by decide) (hts (.fieldLink RX8 31 "ColourPatchesModel" "numbers" "[I") (by decide +kernel)) (fun _ h9 => h9) rfl dX8_digits_34 ?_
          refine lv_iload_n hx hb dX8_digits_37 rfl (lv_at hl 2 rfl) ?_
          refine lv_bipush (v := nI 10) hx hb dX8_digits_38 (by decide) ?_
          refine lv_aload_n hx hb dX8_digits_40 rfl (lv_at hl 1 rfl) ?_
          refine va_get (D := D) (ci := 8) (v := .ref g7) (C := RX8) (T := TX8) (N := 18) hx hb hts iw_X8_digits_X8 hown hKa hP 0 rfl rfl 17 (by decide) (hts (.fieldLink RX8 31 "ColourPatchesModel" "numbers" "[I") (by decide +kernel)) (fun _ h9 => h9) rfl dX8_digits_41 ?_
          refine lv_iload_n hx hb dX8_digits_44 rfl (lv_at hl 2 rfl) ?_
          refine gn_iald hx hb hKa hP 2 0 rfl rfl (k := wh) (by omega) (by omega) dX8_digits_45 ?_
          rw [show (upd N wh (nI (va T len s0 j))) wh = nI (va T len s0 j) from pk_us]
          refine gn_mul hx hb dX8_digits_46 ?_
          refine lv_aload_n hx hb dX8_digits_47 rfl (lv_at hl 1 rfl) ?_
          refine va_get (D := D) (ci := 8) (v := .ref g4) (C := RX8) (T := TX8) (N := 18) hx hb hts iw_X8_digits_X8 hown hKa hP 0 rfl rfl 7 (by decide) (hts (.fieldLink RX8 22 "ColourPatchesModel" "text" "[I") (by decide +kernel)) (fun _ h9 => h9) rfl dX8_digits_48 ?_
          refine lv_aload_n hx hb dX8_digits_51 rfl (lv_at hl 1 rfl) ?_
          refine va_get (D := D) (ci := 8) (v := .int (nI (s0 + j))) (C := RX8) (T := TX8) (N := 18) hx hb hts iw_X8_digits_X8 hown hKa hP 0 rfl rfl 11 (by decide) (hts (.fieldLink RX8 146 "ColourPatchesModel" "spot" "I") (by decide +kernel)) (fun _ h9 => h9) rfl dX8_digits_52 ?_
          refine gn_iald hx hb hKa hP 1 0 rfl rfl (k := (s0 + j)) (by omega) (by omega) dX8_digits_55 ?_
          refine W.eq (g2 := F0 mi 56 ls [.int (nI (T (s0 + j))), .int (nI (10 * (va T len s0 j))), .int (nI wh), .ref g7]) rfl ?_
          refine gn_add hx hb dX8_digits_56 ?_
          refine lv_bipush (v := nI 48) hx hb dX8_digits_57 (by decide) ?_
          refine gn_sub hx hb (by omega) dX8_digits_59 ?_
          refine gn_iast (ws' := [(a, .inr (8, [.ref g0, .ref g1, .ref g2, .ref g3, .int ik, .int rn, .int ps, .ref g4, .int (nI len), .ref g5, .ref g6, .int (nI (s0 + j)), .int fr, .int re, .int cau, .int co, .int cm, .ref g7])), (g4, .inl (cI, 60, .inl (TA T))), (g7, .inl (cI, 5, .inl (upd (upd N wh (nI (va T len s0 j))) wh (nI (((10 * (va T len s0 j)) + (T (s0 + j))) - 48)))))]) hx hb hKa hP hD hS 2 0 rfl rfl (k := wh) (by omega) (by omega) dX8_digits_60 rfl (fun H locs hP hD hS => ?_)
          refine lv_aload_n hx hb dX8_digits_61 rfl (lv_at hl 1 rfl) ?_
          refine lv_dup hx hb dX8_digits_62 rfl ?_
          refine va_get (D := D) (ci := 8) (v := .int (nI (s0 + j))) (C := RX8) (T := TX8) (N := 18) hx hb hts iw_X8_digits_X8 hown hKa hP 0 rfl rfl 11 (by decide) (hts (.fieldLink RX8 146 "ColourPatchesModel" "spot" "I") (by decide +kernel)) (fun _ h9 => h9) rfl dX8_digits_63 ?_
          refine lv_iconst (v := nI 1) hx hb dX8_digits_66 (by decide) ?_
          refine gn_add hx hb dX8_digits_67 ?_
          refine va_put (D := D) (ci := 8) (v := .int (nI ((s0 + j) + 1))) (ty := .int) (C := RX8) (T := TX8) (N := 18) hx hb hts iw_X8_digits_X8 tyX8 tyX8_ok nmX8 hown hKa hP hD hS 0 rfl rfl 11 (by decide) (hts (.fieldLink RX8 146 "ColourPatchesModel" "spot" "I") (by decide +kernel)) (fun _ h9 => h9) rfl (by decide +kernel) rfl rfl (Nat.le_of_ble_eq_true rfl) dX8_digits_68 (fun H locs hP hD hS => ?_)
          have hP : va_P D vwCl [(a, .inr (8, [.ref g0, .ref g1, .ref g2, .ref g3, .int ik, .int rn, .int ps, .ref g4, .int (nI len), .ref g5, .ref g6, .int (nI ((s0 + j) + 1)), .int fr, .int re, .int cau, .int co, .int cm, .ref g7])), (g4, .inl (cI, 60, .inl (TA T))), (g7, .inl (cI, 5, .inl (upd (upd N wh (nI (va T len s0 j))) wh (nI (((10 * (va T len s0 j)) + (T (s0 + j))) - 48)))))] H := hP
          have hD : va_D A [(a, .inr (8, [.ref g0, .ref g1, .ref g2, .ref g3, .int ik, .int rn, .int ps, .ref g4, .int (nI len), .ref g5, .ref g6, .int (nI ((s0 + j) + 1)), .int fr, .int re, .int cau, .int co, .int cm, .ref g7])), (g4, .inl (cI, 60, .inl (TA T))), (g7, .inl (cI, 5, .inl (upd (upd N wh (nI (va T len s0 j))) wh (nI (((10 * (va T len s0 j)) + (T (s0 + j))) - 48)))))] := hD
          refine lv_goto (tgt := 12) hx hb dX8_digits_71 (by decide) ?_
          have hP : va_P D vwCl [(a, .inr (8, [.ref g0, .ref g1, .ref g2, .ref g3, .int ik, .int rn, .int ps, .ref g4, .int (nI len), .ref g5, .ref g6, .int (nI ((s0 + j) + 1)), .int fr, .int re, .int cau, .int co, .int cm, .ref g7])), (g4, .inl (cI, 60, .inl (TA T))), (g7, .inl (cI, 5, .inl (upd N wh (nI (va T len s0 (j + 1))))))] H := (hP.fn 2 rfl (g := upd N wh (nI (va T len s0 (j + 1)))) (fun q _ => (upd_upd N wh _ _ q).trans (congrArg (fun z => upd N wh (nI z) q) (by show _ = va T len s0 j * 10 + (sg T len (s0 + j) - 48); rw [hsT.2]; omega))) rfl)
          have hD : va_D A [(a, .inr (8, [.ref g0, .ref g1, .ref g2, .ref g3, .int ik, .int rn, .int ps, .ref g4, .int (nI len), .ref g5, .ref g6, .int (nI ((s0 + j) + 1)), .int fr, .int re, .int cau, .int co, .int cm, .ref g7])), (g4, .inl (cI, 60, .inl (TA T))), (g7, .inl (cI, 5, .inl (upd N wh (nI (va T len s0 (j + 1))))))] := hD.addr rfl
          exact ih12 (j + 1) ((s0 + j) + 1) (show (j + 1) ≤ mo from by first | omega | assumption | rfl) (show ((s0 + j) + 1) = s0 + (j + 1) from by omega) (show ∀ i, i < (j + 1) → dgP (sg T len (s0 + i)) from lt_s hdg b_17) (by first | omega | assumption) H locs hP hD hS _ (lv_sub hl [0, 1, 2, 3] rfl)
      · refine gn_if_eq hx hb (by decide) (tgt := 74) dX8_digits_20 (by decide) (fun cq => ?_) (fun cq => absurd cq (by decide))
        refine lv_aload_n hx hb dX8_digits_74 rfl (lv_at hl 1 rfl) ?_
        refine va_get (D := D) (ci := 8) (v := .int (nI (s0 + j))) (C := RX8) (T := TX8) (N := 18) hx hb hts iw_X8_digits_X8 hown hKa hP 0 rfl rfl 11 (by decide) (hts (.fieldLink RX8 146 "ColourPatchesModel" "spot" "I") (by decide +kernel)) (fun _ h9 => h9) rfl dX8_digits_75 ?_
        refine lv_iload_n hx hb dX8_digits_78 rfl (lv_at hl 0 rfl) ?_
        refine gn_icmp_le hx hb (by omega) (by omega) (tgt := 86) dX8_digits_79 (by decide) (fun c_79 => ?_) (fun c_79 => ?_)
        · refine lv_iconst (v := nI 0) hx hb dX8_digits_86 (by decide) ?_
          have hnd : nd T len s0 mo = j := nd_stop hdg b_17 mo hj
          have hP : va_P D vwCl [(a, .inr (8, [.ref g0, .ref g1, .ref g2, .ref g3, .int ik, .int rn, .int ps, .ref g4, .int (nI len), .ref g5, .ref g6, .int (nI (s0 + nd T len s0 mo)), .int fr, .int re, .int cau, .int co, .int cm, .ref g7])), (g4, .inl (cI, 60, .inl (TA T))), (g7, .inl (cI, 5, .inl (upd N wh (nI (va T len s0 (nd T len s0 mo))))))] H := by rw [hnd]; exact hP
          exact rtW_z () hQ hx hb hr hlk hS hP dX8_digits_87 (by decide +kernel) (Or.inr ⟨by omega, rfl⟩)
        · refine lv_iconst (v := nI 1) hx hb dX8_digits_82 (by decide) ?_
          refine lv_goto (tgt := 87) hx hb dX8_digits_83 (by decide) ?_
          have hnd : nd T len s0 mo = j := nd_stop hdg b_17 mo hj
          have hP : va_P D vwCl [(a, .inr (8, [.ref g0, .ref g1, .ref g2, .ref g3, .int ik, .int rn, .int ps, .ref g4, .int (nI len), .ref g5, .ref g6, .int (nI (s0 + nd T len s0 mo)), .int fr, .int re, .int cau, .int co, .int cm, .ref g7])), (g4, .inl (cI, 60, .inl (TA T))), (g7, .inl (cI, 5, .inl (upd N wh (nI (va T len s0 (nd T len s0 mo))))))] H := by rw [hnd]; exact hP
          exact rtW_z () hQ hx hb hr hlk hS hP dX8_digits_87 (by decide +kernel) (Or.inl ⟨by omega, rfl⟩)
  exact L12 ((mo - 0) + 1) 0 s0 (show 0 ≤ mo from by first | omega | assumption | rfl) (show s0 = s0 + 0 from rfl) (show ∀ i, i < 0 → dgP (sg T len (s0 + i)) from fun i hi => absurd hi (Nat.not_lt_zero i)) (Nat.lt_succ_self _) H locs hP hD hS _ (lv_sub hl [0, 1, 2, 3] rfl)
abbrev rmX8_sixteenth : Room := { frames := 2, cells := 0, slots := 0, locals := 44 }
set_option maxRecDepth 20000 in
theorem iw_X8_sixteenth_X8 : ∀ w ∈ u_ws RX8 TX8 18, w ∈ wsX8_sixteenth := by decide +kernel
set_option maxHeartbeats 4000000 in
set_option maxRecDepth 100000 in
theorem c_X8_sixteenth (l : Launch) (D : va_G) (cI cC cQ : ClassId) (a g0 g1 g2 g3 g4 g5 g6 g7 : Nat) (ik rn ps : Int32) (len s0 : Nat) (fr re cau co cm : Int32) (T : Nat → Nat) (N : Nat → Int32) (wh m2 : Nat) (sz : Nat) (hlen : len ≤ 60) (hT : ∀ k, T k < 127) (hs0 : s0 < 1000) (hwh : wh < 5) : Met l yX8_sixteenth wsX8_sixteenth rmX8_sixteenth (PW D cI cC cQ [.ref a, .int (nI wh)] [(a, .inr (8, [.ref g0, .ref g1, .ref g2, .ref g3, .int ik, .int rn, .int ps, .ref g4, .int (nI len), .ref g5, .ref g6, .int (nI s0), .int fr, .int re, .int cau, .int co, .int cm, .ref g7])), (g4, .inl (cI, 60, .inl (TA T))), (g7, .inl (cI, 5, .inl (upd N wh (nI m2))))] sz) (va_Qi (fun (z : Int32) (u : Unit) => BB (hxP (sg T len s0)) z) (fun (u : Unit) t9 => va_P D vwCl [(a, .inr (8, [.ref g0, .ref g1, .ref g2, .ref g3, .int ik, .int rn, .int ps, .ref g4, .int (nI len), .ref g5, .ref g6, .int (nI (hxE T len s0)), .int fr, .int re, .int cau, .int co, .int cm, .ref g7])), (g4, .inl (cI, 60, .inl (TA T))), (g7, .inl (cI, 5, .inl (upd N wh (nI (hxW T len s0 m2)))))] t9.heap) (va_A [(a, .inr (8, [.ref g0, .ref g1, .ref g2, .ref g3, .int ik, .int rn, .int ps, .ref g4, .int (nI len), .ref g5, .ref g6, .int (nI s0), .int fr, .int re, .int cau, .int co, .int cm, .ref g7])), (g4, .inl (cI, 60, .inl (TA T))), (g7, .inl (cI, 5, .inl (upd N wh (nI m2))))] sz)) 0 0 (va_A [(a, .inr (8, [.ref g0, .ref g1, .ref g2, .ref g3, .int ik, .int rn, .int ps, .ref g4, .int (nI len), .ref g5, .ref g6, .int (nI s0), .int fr, .int re, .int cau, .int co, .int cm, .ref g7])), (g4, .inl (cI, 60, .inl (TA T))), (g7, .inl (cI, 5, .inl (upd N wh (nI m2))))] sz) := by
  refine metW (y := yX8_sixteenth) (ws := wsX8_sixteenth) (rm := rmX8_sixteenth) (D := D) (cI := cI) (cC := cC) (cQ := cQ) (av := [.ref a, .int (nI wh)]) (wd := [(a, .inr (8, [.ref g0, .ref g1, .ref g2, .ref g3, .int ik, .int rn, .int ps, .ref g4, .int (nI len), .ref g5, .ref g6, .int (nI s0), .int fr, .int re, .int cau, .int co, .int cm, .ref g7])), (g4, .inl (cI, 60, .inl (TA T))), (g7, .inl (cI, 5, .inl (upd N wh (nI m2))))]) (sz := sz) (Qf := fun A => va_Qi (fun (z : Int32) (u : Unit) => BB (hxP (sg T len s0)) z) (fun (u : Unit) t9 => va_P D vwCl [(a, .inr (8, [.ref g0, .ref g1, .ref g2, .ref g3, .int ik, .int rn, .int ps, .ref g4, .int (nI len), .ref g5, .ref g6, .int (nI (hxE T len s0)), .int fr, .int re, .int cau, .int co, .int cm, .ref g7])), (g4, .inl (cI, 60, .inl (TA T))), (g7, .inl (cI, 5, .inl (upd N wh (nI (hxW T len s0 m2)))))] t9.heap) A) (cc := cX8_sixteenth) (maxL := 3) (ret := (some .boolean)) (by decide) rfl (Nat.le_of_ble_eq_true rfl) ?_
  intro pg ev s mi args below meth cd ls A Q hQ hx hb hml hr hts hown hlk hnm hK hP hD hS hA hl
  have hKa := hK.1
  have hl : lv_has ls 3 [(0, .ref a), (1, .int (nI wh))] := hl
  refine lv_aload_n hx hb dX8_sixteenth_0 rfl (lv_at hl 0 rfl) ?_
  refine lv_bipush (v := nI 48) hx hb dX8_sixteenth_1 (by decide) ?_
  refine lv_bipush (v := nI 57) hx hb dX8_sixteenth_3 (by decide) ?_
  have hPc := hP.sub (ws' := [(a, .inr (8, [.ref g0, .ref g1, .ref g2, .ref g3, .int ik, .int rn, .int ps, .ref g4, .int (nI len), .ref g5, .ref g6, .int (nI s0), .int fr, .int re, .int cau, .int co, .int cm, .ref g7])), (g4, .inl (cI, 60, .inl (TA T)))]) [0, 1] rfl
  refine clR (va_runV (As := [.int (nI 48), .int (nI 57)]) (rest := []) ⟨hx, hb, hml, hown, hts⟩ (c_X8_isAt l D cI cC cQ a g0 g1 g2 g3 g4 g5 g6 g7 ik rn ps len s0 fr re cau co cm T 48 57 (by first | assumption | omega) (by first | assumption | omega) (by first | assumption | omega) (by first | assumption | omega) (by first | assumption | omega) (by first | assumption | omega)) (cwV (rm := rmX8_isAt) 2 hts gX8_sixteenth_X8_isAt rfl rfl rfl (by decide +kernel) ⟨Nat.le_of_ble_eq_true rfl, Nat.le_of_ble_eq_true rfl⟩) ⟨PR.blind, va_recv hKa hPc (ci := 8) (q0 := 0) rfl rfl, PR.go hPc hK⟩ rfl rfl hl.1 rfl (lv_room (Nat.le_of_ble_eq_true rfl)) dX8_sixteenth_5 ⟨Nat.le_of_ble_eq_true rfl, Nat.le_of_ble_eq_true rfl⟩) (fun r_5 h_5 => ?_)
  rcases h_5 with ⟨b_5, rfl⟩ | ⟨b_5, rfl⟩
  · have hsT := sg_T (T := T) (n := len) (t := s0) (by omega)
    refine lv_istore_n (lv' := [(2, .int (nI 1)), (0, .ref a), (1, .int (nI wh))]) hx hb dX8_sixteenth_8 rfl hl (by decide) rfl (fun ls hl => ?_)
    refine lv_iload_n hx hb dX8_sixteenth_9 rfl (lv_at hl 0 rfl) ?_
    refine gn_if_ne hx hb (by decide) (tgt := 26) dX8_sixteenth_10 (by decide) (fun cq => ?_) (fun cq => absurd cq (by decide))
    refine lv_aload_n hx hb dX8_sixteenth_26 rfl (lv_at hl 1 rfl) ?_
    refine va_get (D := D) (ci := 8) (v := .ref g7) (C := RX8) (T := TX8) (N := 18) hx hb hts iw_X8_sixteenth_X8 hown hKa hP 0 rfl rfl 17 (by decide) (hts (.fieldLink RX8 31 "ColourPatchesModel" "numbers" "[I") (by decide +kernel)) (fun _ h9 => h9) rfl dX8_sixteenth_27 ?_
    refine lv_iload_n hx hb dX8_sixteenth_30 rfl (lv_at hl 2 rfl) ?_
    refine lv_bipush (v := nI 16) hx hb dX8_sixteenth_31 (by decide) ?_
    refine lv_aload_n hx hb dX8_sixteenth_33 rfl (lv_at hl 1 rfl) ?_
    refine va_get (D := D) (ci := 8) (v := .ref g7) (C := RX8) (T := TX8) (N := 18) hx hb hts iw_X8_sixteenth_X8 hown hKa hP 0 rfl rfl 17 (by decide) (hts (.fieldLink RX8 31 "ColourPatchesModel" "numbers" "[I") (by decide +kernel)) (fun _ h9 => h9) rfl dX8_sixteenth_34 ?_
    refine lv_iload_n hx hb dX8_sixteenth_37 rfl (lv_at hl 2 rfl) ?_
    refine gn_iald hx hb hKa hP 2 0 rfl rfl (k := wh) (by omega) (by omega) dX8_sixteenth_38 ?_
    rw [show (upd N wh (nI m2)) wh = nI m2 from pk_us]
    refine gn_mul hx hb dX8_sixteenth_39 ?_
    refine lv_aload_n hx hb dX8_sixteenth_40 rfl (lv_at hl 1 rfl) ?_
    refine va_get (D := D) (ci := 8) (v := .ref g4) (C := RX8) (T := TX8) (N := 18) hx hb hts iw_X8_sixteenth_X8 hown hKa hP 0 rfl rfl 7 (by decide) (hts (.fieldLink RX8 22 "ColourPatchesModel" "text" "[I") (by decide +kernel)) (fun _ h9 => h9) rfl dX8_sixteenth_41 ?_
    refine lv_aload_n hx hb dX8_sixteenth_44 rfl (lv_at hl 1 rfl) ?_
    refine va_get (D := D) (ci := 8) (v := .int (nI s0)) (C := RX8) (T := TX8) (N := 18) hx hb hts iw_X8_sixteenth_X8 hown hKa hP 0 rfl rfl 11 (by decide) (hts (.fieldLink RX8 146 "ColourPatchesModel" "spot" "I") (by decide +kernel)) (fun _ h9 => h9) rfl dX8_sixteenth_45 ?_
    refine gn_iald hx hb hKa hP 1 0 rfl rfl (k := s0) (by omega) (by omega) dX8_sixteenth_48 ?_
    refine W.eq (g2 := F0 mi 49 ls [.int (nI (T s0)), .int (nI (16 * m2)), .int (nI wh), .ref g7]) rfl ?_
    refine gn_add hx hb dX8_sixteenth_49 ?_
    refine lv_iload_n hx hb dX8_sixteenth_50 rfl (lv_at hl 0 rfl) ?_
    refine gn_if_eq hx hb (by decide) (tgt := 59) dX8_sixteenth_51 (by decide) (fun cq => absurd cq (by decide)) (fun cq => ?_)
    refine lv_bipush (v := nI 48) hx hb dX8_sixteenth_54 (by decide) ?_
    refine lv_goto (tgt := 61) hx hb dX8_sixteenth_56 (by decide) ?_
    refine gn_sub hx hb (by omega) dX8_sixteenth_61 ?_
    refine gn_iast (ws' := [(a, .inr (8, [.ref g0, .ref g1, .ref g2, .ref g3, .int ik, .int rn, .int ps, .ref g4, .int (nI len), .ref g5, .ref g6, .int (nI s0), .int fr, .int re, .int cau, .int co, .int cm, .ref g7])), (g4, .inl (cI, 60, .inl (TA T))), (g7, .inl (cI, 5, .inl (upd (upd N wh (nI m2)) wh (nI (((16 * m2) + (T s0)) - 48)))))]) hx hb hKa hP hD hS 2 0 rfl rfl (k := wh) (by omega) (by omega) dX8_sixteenth_62 rfl (fun H locs hP hD hS => ?_)
    refine lv_aload_n hx hb dX8_sixteenth_63 rfl (lv_at hl 1 rfl) ?_
    refine lv_dup hx hb dX8_sixteenth_64 rfl ?_
    refine va_get (D := D) (ci := 8) (v := .int (nI s0)) (C := RX8) (T := TX8) (N := 18) hx hb hts iw_X8_sixteenth_X8 hown hKa hP 0 rfl rfl 11 (by decide) (hts (.fieldLink RX8 146 "ColourPatchesModel" "spot" "I") (by decide +kernel)) (fun _ h9 => h9) rfl dX8_sixteenth_65 ?_
    refine lv_iconst (v := nI 1) hx hb dX8_sixteenth_68 (by decide) ?_
    refine gn_add hx hb dX8_sixteenth_69 ?_
    refine va_put (D := D) (ci := 8) (v := .int (nI (s0 + 1))) (ty := .int) (C := RX8) (T := TX8) (N := 18) hx hb hts iw_X8_sixteenth_X8 tyX8 tyX8_ok nmX8 hown hKa hP hD hS 0 rfl rfl 11 (by decide) (hts (.fieldLink RX8 146 "ColourPatchesModel" "spot" "I") (by decide +kernel)) (fun _ h9 => h9) rfl (by decide +kernel) rfl rfl (Nat.le_of_ble_eq_true rfl) dX8_sixteenth_70 (fun H locs hP hD hS => ?_)
    have hP : va_P D vwCl [(a, .inr (8, [.ref g0, .ref g1, .ref g2, .ref g3, .int ik, .int rn, .int ps, .ref g4, .int (nI len), .ref g5, .ref g6, .int (nI (s0 + 1)), .int fr, .int re, .int cau, .int co, .int cm, .ref g7])), (g4, .inl (cI, 60, .inl (TA T))), (g7, .inl (cI, 5, .inl (upd (upd N wh (nI m2)) wh (nI (((16 * m2) + (T s0)) - 48)))))] H := hP
    have hD : va_D A [(a, .inr (8, [.ref g0, .ref g1, .ref g2, .ref g3, .int ik, .int rn, .int ps, .ref g4, .int (nI len), .ref g5, .ref g6, .int (nI (s0 + 1)), .int fr, .int re, .int cau, .int co, .int cm, .ref g7])), (g4, .inl (cI, 60, .inl (TA T))), (g7, .inl (cI, 5, .inl (upd (upd N wh (nI m2)) wh (nI (((16 * m2) + (T s0)) - 48)))))] := hD
    refine lv_iconst (v := nI 1) hx hb dX8_sixteenth_73 (by decide) ?_
    have hhx : hxP (sg T len s0) := Or.inr b_5
    have eE : hxE T len s0 = s0 + 1 := if_pos hhx
    have eW : hxW T len s0 m2 = m2 * 16 + hxV (sg T len s0) := if_pos hhx
    have eV : hxV (sg T len s0) = T s0 - 48 := by rw [hsT.2]; unfold hxV; rw [if_neg (by omega)]
    have hP : va_P D vwCl [(a, .inr (8, [.ref g0, .ref g1, .ref g2, .ref g3, .int ik, .int rn, .int ps, .ref g4, .int (nI len), .ref g5, .ref g6, .int (nI (s0 + 1)), .int fr, .int re, .int cau, .int co, .int cm, .ref g7])), (g4, .inl (cI, 60, .inl (TA T))), (g7, .inl (cI, 5, .inl (upd N wh (nI (hxW T len s0 m2)))))] H := (hP.fn 2 rfl (g := upd N wh (nI (hxW T len s0 m2))) (fun q _ => (upd_upd N wh _ _ q).trans (congrArg (fun z => upd N wh (nI z) q) (by rw [eW, eV]; omega))) rfl)
    have hD : va_D A [(a, .inr (8, [.ref g0, .ref g1, .ref g2, .ref g3, .int ik, .int rn, .int ps, .ref g4, .int (nI len), .ref g5, .ref g6, .int (nI (s0 + 1)), .int fr, .int re, .int cau, .int co, .int cm, .ref g7])), (g4, .inl (cI, 60, .inl (TA T))), (g7, .inl (cI, 5, .inl (upd N wh (nI (hxW T len s0 m2)))))] := hD.addr rfl
    have hP : va_P D vwCl [(a, .inr (8, [.ref g0, .ref g1, .ref g2, .ref g3, .int ik, .int rn, .int ps, .ref g4, .int (nI len), .ref g5, .ref g6, .int (nI (hxE T len s0)), .int fr, .int re, .int cau, .int co, .int cm, .ref g7])), (g4, .inl (cI, 60, .inl (TA T))), (g7, .inl (cI, 5, .inl (upd N wh (nI (hxW T len s0 m2)))))] H := by rw [eE]; exact hP
    exact rtW_z () hQ hx hb hr hlk hS hP dX8_sixteenth_74 (by decide +kernel) (Or.inl ⟨hhx, rfl⟩)
  · refine lv_istore_n (lv' := [(2, .int (nI 0)), (0, .ref a), (1, .int (nI wh))]) hx hb dX8_sixteenth_8 rfl hl (by decide) rfl (fun ls hl => ?_)
    refine lv_iload_n hx hb dX8_sixteenth_9 rfl (lv_at hl 0 rfl) ?_
    refine gn_if_ne hx hb (by decide) (tgt := 26) dX8_sixteenth_10 (by decide) (fun cq => absurd cq (by decide)) (fun cq => ?_)
    refine lv_aload_n hx hb dX8_sixteenth_13 rfl (lv_at hl 1 rfl) ?_
    refine lv_bipush (v := nI 97) hx hb dX8_sixteenth_14 (by decide) ?_
    refine lv_bipush (v := nI 102) hx hb dX8_sixteenth_16 (by decide) ?_
    have hPc := hP.sub (ws' := [(a, .inr (8, [.ref g0, .ref g1, .ref g2, .ref g3, .int ik, .int rn, .int ps, .ref g4, .int (nI len), .ref g5, .ref g6, .int (nI s0), .int fr, .int re, .int cau, .int co, .int cm, .ref g7])), (g4, .inl (cI, 60, .inl (TA T)))]) [0, 1] rfl
    refine clR (va_runV (As := [.int (nI 97), .int (nI 102)]) (rest := []) ⟨hx, hb, hml, hown, hts⟩ (c_X8_isAt l D cI cC cQ a g0 g1 g2 g3 g4 g5 g6 g7 ik rn ps len s0 fr re cau co cm T 97 102 (by first | assumption | omega) (by first | assumption | omega) (by first | assumption | omega) (by first | assumption | omega) (by first | assumption | omega) (by first | assumption | omega)) (cwV (rm := rmX8_isAt) 2 hts gX8_sixteenth_X8_isAt rfl rfl rfl (by decide +kernel) ⟨Nat.le_of_ble_eq_true rfl, Nat.le_of_ble_eq_true rfl⟩) ⟨PR.blind, va_recv hKa hPc (ci := 8) (q0 := 0) rfl rfl, PR.go hPc hK⟩ rfl rfl hl.1 rfl (lv_room (Nat.le_of_ble_eq_true rfl)) dX8_sixteenth_18 ⟨Nat.le_of_ble_eq_true rfl, Nat.le_of_ble_eq_true rfl⟩) (fun r_18 h_18 => ?_)
    rcases h_18 with ⟨b_18, rfl⟩ | ⟨b_18, rfl⟩
    · have hsT := sg_T (T := T) (n := len) (t := s0) (by omega)
      refine gn_if_ne hx hb (by decide) (tgt := 26) dX8_sixteenth_21 (by decide) (fun cq => ?_) (fun cq => absurd cq (by decide))
      refine lv_aload_n hx hb dX8_sixteenth_26 rfl (lv_at hl 1 rfl) ?_
      refine va_get (D := D) (ci := 8) (v := .ref g7) (C := RX8) (T := TX8) (N := 18) hx hb hts iw_X8_sixteenth_X8 hown hKa hP 0 rfl rfl 17 (by decide) (hts (.fieldLink RX8 31 "ColourPatchesModel" "numbers" "[I") (by decide +kernel)) (fun _ h9 => h9) rfl dX8_sixteenth_27 ?_
      refine lv_iload_n hx hb dX8_sixteenth_30 rfl (lv_at hl 2 rfl) ?_
      refine lv_bipush (v := nI 16) hx hb dX8_sixteenth_31 (by decide) ?_
      refine lv_aload_n hx hb dX8_sixteenth_33 rfl (lv_at hl 1 rfl) ?_
      refine va_get (D := D) (ci := 8) (v := .ref g7) (C := RX8) (T := TX8) (N := 18) hx hb hts iw_X8_sixteenth_X8 hown hKa hP 0 rfl rfl 17 (by decide) (hts (.fieldLink RX8 31 "ColourPatchesModel" "numbers" "[I") (by decide +kernel)) (fun _ h9 => h9) rfl dX8_sixteenth_34 ?_
      refine lv_iload_n hx hb dX8_sixteenth_37 rfl (lv_at hl 2 rfl) ?_
      refine gn_iald hx hb hKa hP 2 0 rfl rfl (k := wh) (by omega) (by omega) dX8_sixteenth_38 ?_
      rw [show (upd N wh (nI m2)) wh = nI m2 from pk_us]
      refine gn_mul hx hb dX8_sixteenth_39 ?_
      refine lv_aload_n hx hb dX8_sixteenth_40 rfl (lv_at hl 1 rfl) ?_
      refine va_get (D := D) (ci := 8) (v := .ref g4) (C := RX8) (T := TX8) (N := 18) hx hb hts iw_X8_sixteenth_X8 hown hKa hP 0 rfl rfl 7 (by decide) (hts (.fieldLink RX8 22 "ColourPatchesModel" "text" "[I") (by decide +kernel)) (fun _ h9 => h9) rfl dX8_sixteenth_41 ?_
      refine lv_aload_n hx hb dX8_sixteenth_44 rfl (lv_at hl 1 rfl) ?_
      refine va_get (D := D) (ci := 8) (v := .int (nI s0)) (C := RX8) (T := TX8) (N := 18) hx hb hts iw_X8_sixteenth_X8 hown hKa hP 0 rfl rfl 11 (by decide) (hts (.fieldLink RX8 146 "ColourPatchesModel" "spot" "I") (by decide +kernel)) (fun _ h9 => h9) rfl dX8_sixteenth_45 ?_
      refine gn_iald hx hb hKa hP 1 0 rfl rfl (k := s0) (by omega) (by omega) dX8_sixteenth_48 ?_
      refine W.eq (g2 := F0 mi 49 ls [.int (nI (T s0)), .int (nI (16 * m2)), .int (nI wh), .ref g7]) rfl ?_
      refine gn_add hx hb dX8_sixteenth_49 ?_
      refine lv_iload_n hx hb dX8_sixteenth_50 rfl (lv_at hl 0 rfl) ?_
      refine gn_if_eq hx hb (by decide) (tgt := 59) dX8_sixteenth_51 (by decide) (fun cq => ?_) (fun cq => absurd cq (by decide))
      refine lv_bipush (v := nI 87) hx hb dX8_sixteenth_59 (by decide) ?_
      refine gn_sub hx hb (by omega) dX8_sixteenth_61 ?_
      refine gn_iast (ws' := [(a, .inr (8, [.ref g0, .ref g1, .ref g2, .ref g3, .int ik, .int rn, .int ps, .ref g4, .int (nI len), .ref g5, .ref g6, .int (nI s0), .int fr, .int re, .int cau, .int co, .int cm, .ref g7])), (g4, .inl (cI, 60, .inl (TA T))), (g7, .inl (cI, 5, .inl (upd (upd N wh (nI m2)) wh (nI (((16 * m2) + (T s0)) - 87)))))]) hx hb hKa hP hD hS 2 0 rfl rfl (k := wh) (by omega) (by omega) dX8_sixteenth_62 rfl (fun H locs hP hD hS => ?_)
      refine lv_aload_n hx hb dX8_sixteenth_63 rfl (lv_at hl 1 rfl) ?_
      refine lv_dup hx hb dX8_sixteenth_64 rfl ?_
      refine va_get (D := D) (ci := 8) (v := .int (nI s0)) (C := RX8) (T := TX8) (N := 18) hx hb hts iw_X8_sixteenth_X8 hown hKa hP 0 rfl rfl 11 (by decide) (hts (.fieldLink RX8 146 "ColourPatchesModel" "spot" "I") (by decide +kernel)) (fun _ h9 => h9) rfl dX8_sixteenth_65 ?_
      refine lv_iconst (v := nI 1) hx hb dX8_sixteenth_68 (by decide) ?_
      refine gn_add hx hb dX8_sixteenth_69 ?_
      refine va_put (D := D) (ci := 8) (v := .int (nI (s0 + 1))) (ty := .int) (C := RX8) (T := TX8) (N := 18) hx hb hts iw_X8_sixteenth_X8 tyX8 tyX8_ok nmX8 hown hKa hP hD hS 0 rfl rfl 11 (by decide) (hts (.fieldLink RX8 146 "ColourPatchesModel" "spot" "I") (by decide +kernel)) (fun _ h9 => h9) rfl (by decide +kernel) rfl rfl (Nat.le_of_ble_eq_true rfl) dX8_sixteenth_70 (fun H locs hP hD hS => ?_)
      have hP : va_P D vwCl [(a, .inr (8, [.ref g0, .ref g1, .ref g2, .ref g3, .int ik, .int rn, .int ps, .ref g4, .int (nI len), .ref g5, .ref g6, .int (nI (s0 + 1)), .int fr, .int re, .int cau, .int co, .int cm, .ref g7])), (g4, .inl (cI, 60, .inl (TA T))), (g7, .inl (cI, 5, .inl (upd (upd N wh (nI m2)) wh (nI (((16 * m2) + (T s0)) - 87)))))] H := hP
      have hD : va_D A [(a, .inr (8, [.ref g0, .ref g1, .ref g2, .ref g3, .int ik, .int rn, .int ps, .ref g4, .int (nI len), .ref g5, .ref g6, .int (nI (s0 + 1)), .int fr, .int re, .int cau, .int co, .int cm, .ref g7])), (g4, .inl (cI, 60, .inl (TA T))), (g7, .inl (cI, 5, .inl (upd (upd N wh (nI m2)) wh (nI (((16 * m2) + (T s0)) - 87)))))] := hD
      refine lv_iconst (v := nI 1) hx hb dX8_sixteenth_73 (by decide) ?_
      have hhx : hxP (sg T len s0) := Or.inl b_18
      have eE : hxE T len s0 = s0 + 1 := if_pos hhx
      have eW : hxW T len s0 m2 = m2 * 16 + hxV (sg T len s0) := if_pos hhx
      have eV : hxV (sg T len s0) = T s0 - 87 := by rw [hsT.2]; unfold hxV; rw [if_pos (by omega)]
      have hP : va_P D vwCl [(a, .inr (8, [.ref g0, .ref g1, .ref g2, .ref g3, .int ik, .int rn, .int ps, .ref g4, .int (nI len), .ref g5, .ref g6, .int (nI (s0 + 1)), .int fr, .int re, .int cau, .int co, .int cm, .ref g7])), (g4, .inl (cI, 60, .inl (TA T))), (g7, .inl (cI, 5, .inl (upd N wh (nI (hxW T len s0 m2)))))] H := (hP.fn 2 rfl (g := upd N wh (nI (hxW T len s0 m2))) (fun q _ => (upd_upd N wh _ _ q).trans (congrArg (fun z => upd N wh (nI z) q) (by rw [eW, eV]; omega))) rfl)
      have hD : va_D A [(a, .inr (8, [.ref g0, .ref g1, .ref g2, .ref g3, .int ik, .int rn, .int ps, .ref g4, .int (nI len), .ref g5, .ref g6, .int (nI (s0 + 1)), .int fr, .int re, .int cau, .int co, .int cm, .ref g7])), (g4, .inl (cI, 60, .inl (TA T))), (g7, .inl (cI, 5, .inl (upd N wh (nI (hxW T len s0 m2)))))] := hD.addr rfl
      have hP : va_P D vwCl [(a, .inr (8, [.ref g0, .ref g1, .ref g2, .ref g3, .int ik, .int rn, .int ps, .ref g4, .int (nI len), .ref g5, .ref g6, .int (nI (hxE T len s0)), .int fr, .int re, .int cau, .int co, .int cm, .ref g7])), (g4, .inl (cI, 60, .inl (TA T))), (g7, .inl (cI, 5, .inl (upd N wh (nI (hxW T len s0 m2)))))] H := by rw [eE]; exact hP
      exact rtW_z () hQ hx hb hr hlk hS hP dX8_sixteenth_74 (by decide +kernel) (Or.inl ⟨hhx, rfl⟩)
    · refine gn_if_ne hx hb (by decide) (tgt := 26) dX8_sixteenth_21 (by decide) (fun cq => absurd cq (by decide)) (fun cq => ?_)
      refine lv_iconst (v := nI 0) hx hb dX8_sixteenth_24 (by decide) ?_
      have hhx : ¬ hxP (sg T len s0) := fun q => q.elim b_18 b_5
      have eE : hxE T len s0 = s0 := if_neg hhx
      have eW : hxW T len s0 m2 = m2 := if_neg hhx
      have hP : va_P D vwCl [(a, .inr (8, [.ref g0, .ref g1, .ref g2, .ref g3, .int ik, .int rn, .int ps, .ref g4, .int (nI len), .ref g5, .ref g6, .int (nI (hxE T len s0)), .int fr, .int re, .int cau, .int co, .int cm, .ref g7])), (g4, .inl (cI, 60, .inl (TA T))), (g7, .inl (cI, 5, .inl (upd N wh (nI (hxW T len s0 m2)))))] s.heap := by rw [eE, eW]; exact hP
      exact rtW_z () hQ hx hb hr hlk hS hP dX8_sixteenth_25 (by decide +kernel) (Or.inr ⟨hhx, rfl⟩)
