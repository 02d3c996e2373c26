set_option maxHeartbeats 4000000 in
set_option maxRecDepth 100000 in
theorem m_X8_readAll_2 (l : Launch) (D : va_G) (cI cJ cB cP cM cZ : ClassId) (h0 : Nat) (h_step : Nat) (h_sign : Nat) (h_value : Nat) (p0 : Nat) (h_p0_bytes : Nat) (h_p0_wordNames : Nat) (p1 : Nat) (h_p1_manName : Nat) (Fh : Nat → Value) (x_steps : Int32) (x_ones : Int32) (f_step : Nat → Int32) (f_sign : Nat → Int32) (f_value : Nat → Int32) (F_p0_ : Nat → Value) (x_p0_length : Int32) (x_p0_kind : Int32) (x_p0_place : Int32) (x_p0_value : Int32) (x_p0_name : Int64) (x_p0_number : Int32) (x_p0_faultKind : Int32) (x_p0_faultPlace : Int32) (x_p0_at : Int32) (x_p0_mostBytes : Int32) (f_p0_bytes : Nat → Int32) (f_p0_wordNames : Nat → Int64) (F_p1_ : Nat → Value) (x_p1_men : Int32) (f_p1_manName : Nat → Int64) (sz : Nat) (e_step : Fh 0 = .ref h_step) (e_sign : Fh 1 = .ref h_sign) (e_value : Fh 2 = .ref h_value) (e_steps : Fh 3 = .int x_steps) (i_x_steps : IR 0 40 x_steps) (e_ones : Fh 4 = .int x_ones) (e_p0_bytes : F_p0_ 0 = .ref h_p0_bytes) (e_p0_length : F_p0_ 1 = .int x_p0_length) (i_x_p0_length : IR 0 940 x_p0_length) (e_p0_kind : F_p0_ 2 = .int x_p0_kind) (e_p0_place : F_p0_ 3 = .int x_p0_place) (e_p0_value : F_p0_ 4 = .int x_p0_value) (e_p0_name : F_p0_ 5 = .long x_p0_name) (e_p0_number : F_p0_ 6 = .int x_p0_number) (e_p0_faultKind : F_p0_ 7 = .int x_p0_faultKind) (e_p0_faultPlace : F_p0_ 8 = .int x_p0_faultPlace) (e_p0_wordNames : F_p0_ 9 = .ref h_p0_wordNames) (e_p0_at : F_p0_ 10 = .int x_p0_at) (i_x_p0_at : IR 0 940 x_p0_at) (e_p0_mostBytes : F_p0_ 11 = .int x_p0_mostBytes) (s_p0_bytes_0 : SG 0 939 (-128) 127 f_p0_bytes) (s_p0_wordNames_KN : KWN f_p0_wordNames) (e_p1_manName : F_p1_ 2 = .ref h_p1_manName) (e_p1_men : F_p1_ 13 = .int x_p1_men) (i_x_p1_men : IR 0 12 x_p1_men) : CI l yX8_readAll cX8_readAll 5 (some .boolean) { frames := 23, cells := 0, slots := 0, locals := 557 } (GG D cI cJ cB cP cM cZ) D [(h0, .inr (8, vL 5 Fh)), (h_step, .inl (cI, 40, .inl f_step)), (h_sign, .inl (cI, 40, .inl f_sign)), (h_value, .inl (cI, 40, .inl f_value)), (p0, .inr (6, vL 12 F_p0_)), (h_p0_bytes, .inl (cB, 940, .inl f_p0_bytes)), (h_p0_wordNames, .inl (cJ, 23, .inr (.inl f_p0_wordNames))), (p1, .inr (1, vL 18 F_p1_)), (h_p1_manName, .inl (cJ, 12, .inr (.inl f_p1_manName)))] sz [.ref h0, .ref p0, .ref p1, .int 2] (fun (r : Int32) (u : va_W) => ∃ (Gh : Nat → Value) (y_steps : Int32) (y_ones : Int32) (G_p0_ : Nat → Value) (y_p0_kind : Int32) (y_p0_place : Int32) (y_p0_value : Int32) (y_p0_name : Int64) (y_p0_number : Int32) (y_p0_faultKind : Int32) (y_p0_faultPlace : Int32) (y_p0_at : Int32) (g_step : Nat → Int32) (g_sign : Nat → Int32) (g_value : Nat → Int32), SAME [3, 4] Fh Gh ∧ Gh 3 = .int y_steps ∧ IR 0 40 y_steps ∧ Gh 4 = .int y_ones ∧ SAME [2, 3, 4, 5, 6, 7, 8, 10] F_p0_ G_p0_ ∧ G_p0_ 2 = .int y_p0_kind ∧ G_p0_ 3 = .int y_p0_place ∧ G_p0_ 4 = .int y_p0_value ∧ G_p0_ 5 = .long y_p0_name ∧ G_p0_ 6 = .int y_p0_number ∧ G_p0_ 7 = .int y_p0_faultKind ∧ G_p0_ 8 = .int y_p0_faultPlace ∧ G_p0_ 10 = .int y_p0_at ∧ IR 0 940 y_p0_at ∧ IR 0 1 r ∧ u = [(h0, .inr (8, vL 5 Gh)), (h_step, .inl (cI, 40, .inl g_step)), (h_sign, .inl (cI, 40, .inl g_sign)), (h_value, .inl (cI, 40, .inl g_value)), (p0, .inr (6, vL 12 G_p0_)), (h_p0_bytes, .inl (cB, 940, .inl f_p0_bytes)), (h_p0_wordNames, .inl (cJ, 23, .inr (.inl f_p0_wordNames))), (p1, .inr (1, vL 18 F_p1_)), (h_p1_manName, .inl (cJ, 12, .inr (.inl f_p1_manName)))]) := by
  refine CI_mk (by decide) (Nat.le_of_ble_eq_true rfl) ?_
  intro p e s m below meth c A ls E hAe hG hsz hP hD hA hS hl
  obtain ⟨hx, hb, hr, hw, hown, hlocks, hml, hnm⟩ := E
  have hK := hG.1
  have i_x_steps : 0 ≤ x_steps.toInt ∧ x_steps.toInt ≤ 40 := i_x_steps
  have i_x_p0_length : 0 ≤ x_p0_length.toInt ∧ x_p0_length.toInt ≤ 940 := i_x_p0_length
  have i_x_p0_at : 0 ≤ x_p0_at.toInt ∧ x_p0_at.toInt ≤ 940 := i_x_p0_at
  have i_x_p1_men : 0 ≤ x_p1_men.toInt ∧ x_p1_men.toInt ≤ 12 := i_x_p1_men
  have hl : lv_has ls 5 [(0, .ref h0), (1, .ref p0), (2, .ref p1), (3, .int 2)] := hl
  refine lv_aload_n hx hb dX8_readAll_0 rfl (lv_at hl 0 rfl) ?_
  refine lv_aload_n hx hb dX8_readAll_1 rfl (lv_at hl 1 rfl) ?_
  refine lv_aload_n hx hb dX8_readAll_2 rfl (lv_at hl 2 rfl) ?_
  refine lv_iload_n hx hb dX8_readAll_3 rfl (lv_at hl 3 rfl) ?_
  refine call_Vi (wr := []) (As := [.ref p0, .ref p1, .int 2]) (rest := []) hx hb hml hown hw (m_X8_readOne_2 l D cI cJ cB cP cM cZ h0 h_step h_sign h_value p0 h_p0_bytes h_p0_wordNames p1 h_p1_manName Fh x_steps x_ones f_step f_sign f_value F_p0_ x_p0_length x_p0_kind x_p0_place x_p0_value x_p0_name x_p0_number x_p0_faultKind x_p0_faultPlace x_p0_at x_p0_mostBytes f_p0_bytes f_p0_wordNames F_p1_ x_p1_men f_p1_manName _ e_step e_sign e_value e_steps i_x_steps e_ones e_p0_bytes e_p0_length i_x_p0_length e_p0_kind e_p0_place e_p0_value e_p0_name e_p0_number e_p0_faultKind e_p0_faultPlace e_p0_wordNames e_p0_at i_x_p0_at e_p0_mostBytes s_p0_bytes_0 s_p0_wordNames_KN e_p1_manName e_p1_men i_x_p1_men) wV_X8_52_X8_readOne dX8_readAll_4 hK hP hD hS hA [0, 1, 2, 3, 4, 5, 6, 7, 8] [] rfl rfl (by decide) (by decide) (by decide) 0 8 rfl rfl GG.fb hG.at hl.1 rfl (Nat.le_of_ble_eq_true rfl) ⟨(Nat.le_of_ble_eq_true rfl), (Nat.le_of_ble_eq_true rfl)⟩ ⟨(Nat.le_of_ble_eq_true rfl), (Nat.le_of_ble_eq_true rfl)⟩ (fun r1 u H locs hp hP hD hS => ?_)
  have zl2 : (2 : Int32).toInt = 2 := by decide
  refine hp.elim (fun F2 h9z0 => h9z0.elim (fun y3 h9z1 => h9z1.elim (fun y4 h9z2 => h9z2.elim (fun F5 h9z3 => h9z3.elim (fun y6 h9z4 => h9z4.elim (fun y7 h9z5 => h9z5.elim (fun y8 h9z6 => h9z6.elim (fun y9 h9z7 => h9z7.elim (fun y10 h9z8 => h9z8.elim (fun y11 h9z9 => h9z9.elim (fun y12 h9z10 => h9z10.elim (fun y13 h9z11 => h9z11.elim (fun g14 h9z12 => h9z12.elim (fun g15 h9z13 => h9z13.elim (fun g16 h9z14 => h9z14.elim (fun t17 h9z15 => h9z15.elim (fun t18 h9z16 => h9z16.elim (fun t19 h9z17 => h9z17.elim (fun t20 h9z18 => h9z18.elim (fun t21 h9z19 => h9z19.elim (fun t22 h9z20 => h9z20.elim (fun t23 h9z21 => h9z21.elim (fun t24 h9z22 => h9z22.elim (fun t25 h9z23 => h9z23.elim (fun t26 h9z24 => h9z24.elim (fun t27 h9z25 => h9z25.elim (fun t28 h9z26 => h9z26.elim (fun t29 h9z27 => h9z27.elim (fun t30 h9z28 => h9z28.elim (fun t31 h9z29 => ?_))))))))))))))))))))))))))))))
  clear h9z0 h9z1 h9z2 h9z3 h9z4 h9z5 h9z6 h9z7 h9z8 h9z9 h9z10 h9z11 h9z12 h9z13 h9z14 h9z15 h9z16 h9z17 h9z18 h9z19 h9z20 h9z21 h9z22 h9z23 h9z24 h9z25 h9z26 h9z27 h9z28
  subst h9z29
  have hP : va_P D vwCl [(h0, .inr (8, vL 5 F2)), (h_step, .inl (cI, 40, .inl g14)), (h_sign, .inl (cI, 40, .inl g15)), (h_value, .inl (cI, 40, .inl g16)), (p0, .inr (6, vL 12 F5)), (h_p0_bytes, .inl (cB, 940, .inl f_p0_bytes)), (h_p0_wordNames, .inl (cJ, 23, .inr (.inl f_p0_wordNames))), (p1, .inr (1, vL 18 F_p1_)), (h_p1_manName, .inl (cJ, 12, .inr (.inl f_p1_manName)))] H := hP
  have hD : va_D A [(h0, .inr (8, vL 5 F2)), (h_step, .inl (cI, 40, .inl g14)), (h_sign, .inl (cI, 40, .inl g15)), (h_value, .inl (cI, 40, .inl g16)), (p0, .inr (6, vL 12 F5)), (h_p0_bytes, .inl (cB, 940, .inl f_p0_bytes)), (h_p0_wordNames, .inl (cJ, 23, .inr (.inl f_p0_wordNames))), (p1, .inr (1, vL 18 F_p1_)), (h_p1_manName, .inl (cJ, 12, .inr (.inl f_p1_manName)))] := hD
  refine W.widen (k := 0) (n := 0) (Nat.le_of_ble_eq_true rfl) (Nat.le_of_ble_eq_true rfl) ?_
  refine lv_if_ne (tgt := 12) hx hb dX8_readAll_7 (by decide) (fun c33 => ?_) (fun c33 => ?_)
  · have dc33 : r1.toInt ≠ 0 := ne_i (a := r1.toInt) (b := 0) rfl rfl c33
    have k34 : 1 ≤ r1.toInt ∧ r1.toInt ≤ 1 := ⟨ne_lo dc33 t31.1 ⟨Int.le_refl _, Int.le_refl _⟩ (by decide), t31.2⟩
    refine lv_iconst (v := 0) hx hb dX8_readAll_12 (by decide) ?_
    refine lv_istore (lv' := [(4, .int 0), (0, .ref h0), (1, .ref p0), (2, .ref p1), (3, .int 2)]) hx hb dX8_readAll_13 hl (by decide) rfl (fun ls hl => ?_)
    refine mloop (α := (Int32) × (Nat → Value) × (Int32) × (Int32) × (Nat → Int32) × (Nat → Int32) × (Nat → Int32) × (Nat → Value) × (Int32) × (Int32) × (Int32) × (Int64) × (Int32) × (Int32) × (Int32) × (Int32)) (nL := 5) (D := D) (A := A) (H0 := s.heap) (fun a => (200 - a.1.toInt).toNat) (fun a => IR 0 200 a.1 ∧ SAME [3, 4] F2 a.2.1 ∧ a.2.1 3 = .int a.2.2.1 ∧ a.2.1 4 = .int a.2.2.2.1 ∧ IR 0 40 a.2.2.1 ∧ SAME [2, 3, 4, 5, 6, 7, 8, 10] F5 a.2.2.2.2.2.2.2.1 ∧ a.2.2.2.2.2.2.2.1 2 = .int a.2.2.2.2.2.2.2.2.1 ∧ a.2.2.2.2.2.2.2.1 3 = .int a.2.2.2.2.2.2.2.2.2.1 ∧ a.2.2.2.2.2.2.2.1 4 = .int a.2.2.2.2.2.2.2.2.2.2.1 ∧ a.2.2.2.2.2.2.2.1 5 = .long a.2.2.2.2.2.2.2.2.2.2.2.1 ∧ a.2.2.2.2.2.2.2.1 6 = .int a.2.2.2.2.2.2.2.2.2.2.2.2.1 ∧ a.2.2.2.2.2.2.2.1 7 = .int a.2.2.2.2.2.2.2.2.2.2.2.2.2.1 ∧ a.2.2.2.2.2.2.2.1 8 = .int a.2.2.2.2.2.2.2.2.2.2.2.2.2.2.1 ∧ a.2.2.2.2.2.2.2.1 10 = .int a.2.2.2.2.2.2.2.2.2.2.2.2.2.2.2 ∧ IR 0 940 a.2.2.2.2.2.2.2.2.2.2.2.2.2.2.2) (fun a => [(h0, .inr (8, vL 5 a.2.1)), (h_step, .inl (cI, 40, .inl a.2.2.2.2.1)), (h_sign, .inl (cI, 40, .inl a.2.2.2.2.2.1)), (h_value, .inl (cI, 40, .inl a.2.2.2.2.2.2.1)), (p0, .inr (6, vL 12 a.2.2.2.2.2.2.2.1)), (h_p0_bytes, .inl (cB, 940, .inl f_p0_bytes)), (h_p0_wordNames, .inl (cJ, 23, .inr (.inl f_p0_wordNames))), (p1, .inr (1, vL 18 F_p1_)), (h_p1_manName, .inl (cJ, 12, .inr (.inl f_p1_manName)))]) (fun a => [(4, .int a.1), (0, .ref h0), (1, .ref p0), (2, .ref p1), (3, .int 2)]) (fun H locs ls => W p l e ({ frames := 23, cells := 0, slots := 0, locals := 557 } : Room) s m [.ref h0, .ref p0, .ref p1, .int 2].toArray below meth c H locs 0 0 (MQ below (va_Qi (fun (r : Int32) (u : va_W) => ∃ (Gh : Nat → Value) (y_steps : Int32) (y_ones : Int32) (G_p0_ : Nat → Value) (y_p0_kind : Int32) (y_p0_place : Int32) (y_p0_value : Int32) (y_p0_name : Int64) (y_p0_number : Int32) (y_p0_faultKind : Int32) (y_p0_faultPlace : Int32) (y_p0_at : Int32) (g_step : Nat → Int32) (g_sign : Nat → Int32) (g_value : Nat → Int32), SAME [3, 4] Fh Gh ∧ Gh 3 = .int y_steps ∧ IR 0 40 y_steps ∧ Gh 4 = .int y_ones ∧ SAME [2, 3, 4, 5, 6, 7, 8, 10] F_p0_ G_p0_ ∧ G_p0_ 2 = .int y_p0_kind ∧ G_p0_ 3 = .int y_p0_place ∧ G_p0_ 4 = .int y_p0_value ∧ G_p0_ 5 = .long y_p0_name ∧ G_p0_ 6 = .int y_p0_number ∧ G_p0_ 7 = .int y_p0_faultKind ∧ G_p0_ 8 = .int y_p0_faultPlace ∧ G_p0_ 10 = .int y_p0_at ∧ IR 0 940 y_p0_at ∧ IR 0 1 r ∧ u = [(h0, .inr (8, vL 5 Gh)), (h_step, .inl (cI, 40, .inl g_step)), (h_sign, .inl (cI, 40, .inl g_sign)), (h_value, .inl (cI, 40, .inl g_value)), (p0, .inr (6, vL 12 G_p0_)), (h_p0_bytes, .inl (cB, 940, .inl f_p0_bytes)), (h_p0_wordNames, .inl (cJ, 23, .inr (.inl f_p0_wordNames))), (p1, .inr (1, vL 18 F_p1_)), (h_p1_manName, .inl (cJ, 12, .inr (.inl f_p1_manName)))]) (PO D A) A) [.ref h0, .ref p0, .ref p1, .int 2].toArray s 0 0 A) (F0 m 15 ls [])) ?_ (0, F2, y3, y4, g14, g15, g16, F5, y6, y7, y8, y9, y10, y11, y12, y13) ⟨(show 0 ≤ (0 : Int32).toInt ∧ (0 : Int32).toInt ≤ 200 by decide), SAME.rf, t18, t20, t19, SAME.rf, t22, t23, t24, t25, t26, t27, t28, t29, t30⟩ _ _ _ hP hD hS hl
    rintro ⟨u35, G36, u37, u38, w39, w40, w41, G42, u43, u44, u45, u46, u47, u48, u49, u50⟩ ⟨i51, i52, i53, i54, i55, i56, i57, i58, i59, i60, i61, i62, i63, i64, i65⟩ ih H locs ls hP hD hS hl
    have i51 : 0 ≤ u35.toInt ∧ u35.toInt ≤ 200 := i51
    have i55 : 0 ≤ u37.toInt ∧ u37.toInt ≤ 40 := i55
    have i65 : 0 ≤ u50.toInt ∧ u50.toInt ≤ 940 := i65
    have hP : va_P D vwCl [(h0, .inr (8, vL 5 G36)), (h_step, .inl (cI, 40, .inl w39)), (h_sign, .inl (cI, 40, .inl w40)), (h_value, .inl (cI, 40, .inl w41)), (p0, .inr (6, vL 12 G42)), (h_p0_bytes, .inl (cB, 940, .inl f_p0_bytes)), (h_p0_wordNames, .inl (cJ, 23, .inr (.inl f_p0_wordNames))), (p1, .inr (1, vL 18 F_p1_)), (h_p1_manName, .inl (cJ, 12, .inr (.inl f_p1_manName)))] H := hP
    have hD : va_D A [(h0, .inr (8, vL 5 G36)), (h_step, .inl (cI, 40, .inl w39)), (h_sign, .inl (cI, 40, .inl w40)), (h_value, .inl (cI, 40, .inl w41)), (p0, .inr (6, vL 12 G42)), (h_p0_bytes, .inl (cB, 940, .inl f_p0_bytes)), (h_p0_wordNames, .inl (cJ, 23, .inr (.inl f_p0_wordNames))), (p1, .inr (1, vL 18 F_p1_)), (h_p1_manName, .inl (cJ, 12, .inr (.inl f_p1_manName)))] := hD
    have hl : lv_has ls 5 [(4, .int u35), (0, .ref h0), (1, .ref p0), (2, .ref p1), (3, .int 2)] := hl
    refine lv_iload hx hb dX8_readAll_15 (lv_at hl 0 rfl) ?_
    refine lv_sipush (v := 200) hx hb dX8_readAll_17 (by decide) ?_
    refine lv_icmp_ge (tgt := 63) hx hb dX8_readAll_20 (by decide) (fun c66 => ?_) (fun c66 => ?_)
    · have dc66 : 200 ≤ u35.toInt := le_i (a := 200) (b := u35.toInt) rfl rfl c66
      have k67 : 200 ≤ u35.toInt ∧ u35.toInt ≤ 200 := ⟨Int.le_trans (Int.le_refl _) dc66, i51.2⟩
      refine lv_iconst (v := 1) hx hb dX8_readAll_63 (by decide) ?_
      exact ret_i (v := 1) hx hb hr hlocks hS hP hD dX8_readAll_64 rfl (Nat.le_of_ble_eq_true rfl) (Nat.le_of_ble_eq_true rfl) ⟨G36, u37, u38, G42, u43, u44, u45, u46, u47, u48, u49, u50, w39, w40, w41, (SAME.tr (SAME.tr SAME.rf t17 (by decide)) i52 (by decide)), i53, i55, i54, (SAME.tr (SAME.tr SAME.rf t21 (by decide)) i56 (by decide)), i57, i58, i59, i60, i61, i62, i63, i64, i65, (show 0 ≤ (1 : Int32).toInt ∧ (1 : Int32).toInt ≤ 1 by decide), rfl⟩
    · have dc66 : u35.toInt < 200 := nle_i (a := 200) (b := u35.toInt) rfl rfl c66
      have k68 : 0 ≤ u35.toInt ∧ u35.toInt ≤ 199 := ⟨i51.1, up_lt dc66 (Int.le_refl _) (by decide)⟩
      refine lv_aload_n hx hb dX8_readAll_23 rfl (lv_at hl 2 rfl) ?_
      refine call_Vi (wr := [(h0, .inr (8, vL 5 G36)), (h_step, .inl (cI, 40, .inl w39)), (h_sign, .inl (cI, 40, .inl w40)), (h_value, .inl (cI, 40, .inl w41)), (h_p0_bytes, .inl (cB, 940, .inl f_p0_bytes)), (h_p0_wordNames, .inl (cJ, 23, .inr (.inl f_p0_wordNames))), (p1, .inr (1, vL 18 F_p1_)), (h_p1_manName, .inl (cJ, 12, .inr (.inl f_p1_manName)))]) (As := []) (rest := []) hx hb hml hown hw (m_X6_wordHere l D cI cJ cB cP cM cZ p0 G42 u43 u45 _ i57 i59) wV_X8_32_X6_wordHere dX8_readAll_24 hK hP hD hS hA [4] [0, 1, 2, 3, 5, 6, 7, 8] rfl rfl (by decide) (by decide) (by decide) 0 6 rfl rfl GG.fb hG.at hl.1 rfl (Nat.le_of_ble_eq_true rfl) ⟨(Nat.le_of_ble_eq_true rfl), (Nat.le_of_ble_eq_true rfl)⟩ ⟨(Nat.le_of_ble_eq_true rfl), (Nat.le_of_ble_eq_true rfl)⟩ (fun r69 u H locs hp hP hD hS => ?_)
      rcases hp with ⟨t70, rfl, rfl⟩ | ⟨t71, er72, rfl⟩
      · have hP : va_P D vwCl [(h0, .inr (8, vL 5 G36)), (h_step, .inl (cI, 40, .inl w39)), (h_sign, .inl (cI, 40, .inl w40)), (h_value, .inl (cI, 40, .inl w41)), (h_p0_bytes, .inl (cB, 940, .inl f_p0_bytes)), (h_p0_wordNames, .inl (cJ, 23, .inr (.inl f_p0_wordNames))), (p1, .inr (1, vL 18 F_p1_)), (h_p1_manName, .inl (cJ, 12, .inr (.inl f_p1_manName))), (p0, .inr (6, vL 12 G42))] H := hP
        have hD : va_D A [(h0, .inr (8, vL 5 G36)), (h_step, .inl (cI, 40, .inl w39)), (h_sign, .inl (cI, 40, .inl w40)), (h_value, .inl (cI, 40, .inl w41)), (h_p0_bytes, .inl (cB, 940, .inl f_p0_bytes)), (h_p0_wordNames, .inl (cJ, 23, .inr (.inl f_p0_wordNames))), (p1, .inr (1, vL 18 F_p1_)), (h_p1_manName, .inl (cJ, 12, .inr (.inl f_p1_manName))), (p0, .inr (6, vL 12 G42))] := hD
        refine W.widen (k := 0) (n := 0) (Nat.le_of_ble_eq_true rfl) (Nat.le_of_ble_eq_true rfl) ?_
        refine lv_bipush (v := 15) hx hb dX8_readAll_27 (by decide) ?_
        refine lv_icmp_ne (tgt := 63) hx hb dX8_readAll_29 (by decide) (fun _ => ?_) (fun g => absurd g (by decide))
        refine lv_iconst (v := 1) hx hb dX8_readAll_63 (by decide) ?_
        exact ret_i (v := 1) hx hb hr hlocks hS (hP.sub (ws' := [(h0, .inr (8, vL 5 G36)), (h_step, .inl (cI, 40, .inl w39)), (h_sign, .inl (cI, 40, .inl w40)), (h_value, .inl (cI, 40, .inl w41)), (p0, .inr (6, vL 12 G42)), (h_p0_bytes, .inl (cB, 940, .inl f_p0_bytes)), (h_p0_wordNames, .inl (cJ, 23, .inr (.inl f_p0_wordNames))), (p1, .inr (1, vL 18 F_p1_)), (h_p1_manName, .inl (cJ, 12, .inr (.inl f_p1_manName)))]) [0, 1, 2, 3, 8, 4, 5, 6, 7] rfl) (hD.sub (ws' := [(h0, .inr (8, vL 5 G36)), (h_step, .inl (cI, 40, .inl w39)), (h_sign, .inl (cI, 40, .inl w40)), (h_value, .inl (cI, 40, .inl w41)), (p0, .inr (6, vL 12 G42)), (h_p0_bytes, .inl (cB, 940, .inl f_p0_bytes)), (h_p0_wordNames, .inl (cJ, 23, .inr (.inl f_p0_wordNames))), (p1, .inr (1, vL 18 F_p1_)), (h_p1_manName, .inl (cJ, 12, .inr (.inl f_p1_manName)))]) [0, 1, 2, 3, 8, 4, 5, 6, 7] (by decide) rfl) dX8_readAll_64 rfl (Nat.le_of_ble_eq_true rfl) (Nat.le_of_ble_eq_true rfl) ⟨G36, u37, u38, G42, u43, u44, u45, u46, u47, u48, u49, u50, w39, w40, w41, (SAME.tr (SAME.tr SAME.rf t17 (by decide)) i52 (by decide)), i53, i55, i54, (SAME.tr (SAME.tr SAME.rf t21 (by decide)) i56 (by decide)), i57, i58, i59, i60, i61, i62, i63, i64, i65, (show 0 ≤ (1 : Int32).toInt ∧ (1 : Int32).toInt ≤ 1 by decide), rfl⟩
      · have hP : va_P D vwCl [(h0, .inr (8, vL 5 G36)), (h_step, .inl (cI, 40, .inl w39)), (h_sign, .inl (cI, 40, .inl w40)), (h_value, .inl (cI, 40, .inl w41)), (h_p0_bytes, .inl (cB, 940, .inl f_p0_bytes)), (h_p0_wordNames, .inl (cJ, 23, .inr (.inl f_p0_wordNames))), (p1, .inr (1, vL 18 F_p1_)), (h_p1_manName, .inl (cJ, 12, .inr (.inl f_p1_manName))), (p0, .inr (6, vL 12 G42))] H := hP
        have hD : va_D A [(h0, .inr (8, vL 5 G36)), (h_step, .inl (cI, 40, .inl w39)), (h_sign, .inl (cI, 40, .inl w40)), (h_value, .inl (cI, 40, .inl w41)), (h_p0_bytes, .inl (cB, 940, .inl f_p0_bytes)), (h_p0_wordNames, .inl (cJ, 23, .inr (.inl f_p0_wordNames))), (p1, .inr (1, vL 18 F_p1_)), (h_p1_manName, .inl (cJ, 12, .inr (.inl f_p1_manName))), (p0, .inr (6, vL 12 G42))] := hD
        refine W.widen (k := 0) (n := 0) (Nat.le_of_ble_eq_true rfl) (Nat.le_of_ble_eq_true rfl) ?_
        refine lv_ci (y := u45) er72 ?_
        have k73 : 2 ≤ u43.toInt ∧ u43.toInt ≤ 2 := ⟨Int.le_trans (Int.le_refl _) (Int.le_of_eq t71.symm), Int.le_trans (Int.le_of_eq t71) (Int.le_refl _)⟩
        refine lv_bipush (v := 15) hx hb dX8_readAll_27 (by decide) ?_
        refine lv_icmp_ne (tgt := 63) hx hb dX8_readAll_29 (by decide) (fun c74 => ?_) (fun c74 => ?_)
        · have dc74 : u45.toInt ≠ 15 := ne_i (a := u45.toInt) (b := 15) rfl rfl c74
          refine lv_iconst (v := 1) hx hb dX8_readAll_63 (by decide) ?_
          exact ret_i (v := 1) hx hb hr hlocks hS (hP.sub (ws' := [(h0, .inr (8, vL 5 G36)), (h_step, .inl (cI, 40, .inl w39)), (h_sign, .inl (cI, 40, .inl w40)), (h_value, .inl (cI, 40, .inl w41)), (p0, .inr (6, vL 12 G42)), (h_p0_bytes, .inl (cB, 940, .inl f_p0_bytes)), (h_p0_wordNames, .inl (cJ, 23, .inr (.inl f_p0_wordNames))), (p1, .inr (1, vL 18 F_p1_)), (h_p1_manName, .inl (cJ, 12, .inr (.inl f_p1_manName)))]) [0, 1, 2, 3, 8, 4, 5, 6, 7] rfl) (hD.sub (ws' := [(h0, .inr (8, vL 5 G36)), (h_step, .inl (cI, 40, .inl w39)), (h_sign, .inl (cI, 40, .inl w40)), (h_value, .inl (cI, 40, .inl w41)), (p0, .inr (6, vL 12 G42)), (h_p0_bytes, .inl (cB, 940, .inl f_p0_bytes)), (h_p0_wordNames, .inl (cJ, 23, .inr (.inl f_p0_wordNames))), (p1, .inr (1, vL 18 F_p1_)), (h_p1_manName, .inl (cJ, 12, .inr (.inl f_p1_manName)))]) [0, 1, 2, 3, 8, 4, 5, 6, 7] (by decide) rfl) dX8_readAll_64 rfl (Nat.le_of_ble_eq_true rfl) (Nat.le_of_ble_eq_true rfl) ⟨G36, u37, u38, G42, u43, u44, u45, u46, u47, u48, u49, u50, w39, w40, w41, (SAME.tr (SAME.tr SAME.rf t17 (by decide)) i52 (by decide)), i53, i55, i54, (SAME.tr (SAME.tr SAME.rf t21 (by decide)) i56 (by decide)), i57, i58, i59, i60, i61, i62, i63, i64, i65, (show 0 ≤ (1 : Int32).toInt ∧ (1 : Int32).toInt ≤ 1 by decide), rfl⟩
        · have dc74 : u45.toInt = 15 := eq_i (a := u45.toInt) (b := 15) rfl rfl c74
          have k75 : 15 ≤ u45.toInt ∧ u45.toInt ≤ 15 := ⟨Int.le_trans (Int.le_refl _) (Int.le_of_eq dc74.symm), Int.le_trans (Int.le_of_eq dc74) (Int.le_refl _)⟩
          refine lv_aload_n hx hb dX8_readAll_32 rfl (lv_at hl 2 rfl) ?_
          have n76 : F5 0 = .ref h_p0_bytes := (SAME.at t21 (by decide) e_p0_bytes)
          have n77 : G42 0 = .ref h_p0_bytes := (SAME.at i56 (by decide) n76)
          have n78 : F5 1 = .int x_p0_length := (SAME.at t21 (by decide) e_p0_length)
          have n79 : G42 1 = .int x_p0_length := (SAME.at i56 (by decide) n78)
          have n80 : F5 9 = .ref h_p0_wordNames := (SAME.at t21 (by decide) e_p0_wordNames)
          have n81 : G42 9 = .ref h_p0_wordNames := (SAME.at i56 (by decide) n80)
          have n82 : F5 11 = .int x_p0_mostBytes := (SAME.at t21 (by decide) e_p0_mostBytes)
          have n83 : G42 11 = .int x_p0_mostBytes := (SAME.at i56 (by decide) n82)
          refine call_Vv (wr := [(h0, .inr (8, vL 5 G36)), (h_step, .inl (cI, 40, .inl w39)), (h_sign, .inl (cI, 40, .inl w40)), (h_value, .inl (cI, 40, .inl w41)), (p1, .inr (1, vL 18 F_p1_)), (h_p1_manName, .inl (cJ, 12, .inr (.inl f_p1_manName)))]) (As := []) (rest := []) hx hb hml hown hw (m_X6_advance l D cI cJ cB cP cM cZ p0 h_p0_bytes h_p0_wordNames G42 x_p0_length u43 u44 u45 u46 u50 x_p0_mostBytes f_p0_bytes f_p0_wordNames _ n77 n79 i_x_p0_length i57 i58 i59 i60 n81 i64 i65 n83 s_p0_bytes_0 s_p0_wordNames_KN) wV_X8_38_X6_advance dX8_readAll_33 hK hP hD hS hA [8, 4, 5] [0, 1, 2, 3, 6, 7] rfl rfl (by decide) (by decide) (by decide) 0 6 rfl rfl GG.fb hG.at hl.1 rfl (Nat.le_of_ble_eq_true rfl) ⟨(Nat.le_of_ble_eq_true rfl), (Nat.le_of_ble_eq_true rfl)⟩ ⟨(Nat.le_of_ble_eq_true rfl), (Nat.le_of_ble_eq_true rfl)⟩ (fun u H locs hp hP hD hS => ?_)
          obtain ⟨F85, y86, y87, y88, y89, y90, t91, t92, t93, t94, t95, t96, t97, t98, t99, t100, t101, rfl⟩ := hp
          have hP : va_P D vwCl [(h0, .inr (8, vL 5 G36)), (h_step, .inl (cI, 40, .inl w39)), (h_sign, .inl (cI, 40, .inl w40)), (h_value, .inl (cI, 40, .inl w41)), (p1, .inr (1, vL 18 F_p1_)), (h_p1_manName, .inl (cJ, 12, .inr (.inl f_p1_manName))), (p0, .inr (6, vL 12 F85)), (h_p0_bytes, .inl (cB, 940, .inl f_p0_bytes)), (h_p0_wordNames, .inl (cJ, 23, .inr (.inl f_p0_wordNames)))] H := hP
          have hD : va_D A [(h0, .inr (8, vL 5 G36)), (h_step, .inl (cI, 40, .inl w39)), (h_sign, .inl (cI, 40, .inl w40)), (h_value, .inl (cI, 40, .inl w41)), (p1, .inr (1, vL 18 F_p1_)), (h_p1_manName, .inl (cJ, 12, .inr (.inl f_p1_manName))), (p0, .inr (6, vL 12 F85)), (h_p0_bytes, .inl (cB, 940, .inl f_p0_bytes)), (h_p0_wordNames, .inl (cJ, 23, .inr (.inl f_p0_wordNames)))] := hD
          refine W.widen (k := 0) (n := 0) (Nat.le_of_ble_eq_true rfl) (Nat.le_of_ble_eq_true rfl) ?_
          refine lv_aload_n hx hb dX8_readAll_36 rfl (lv_at hl 1 rfl) ?_
          refine lv_aload_n hx hb dX8_readAll_37 rfl (lv_at hl 2 rfl) ?_
          refine lv_aload_n hx hb dX8_readAll_38 rfl (lv_at hl 3 rfl) ?_
          refine lv_iload_n hx hb dX8_readAll_39 rfl (lv_at hl 4 rfl) ?_
          have n103 : F2 0 = .ref h_step := (SAME.at t17 (by decide) e_step)
          have n104 : G36 0 = .ref h_step := (SAME.at i52 (by decide) n103)
          have n105 : F2 1 = .ref h_sign := (SAME.at t17 (by decide) e_sign)
          have n106 : G36 1 = .ref h_sign := (SAME.at i52 (by decide) n105)
          have n107 : F2 2 = .ref h_value := (SAME.at t17 (by decide) e_value)
          have n108 : G36 2 = .ref h_value := (SAME.at i52 (by decide) n107)
          have n109 : F85 0 = .ref h_p0_bytes := (SAME.at t91 (by decide) n77)
          have n110 : F85 1 = .int x_p0_length := (SAME.at t91 (by decide) n79)
          have n111 : F85 6 = .int u47 := (SAME.at t91 (by decide) i61)
          have n112 : F85 7 = .int u48 := (SAME.at t91 (by decide) i62)
          have n113 : F85 8 = .int u49 := (SAME.at t91 (by decide) i63)
          have n114 : F85 9 = .ref h_p0_wordNames := (SAME.at t91 (by decide) n81)
          have n115 : F85 11 = .int x_p0_mostBytes := (SAME.at t91 (by decide) n83)
          refine call_Vi (wr := []) (As := [.ref p0, .ref p1, .int 2]) (rest := []) hx hb hml hown hw (m_X8_readOne_2 l D cI cJ cB cP cM cZ h0 h_step h_sign h_value p0 h_p0_bytes h_p0_wordNames p1 h_p1_manName G36 u37 u38 w39 w40 w41 F85 x_p0_length y86 y87 y88 y89 u47 u48 u49 y90 x_p0_mostBytes f_p0_bytes f_p0_wordNames F_p1_ x_p1_men f_p1_manName _ n104 n106 n108 i53 i55 i54 n109 n110 i_x_p0_length t92 t94 t96 t97 n111 n112 n113 n114 t98 t99 n115 s_p0_bytes_0 s_p0_wordNames_KN e_p1_manName e_p1_men i_x_p1_men) wV_X8_52_X8_readOne dX8_readAll_40 hK hP hD hS hA [0, 1, 2, 3, 6, 7, 8, 4, 5] [] rfl rfl (by decide) (by decide) (by decide) 0 8 rfl rfl GG.fb hG.at hl.1 rfl (Nat.le_of_ble_eq_true rfl) ⟨(Nat.le_of_ble_eq_true rfl), (Nat.le_of_ble_eq_true rfl)⟩ ⟨(Nat.le_of_ble_eq_true rfl), (Nat.le_of_ble_eq_true rfl)⟩ (fun r116 u H locs hp hP hD hS => ?_)
          refine hp.elim (fun F117 h9z0 => h9z0.elim (fun y118 h9z1 => h9z1.elim (fun y119 h9z2 => h9z2.elim (fun F120 h9z3 => h9z3.elim (fun y121 h9z4 => h9z4.elim (fun y122 h9z5 => h9z5.elim (fun y123 h9z6 => h9z6.elim (fun y124 h9z7 => h9z7.elim (fun y125 h9z8 => h9z8.elim (fun y126 h9z9 => h9z9.elim (fun y127 h9z10 => h9z10.elim (fun y128 h9z11 => h9z11.elim (fun g129 h9z12 => h9z12.elim (fun g130 h9z13 => h9z13.elim (fun g131 h9z14 => h9z14.elim (fun t132 h9z15 => h9z15.elim (fun t133 h9z16 => h9z16.elim (fun t134 h9z17 => h9z17.elim (fun t135 h9z18 => h9z18.elim (fun t136 h9z19 => h9z19.elim (fun t137 h9z20 => h9z20.elim (fun t138 h9z21 => h9z21.elim (fun t139 h9z22 => h9z22.elim (fun t140 h9z23 => h9z23.elim (fun t141 h9z24 => h9z24.elim (fun t142 h9z25 => h9z25.elim (fun t143 h9z26 => h9z26.elim (fun t144 h9z27 => h9z27.elim (fun t145 h9z28 => h9z28.elim (fun t146 h9z29 => ?_))))))))))))))))))))))))))))))
          clear h9z0 h9z1 h9z2 h9z3 h9z4 h9z5 h9z6 h9z7 h9z8 h9z9 h9z10 h9z11 h9z12 h9z13 h9z14 h9z15 h9z16 h9z17 h9z18 h9z19 h9z20 h9z21 h9z22 h9z23 h9z24 h9z25 h9z26 h9z27 h9z28
          subst h9z29
          have hP : va_P D vwCl [(h0, .inr (8, vL 5 F117)), (h_step, .inl (cI, 40, .inl g129)), (h_sign, .inl (cI, 40, .inl g130)), (h_value, .inl (cI, 40, .inl g131)), (p0, .inr (6, vL 12 F120)), (h_p0_bytes, .inl (cB, 940, .inl f_p0_bytes)), (h_p0_wordNames, .inl (cJ, 23, .inr (.inl f_p0_wordNames))), (p1, .inr (1, vL 18 F_p1_)), (h_p1_manName, .inl (cJ, 12, .inr (.inl f_p1_manName)))] H := hP
          have hD : va_D A [(h0, .inr (8, vL 5 F117)), (h_step, .inl (cI, 40, .inl g129)), (h_sign, .inl (cI, 40, .inl g130)), (h_value, .inl (cI, 40, .inl g131)), (p0, .inr (6, vL 12 F120)), (h_p0_bytes, .inl (cB, 940, .inl f_p0_bytes)), (h_p0_wordNames, .inl (cJ, 23, .inr (.inl f_p0_wordNames))), (p1, .inr (1, vL 18 F_p1_)), (h_p1_manName, .inl (cJ, 12, .inr (.inl f_p1_manName)))] := hD
          refine W.widen (k := 0) (n := 0) (Nat.le_of_ble_eq_true rfl) (Nat.le_of_ble_eq_true rfl) ?_
          refine lv_if_ne (tgt := 48) hx hb dX8_readAll_43 (by decide) (fun c148 => ?_) (fun c148 => ?_)
          · have dc148 : r116.toInt ≠ 0 := ne_i (a := r116.toInt) (b := 0) rfl rfl c148
            have k149 : 1 ≤ r116.toInt ∧ r116.toInt ≤ 1 := ⟨ne_lo dc148 t146.1 ⟨Int.le_refl _, Int.le_refl _⟩ (by decide), t146.2⟩
            refine lv_aload_n hx hb dX8_readAll_48 rfl (lv_at hl 1 rfl) ?_
            refine lv_bipush (v := 15) hx hb dX8_readAll_49 (by decide) ?_
            refine lv_iconst (v := 0) hx hb dX8_readAll_51 (by decide) ?_
            refine lv_iconst (v := 0) hx hb dX8_readAll_52 (by decide) ?_
            have n150 : F117 0 = .ref h_step := (SAME.at t132 (by decide) n104)
            have n151 : F117 1 = .ref h_sign := (SAME.at t132 (by decide) n106)
            have n152 : F117 2 = .ref h_value := (SAME.at t132 (by decide) n108)
            refine call_Vi (wr := [(p0, .inr (6, vL 12 F120)), (h_p0_bytes, .inl (cB, 940, .inl f_p0_bytes)), (h_p0_wordNames, .inl (cJ, 23, .inr (.inl f_p0_wordNames))), (p1, .inr (1, vL 18 F_p1_)), (h_p1_manName, .inl (cJ, 12, .inr (.inl f_p1_manName)))]) (As := [.int 15, .int 0, .int 0]) (rest := []) hx hb hml hown hw (m_X8_addStep l D cI cJ cB cP cM cZ h0 h_step h_sign h_value F117 y118 g129 g130 g131 15 0 0 _ n150 n151 n152 t133 t134) wV_X8_41_X8_addStep dX8_readAll_53 hK hP hD hS hA [0, 1, 2, 3] [4, 5, 6, 7, 8] rfl rfl (by decide) (by decide) (by decide) 0 8 rfl rfl GG.fb hG.at hl.1 rfl (Nat.le_of_ble_eq_true rfl) ⟨(Nat.le_of_ble_eq_true rfl), (Nat.le_of_ble_eq_true rfl)⟩ ⟨(Nat.le_of_ble_eq_true rfl), (Nat.le_of_ble_eq_true rfl)⟩ (fun r153 u H locs hp hP hD hS => ?_)
            have zl0 : (0 : Int32).toInt = 0 := by decide
            have zl15 : (15 : Int32).toInt = 15 := by decide
            obtain ⟨F154, y155, g156, g157, g158, t159, t160, t161, rfl, rfl⟩ := hp
            have hP : va_P D vwCl [(p0, .inr (6, vL 12 F120)), (h_p0_bytes, .inl (cB, 940, .inl f_p0_bytes)), (h_p0_wordNames, .inl (cJ, 23, .inr (.inl f_p0_wordNames))), (p1, .inr (1, vL 18 F_p1_)), (h_p1_manName, .inl (cJ, 12, .inr (.inl f_p1_manName))), (h0, .inr (8, vL 5 F154)), (h_step, .inl (cI, 40, .inl g156)), (h_sign, .inl (cI, 40, .inl g157)), (h_value, .inl (cI, 40, .inl g158))] H := hP
            have hD : va_D A [(p0, .inr (6, vL 12 F120)), (h_p0_bytes, .inl (cB, 940, .inl f_p0_bytes)), (h_p0_wordNames, .inl (cJ, 23, .inr (.inl f_p0_wordNames))), (p1, .inr (1, vL 18 F_p1_)), (h_p1_manName, .inl (cJ, 12, .inr (.inl f_p1_manName))), (h0, .inr (8, vL 5 F154)), (h_step, .inl (cI, 40, .inl g156)), (h_sign, .inl (cI, 40, .inl g157)), (h_value, .inl (cI, 40, .inl g158))] := hD
            refine W.widen (k := 0) (n := 0) (Nat.le_of_ble_eq_true rfl) (Nat.le_of_ble_eq_true rfl) ?_
            refine lv_pop hx hb dX8_readAll_56 rfl ?_
            obtain ⟨v163, ev163⟩ : ∃ z : Int32, z = u35 + 1 := ⟨_, rfl⟩
            have bv163 : v163.toInt = u35.toInt + 1 := by rw [ev163]; exact add_k rfl rfl k68 ⟨Int.le_refl _, Int.le_refl _⟩ (by decide)
            have k164 : 1 ≤ v163.toInt ∧ v163.toInt ≤ 200 := add_r bv163 k68 ⟨Int.le_refl _, Int.le_refl _⟩ (by decide)
            refine lv_iinc (v := v163) (lv' := [(4, .int v163), (0, .ref h0), (1, .ref p0), (2, .ref p1), (3, .int 2)]) hx hb dX8_readAll_57 hl (k := 0) rfl (by rw [ev163]; rfl) (by decide) rfl (fun ls hl => ?_)
            refine lv_goto (tgt := 15) hx hb dX8_readAll_60 (by decide) ?_
            have n165 : F154 4 = .int y119 := (SAME.at t159 (by decide) t135)
            exact ih (v163, F154, y155, y119, g156, g157, g158, F120, y121, y122, y123, y124, y125, y126, y127, y128) ⟨(ir_wk k164 (by decide) (by decide)), (SAME.tr (SAME.tr (SAME.tr SAME.rf i52 (by decide)) t132 (by decide)) t159 (by decide)), t160, n165, (ir_wk t161 (by decide) (by decide)), (SAME.tr (SAME.tr (SAME.tr SAME.rf i56 (by decide)) t91 (by decide)) t136 (by decide)), t137, t138, t139, t140, t141, t142, t143, t144, t145⟩ (by show (200 - v163.toInt).toNat < (200 - u35.toInt).toNat; omega) _ _ _ (hP.sub [5, 6, 7, 8, 0, 1, 2, 3, 4] rfl) (hD.sub [5, 6, 7, 8, 0, 1, 2, 3, 4] (by decide) rfl) hS (lv_sub hl [0, 1, 2, 3, 4] rfl)
          · have dc148 : r116.toInt = 0 := eq_i (a := r116.toInt) (b := 0) rfl rfl c148
            have k166 : 0 ≤ r116.toInt ∧ r116.toInt ≤ 0 := ⟨t146.1, Int.le_trans (Int.le_of_eq dc148) (Int.le_refl _)⟩
            refine lv_iconst (v := 0) hx hb dX8_readAll_46 (by decide) ?_
            exact ret_i (v := 0) hx hb hr hlocks hS hP hD dX8_readAll_47 rfl (Nat.le_of_ble_eq_true rfl) (Nat.le_of_ble_eq_true rfl) ⟨F117, y118, y119, F120, y121, y122, y123, y124, y125, y126, y127, y128, g129, g130, g131, (SAME.tr (SAME.tr (SAME.tr SAME.rf t17 (by decide)) i52 (by decide)) t132 (by decide)), t133, t134, t135, (SAME.tr (SAME.tr (SAME.tr (SAME.tr SAME.rf t21 (by decide)) i56 (by decide)) t91 (by decide)) t136 (by decide)), t137, t138, t139, t140, t141, t142, t143, t144, t145, (show 0 ≤ (0 : Int32).toInt ∧ (0 : Int32).toInt ≤ 1 by decide), rfl⟩
  · have dc33 : r1.toInt = 0 := eq_i (a := r1.toInt) (b := 0) rfl rfl c33
    have k167 : 0 ≤ r1.toInt ∧ r1.toInt ≤ 0 := ⟨t31.1, Int.le_trans (Int.le_of_eq dc33) (Int.le_refl _)⟩
    refine lv_iconst (v := 0) hx hb dX8_readAll_10 (by decide) ?_
    exact ret_i (v := 0) hx hb hr hlocks hS hP hD dX8_readAll_11 rfl (Nat.le_of_ble_eq_true rfl) (Nat.le_of_ble_eq_true rfl) ⟨F2, y3, y4, F5, y6, y7, y8, y9, y10, y11, y12, y13, g14, g15, g16, (SAME.tr SAME.rf t17 (by decide)), t18, t19, t20, (SAME.tr SAME.rf t21 (by decide)), t22, t23, t24, t25, t26, t27, t28, t29, t30, (show 0 ≤ (0 : Int32).toInt ∧ (0 : Int32).toInt ≤ 1 by decide), rfl⟩
set_option maxHeartbeats 4000000 in
set_option maxRecDepth 100000 in
theorem m_X8_readCond_2 (l : Launch) (D : va_G) (cI cJ cB cP cM cZ : ClassId) (h0 : Nat) (h_step : Nat) (h_sign : Nat) (h_value : Nat) (p0 : Nat) (h_p0_bytes : Nat) (h_p0_wordNames : Nat) (p1 : Nat) (h_p1_manName : Nat) (Fh : Nat → Value) (x_steps : Int32) (x_ones : Int32) (f_step : Nat → Int32) (f_sign : Nat → Int32) (f_value : Nat → Int32) (F_p0_ : Nat → Value) (x_p0_length : Int32) (x_p0_kind : Int32) (x_p0_place : Int32) (x_p0_value : Int32) (x_p0_name : Int64) (x_p0_number : Int32) (x_p0_faultKind : Int32) (x_p0_faultPlace : Int32) (x_p0_at : Int32) (x_p0_mostBytes : Int32) (f_p0_bytes : Nat → Int32) (f_p0_wordNames : Nat → Int64) (F_p1_ : Nat → Value) (x_p1_men : Int32) (f_p1_manName : Nat → Int64) (sz : Nat) (e_step : Fh 0 = .ref h_step) (e_sign : Fh 1 = .ref h_sign) (e_value : Fh 2 = .ref h_value) (e_steps : Fh 3 = .int x_steps) (i_x_steps : IR 0 40 x_steps) (e_ones : Fh 4 = .int x_ones) (e_p0_bytes : F_p0_ 0 = .ref h_p0_bytes) (e_p0_length : F_p0_ 1 = .int x_p0_length) (i_x_p0_length : IR 0 940 x_p0_length) (e_p0_kind : F_p0_ 2 = .int x_p0_kind) (e_p0_place : F_p0_ 3 = .int x_p0_place) (e_p0_value : F_p0_ 4 = .int x_p0_value) (e_p0_name : F_p0_ 5 = .long x_p0_name) (e_p0_number : F_p0_ 6 = .int x_p0_number) (e_p0_faultKind : F_p0_ 7 = .int x_p0_faultKind) (e_p0_faultPlace : F_p0_ 8 = .int x_p0_faultPlace) (e_p0_wordNames : F_p0_ 9 = .ref h_p0_wordNames) (e_p0_at : F_p0_ 10 = .int x_p0_at) (i_x_p0_at : IR 0 940 x_p0_at) (e_p0_mostBytes : F_p0_ 11 = .int x_p0_mostBytes) (s_p0_bytes_0 : SG 0 939 (-128) 127 f_p0_bytes) (s_p0_wordNames_KN : KWN f_p0_wordNames) (e_p1_manName : F_p1_ 2 = .ref h_p1_manName) (e_p1_men : F_p1_ 13 = .int x_p1_men) (i_x_p1_men : IR 0 12 x_p1_men) : CI l yX8_readCond cX8_readCond 5 (some .boolean) { frames := 24, cells := 0, slots := 0, locals := 581 } (GG D cI cJ cB cP cM cZ) D [(h0, .inr (8, vL 5 Fh)), (h_step, .inl (cI, 40, .inl f_step)), (h_sign, .inl (cI, 40, .inl f_sign)), (h_value, .inl (cI, 40, .inl f_value)), (p0, .inr (6, vL 12 F_p0_)), (h_p0_bytes, .inl (cB, 940, .inl f_p0_bytes)), (h_p0_wordNames, .inl (cJ, 23, .inr (.inl f_p0_wordNames))), (p1, .inr (1, vL 18 F_p1_)), (h_p1_manName, .inl (cJ, 12, .inr (.inl f_p1_manName)))] sz [.ref h0, .ref p0, .ref p1, .int 2] (fun (r : Int32) (u : va_W) => ∃ (Gh : Nat → Value) (y_steps : Int32) (y_ones : Int32) (G_p0_ : Nat → Value) (y_p0_kind : Int32) (y_p0_place : Int32) (y_p0_value : Int32) (y_p0_name : Int64) (y_p0_number : Int32) (y_p0_faultKind : Int32) (y_p0_faultPlace : Int32) (y_p0_at : Int32) (g_step : Nat → Int32) (g_sign : Nat → Int32) (g_value : Nat → Int32), SAME [3, 4] Fh Gh ∧ Gh 3 = .int y_steps ∧ IR 0 40 y_steps ∧ Gh 4 = .int y_ones ∧ SAME [2, 3, 4, 5, 6, 7, 8, 10] F_p0_ G_p0_ ∧ G_p0_ 2 = .int y_p0_kind ∧ G_p0_ 3 = .int y_p0_place ∧ G_p0_ 4 = .int y_p0_value ∧ G_p0_ 5 = .long y_p0_name ∧ G_p0_ 6 = .int y_p0_number ∧ G_p0_ 7 = .int y_p0_faultKind ∧ G_p0_ 8 = .int y_p0_faultPlace ∧ G_p0_ 10 = .int y_p0_at ∧ IR 0 940 y_p0_at ∧ IR 0 1 r ∧ u = [(h0, .inr (8, vL 5 Gh)), (h_step, .inl (cI, 40, .inl g_step)), (h_sign, .inl (cI, 40, .inl g_sign)), (h_value, .inl (cI, 40, .inl g_value)), (p0, .inr (6, vL 12 G_p0_)), (h_p0_bytes, .inl (cB, 940, .inl f_p0_bytes)), (h_p0_wordNames, .inl (cJ, 23, .inr (.inl f_p0_wordNames))), (p1, .inr (1, vL 18 F_p1_)), (h_p1_manName, .inl (cJ, 12, .inr (.inl f_p1_manName)))]) := by
  refine CI_mk (by decide) (Nat.le_of_ble_eq_true rfl) ?_
  intro p e s m below meth c A ls E hAe hG hsz hP hD hA hS hl
  obtain ⟨hx, hb, hr, hw, hown, hlocks, hml, hnm⟩ := E
  have hK := hG.1
  have i_x_steps : 0 ≤ x_steps.toInt ∧ x_steps.toInt ≤ 40 := i_x_steps
  have i_x_p0_length : 0 ≤ x_p0_length.toInt ∧ x_p0_length.toInt ≤ 940 := i_x_p0_length
  have i_x_p0_at : 0 ≤ x_p0_at.toInt ∧ x_p0_at.toInt ≤ 940 := i_x_p0_at
  have i_x_p1_men : 0 ≤ x_p1_men.toInt ∧ x_p1_men.toInt ≤ 12 := i_x_p1_men
  have hl : lv_has ls 5 [(0, .ref h0), (1, .ref p0), (2, .ref p1), (3, .int 2)] := hl
  refine lv_aload_n hx hb dX8_readCond_0 rfl (lv_at hl 0 rfl) ?_
  refine lv_aload_n hx hb dX8_readCond_1 rfl (lv_at hl 1 rfl) ?_
  refine lv_aload_n hx hb dX8_readCond_2 rfl (lv_at hl 2 rfl) ?_
  refine lv_iload_n hx hb dX8_readCond_3 rfl (lv_at hl 3 rfl) ?_
  refine call_Vi (wr := []) (As := [.ref p0, .ref p1, .int 2]) (rest := []) hx hb hml hown hw (m_X8_readAll_2 l D cI cJ cB cP cM cZ h0 h_step h_sign h_value p0 h_p0_bytes h_p0_wordNames p1 h_p1_manName Fh x_steps x_ones f_step f_sign f_value F_p0_ x_p0_length x_p0_kind x_p0_place x_p0_value x_p0_name x_p0_number x_p0_faultKind x_p0_faultPlace x_p0_at x_p0_mostBytes f_p0_bytes f_p0_wordNames F_p1_ x_p1_men f_p1_manName _ e_step e_sign e_value e_steps i_x_steps e_ones e_p0_bytes e_p0_length i_x_p0_length e_p0_kind e_p0_place e_p0_value e_p0_name e_p0_number e_p0_faultKind e_p0_faultPlace e_p0_wordNames e_p0_at i_x_p0_at e_p0_mostBytes s_p0_bytes_0 s_p0_wordNames_KN e_p1_manName e_p1_men i_x_p1_men) wV_X8_28_X8_readAll dX8_readCond_4 hK hP hD hS hA [0, 1, 2, 3, 4, 5, 6, 7, 8] [] rfl rfl (by decide) (by decide) (by decide) 0 8 rfl rfl GG.fb hG.at hl.1 rfl (Nat.le_of_ble_eq_true rfl) ⟨(Nat.le_of_ble_eq_true rfl), (Nat.le_of_ble_eq_true rfl)⟩ ⟨(Nat.le_of_ble_eq_true rfl), (Nat.le_of_ble_eq_true rfl)⟩ (fun r1 u H locs hp hP hD hS => ?_)
  have zl2 : (2 : Int32).toInt = 2 := by decide
  refine hp.elim (fun F2 h9z0 => h9z0.elim (fun y3 h9z1 => h9z1.elim (fun y4 h9z2 => h9z2.elim (fun F5 h9z3 => h9z3.elim (fun y6 h9z4 => h9z4.elim (fun y7 h9z5 => h9z5.elim (fun y8 h9z6 => h9z6.elim (fun y9 h9z7 => h9z7.elim (fun y10 h9z8 => h9z8.elim (fun y11 h9z9 => h9z9.elim (fun y12 h9z10 => h9z10.elim (fun y13 h9z11 => h9z11.elim (fun g14 h9z12 => h9z12.elim (fun g15 h9z13 => h9z13.elim (fun g16 h9z14 => h9z14.elim (fun t17 h9z15 => h9z15.elim (fun t18 h9z16 => h9z16.elim (fun t19 h9z17 => h9z17.elim (fun t20 h9z18 => h9z18.elim (fun t21 h9z19 => h9z19.elim (fun t22 h9z20 => h9z20.elim (fun t23 h9z21 => h9z21.elim (fun t24 h9z22 => h9z22.elim (fun t25 h9z23 => h9z23.elim (fun t26 h9z24 => h9z24.elim (fun t27 h9z25 => h9z25.elim (fun t28 h9z26 => h9z26.elim (fun t29 h9z27 => h9z27.elim (fun t30 h9z28 => h9z28.elim (fun t31 h9z29 => ?_))))))))))))))))))))))))))))))
  clear h9z0 h9z1 h9z2 h9z3 h9z4 h9z5 h9z6 h9z7 h9z8 h9z9 h9z10 h9z11 h9z12 h9z13 h9z14 h9z15 h9z16 h9z17 h9z18 h9z19 h9z20 h9z21 h9z22 h9z23 h9z24 h9z25 h9z26 h9z27 h9z28
  subst h9z29
  have hP : va_P D vwCl [(h0, .inr (8, vL 5 F2)), (h_step, .inl (cI, 40, .inl g14)), (h_sign, .inl (cI, 40, .inl g15)), (h_value, .inl (cI, 40, .inl g16)), (p0, .inr (6, vL 12 F5)), (h_p0_bytes, .inl (cB, 940, .inl f_p0_bytes)), (h_p0_wordNames, .inl (cJ, 23, .inr (.inl f_p0_wordNames))), (p1, .inr (1, vL 18 F_p1_)), (h_p1_manName, .inl (cJ, 12, .inr (.inl f_p1_manName)))] H := hP
  have hD : va_D A [(h0, .inr (8, vL 5 F2)), (h_step, .inl (cI, 40, .inl g14)), (h_sign, .inl (cI, 40, .inl g15)), (h_value, .inl (cI, 40, .inl g16)), (p0, .inr (6, vL 12 F5)), (h_p0_bytes, .inl (cB, 940, .inl f_p0_bytes)), (h_p0_wordNames, .inl (cJ, 23, .inr (.inl f_p0_wordNames))), (p1, .inr (1, vL 18 F_p1_)), (h_p1_manName, .inl (cJ, 12, .inr (.inl f_p1_manName)))] := hD
  refine W.widen (k := 0) (n := 0) (Nat.le_of_ble_eq_true rfl) (Nat.le_of_ble_eq_true rfl) ?_
  refine lv_if_ne (tgt := 12) hx hb dX8_readCond_7 (by decide) (fun c33 => ?_) (fun c33 => ?_)
  · have dc33 : r1.toInt ≠ 0 := ne_i (a := r1.toInt) (b := 0) rfl rfl c33
    have k34 : 1 ≤ r1.toInt ∧ r1.toInt ≤ 1 := ⟨ne_lo dc33 t31.1 ⟨Int.le_refl _, Int.le_refl _⟩ (by decide), t31.2⟩
    refine lv_iconst (v := 0) hx hb dX8_readCond_12 (by decide) ?_
    refine lv_istore (lv' := [(4, .int 0), (0, .ref h0), (1, .ref p0), (2, .ref p1), (3, .int 2)]) hx hb dX8_readCond_13 hl (by decide) rfl (fun ls hl => ?_)
    refine mloop (α := (Int32) × (Nat → Value) × (Int32) × (Int32) × (Nat → Int32) × (Nat → Int32) × (Nat → Int32) × (Nat → Value) × (Int32) × (Int32) × (Int32) × (Int64) × (Int32) × (Int32) × (Int32) × (Int32)) (nL := 5) (D := D) (A := A) (H0 := s.heap) (fun a => (200 - a.1.toInt).toNat) (fun a => IR 0 200 a.1 ∧ SAME [3, 4] F2 a.2.1 ∧ a.2.1 3 = .int a.2.2.1 ∧ a.2.1 4 = .int a.2.2.2.1 ∧ IR 0 40 a.2.2.1 ∧ SAME [2, 3, 4, 5, 6, 7, 8, 10] F5 a.2.2.2.2.2.2.2.1 ∧ a.2.2.2.2.2.2.2.1 2 = .int a.2.2.2.2.2.2.2.2.1 ∧ a.2.2.2.2.2.2.2.1 3 = .int a.2.2.2.2.2.2.2.2.2.1 ∧ a.2.2.2.2.2.2.2.1 4 = .int a.2.2.2.2.2.2.2.2.2.2.1 ∧ a.2.2.2.2.2.2.2.1 5 = .long a.2.2.2.2.2.2.2.2.2.2.2.1 ∧ a.2.2.2.2.2.2.2.1 6 = .int a.2.2.2.2.2.2.2.2.2.2.2.2.1 ∧ a.2.2.2.2.2.2.2.1 7 = .int a.2.2.2.2.2.2.2.2.2.2.2.2.2.1 ∧ a.2.2.2.2.2.2.2.1 8 = .int a.2.2.2.2.2.2.2.2.2.2.2.2.2.2.1 ∧ a.2.2.2.2.2.2.2.1 10 = .int a.2.2.2.2.2.2.2.2.2.2.2.2.2.2.2 ∧ IR 0 940 a.2.2.2.2.2.2.2.2.2.2.2.2.2.2.2) (fun a => [(h0, .inr (8, vL 5 a.2.1)), (h_step, .inl (cI, 40, .inl a.2.2.2.2.1)), (h_sign, .inl (cI, 40, .inl a.2.2.2.2.2.1)), (h_value, .inl (cI, 40, .inl a.2.2.2.2.2.2.1)), (p0, .inr (6, vL 12 a.2.2.2.2.2.2.2.1)), (h_p0_bytes, .inl (cB, 940, .inl f_p0_bytes)), (h_p0_wordNames, .inl (cJ, 23, .inr (.inl f_p0_wordNames))), (p1, .inr (1, vL 18 F_p1_)), (h_p1_manName, .inl (cJ, 12, .inr (.inl f_p1_manName)))]) (fun a => [(4, .int a.1), (0, .ref h0), (1, .ref p0), (2, .ref p1), (3, .int 2)]) (fun H locs ls => W p l e ({ frames := 24, cells := 0, slots := 0, locals := 581 } : Room) s m [.ref h0, .ref p0, .ref p1, .int 2].toArray below meth c H locs 0 0 (MQ below (va_Qi (fun (r : Int32) (u : va_W) => ∃ (Gh : Nat → Value) (y_steps : Int32) (y_ones : Int32) (G_p0_ : Nat → Value) (y_p0_kind : Int32) (y_p0_place : Int32) (y_p0_value : Int32) (y_p0_name : Int64) (y_p0_number : Int32) (y_p0_faultKind : Int32) (y_p0_faultPlace : Int32) (y_p0_at : Int32) (g_step : Nat → Int32) (g_sign : Nat → Int32) (g_value : Nat → Int32), SAME [3, 4] Fh Gh ∧ Gh 3 = .int y_steps ∧ IR 0 40 y_steps ∧ Gh 4 = .int y_ones ∧ SAME [2, 3, 4, 5, 6, 7, 8, 10] F_p0_ G_p0_ ∧ G_p0_ 2 = .int y_p0_kind ∧ G_p0_ 3 = .int y_p0_place ∧ G_p0_ 4 = .int y_p0_value ∧ G_p0_ 5 = .long y_p0_name ∧ G_p0_ 6 = .int y_p0_number ∧ G_p0_ 7 = .int y_p0_faultKind ∧ G_p0_ 8 = .int y_p0_faultPlace ∧ G_p0_ 10 = .int y_p0_at ∧ IR 0 940 y_p0_at ∧ IR 0 1 r ∧ u = [(h0, .inr (8, vL 5 Gh)), (h_step, .inl (cI, 40, .inl g_step)), (h_sign, .inl (cI, 40, .inl g_sign)), (h_value, .inl (cI, 40, .inl g_value)), (p0, .inr (6, vL 12 G_p0_)), (h_p0_bytes, .inl (cB, 940, .inl f_p0_bytes)), (h_p0_wordNames, .inl (cJ, 23, .inr (.inl f_p0_wordNames))), (p1, .inr (1, vL 18 F_p1_)), (h_p1_manName, .inl (cJ, 12, .inr (.inl f_p1_manName)))]) (PO D A) A) [.ref h0, .ref p0, .ref p1, .int 2].toArray s 0 0 A) (F0 m 15 ls [])) ?_ (0, F2, y3, y4, g14, g15, g16, F5, y6, y7, y8, y9, y10, y11, y12, y13) ⟨(show 0 ≤ (0 : Int32).toInt ∧ (0 : Int32).toInt ≤ 200 by decide), SAME.rf, t18, t20, t19, SAME.rf, t22, t23, t24, t25, t26, t27, t28, t29, t30⟩ _ _ _ hP hD hS hl
    rintro ⟨u35, G36, u37, u38, w39, w40, w41, G42, u43, u44, u45, u46, u47, u48, u49, u50⟩ ⟨i51, i52, i53, i54, i55, i56, i57, i58, i59, i60, i61, i62, i63, i64, i65⟩ ih H locs ls hP hD hS hl
    have i51 : 0 ≤ u35.toInt ∧ u35.toInt ≤ 200 := i51
    have i55 : 0 ≤ u37.toInt ∧ u37.toInt ≤ 40 := i55
    have i65 : 0 ≤ u50.toInt ∧ u50.toInt ≤ 940 := i65
    have hP : va_P D vwCl [(h0, .inr (8, vL 5 G36)), (h_step, .inl (cI, 40, .inl w39)), (h_sign, .inl (cI, 40, .inl w40)), (h_value, .inl (cI, 40, .inl w41)), (p0, .inr (6, vL 12 G42)), (h_p0_bytes, .inl (cB, 940, .inl f_p0_bytes)), (h_p0_wordNames, .inl (cJ, 23, .inr (.inl f_p0_wordNames))), (p1, .inr (1, vL 18 F_p1_)), (h_p1_manName, .inl (cJ, 12, .inr (.inl f_p1_manName)))] H := hP
    have hD : va_D A [(h0, .inr (8, vL 5 G36)), (h_step, .inl (cI, 40, .inl w39)), (h_sign, .inl (cI, 40, .inl w40)), (h_value, .inl (cI, 40, .inl w41)), (p0, .inr (6, vL 12 G42)), (h_p0_bytes, .inl (cB, 940, .inl f_p0_bytes)), (h_p0_wordNames, .inl (cJ, 23, .inr (.inl f_p0_wordNames))), (p1, .inr (1, vL 18 F_p1_)), (h_p1_manName, .inl (cJ, 12, .inr (.inl f_p1_manName)))] := hD
    have hl : lv_has ls 5 [(4, .int u35), (0, .ref h0), (1, .ref p0), (2, .ref p1), (3, .int 2)] := hl
    refine lv_iload hx hb dX8_readCond_15 (lv_at hl 0 rfl) ?_
    refine lv_sipush (v := 200) hx hb dX8_readCond_17 (by decide) ?_
    refine lv_icmp_ge (tgt := 63) hx hb dX8_readCond_20 (by decide) (fun c66 => ?_) (fun c66 => ?_)
    · have dc66 : 200 ≤ u35.toInt := le_i (a := 200) (b := u35.toInt) rfl rfl c66
      have k67 : 200 ≤ u35.toInt ∧ u35.toInt ≤ 200 := ⟨Int.le_trans (Int.le_refl _) dc66, i51.2⟩
      refine lv_iload_n hx hb dX8_readCond_63 rfl (lv_at hl 4 rfl) ?_
      refine lv_iconst (v := 1) hx hb dX8_readCond_64 (by decide) ?_
      refine lv_icmp_gt (tgt := 83) hx hb dX8_readCond_65 (by decide) (fun _ => ?_) (fun g => absurd (by decide) g)
      refine lv_iconst (v := 1) hx hb dX8_readCond_83 (by decide) ?_
      refine lv_goto (tgt := 88) hx hb dX8_readCond_84 (by decide) ?_
      exact ret_i (v := 1) hx hb hr hlocks hS hP hD dX8_readCond_88 rfl (Nat.le_of_ble_eq_true rfl) (Nat.le_of_ble_eq_true rfl) ⟨G36, u37, u38, G42, u43, u44, u45, u46, u47, u48, u49, u50, w39, w40, w41, (SAME.tr (SAME.tr SAME.rf t17 (by decide)) i52 (by decide)), i53, i55, i54, (SAME.tr (SAME.tr SAME.rf t21 (by decide)) i56 (by decide)), i57, i58, i59, i60, i61, i62, i63, i64, i65, (show 0 ≤ (1 : Int32).toInt ∧ (1 : Int32).toInt ≤ 1 by decide), rfl⟩
    · have dc66 : u35.toInt < 200 := nle_i (a := 200) (b := u35.toInt) rfl rfl c66
      have k68 : 0 ≤ u35.toInt ∧ u35.toInt ≤ 199 := ⟨i51.1, up_lt dc66 (Int.le_refl _) (by decide)⟩
      refine lv_aload_n hx hb dX8_readCond_23 rfl (lv_at hl 2 rfl) ?_
      refine call_Vi (wr := [(h0, .inr (8, vL 5 G36)), (h_step, .inl (cI, 40, .inl w39)), (h_sign, .inl (cI, 40, .inl w40)), (h_value, .inl (cI, 40, .inl w41)), (h_p0_bytes, .inl (cB, 940, .inl f_p0_bytes)), (h_p0_wordNames, .inl (cJ, 23, .inr (.inl f_p0_wordNames))), (p1, .inr (1, vL 18 F_p1_)), (h_p1_manName, .inl (cJ, 12, .inr (.inl f_p1_manName)))]) (As := []) (rest := []) hx hb hml hown hw (m_X6_wordHere l D cI cJ cB cP cM cZ p0 G42 u43 u45 _ i57 i59) wV_X8_32_X6_wordHere dX8_readCond_24 hK hP hD hS hA [4] [0, 1, 2, 3, 5, 6, 7, 8] rfl rfl (by decide) (by decide) (by decide) 0 6 rfl rfl GG.fb hG.at hl.1 rfl (Nat.le_of_ble_eq_true rfl) ⟨(Nat.le_of_ble_eq_true rfl), (Nat.le_of_ble_eq_true rfl)⟩ ⟨(Nat.le_of_ble_eq_true rfl), (Nat.le_of_ble_eq_true rfl)⟩ (fun r69 u H locs hp hP hD hS => ?_)
      rcases hp with ⟨t70, rfl, rfl⟩ | ⟨t71, er72, rfl⟩
      · have hP : va_P D vwCl [(h0, .inr (8, vL 5 G36)), (h_step, .inl (cI, 40, .inl w39)), (h_sign, .inl (cI, 40, .inl w40)), (h_value, .inl (cI, 40, .inl w41)), (h_p0_bytes, .inl (cB, 940, .inl f_p0_bytes)), (h_p0_wordNames, .inl (cJ, 23, .inr (.inl f_p0_wordNames))), (p1, .inr (1, vL 18 F_p1_)), (h_p1_manName, .inl (cJ, 12, .inr (.inl f_p1_manName))), (p0, .inr (6, vL 12 G42))] H := hP
        have hD : va_D A [(h0, .inr (8, vL 5 G36)), (h_step, .inl (cI, 40, .inl w39)), (h_sign, .inl (cI, 40, .inl w40)), (h_value, .inl (cI, 40, .inl w41)), (h_p0_bytes, .inl (cB, 940, .inl f_p0_bytes)), (h_p0_wordNames, .inl (cJ, 23, .inr (.inl f_p0_wordNames))), (p1, .inr (1, vL 18 F_p1_)), (h_p1_manName, .inl (cJ, 12, .inr (.inl f_p1_manName))), (p0, .inr (6, vL 12 G42))] := hD
        refine W.widen (k := 0) (n := 0) (Nat.le_of_ble_eq_true rfl) (Nat.le_of_ble_eq_true rfl) ?_
        refine lv_bipush (v := 14) hx hb dX8_readCond_27 (by decide) ?_
        refine lv_icmp_ne (tgt := 63) hx hb dX8_readCond_29 (by decide) (fun _ => ?_) (fun g => absurd g (by decide))
        refine lv_iload_n hx hb dX8_readCond_63 rfl (lv_at hl 4 rfl) ?_
        refine lv_iconst (v := 1) hx hb dX8_readCond_64 (by decide) ?_
        refine lv_icmp_gt (tgt := 83) hx hb dX8_readCond_65 (by decide) (fun _ => ?_) (fun g => absurd (by decide) g)
        refine lv_iconst (v := 1) hx hb dX8_readCond_83 (by decide) ?_
        refine lv_goto (tgt := 88) hx hb dX8_readCond_84 (by decide) ?_
        exact ret_i (v := 1) hx hb hr hlocks hS (hP.sub (ws' := [(h0, .inr (8, vL 5 G36)), (h_step, .inl (cI, 40, .inl w39)), (h_sign, .inl (cI, 40, .inl w40)), (h_value, .inl (cI, 40, .inl w41)), (p0, .inr (6, vL 12 G42)), (h_p0_bytes, .inl (cB, 940, .inl f_p0_bytes)), (h_p0_wordNames, .inl (cJ, 23, .inr (.inl f_p0_wordNames))), (p1, .inr (1, vL 18 F_p1_)), (h_p1_manName, .inl (cJ, 12, .inr (.inl f_p1_manName)))]) [0, 1, 2, 3, 8, 4, 5, 6, 7] rfl) (hD.sub (ws' := [(h0, .inr (8, vL 5 G36)), (h_step, .inl (cI, 40, .inl w39)), (h_sign, .inl (cI, 40, .inl w40)), (h_value, .inl (cI, 40, .inl w41)), (p0, .inr (6, vL 12 G42)), (h_p0_bytes, .inl (cB, 940, .inl f_p0_bytes)), (h_p0_wordNames, .inl (cJ, 23, .inr (.inl f_p0_wordNames))), (p1, .inr (1, vL 18 F_p1_)), (h_p1_manName, .inl (cJ, 12, .inr (.inl f_p1_manName)))]) [0, 1, 2, 3, 8, 4, 5, 6, 7] (by decide) rfl) dX8_readCond_88 rfl (Nat.le_of_ble_eq_true rfl) (Nat.le_of_ble_eq_true rfl) ⟨G36, u37, u38, G42, u43, u44, u45, u46, u47, u48, u49, u50, w39, w40, w41, (SAME.tr (SAME.tr SAME.rf t17 (by decide)) i52 (by decide)), i53, i55, i54, (SAME.tr (SAME.tr SAME.rf t21 (by decide)) i56 (by decide)), i57, i58, i59, i60, i61, i62, i63, i64, i65, (show 0 ≤ (1 : Int32).toInt ∧ (1 : Int32).toInt ≤ 1 by decide), rfl⟩
      · have hP : va_P D vwCl [(h0, .inr (8, vL 5 G36)), (h_step, .inl (cI, 40, .inl w39)), (h_sign, .inl (cI, 40, .inl w40)), (h_value, .inl (cI, 40, .inl w41)), (h_p0_bytes, .inl (cB, 940, .inl f_p0_bytes)), (h_p0_wordNames, .inl (cJ, 23, .inr (.inl f_p0_wordNames))), (p1, .inr (1, vL 18 F_p1_)), (h_p1_manName, .inl (cJ, 12, .inr (.inl f_p1_manName))), (p0, .inr (6, vL 12 G42))] H := hP
        have hD : va_D A [(h0, .inr (8, vL 5 G36)), (h_step, .inl (cI, 40, .inl w39)), (h_sign, .inl (cI, 40, .inl w40)), (h_value, .inl (cI, 40, .inl w41)), (h_p0_bytes, .inl (cB, 940, .inl f_p0_bytes)), (h_p0_wordNames, .inl (cJ, 23, .inr (.inl f_p0_wordNames))), (p1, .inr (1, vL 18 F_p1_)), (h_p1_manName, .inl (cJ, 12, .inr (.inl f_p1_manName))), (p0, .inr (6, vL 12 G42))] := hD
        refine W.widen (k := 0) (n := 0) (Nat.le_of_ble_eq_true rfl) (Nat.le_of_ble_eq_true rfl) ?_
        refine lv_ci (y := u45) er72 ?_
        have k73 : 2 ≤ u43.toInt ∧ u43.toInt ≤ 2 := ⟨Int.le_trans (Int.le_refl _) (Int.le_of_eq t71.symm), Int.le_trans (Int.le_of_eq t71) (Int.le_refl _)⟩
        refine lv_bipush (v := 14) hx hb dX8_readCond_27 (by decide) ?_
        refine lv_icmp_ne (tgt := 63) hx hb dX8_readCond_29 (by decide) (fun c74 => ?_) (fun c74 => ?_)
        · have dc74 : u45.toInt ≠ 14 := ne_i (a := u45.toInt) (b := 14) rfl rfl c74
          refine lv_iload_n hx hb dX8_readCond_63 rfl (lv_at hl 4 rfl) ?_
          refine lv_iconst (v := 1) hx hb dX8_readCond_64 (by decide) ?_
          refine lv_icmp_gt (tgt := 83) hx hb dX8_readCond_65 (by decide) (fun _ => ?_) (fun g => absurd (by decide) g)
          refine lv_iconst (v := 1) hx hb dX8_readCond_83 (by decide) ?_
          refine lv_goto (tgt := 88) hx hb dX8_readCond_84 (by decide) ?_
          exact ret_i (v := 1) hx hb hr hlocks hS (hP.sub (ws' := [(h0, .inr (8, vL 5 G36)), (h_step, .inl (cI, 40, .inl w39)), (h_sign, .inl (cI, 40, .inl w40)), (h_value, .inl (cI, 40, .inl w41)), (p0, .inr (6, vL 12 G42)), (h_p0_bytes, .inl (cB, 940, .inl f_p0_bytes)), (h_p0_wordNames, .inl (cJ, 23, .inr (.inl f_p0_wordNames))), (p1, .inr (1, vL 18 F_p1_)), (h_p1_manName, .inl (cJ, 12, .inr (.inl f_p1_manName)))]) [0, 1, 2, 3, 8, 4, 5, 6, 7] rfl) (hD.sub (ws' := [(h0, .inr (8, vL 5 G36)), (h_step, .inl (cI, 40, .inl w39)), (h_sign, .inl (cI, 40, .inl w40)), (h_value, .inl (cI, 40, .inl w41)), (p0, .inr (6, vL 12 G42)), (h_p0_bytes, .inl (cB, 940, .inl f_p0_bytes)), (h_p0_wordNames, .inl (cJ, 23, .inr (.inl f_p0_wordNames))), (p1, .inr (1, vL 18 F_p1_)), (h_p1_manName, .inl (cJ, 12, .inr (.inl f_p1_manName)))]) [0, 1, 2, 3, 8, 4, 5, 6, 7] (by decide) rfl) dX8_readCond_88 rfl (Nat.le_of_ble_eq_true rfl) (Nat.le_of_ble_eq_true rfl) ⟨G36, u37, u38, G42, u43, u44, u45, u46, u47, u48, u49, u50, w39, w40, w41, (SAME.tr (SAME.tr SAME.rf t17 (by decide)) i52 (by decide)), i53, i55, i54, (SAME.tr (SAME.tr SAME.rf t21 (by decide)) i56 (by decide)), i57, i58, i59, i60, i61, i62, i63, i64, i65, (show 0 ≤ (1 : Int32).toInt ∧ (1 : Int32).toInt ≤ 1 by decide), rfl⟩
        · have dc74 : u45.toInt = 14 := eq_i (a := u45.toInt) (b := 14) rfl rfl c74
          have k75 : 14 ≤ u45.toInt ∧ u45.toInt ≤ 14 := ⟨Int.le_trans (Int.le_refl _) (Int.le_of_eq dc74.symm), Int.le_trans (Int.le_of_eq dc74) (Int.le_refl _)⟩
          refine lv_aload_n hx hb dX8_readCond_32 rfl (lv_at hl 2 rfl) ?_
          have n76 : F5 0 = .ref h_p0_bytes := (SAME.at t21 (by decide) e_p0_bytes)
          have n77 : G42 0 = .ref h_p0_bytes := (SAME.at i56 (by decide) n76)
          have n78 : F5 1 = .int x_p0_length := (SAME.at t21 (by decide) e_p0_length)
          have n79 : G42 1 = .int x_p0_length := (SAME.at i56 (by decide) n78)
          have n80 : F5 9 = .ref h_p0_wordNames := (SAME.at t21 (by decide) e_p0_wordNames)
          have n81 : G42 9 = .ref h_p0_wordNames := (SAME.at i56 (by decide) n80)
          have n82 : F5 11 = .int x_p0_mostBytes := (SAME.at t21 (by decide) e_p0_mostBytes)
          have n83 : G42 11 = .int x_p0_mostBytes := (SAME.at i56 (by decide) n82)
          refine call_Vv (wr := [(h0, .inr (8, vL 5 G36)), (h_step, .inl (cI, 40, .inl w39)), (h_sign, .inl (cI, 40, .inl w40)), (h_value, .inl (cI, 40, .inl w41)), (p1, .inr (1, vL 18 F_p1_)), (h_p1_manName, .inl (cJ, 12, .inr (.inl f_p1_manName)))]) (As := []) (rest := []) hx hb hml hown hw (m_X6_advance l D cI cJ cB cP cM cZ p0 h_p0_bytes h_p0_wordNames G42 x_p0_length u43 u44 u45 u46 u50 x_p0_mostBytes f_p0_bytes f_p0_wordNames _ n77 n79 i_x_p0_length i57 i58 i59 i60 n81 i64 i65 n83 s_p0_bytes_0 s_p0_wordNames_KN) wV_X8_38_X6_advance dX8_readCond_33 hK hP hD hS hA [8, 4, 5] [0, 1, 2, 3, 6, 7] rfl rfl (by decide) (by decide) (by decide) 0 6 rfl rfl GG.fb hG.at hl.1 rfl (Nat.le_of_ble_eq_true rfl) ⟨(Nat.le_of_ble_eq_true rfl), (Nat.le_of_ble_eq_true rfl)⟩ ⟨(Nat.le_of_ble_eq_true rfl), (Nat.le_of_ble_eq_true rfl)⟩ (fun u H locs hp hP hD hS => ?_)
          obtain ⟨F85, y86, y87, y88, y89, y90, t91, t92, t93, t94, t95, t96, t97, t98, t99, t100, t101, rfl⟩ := hp
          have hP : va_P D vwCl [(h0, .inr (8, vL 5 G36)), (h_step, .inl (cI, 40, .inl w39)), (h_sign, .inl (cI, 40, .inl w40)), (h_value, .inl (cI, 40, .inl w41)), (p1, .inr (1, vL 18 F_p1_)), (h_p1_manName, .inl (cJ, 12, .inr (.inl f_p1_manName))), (p0, .inr (6, vL 12 F85)), (h_p0_bytes, .inl (cB, 940, .inl f_p0_bytes)), (h_p0_wordNames, .inl (cJ, 23, .inr (.inl f_p0_wordNames)))] H := hP
          have hD : va_D A [(h0, .inr (8, vL 5 G36)), (h_step, .inl (cI, 40, .inl w39)), (h_sign, .inl (cI, 40, .inl w40)), (h_value, .inl (cI, 40, .inl w41)), (p1, .inr (1, vL 18 F_p1_)), (h_p1_manName, .inl (cJ, 12, .inr (.inl f_p1_manName))), (p0, .inr (6, vL 12 F85)), (h_p0_bytes, .inl (cB, 940, .inl f_p0_bytes)), (h_p0_wordNames, .inl (cJ, 23, .inr (.inl f_p0_wordNames)))] := hD
          refine W.widen (k := 0) (n := 0) (Nat.le_of_ble_eq_true rfl) (Nat.le_of_ble_eq_true rfl) ?_
          refine lv_aload_n hx hb dX8_readCond_36 rfl (lv_at hl 1 rfl) ?_
          refine lv_aload_n hx hb dX8_readCond_37 rfl (lv_at hl 2 rfl) ?_
          refine lv_aload_n hx hb dX8_readCond_38 rfl (lv_at hl 3 rfl) ?_
          refine lv_iload_n hx hb dX8_readCond_39 rfl (lv_at hl 4 rfl) ?_
          have n103 : F2 0 = .ref h_step := (SAME.at t17 (by decide) e_step)
          have n104 : G36 0 = .ref h_step := (SAME.at i52 (by decide) n103)
          have n105 : F2 1 = .ref h_sign := (SAME.at t17 (by decide) e_sign)
          have n106 : G36 1 = .ref h_sign := (SAME.at i52 (by decide) n105)
          have n107 : F2 2 = .ref h_value := (SAME.at t17 (by decide) e_value)
          have n108 : G36 2 = .ref h_value := (SAME.at i52 (by decide) n107)
          have n109 : F85 0 = .ref h_p0_bytes := (SAME.at t91 (by decide) n77)
          have n110 : F85 1 = .int x_p0_length := (SAME.at t91 (by decide) n79)
          have n111 : F85 6 = .int u47 := (SAME.at t91 (by decide) i61)
          have n112 : F85 7 = .int u48 := (SAME.at t91 (by decide) i62)
          have n113 : F85 8 = .int u49 := (SAME.at t91 (by decide) i63)
          have n114 : F85 9 = .ref h_p0_wordNames := (SAME.at t91 (by decide) n81)
          have n115 : F85 11 = .int x_p0_mostBytes := (SAME.at t91 (by decide) n83)
          refine call_Vi (wr := []) (As := [.ref p0, .ref p1, .int 2]) (rest := []) hx hb hml hown hw (m_X8_readAll_2 l D cI cJ cB cP cM cZ h0 h_step h_sign h_value p0 h_p0_bytes h_p0_wordNames p1 h_p1_manName G36 u37 u38 w39 w40 w41 F85 x_p0_length y86 y87 y88 y89 u47 u48 u49 y90 x_p0_mostBytes f_p0_bytes f_p0_wordNames F_p1_ x_p1_men f_p1_manName _ n104 n106 n108 i53 i55 i54 n109 n110 i_x_p0_length t92 t94 t96 t97 n111 n112 n113 n114 t98 t99 n115 s_p0_bytes_0 s_p0_wordNames_KN e_p1_manName e_p1_men i_x_p1_men) wV_X8_28_X8_readAll dX8_readCond_40 hK hP hD hS hA [0, 1, 2, 3, 6, 7, 8, 4, 5] [] rfl rfl (by decide) (by decide) (by decide) 0 8 rfl rfl GG.fb hG.at hl.1 rfl (Nat.le_of_ble_eq_true rfl) ⟨(Nat.le_of_ble_eq_true rfl), (Nat.le_of_ble_eq_true rfl)⟩ ⟨(Nat.le_of_ble_eq_true rfl), (Nat.le_of_ble_eq_true rfl)⟩ (fun r116 u H locs hp hP hD hS => ?_)
          refine hp.elim (fun F117 h9z0 => h9z0.elim (fun y118 h9z1 => h9z1.elim (fun y119 h9z2 => h9z2.elim (fun F120 h9z3 => h9z3.elim (fun y121 h9z4 => h9z4.elim (fun y122 h9z5 => h9z5.elim (fun y123 h9z6 => h9z6.elim (fun y124 h9z7 => h9z7.elim (fun y125 h9z8 => h9z8.elim (fun y126 h9z9 => h9z9.elim (fun y127 h9z10 => h9z10.elim (fun y128 h9z11 => h9z11.elim (fun g129 h9z12 => h9z12.elim (fun g130 h9z13 => h9z13.elim (fun g131 h9z14 => h9z14.elim (fun t132 h9z15 => h9z15.elim (fun t133 h9z16 => h9z16.elim (fun t134 h9z17 => h9z17.elim (fun t135 h9z18 => h9z18.elim (fun t136 h9z19 => h9z19.elim (fun t137 h9z20 => h9z20.elim (fun t138 h9z21 => h9z21.elim (fun t139 h9z22 => h9z22.elim (fun t140 h9z23 => h9z23.elim (fun t141 h9z24 => h9z24.elim (fun t142 h9z25 => h9z25.elim (fun t143 h9z26 => h9z26.elim (fun t144 h9z27 => h9z27.elim (fun t145 h9z28 => h9z28.elim (fun t146 h9z29 => ?_))))))))))))))))))))))))))))))
          clear h9z0 h9z1 h9z2 h9z3 h9z4 h9z5 h9z6 h9z7 h9z8 h9z9 h9z10 h9z11 h9z12 h9z13 h9z14 h9z15 h9z16 h9z17 h9z18 h9z19 h9z20 h9z21 h9z22 h9z23 h9z24 h9z25 h9z26 h9z27 h9z28
          subst h9z29
          have hP : va_P D vwCl [(h0, .inr (8, vL 5 F117)), (h_step, .inl (cI, 40, .inl g129)), (h_sign, .inl (cI, 40, .inl g130)), (h_value, .inl (cI, 40, .inl g131)), (p0, .inr (6, vL 12 F120)), (h_p0_bytes, .inl (cB, 940, .inl f_p0_bytes)), (h_p0_wordNames, .inl (cJ, 23, .inr (.inl f_p0_wordNames))), (p1, .inr (1, vL 18 F_p1_)), (h_p1_manName, .inl (cJ, 12, .inr (.inl f_p1_manName)))] H := hP
          have hD : va_D A [(h0, .inr (8, vL 5 F117)), (h_step, .inl (cI, 40, .inl g129)), (h_sign, .inl (cI, 40, .inl g130)), (h_value, .inl (cI, 40, .inl g131)), (p0, .inr (6, vL 12 F120)), (h_p0_bytes, .inl (cB, 940, .inl f_p0_bytes)), (h_p0_wordNames, .inl (cJ, 23, .inr (.inl f_p0_wordNames))), (p1, .inr (1, vL 18 F_p1_)), (h_p1_manName, .inl (cJ, 12, .inr (.inl f_p1_manName)))] := hD
          refine W.widen (k := 0) (n := 0) (Nat.le_of_ble_eq_true rfl) (Nat.le_of_ble_eq_true rfl) ?_
          refine lv_if_ne (tgt := 48) hx hb dX8_readCond_43 (by decide) (fun c148 => ?_) (fun c148 => ?_)
          · have dc148 : r116.toInt ≠ 0 := ne_i (a := r116.toInt) (b := 0) rfl rfl c148
            have k149 : 1 ≤ r116.toInt ∧ r116.toInt ≤ 1 := ⟨ne_lo dc148 t146.1 ⟨Int.le_refl _, Int.le_refl _⟩ (by decide), t146.2⟩
            refine lv_aload_n hx hb dX8_readCond_48 rfl (lv_at hl 1 rfl) ?_
            refine lv_bipush (v := 14) hx hb dX8_readCond_49 (by decide) ?_
            refine lv_iconst (v := 0) hx hb dX8_readCond_51 (by decide) ?_
            refine lv_iconst (v := 0) hx hb dX8_readCond_52 (by decide) ?_
            have n150 : F117 0 = .ref h_step := (SAME.at t132 (by decide) n104)
            have n151 : F117 1 = .ref h_sign := (SAME.at t132 (by decide) n106)
            have n152 : F117 2 = .ref h_value := (SAME.at t132 (by decide) n108)
            refine call_Vi (wr := [(p0, .inr (6, vL 12 F120)), (h_p0_bytes, .inl (cB, 940, .inl f_p0_bytes)), (h_p0_wordNames, .inl (cJ, 23, .inr (.inl f_p0_wordNames))), (p1, .inr (1, vL 18 F_p1_)), (h_p1_manName, .inl (cJ, 12, .inr (.inl f_p1_manName)))]) (As := [.int 14, .int 0, .int 0]) (rest := []) hx hb hml hown hw (m_X8_addStep l D cI cJ cB cP cM cZ h0 h_step h_sign h_value F117 y118 g129 g130 g131 14 0 0 _ n150 n151 n152 t133 t134) wV_X8_41_X8_addStep dX8_readCond_53 hK hP hD hS hA [0, 1, 2, 3] [4, 5, 6, 7, 8] rfl rfl (by decide) (by decide) (by decide) 0 8 rfl rfl GG.fb hG.at hl.1 rfl (Nat.le_of_ble_eq_true rfl) ⟨(Nat.le_of_ble_eq_true rfl), (Nat.le_of_ble_eq_true rfl)⟩ ⟨(Nat.le_of_ble_eq_true rfl), (Nat.le_of_ble_eq_true rfl)⟩ (fun r153 u H locs hp hP hD hS => ?_)
            have zl0 : (0 : Int32).toInt = 0 := by decide
            have zl14 : (14 : Int32).toInt = 14 := by decide
            obtain ⟨F154, y155, g156, g157, g158, t159, t160, t161, rfl, rfl⟩ := hp
            have hP : va_P D vwCl [(p0, .inr (6, vL 12 F120)), (h_p0_bytes, .inl (cB, 940, .inl f_p0_bytes)), (h_p0_wordNames, .inl (cJ, 23, .inr (.inl f_p0_wordNames))), (p1, .inr (1, vL 18 F_p1_)), (h_p1_manName, .inl (cJ, 12, .inr (.inl f_p1_manName))), (h0, .inr (8, vL 5 F154)), (h_step, .inl (cI, 40, .inl g156)), (h_sign, .inl (cI, 40, .inl g157)), (h_value, .inl (cI, 40, .inl g158))] H := hP
            have hD : va_D A [(p0, .inr (6, vL 12 F120)), (h_p0_bytes, .inl (cB, 940, .inl f_p0_bytes)), (h_p0_wordNames, .inl (cJ, 23, .inr (.inl f_p0_wordNames))), (p1, .inr (1, vL 18 F_p1_)), (h_p1_manName, .inl (cJ, 12, .inr (.inl f_p1_manName))), (h0, .inr (8, vL 5 F154)), (h_step, .inl (cI, 40, .inl g156)), (h_sign, .inl (cI, 40, .inl g157)), (h_value, .inl (cI, 40, .inl g158))] := hD
            refine W.widen (k := 0) (n := 0) (Nat.le_of_ble_eq_true rfl) (Nat.le_of_ble_eq_true rfl) ?_
            refine lv_pop hx hb dX8_readCond_56 rfl ?_
            obtain ⟨v163, ev163⟩ : ∃ z : Int32, z = u35 + 1 := ⟨_, rfl⟩
            have bv163 : v163.toInt = u35.toInt + 1 := by rw [ev163]; exact add_k rfl rfl k68 ⟨Int.le_refl _, Int.le_refl _⟩ (by decide)
            have k164 : 1 ≤ v163.toInt ∧ v163.toInt ≤ 200 := add_r bv163 k68 ⟨Int.le_refl _, Int.le_refl _⟩ (by decide)
            refine lv_iinc (v := v163) (lv' := [(4, .int v163), (0, .ref h0), (1, .ref p0), (2, .ref p1), (3, .int 2)]) hx hb dX8_readCond_57 hl (k := 0) rfl (by rw [ev163]; rfl) (by decide) rfl (fun ls hl => ?_)
            refine lv_goto (tgt := 15) hx hb dX8_readCond_60 (by decide) ?_
            have n165 : F154 4 = .int y119 := (SAME.at t159 (by decide) t135)
            exact ih (v163, F154, y155, y119, g156, g157, g158, F120, y121, y122, y123, y124, y125, y126, y127, y128) ⟨(ir_wk k164 (by decide) (by decide)), (SAME.tr (SAME.tr (SAME.tr SAME.rf i52 (by decide)) t132 (by decide)) t159 (by decide)), t160, n165, (ir_wk t161 (by decide) (by decide)), (SAME.tr (SAME.tr (SAME.tr SAME.rf i56 (by decide)) t91 (by decide)) t136 (by decide)), t137, t138, t139, t140, t141, t142, t143, t144, t145⟩ (by show (200 - v163.toInt).toNat < (200 - u35.toInt).toNat; omega) _ _ _ (hP.sub [5, 6, 7, 8, 0, 1, 2, 3, 4] rfl) (hD.sub [5, 6, 7, 8, 0, 1, 2, 3, 4] (by decide) rfl) hS (lv_sub hl [0, 1, 2, 3, 4] rfl)
          · have dc148 : r116.toInt = 0 := eq_i (a := r116.toInt) (b := 0) rfl rfl c148
            have k166 : 0 ≤ r116.toInt ∧ r116.toInt ≤ 0 := ⟨t146.1, Int.le_trans (Int.le_of_eq dc148) (Int.le_refl _)⟩
            refine lv_iconst (v := 0) hx hb dX8_readCond_46 (by decide) ?_
            exact ret_i (v := 0) hx hb hr hlocks hS hP hD dX8_readCond_47 rfl (Nat.le_of_ble_eq_true rfl) (Nat.le_of_ble_eq_true rfl) ⟨F117, y118, y119, F120, y121, y122, y123, y124, y125, y126, y127, y128, g129, g130, g131, (SAME.tr (SAME.tr (SAME.tr SAME.rf t17 (by decide)) i52 (by decide)) t132 (by decide)), t133, t134, t135, (SAME.tr (SAME.tr (SAME.tr (SAME.tr SAME.rf t21 (by decide)) i56 (by decide)) t91 (by decide)) t136 (by decide)), t137, t138, t139, t140, t141, t142, t143, t144, t145, (show 0 ≤ (0 : Int32).toInt ∧ (0 : Int32).toInt ≤ 1 by decide), rfl⟩
  · have dc33 : r1.toInt = 0 := eq_i (a := r1.toInt) (b := 0) rfl rfl c33
    have k167 : 0 ≤ r1.toInt ∧ r1.toInt ≤ 0 := ⟨t31.1, Int.le_trans (Int.le_of_eq dc33) (Int.le_refl _)⟩
    refine lv_iconst (v := 0) hx hb dX8_readCond_10 (by decide) ?_
    exact ret_i (v := 0) hx hb hr hlocks hS hP hD dX8_readCond_11 rfl (Nat.le_of_ble_eq_true rfl) (Nat.le_of_ble_eq_true rfl) ⟨F2, y3, y4, F5, y6, y7, y8, y9, y10, y11, y12, y13, g14, g15, g16, (SAME.tr SAME.rf t17 (by decide)), t18, t19, t20, (SAME.tr SAME.rf t21 (by decide)), t22, t23, t24, t25, t26, t27, t28, t29, t30, (show 0 ≤ (0 : Int32).toInt ∧ (0 : Int32).toInt ≤ 1 by decide), rfl⟩
set_option maxHeartbeats 4000000 in
set_option maxRecDepth 100000 in
theorem m_X8_readOne_1 (l : Launch) (D : va_G) (cI cJ cB cP cM cZ : ClassId) (h0 : Nat) (h_step : Nat) (h_sign : Nat) (h_value : Nat) (p0 : Nat) (h_p0_bytes : Nat) (h_p0_wordNames : Nat) (p1 : Nat) (h_p1_manName : Nat) (Fh : Nat → Value) (x_steps : Int32) (x_ones : Int32) (f_step : Nat → Int32) (f_sign : Nat → Int32) (f_value : Nat → Int32) (F_p0_ : Nat → Value) (x_p0_length : Int32) (x_p0_kind : Int32) (x_p0_place : Int32) (x_p0_value : Int32) (x_p0_name : Int64) (x_p0_number : Int32) (x_p0_faultKind : Int32) (x_p0_faultPlace : Int32) (x_p0_at : Int32) (x_p0_mostBytes : Int32) (f_p0_bytes : Nat → Int32) (f_p0_wordNames : Nat → Int64) (F_p1_ : Nat → Value) (x_p1_men : Int32) (f_p1_manName : Nat → Int64) (sz : Nat) (e_step : Fh 0 = .ref h_step) (e_sign : Fh 1 = .ref h_sign) (e_value : Fh 2 = .ref h_value) (e_steps : Fh 3 = .int x_steps) (i_x_steps : IR 0 40 x_steps) (e_ones : Fh 4 = .int x_ones) (e_p0_bytes : F_p0_ 0 = .ref h_p0_bytes) (e_p0_length : F_p0_ 1 = .int x_p0_length) (i_x_p0_length : IR 0 940 x_p0_length) (e_p0_kind : F_p0_ 2 = .int x_p0_kind) (e_p0_place : F_p0_ 3 = .int x_p0_place) (e_p0_value : F_p0_ 4 = .int x_p0_value) (e_p0_name : F_p0_ 5 = .long x_p0_name) (e_p0_number : F_p0_ 6 = .int x_p0_number) (e_p0_faultKind : F_p0_ 7 = .int x_p0_faultKind) (e_p0_faultPlace : F_p0_ 8 = .int x_p0_faultPlace) (e_p0_wordNames : F_p0_ 9 = .ref h_p0_wordNames) (e_p0_at : F_p0_ 10 = .int x_p0_at) (i_x_p0_at : IR 0 940 x_p0_at) (e_p0_mostBytes : F_p0_ 11 = .int x_p0_mostBytes) (s_p0_bytes_0 : SG 0 939 (-128) 127 f_p0_bytes) (s_p0_wordNames_KN : KWN f_p0_wordNames) (e_p1_manName : F_p1_ 2 = .ref h_p1_manName) (e_p1_men : F_p1_ 13 = .int x_p1_men) (i_x_p1_men : IR 0 12 x_p1_men) : CI l yX8_readOne cX8_readOne 6 (some .boolean) { frames := 25, cells := 0, slots := 0, locals := 605 } (GG D cI cJ cB cP cM cZ) D [(h0, .inr (8, vL 5 Fh)), (h_step, .inl (cI, 40, .inl f_step)), (h_sign, .inl (cI, 40, .inl f_sign)), (h_value, .inl (cI, 40, .inl f_value)), (p0, .inr (6, vL 12 F_p0_)), (h_p0_bytes, .inl (cB, 940, .inl f_p0_bytes)), (h_p0_wordNames, .inl (cJ, 23, .inr (.inl f_p0_wordNames))), (p1, .inr (1, vL 18 F_p1_)), (h_p1_manName, .inl (cJ, 12, .inr (.inl f_p1_manName)))] sz [.ref h0, .ref p0, .ref p1, .int 1] (fun (r : Int32) (u : va_W) => ∃ (Gh : Nat → Value) (y_steps : Int32) (y_ones : Int32) (G_p0_ : Nat → Value) (y_p0_kind : Int32) (y_p0_place : Int32) (y_p0_value : Int32) (y_p0_name : Int64) (y_p0_number : Int32) (y_p0_faultKind : Int32) (y_p0_faultPlace : Int32) (y_p0_at : Int32) (g_step : Nat → Int32) (g_sign : Nat → Int32) (g_value : Nat → Int32), SAME [3, 4] Fh Gh ∧ Gh 3 = .int y_steps ∧ IR 0 40 y_steps ∧ Gh 4 = .int y_ones ∧ SAME [2, 3, 4, 5, 6, 7, 8, 10] F_p0_ G_p0_ ∧ G_p0_ 2 = .int y_p0_kind ∧ G_p0_ 3 = .int y_p0_place ∧ G_p0_ 4 = .int y_p0_value ∧ G_p0_ 5 = .long y_p0_name ∧ G_p0_ 6 = .int y_p0_number ∧ G_p0_ 7 = .int y_p0_faultKind ∧ G_p0_ 8 = .int y_p0_faultPlace ∧ G_p0_ 10 = .int y_p0_at ∧ IR 0 940 y_p0_at ∧ IR 0 1 r ∧ u = [(h0, .inr (8, vL 5 Gh)), (h_step, .inl (cI, 40, .inl g_step)), (h_sign, .inl (cI, 40, .inl g_sign)), (h_value, .inl (cI, 40, .inl g_value)), (p0, .inr (6, vL 12 G_p0_)), (h_p0_bytes, .inl (cB, 940, .inl f_p0_bytes)), (h_p0_wordNames, .inl (cJ, 23, .inr (.inl f_p0_wordNames))), (p1, .inr (1, vL 18 F_p1_)), (h_p1_manName, .inl (cJ, 12, .inr (.inl f_p1_manName)))]) := by
  refine CI_mk (by decide) (Nat.le_of_ble_eq_true rfl) ?_
  intro p e s m below meth c A ls E hAe hG hsz hP hD hA hS hl
  obtain ⟨hx, hb, hr, hw, hown, hlocks, hml, hnm⟩ := E
  have hK := hG.1
  have i_x_steps : 0 ≤ x_steps.toInt ∧ x_steps.toInt ≤ 40 := i_x_steps
  have i_x_p0_length : 0 ≤ x_p0_length.toInt ∧ x_p0_length.toInt ≤ 940 := i_x_p0_length
  have i_x_p0_at : 0 ≤ x_p0_at.toInt ∧ x_p0_at.toInt ≤ 940 := i_x_p0_at
  have i_x_p1_men : 0 ≤ x_p1_men.toInt ∧ x_p1_men.toInt ≤ 12 := i_x_p1_men
  have hl : lv_has ls 6 [(0, .ref h0), (1, .ref p0), (2, .ref p1), (3, .int 1)] := hl
  refine lv_aload_n hx hb dX8_readOne_0 rfl (lv_at hl 1 rfl) ?_
  refine get_f (D := D) (ci := 6) (v := .int x_p0_kind) (C := RX6) (T := TX6) (N := 12) hx hb hw inAX6 hown hK hP 4 rfl rfl 2 (by decide) (hw _ q_93) (fun _ h9 => h9) e_p0_kind dX8_readOne_1 ?_
  refine lv_bipush (v := 40) hx hb dX8_readOne_4 (by decide) ?_
  refine lv_icmp_ne (tgt := 13) hx hb dX8_readOne_6 (by decide) (fun c1 => ?_) (fun c1 => ?_)
  · have dc1 : x_p0_kind.toInt ≠ 40 := ne_i (a := x_p0_kind.toInt) (b := 40) rfl rfl c1
    refine lv_iconst (v := 0) hx hb dX8_readOne_13 (by decide) ?_
    refine lv_istore (lv' := [(4, .int 0), (0, .ref h0), (1, .ref p0), (2, .ref p1), (3, .int 1)]) hx hb dX8_readOne_14 hl (by decide) rfl (fun ls hl => ?_)
    refine lv_aload_n hx hb dX8_readOne_16 rfl (lv_at hl 2 rfl) ?_
    refine call_Vi (wr := [(h0, .inr (8, vL 5 Fh)), (h_step, .inl (cI, 40, .inl f_step)), (h_sign, .inl (cI, 40, .inl f_sign)), (h_value, .inl (cI, 40, .inl f_value)), (h_p0_bytes, .inl (cB, 940, .inl f_p0_bytes)), (h_p0_wordNames, .inl (cJ, 23, .inr (.inl f_p0_wordNames))), (p1, .inr (1, vL 18 F_p1_)), (h_p1_manName, .inl (cJ, 12, .inr (.inl f_p1_manName)))]) (As := []) (rest := []) hx hb hml hown hw (m_X6_wordHere l D cI cJ cB cP cM cZ p0 F_p0_ x_p0_kind x_p0_value _ e_p0_kind e_p0_value) wV_X8_32_X6_wordHere dX8_readOne_17 hK hP hD hS hA [4] [0, 1, 2, 3, 5, 6, 7, 8] rfl rfl (by decide) (by decide) (by decide) 0 6 rfl rfl GG.fb hG.at hl.1 rfl (Nat.le_of_ble_eq_true rfl) ⟨(Nat.le_of_ble_eq_true rfl), (Nat.le_of_ble_eq_true rfl)⟩ ⟨(Nat.le_of_ble_eq_true rfl), (Nat.le_of_ble_eq_true rfl)⟩ (fun r2 u H locs hp hP hD hS => ?_)
    rcases hp with ⟨t3, rfl, rfl⟩ | ⟨t4, er5, rfl⟩
    · have hP : va_P D vwCl [(h0, .inr (8, vL 5 Fh)), (h_step, .inl (cI, 40, .inl f_step)), (h_sign, .inl (cI, 40, .inl f_sign)), (h_value, .inl (cI, 40, .inl f_value)), (h_p0_bytes, .inl (cB, 940, .inl f_p0_bytes)), (h_p0_wordNames, .inl (cJ, 23, .inr (.inl f_p0_wordNames))), (p1, .inr (1, vL 18 F_p1_)), (h_p1_manName, .inl (cJ, 12, .inr (.inl f_p1_manName))), (p0, .inr (6, vL 12 F_p0_))] H := hP
      have hD : va_D A [(h0, .inr (8, vL 5 Fh)), (h_step, .inl (cI, 40, .inl f_step)), (h_sign, .inl (cI, 40, .inl f_sign)), (h_value, .inl (cI, 40, .inl f_value)), (h_p0_bytes, .inl (cB, 940, .inl f_p0_bytes)), (h_p0_wordNames, .inl (cJ, 23, .inr (.inl f_p0_wordNames))), (p1, .inr (1, vL 18 F_p1_)), (h_p1_manName, .inl (cJ, 12, .inr (.inl f_p1_manName))), (p0, .inr (6, vL 12 F_p0_))] := hD
      refine W.widen (k := 0) (n := 0) (Nat.le_of_ble_eq_true rfl) (Nat.le_of_ble_eq_true rfl) ?_
      refine lv_istore (lv' := [(5, .int (-1)), (4, .int 0), (0, .ref h0), (1, .ref p0), (2, .ref p1), (3, .int 1)]) hx hb dX8_readOne_20 hl (by decide) rfl (fun ls hl => ?_)
      refine lv_iload hx hb dX8_readOne_22 (lv_at hl 1 rfl) ?_
      refine lv_if_ne (tgt := 41) hx hb dX8_readOne_24 (by decide) (fun g => absurd (by decide) g) (fun _ => ?_)
      refine lv_iload hx hb dX8_readOne_27 (lv_at hl 0 rfl) ?_
      refine call_Si (wr := [(h0, .inr (8, vL 5 Fh)), (h_step, .inl (cI, 40, .inl f_step)), (h_sign, .inl (cI, 40, .inl f_sign)), (h_value, .inl (cI, 40, .inl f_value)), (h_p0_bytes, .inl (cB, 940, .inl f_p0_bytes)), (h_p0_wordNames, .inl (cJ, 23, .inr (.inl f_p0_wordNames))), (p1, .inr (1, vL 18 F_p1_)), (h_p1_manName, .inl (cJ, 12, .inr (.inl f_p1_manName))), (p0, .inr (6, vL 12 F_p0_))]) (As := [.int (-1)]) (rest := []) hx hb hml hown hw (m_X8_beginsOne l D cI cJ cB cP cM cZ (-1) _ ) wS_X8_55_X8_beginsOne dX8_readOne_29 hP hD hS hA [] [0, 1, 2, 3, 4, 5, 6, 7, 8] rfl rfl (by decide) (by decide) (by decide) GG.fb hG.at hl.1 rfl (Nat.le_of_ble_eq_true rfl) ⟨(Nat.le_of_ble_eq_true rfl), (Nat.le_of_ble_eq_true rfl)⟩ ⟨(Nat.le_of_ble_eq_true rfl), (Nat.le_of_ble_eq_true rfl)⟩ (fun r6 u H locs hp hP hD hS => ?_)
      have zlm1 : ((-1) : Int32).toInt = (-1) := by decide
      obtain ⟨t7, rfl⟩ := hp
      have hP : va_P D vwCl [(h0, .inr (8, vL 5 Fh)), (h_step, .inl (cI, 40, .inl f_step)), (h_sign, .inl (cI, 40, .inl f_sign)), (h_value, .inl (cI, 40, .inl f_value)), (h_p0_bytes, .inl (cB, 940, .inl f_p0_bytes)), (h_p0_wordNames, .inl (cJ, 23, .inr (.inl f_p0_wordNames))), (p1, .inr (1, vL 18 F_p1_)), (h_p1_manName, .inl (cJ, 12, .inr (.inl f_p1_manName))), (p0, .inr (6, vL 12 F_p0_))] H := hP
      have hD : va_D A [(h0, .inr (8, vL 5 Fh)), (h_step, .inl (cI, 40, .inl f_step)), (h_sign, .inl (cI, 40, .inl f_sign)), (h_value, .inl (cI, 40, .inl f_value)), (h_p0_bytes, .inl (cB, 940, .inl f_p0_bytes)), (h_p0_wordNames, .inl (cJ, 23, .inr (.inl f_p0_wordNames))), (p1, .inr (1, vL 18 F_p1_)), (h_p1_manName, .inl (cJ, 12, .inr (.inl f_p1_manName))), (p0, .inr (6, vL 12 F_p0_))] := hD
      refine W.widen (k := 0) (n := 0) (Nat.le_of_ble_eq_true rfl) (Nat.le_of_ble_eq_true rfl) ?_
      refine lv_if_ne (tgt := 41) hx hb dX8_readOne_32 (by decide) (fun c9 => ?_) (fun c9 => ?_)
      · have dc9 : r6.toInt ≠ 0 := ne_i (a := r6.toInt) (b := 0) rfl rfl c9
        have k10 : 1 ≤ r6.toInt ∧ r6.toInt ≤ 1 := ⟨ne_lo dc9 t7.1 ⟨Int.le_refl _, Int.le_refl _⟩ (by decide), t7.2⟩
        refine lv_aload_n hx hb dX8_readOne_41 rfl (lv_at hl 2 rfl) ?_
        refine get_f (D := D) (ci := 8) (v := .int x_ones) (C := RX8) (T := TX8) (N := 5) hx hb hw inAX8 hown hK hP 0 rfl rfl 4 (by decide) (hw _ q_696) (fun _ h9 => h9) e_ones dX8_readOne_42 ?_
        refine lv_bipush (v := 20) hx hb dX8_readOne_45 (by decide) ?_
        refine lv_icmp_ge (tgt := 56) hx hb dX8_readOne_47 (by decide) (fun c11 => ?_) (fun c11 => ?_)
        · have dc11 : 20 ≤ x_ones.toInt := le_i (a := 20) (b := x_ones.toInt) rfl rfl c11
          have k12 : 20 ≤ x_ones.toInt ∧ x_ones.toInt ≤ 2147483647 := ⟨Int.le_trans (Int.le_refl _) dc11, (ir_any _).2⟩
          refine lv_aload_n hx hb dX8_readOne_56 rfl (lv_at hl 3 rfl) ?_
          refine lv_iconst (v := 4) hx hb dX8_readOne_57 (by decide) ?_
          refine call_Vi (wr := [(h0, .inr (8, vL 5 Fh)), (h_step, .inl (cI, 40, .inl f_step)), (h_sign, .inl (cI, 40, .inl f_sign)), (h_value, .inl (cI, 40, .inl f_value)), (h_p0_bytes, .inl (cB, 940, .inl f_p0_bytes)), (h_p0_wordNames, .inl (cJ, 23, .inr (.inl f_p0_wordNames))), (p1, .inr (1, vL 18 F_p1_)), (h_p1_manName, .inl (cJ, 12, .inr (.inl f_p1_manName)))]) (As := [.int 4]) (rest := []) hx hb hml hown hw (m_X6_fail l D cI cJ cB cP cM cZ p0 F_p0_ x_p0_place 4 _ e_p0_place) wV_X8_48_X6_fail dX8_readOne_58 hK hP hD hS hA [8] [0, 1, 2, 3, 4, 5, 6, 7] rfl rfl (by decide) (by decide) (by decide) 0 6 rfl rfl GG.fb hG.at hl.1 rfl (Nat.le_of_ble_eq_true rfl) ⟨(Nat.le_of_ble_eq_true rfl), (Nat.le_of_ble_eq_true rfl)⟩ ⟨(Nat.le_of_ble_eq_true rfl), (Nat.le_of_ble_eq_true rfl)⟩ (fun r13 u H locs hp hP hD hS => ?_)
          have zl4 : (4 : Int32).toInt = 4 := by decide
          obtain ⟨F14, t15, t16, t17, rfl, rfl⟩ := hp
          have hP : va_P D vwCl [(h0, .inr (8, vL 5 Fh)), (h_step, .inl (cI, 40, .inl f_step)), (h_sign, .inl (cI, 40, .inl f_sign)), (h_value, .inl (cI, 40, .inl f_value)), (h_p0_bytes, .inl (cB, 940, .inl f_p0_bytes)), (h_p0_wordNames, .inl (cJ, 23, .inr (.inl f_p0_wordNames))), (p1, .inr (1, vL 18 F_p1_)), (h_p1_manName, .inl (cJ, 12, .inr (.inl f_p1_manName))), (p0, .inr (6, vL 12 F14))] H := hP
          have hD : va_D A [(h0, .inr (8, vL 5 Fh)), (h_step, .inl (cI, 40, .inl f_step)), (h_sign, .inl (cI, 40, .inl f_sign)), (h_value, .inl (cI, 40, .inl f_value)), (h_p0_bytes, .inl (cB, 940, .inl f_p0_bytes)), (h_p0_wordNames, .inl (cJ, 23, .inr (.inl f_p0_wordNames))), (p1, .inr (1, vL 18 F_p1_)), (h_p1_manName, .inl (cJ, 12, .inr (.inl f_p1_manName))), (p0, .inr (6, vL 12 F14))] := hD
          refine W.widen (k := 0) (n := 0) (Nat.le_of_ble_eq_true rfl) (Nat.le_of_ble_eq_true rfl) ?_
          exact ret_i (v := 0) hx hb hr hlocks hS (hP.sub (ws' := [(h0, .inr (8, vL 5 Fh)), (h_step, .inl (cI, 40, .inl f_step)), (h_sign, .inl (cI, 40, .inl f_sign)), (h_value, .inl (cI, 40, .inl f_value)), (p0, .inr (6, vL 12 F14)), (h_p0_bytes, .inl (cB, 940, .inl f_p0_bytes)), (h_p0_wordNames, .inl (cJ, 23, .inr (.inl f_p0_wordNames))), (p1, .inr (1, vL 18 F_p1_)), (h_p1_manName, .inl (cJ, 12, .inr (.inl f_p1_manName)))]) [0, 1, 2, 3, 8, 4, 5, 6, 7] rfl) (hD.sub (ws' := [(h0, .inr (8, vL 5 Fh)), (h_step, .inl (cI, 40, .inl f_step)), (h_sign, .inl (cI, 40, .inl f_sign)), (h_value, .inl (cI, 40, .inl f_value)), (p0, .inr (6, vL 12 F14)), (h_p0_bytes, .inl (cB, 940, .inl f_p0_bytes)), (h_p0_wordNames, .inl (cJ, 23, .inr (.inl f_p0_wordNames))), (p1, .inr (1, vL 18 F_p1_)), (h_p1_manName, .inl (cJ, 12, .inr (.inl f_p1_manName)))]) [0, 1, 2, 3, 8, 4, 5, 6, 7] (by decide) rfl) dX8_readOne_61 rfl (Nat.le_of_ble_eq_true rfl) (Nat.le_of_ble_eq_true rfl) ⟨Fh, x_steps, x_ones, F14, x_p0_kind, x_p0_place, x_p0_value, x_p0_name, x_p0_number, 4, x_p0_place, x_p0_at, f_step, f_sign, f_value, SAME.rf, e_steps, i_x_steps, e_ones, (SAME.tr SAME.rf t15 (by decide)), (SAME.at t15 (by decide) e_p0_kind), (SAME.at t15 (by decide) e_p0_place), (SAME.at t15 (by decide) e_p0_value), (SAME.at t15 (by decide) e_p0_name), (SAME.at t15 (by decide) e_p0_number), t16, t17, (SAME.at t15 (by decide) e_p0_at), i_x_p0_at, (show 0 ≤ (0 : Int32).toInt ∧ (0 : Int32).toInt ≤ 1 by decide), rfl⟩
        · have dc11 : x_ones.toInt < 20 := nle_i (a := 20) (b := x_ones.toInt) rfl rfl c11
          have k19 : (-2147483648) ≤ x_ones.toInt ∧ x_ones.toInt ≤ 19 := ⟨(ir_any _).1, up_lt dc11 (Int.le_refl _) (by decide)⟩
          refine lv_iload_n hx hb dX8_readOne_50 rfl (lv_at hl 5 rfl) ?_
          refine lv_bipush (v := 8) hx hb dX8_readOne_51 (by decide) ?_
          refine lv_icmp_le (tgt := 62) hx hb dX8_readOne_53 (by decide) (fun _ => ?_) (fun g => absurd (by decide) g)
          refine lv_aload_n hx hb dX8_readOne_62 rfl (lv_at hl 2 rfl) ?_
          refine lv_dup hx hb dX8_readOne_63 rfl ?_
          refine get_f (D := D) (ci := 8) (v := .int x_ones) (C := RX8) (T := TX8) (N := 5) hx hb hw inAX8 hown hK hP 0 rfl rfl 4 (by decide) (hw _ q_696) (fun _ h9 => h9) e_ones dX8_readOne_64 ?_
          refine lv_iconst (v := 1) hx hb dX8_readOne_67 (by decide) ?_
          refine lv_iadd hx hb dX8_readOne_68 ?_
          refine lv_topi (fun v20 ev20 => ?_)
          have bv20 : v20.toInt = x_ones.toInt + 1 := by rw [ev20]; exact add_k rfl rfl k19 ⟨Int.le_refl _, Int.le_refl _⟩ (by decide)
          have k21 : (-2147483647) ≤ v20.toInt ∧ v20.toInt ≤ 20 := add_r bv20 k19 ⟨Int.le_refl _, Int.le_refl _⟩ (by decide)
          refine put_f (D := D) (ci := 8) (v := .int v20) (ty := .int) (C := RX8) (T := TX8) (N := 5) hx hb hw inAX8 tyX8 tyX8_ok nmX8 hown hK hP hD hS 0 rfl rfl 4 (by decide) (hw _ q_696) (fun _ h9 => h9) rfl (by decide +kernel) rfl rfl dX8_readOne_69 (fun H locs F22 eF22 hP hD hS => ?_)
          have hP : va_P D vwCl [(h0, .inr (8, vL 5 F22)), (h_step, .inl (cI, 40, .inl f_step)), (h_sign, .inl (cI, 40, .inl f_sign)), (h_value, .inl (cI, 40, .inl f_value)), (h_p0_bytes, .inl (cB, 940, .inl f_p0_bytes)), (h_p0_wordNames, .inl (cJ, 23, .inr (.inl f_p0_wordNames))), (p1, .inr (1, vL 18 F_p1_)), (h_p1_manName, .inl (cJ, 12, .inr (.inl f_p1_manName))), (p0, .inr (6, vL 12 F_p0_))] H := hP
          have hD : va_D A [(h0, .inr (8, vL 5 F22)), (h_step, .inl (cI, 40, .inl f_step)), (h_sign, .inl (cI, 40, .inl f_sign)), (h_value, .inl (cI, 40, .inl f_value)), (h_p0_bytes, .inl (cB, 940, .inl f_p0_bytes)), (h_p0_wordNames, .inl (cJ, 23, .inr (.inl f_p0_wordNames))), (p1, .inr (1, vL 18 F_p1_)), (h_p1_manName, .inl (cJ, 12, .inr (.inl f_p1_manName))), (p0, .inr (6, vL 12 F_p0_))] := hD
          refine lv_aload_n hx hb dX8_readOne_72 rfl (lv_at hl 3 rfl) ?_
          refine call_Vv (wr := [(h0, .inr (8, vL 5 F22)), (h_step, .inl (cI, 40, .inl f_step)), (h_sign, .inl (cI, 40, .inl f_sign)), (h_value, .inl (cI, 40, .inl f_value)), (p1, .inr (1, vL 18 F_p1_)), (h_p1_manName, .inl (cJ, 12, .inr (.inl f_p1_manName)))]) (As := []) (rest := []) hx hb hml hown hw (m_X6_advance l D cI cJ cB cP cM cZ p0 h_p0_bytes h_p0_wordNames F_p0_ x_p0_length x_p0_kind x_p0_place x_p0_value x_p0_name x_p0_at x_p0_mostBytes f_p0_bytes f_p0_wordNames _ e_p0_bytes e_p0_length i_x_p0_length e_p0_kind e_p0_place e_p0_value e_p0_name e_p0_wordNames e_p0_at i_x_p0_at e_p0_mostBytes s_p0_bytes_0 s_p0_wordNames_KN) wV_X8_38_X6_advance dX8_readOne_73 hK hP hD hS hA [8, 4, 5] [0, 1, 2, 3, 6, 7] rfl rfl (by decide) (by decide) (by decide) 0 6 rfl rfl GG.fb hG.at hl.1 rfl (Nat.le_of_ble_eq_true rfl) ⟨(Nat.le_of_ble_eq_true rfl), (Nat.le_of_ble_eq_true rfl)⟩ ⟨(Nat.le_of_ble_eq_true rfl), (Nat.le_of_ble_eq_true rfl)⟩ (fun u H locs hp hP hD hS => ?_)
          obtain ⟨F24, y25, y26, y27, y28, y29, t30, t31, t32, t33, t34, t35, t36, t37, t38, t39, t40, rfl⟩ := hp
          have hP : va_P D vwCl [(h0, .inr (8, vL 5 F22)), (h_step, .inl (cI, 40, .inl f_step)), (h_sign, .inl (cI, 40, .inl f_sign)), (h_value, .inl (cI, 40, .inl f_value)), (p1, .inr (1, vL 18 F_p1_)), (h_p1_manName, .inl (cJ, 12, .inr (.inl f_p1_manName))), (p0, .inr (6, vL 12 F24)), (h_p0_bytes, .inl (cB, 940, .inl f_p0_bytes)), (h_p0_wordNames, .inl (cJ, 23, .inr (.inl f_p0_wordNames)))] H := hP
          have hD : va_D A [(h0, .inr (8, vL 5 F22)), (h_step, .inl (cI, 40, .inl f_step)), (h_sign, .inl (cI, 40, .inl f_sign)), (h_value, .inl (cI, 40, .inl f_value)), (p1, .inr (1, vL 18 F_p1_)), (h_p1_manName, .inl (cJ, 12, .inr (.inl f_p1_manName))), (p0, .inr (6, vL 12 F24)), (h_p0_bytes, .inl (cB, 940, .inl f_p0_bytes)), (h_p0_wordNames, .inl (cJ, 23, .inr (.inl f_p0_wordNames)))] := hD
          refine W.widen (k := 0) (n := 0) (Nat.le_of_ble_eq_true rfl) (Nat.le_of_ble_eq_true rfl) ?_
          refine lv_iload hx hb dX8_readOne_76 (lv_at hl 1 rfl) ?_
          refine lv_if_eq (tgt := 108) hx hb dX8_readOne_78 (by decide) (fun _ => ?_) (fun g => absurd (by decide) g)
          refine lv_iload hx hb dX8_readOne_108 (lv_at hl 0 rfl) ?_
          refine lv_bipush (v := 16) hx hb dX8_readOne_110 (by decide) ?_
          refine lv_icmp_ne (tgt := 144) hx hb dX8_readOne_112 (by decide) (fun _ => ?_) (fun g => absurd g (by decide))
          refine lv_iload hx hb dX8_readOne_144 (lv_at hl 0 rfl) ?_
          refine lv_bipush (v := 18) hx hb dX8_readOne_146 (by decide) ?_
          refine lv_icmp_ne (tgt := 158) hx hb dX8_readOne_148 (by decide) (fun _ => ?_) (fun g => absurd g (by decide))
          refine lv_iload hx hb dX8_readOne_158 (lv_at hl 0 rfl) ?_
          refine lv_bipush (v := 19) hx hb dX8_readOne_160 (by decide) ?_
          refine lv_icmp_lt (tgt := 173) hx hb dX8_readOne_162 (by decide) (fun _ => ?_) (fun g => absurd (by decide) g)
          refine lv_aload_n hx hb dX8_readOne_173 rfl (lv_at hl 2 rfl) ?_
          refine lv_iload hx hb dX8_readOne_174 (lv_at hl 0 rfl) ?_
          refine lv_iconst (v := 0) hx hb dX8_readOne_176 (by decide) ?_
          refine lv_iconst (v := 0) hx hb dX8_readOne_177 (by decide) ?_
          have n42 : F22 0 = .ref h_step := (get_ne eF22 (by decide) e_step)
          have n43 : F22 1 = .ref h_sign := (get_ne eF22 (by decide) e_sign)
          have n44 : F22 2 = .ref h_value := (get_ne eF22 (by decide) e_value)
          have n45 : F22 3 = .int x_steps := (get_ne eF22 (by decide) e_steps)
          refine call_Vi (wr := [(p1, .inr (1, vL 18 F_p1_)), (h_p1_manName, .inl (cJ, 12, .inr (.inl f_p1_manName))), (p0, .inr (6, vL 12 F24)), (h_p0_bytes, .inl (cB, 940, .inl f_p0_bytes)), (h_p0_wordNames, .inl (cJ, 23, .inr (.inl f_p0_wordNames)))]) (As := [.int (-1), .int 0, .int 0]) (rest := []) hx hb hml hown hw (m_X8_addStep l D cI cJ cB cP cM cZ h0 h_step h_sign h_value F22 x_steps f_step f_sign f_value (-1) 0 0 _ n42 n43 n44 n45 i_x_steps) wV_X8_41_X8_addStep dX8_readOne_178 hK hP hD hS hA [0, 1, 2, 3] [4, 5, 6, 7, 8] rfl rfl (by decide) (by decide) (by decide) 0 8 rfl rfl GG.fb hG.at hl.1 rfl (Nat.le_of_ble_eq_true rfl) ⟨(Nat.le_of_ble_eq_true rfl), (Nat.le_of_ble_eq_true rfl)⟩ ⟨(Nat.le_of_ble_eq_true rfl), (Nat.le_of_ble_eq_true rfl)⟩ (fun r46 u H locs hp hP hD hS => ?_)
          have zl0 : (0 : Int32).toInt = 0 := by decide
          obtain ⟨F47, y48, g49, g50, g51, t52, t53, t54, rfl, rfl⟩ := hp
          have hP : va_P D vwCl [(p1, .inr (1, vL 18 F_p1_)), (h_p1_manName, .inl (cJ, 12, .inr (.inl f_p1_manName))), (p0, .inr (6, vL 12 F24)), (h_p0_bytes, .inl (cB, 940, .inl f_p0_bytes)), (h_p0_wordNames, .inl (cJ, 23, .inr (.inl f_p0_wordNames))), (h0, .inr (8, vL 5 F47)), (h_step, .inl (cI, 40, .inl g49)), (h_sign, .inl (cI, 40, .inl g50)), (h_value, .inl (cI, 40, .inl g51))] H := hP
          have hD : va_D A [(p1, .inr (1, vL 18 F_p1_)), (h_p1_manName, .inl (cJ, 12, .inr (.inl f_p1_manName))), (p0, .inr (6, vL 12 F24)), (h_p0_bytes, .inl (cB, 940, .inl f_p0_bytes)), (h_p0_wordNames, .inl (cJ, 23, .inr (.inl f_p0_wordNames))), (h0, .inr (8, vL 5 F47)), (h_step, .inl (cI, 40, .inl g49)), (h_sign, .inl (cI, 40, .inl g50)), (h_value, .inl (cI, 40, .inl g51))] := hD
          refine W.widen (k := 0) (n := 0) (Nat.le_of_ble_eq_true rfl) (Nat.le_of_ble_eq_true rfl) ?_
          exact ret_i (v := 1) hx hb hr hlocks hS (hP.sub (ws' := [(h0, .inr (8, vL 5 F47)), (h_step, .inl (cI, 40, .inl g49)), (h_sign, .inl (cI, 40, .inl g50)), (h_value, .inl (cI, 40, .inl g51)), (p0, .inr (6, vL 12 F24)), (h_p0_bytes, .inl (cB, 940, .inl f_p0_bytes)), (h_p0_wordNames, .inl (cJ, 23, .inr (.inl f_p0_wordNames))), (p1, .inr (1, vL 18 F_p1_)), (h_p1_manName, .inl (cJ, 12, .inr (.inl f_p1_manName)))]) [5, 6, 7, 8, 2, 3, 4, 0, 1] rfl) (hD.sub (ws' := [(h0, .inr (8, vL 5 F47)), (h_step, .inl (cI, 40, .inl g49)), (h_sign, .inl (cI, 40, .inl g50)), (h_value, .inl (cI, 40, .inl g51)), (p0, .inr (6, vL 12 F24)), (h_p0_bytes, .inl (cB, 940, .inl f_p0_bytes)), (h_p0_wordNames, .inl (cJ, 23, .inr (.inl f_p0_wordNames))), (p1, .inr (1, vL 18 F_p1_)), (h_p1_manName, .inl (cJ, 12, .inr (.inl f_p1_manName)))]) [5, 6, 7, 8, 2, 3, 4, 0, 1] (by decide) rfl) dX8_readOne_181 rfl (Nat.le_of_ble_eq_true rfl) (Nat.le_of_ble_eq_true rfl) ⟨F47, y48, v20, F24, y25, y26, y27, y28, x_p0_number, x_p0_faultKind, x_p0_faultPlace, y29, g49, g50, g51, (SAME.tr (SAME.up eF22 SAME.rf (by decide)) t52 (by decide)), t53, (ir_wk t54 (by decide) (by decide)), (SAME.at t52 (by decide) (get_eq eF22)), (SAME.tr SAME.rf t30 (by decide)), t31, t33, t35, t36, (SAME.at t30 (by decide) e_p0_number), (SAME.at t30 (by decide) e_p0_faultKind), (SAME.at t30 (by decide) e_p0_faultPlace), t37, t38, (show 0 ≤ (1 : Int32).toInt ∧ (1 : Int32).toInt ≤ 1 by decide), rfl⟩
      · have dc9 : r6.toInt = 0 := eq_i (a := r6.toInt) (b := 0) rfl rfl c9
        have k56 : 0 ≤ r6.toInt ∧ r6.toInt ≤ 0 := ⟨t7.1, Int.le_trans (Int.le_of_eq dc9) (Int.le_refl _)⟩
        refine lv_aload_n hx hb dX8_readOne_35 rfl (lv_at hl 3 rfl) ?_
        refine lv_iconst (v := 1) hx hb dX8_readOne_36 (by decide) ?_
        refine call_Vi (wr := [(h0, .inr (8, vL 5 Fh)), (h_step, .inl (cI, 40, .inl f_step)), (h_sign, .inl (cI, 40, .inl f_sign)), (h_value, .inl (cI, 40, .inl f_value)), (h_p0_bytes, .inl (cB, 940, .inl f_p0_bytes)), (h_p0_wordNames, .inl (cJ, 23, .inr (.inl f_p0_wordNames))), (p1, .inr (1, vL 18 F_p1_)), (h_p1_manName, .inl (cJ, 12, .inr (.inl f_p1_manName)))]) (As := [.int 1]) (rest := []) hx hb hml hown hw (m_X6_fail l D cI cJ cB cP cM cZ p0 F_p0_ x_p0_place 1 _ e_p0_place) wV_X8_48_X6_fail dX8_readOne_37 hK hP hD hS hA [8] [0, 1, 2, 3, 4, 5, 6, 7] rfl rfl (by decide) (by decide) (by decide) 0 6 rfl rfl GG.fb hG.at hl.1 rfl (Nat.le_of_ble_eq_true rfl) ⟨(Nat.le_of_ble_eq_true rfl), (Nat.le_of_ble_eq_true rfl)⟩ ⟨(Nat.le_of_ble_eq_true rfl), (Nat.le_of_ble_eq_true rfl)⟩ (fun r57 u H locs hp hP hD hS => ?_)
        have zl1 : (1 : Int32).toInt = 1 := by decide
        obtain ⟨F58, t59, t60, t61, rfl, rfl⟩ := hp
        have hP : va_P D vwCl [(h0, .inr (8, vL 5 Fh)), (h_step, .inl (cI, 40, .inl f_step)), (h_sign, .inl (cI, 40, .inl f_sign)), (h_value, .inl (cI, 40, .inl f_value)), (h_p0_bytes, .inl (cB, 940, .inl f_p0_bytes)), (h_p0_wordNames, .inl (cJ, 23, .inr (.inl f_p0_wordNames))), (p1, .inr (1, vL 18 F_p1_)), (h_p1_manName, .inl (cJ, 12, .inr (.inl f_p1_manName))), (p0, .inr (6, vL 12 F58))] H := hP
        have hD : va_D A [(h0, .inr (8, vL 5 Fh)), (h_step, .inl (cI, 40, .inl f_step)), (h_sign, .inl (cI, 40, .inl f_sign)), (h_value, .inl (cI, 40, .inl f_value)), (h_p0_bytes, .inl (cB, 940, .inl f_p0_bytes)), (h_p0_wordNames, .inl (cJ, 23, .inr (.inl f_p0_wordNames))), (p1, .inr (1, vL 18 F_p1_)), (h_p1_manName, .inl (cJ, 12, .inr (.inl f_p1_manName))), (p0, .inr (6, vL 12 F58))] := hD
        refine W.widen (k := 0) (n := 0) (Nat.le_of_ble_eq_true rfl) (Nat.le_of_ble_eq_true rfl) ?_
        exact ret_i (v := 0) hx hb hr hlocks hS (hP.sub (ws' := [(h0, .inr (8, vL 5 Fh)), (h_step, .inl (cI, 40, .inl f_step)), (h_sign, .inl (cI, 40, .inl f_sign)), (h_value, .inl (cI, 40, .inl f_value)), (p0, .inr (6, vL 12 F58)), (h_p0_bytes, .inl (cB, 940, .inl f_p0_bytes)), (h_p0_wordNames, .inl (cJ, 23, .inr (.inl f_p0_wordNames))), (p1, .inr (1, vL 18 F_p1_)), (h_p1_manName, .inl (cJ, 12, .inr (.inl f_p1_manName)))]) [0, 1, 2, 3, 8, 4, 5, 6, 7] rfl) (hD.sub (ws' := [(h0, .inr (8, vL 5 Fh)), (h_step, .inl (cI, 40, .inl f_step)), (h_sign, .inl (cI, 40, .inl f_sign)), (h_value, .inl (cI, 40, .inl f_value)), (p0, .inr (6, vL 12 F58)), (h_p0_bytes, .inl (cB, 940, .inl f_p0_bytes)), (h_p0_wordNames, .inl (cJ, 23, .inr (.inl f_p0_wordNames))), (p1, .inr (1, vL 18 F_p1_)), (h_p1_manName, .inl (cJ, 12, .inr (.inl f_p1_manName)))]) [0, 1, 2, 3, 8, 4, 5, 6, 7] (by decide) rfl) dX8_readOne_40 rfl (Nat.le_of_ble_eq_true rfl) (Nat.le_of_ble_eq_true rfl) ⟨Fh, x_steps, x_ones, F58, x_p0_kind, x_p0_place, x_p0_value, x_p0_name, x_p0_number, 1, x_p0_place, x_p0_at, f_step, f_sign, f_value, SAME.rf, e_steps, i_x_steps, e_ones, (SAME.tr SAME.rf t59 (by decide)), (SAME.at t59 (by decide) e_p0_kind), (SAME.at t59 (by decide) e_p0_place), (SAME.at t59 (by decide) e_p0_value), (SAME.at t59 (by decide) e_p0_name), (SAME.at t59 (by decide) e_p0_number), t60, t61, (SAME.at t59 (by decide) e_p0_at), i_x_p0_at, (show 0 ≤ (0 : Int32).toInt ∧ (0 : Int32).toInt ≤ 1 by decide), rfl⟩
    · have hP : va_P D vwCl [(h0, .inr (8, vL 5 Fh)), (h_step, .inl (cI, 40, .inl f_step)), (h_sign, .inl (cI, 40, .inl f_sign)), (h_value, .inl (cI, 40, .inl f_value)), (h_p0_bytes, .inl (cB, 940, .inl f_p0_bytes)), (h_p0_wordNames, .inl (cJ, 23, .inr (.inl f_p0_wordNames))), (p1, .inr (1, vL 18 F_p1_)), (h_p1_manName, .inl (cJ, 12, .inr (.inl f_p1_manName))), (p0, .inr (6, vL 12 F_p0_))] H := hP
      have hD : va_D A [(h0, .inr (8, vL 5 Fh)), (h_step, .inl (cI, 40, .inl f_step)), (h_sign, .inl (cI, 40, .inl f_sign)), (h_value, .inl (cI, 40, .inl f_value)), (h_p0_bytes, .inl (cB, 940, .inl f_p0_bytes)), (h_p0_wordNames, .inl (cJ, 23, .inr (.inl f_p0_wordNames))), (p1, .inr (1, vL 18 F_p1_)), (h_p1_manName, .inl (cJ, 12, .inr (.inl f_p1_manName))), (p0, .inr (6, vL 12 F_p0_))] := hD
      refine W.widen (k := 0) (n := 0) (Nat.le_of_ble_eq_true rfl) (Nat.le_of_ble_eq_true rfl) ?_
      refine lv_ci (y := x_p0_value) er5 ?_
      have k63 : 2 ≤ x_p0_kind.toInt ∧ x_p0_kind.toInt ≤ 2 := ⟨Int.le_trans (Int.le_refl _) (Int.le_of_eq t4.symm), Int.le_trans (Int.le_of_eq t4) (Int.le_refl _)⟩
      refine lv_istore (lv' := [(5, .int x_p0_value), (4, .int 0), (0, .ref h0), (1, .ref p0), (2, .ref p1), (3, .int 1)]) hx hb dX8_readOne_20 hl (by decide) rfl (fun ls hl => ?_)
      refine lv_iload hx hb dX8_readOne_22 (lv_at hl 1 rfl) ?_
      refine lv_if_ne (tgt := 41) hx hb dX8_readOne_24 (by decide) (fun g => absurd (by decide) g) (fun _ => ?_)
      refine lv_iload hx hb dX8_readOne_27 (lv_at hl 0 rfl) ?_
      refine call_Si (wr := [(h0, .inr (8, vL 5 Fh)), (h_step, .inl (cI, 40, .inl f_step)), (h_sign, .inl (cI, 40, .inl f_sign)), (h_value, .inl (cI, 40, .inl f_value)), (h_p0_bytes, .inl (cB, 940, .inl f_p0_bytes)), (h_p0_wordNames, .inl (cJ, 23, .inr (.inl f_p0_wordNames))), (p1, .inr (1, vL 18 F_p1_)), (h_p1_manName, .inl (cJ, 12, .inr (.inl f_p1_manName))), (p0, .inr (6, vL 12 F_p0_))]) (As := [.int x_p0_value]) (rest := []) hx hb hml hown hw (m_X8_beginsOne l D cI cJ cB cP cM cZ x_p0_value _ ) wS_X8_55_X8_beginsOne dX8_readOne_29 hP hD hS hA [] [0, 1, 2, 3, 4, 5, 6, 7, 8] rfl rfl (by decide) (by decide) (by decide) GG.fb hG.at hl.1 rfl (Nat.le_of_ble_eq_true rfl) ⟨(Nat.le_of_ble_eq_true rfl), (Nat.le_of_ble_eq_true rfl)⟩ ⟨(Nat.le_of_ble_eq_true rfl), (Nat.le_of_ble_eq_true rfl)⟩ (fun r64 u H locs hp hP hD hS => ?_)
      obtain ⟨t65, rfl⟩ := hp
      have hP : va_P D vwCl [(h0, .inr (8, vL 5 Fh)), (h_step, .inl (cI, 40, .inl f_step)), (h_sign, .inl (cI, 40, .inl f_sign)), (h_value, .inl (cI, 40, .inl f_value)), (h_p0_bytes, .inl (cB, 940, .inl f_p0_bytes)), (h_p0_wordNames, .inl (cJ, 23, .inr (.inl f_p0_wordNames))), (p1, .inr (1, vL 18 F_p1_)), (h_p1_manName, .inl (cJ, 12, .inr (.inl f_p1_manName))), (p0, .inr (6, vL 12 F_p0_))] H := hP
      have hD : va_D A [(h0, .inr (8, vL 5 Fh)), (h_step, .inl (cI, 40, .inl f_step)), (h_sign, .inl (cI, 40, .inl f_sign)), (h_value, .inl (cI, 40, .inl f_value)), (h_p0_bytes, .inl (cB, 940, .inl f_p0_bytes)), (h_p0_wordNames, .inl (cJ, 23, .inr (.inl f_p0_wordNames))), (p1, .inr (1, vL 18 F_p1_)), (h_p1_manName, .inl (cJ, 12, .inr (.inl f_p1_manName))), (p0, .inr (6, vL 12 F_p0_))] := hD
      refine W.widen (k := 0) (n := 0) (Nat.le_of_ble_eq_true rfl) (Nat.le_of_ble_eq_true rfl) ?_
      refine lv_if_ne (tgt := 41) hx hb dX8_readOne_32 (by decide) (fun c67 => ?_) (fun c67 => ?_)
      · have dc67 : r64.toInt ≠ 0 := ne_i (a := r64.toInt) (b := 0) rfl rfl c67
        have k68 : 1 ≤ r64.toInt ∧ r64.toInt ≤ 1 := ⟨ne_lo dc67 t65.1 ⟨Int.le_refl _, Int.le_refl _⟩ (by decide), t65.2⟩
        refine lv_aload_n hx hb dX8_readOne_41 rfl (lv_at hl 2 rfl) ?_
        refine get_f (D := D) (ci := 8) (v := .int x_ones) (C := RX8) (T := TX8) (N := 5) hx hb hw inAX8 hown hK hP 0 rfl rfl 4 (by decide) (hw _ q_696) (fun _ h9 => h9) e_ones dX8_readOne_42 ?_
        refine lv_bipush (v := 20) hx hb dX8_readOne_45 (by decide) ?_
        refine lv_icmp_ge (tgt := 56) hx hb dX8_readOne_47 (by decide) (fun c69 => ?_) (fun c69 => ?_)
        · have dc69 : 20 ≤ x_ones.toInt := le_i (a := 20) (b := x_ones.toInt) rfl rfl c69
          have k70 : 20 ≤ x_ones.toInt ∧ x_ones.toInt ≤ 2147483647 := ⟨Int.le_trans (Int.le_refl _) dc69, (ir_any _).2⟩
          refine lv_aload_n hx hb dX8_readOne_56 rfl (lv_at hl 3 rfl) ?_
          refine lv_iconst (v := 4) hx hb dX8_readOne_57 (by decide) ?_
          refine call_Vi (wr := [(h0, .inr (8, vL 5 Fh)), (h_step, .inl (cI, 40, .inl f_step)), (h_sign, .inl (cI, 40, .inl f_sign)), (h_value, .inl (cI, 40, .inl f_value)), (h_p0_bytes, .inl (cB, 940, .inl f_p0_bytes)), (h_p0_wordNames, .inl (cJ, 23, .inr (.inl f_p0_wordNames))), (p1, .inr (1, vL 18 F_p1_)), (h_p1_manName, .inl (cJ, 12, .inr (.inl f_p1_manName)))]) (As := [.int 4]) (rest := []) hx hb hml hown hw (m_X6_fail l D cI cJ cB cP cM cZ p0 F_p0_ x_p0_place 4 _ e_p0_place) wV_X8_48_X6_fail dX8_readOne_58 hK hP hD hS hA [8] [0, 1, 2, 3, 4, 5, 6, 7] rfl rfl (by decide) (by decide) (by decide) 0 6 rfl rfl GG.fb hG.at hl.1 rfl (Nat.le_of_ble_eq_true rfl) ⟨(Nat.le_of_ble_eq_true rfl), (Nat.le_of_ble_eq_true rfl)⟩ ⟨(Nat.le_of_ble_eq_true rfl), (Nat.le_of_ble_eq_true rfl)⟩ (fun r71 u H locs hp hP hD hS => ?_)
          have zl4 : (4 : Int32).toInt = 4 := by decide
          obtain ⟨F72, t73, t74, t75, rfl, rfl⟩ := hp
          have hP : va_P D vwCl [(h0, .inr (8, vL 5 Fh)), (h_step, .inl (cI, 40, .inl f_step)), (h_sign, .inl (cI, 40, .inl f_sign)), (h_value, .inl (cI, 40, .inl f_value)), (h_p0_bytes, .inl (cB, 940, .inl f_p0_bytes)), (h_p0_wordNames, .inl (cJ, 23, .inr (.inl f_p0_wordNames))), (p1, .inr (1, vL 18 F_p1_)), (h_p1_manName, .inl (cJ, 12, .inr (.inl f_p1_manName))), (p0, .inr (6, vL 12 F72))] H := hP
          have hD : va_D A [(h0, .inr (8, vL 5 Fh)), (h_step, .inl (cI, 40, .inl f_step)), (h_sign, .inl (cI, 40, .inl f_sign)), (h_value, .inl (cI, 40, .inl f_value)), (h_p0_bytes, .inl (cB, 940, .inl f_p0_bytes)), (h_p0_wordNames, .inl (cJ, 23, .inr (.inl f_p0_wordNames))), (p1, .inr (1, vL 18 F_p1_)), (h_p1_manName, .inl (cJ, 12, .inr (.inl f_p1_manName))), (p0, .inr (6, vL 12 F72))] := hD
          refine W.widen (k := 0) (n := 0) (Nat.le_of_ble_eq_true rfl) (Nat.le_of_ble_eq_true rfl) ?_
          exact ret_i (v := 0) hx hb hr hlocks hS (hP.sub (ws' := [(h0, .inr (8, vL 5 Fh)), (h_step, .inl (cI, 40, .inl f_step)), (h_sign, .inl (cI, 40, .inl f_sign)), (h_value, .inl (cI, 40, .inl f_value)), (p0, .inr (6, vL 12 F72)), (h_p0_bytes, .inl (cB, 940, .inl f_p0_bytes)), (h_p0_wordNames, .inl (cJ, 23, .inr (.inl f_p0_wordNames))), (p1, .inr (1, vL 18 F_p1_)), (h_p1_manName, .inl (cJ, 12, .inr (.inl f_p1_manName)))]) [0, 1, 2, 3, 8, 4, 5, 6, 7] rfl) (hD.sub (ws' := [(h0, .inr (8, vL 5 Fh)), (h_step, .inl (cI, 40, .inl f_step)), (h_sign, .inl (cI, 40, .inl f_sign)), (h_value, .inl (cI, 40, .inl f_value)), (p0, .inr (6, vL 12 F72)), (h_p0_bytes, .inl (cB, 940, .inl f_p0_bytes)), (h_p0_wordNames, .inl (cJ, 23, .inr (.inl f_p0_wordNames))), (p1, .inr (1, vL 18 F_p1_)), (h_p1_manName, .inl (cJ, 12, .inr (.inl f_p1_manName)))]) [0, 1, 2, 3, 8, 4, 5, 6, 7] (by decide) rfl) dX8_readOne_61 rfl (Nat.le_of_ble_eq_true rfl) (Nat.le_of_ble_eq_true rfl) ⟨Fh, x_steps, x_ones, F72, x_p0_kind, x_p0_place, x_p0_value, x_p0_name, x_p0_number, 4, x_p0_place, x_p0_at, f_step, f_sign, f_value, SAME.rf, e_steps, i_x_steps, e_ones, (SAME.tr SAME.rf t73 (by decide)), (SAME.at t73 (by decide) e_p0_kind), (SAME.at t73 (by decide) e_p0_place), (SAME.at t73 (by decide) e_p0_value), (SAME.at t73 (by decide) e_p0_name), (SAME.at t73 (by decide) e_p0_number), t74, t75, (SAME.at t73 (by decide) e_p0_at), i_x_p0_at, (show 0 ≤ (0 : Int32).toInt ∧ (0 : Int32).toInt ≤ 1 by decide), rfl⟩
        · have dc69 : x_ones.toInt < 20 := nle_i (a := 20) (b := x_ones.toInt) rfl rfl c69
          have k77 : (-2147483648) ≤ x_ones.toInt ∧ x_ones.toInt ≤ 19 := ⟨(ir_any _).1, up_lt dc69 (Int.le_refl _) (by decide)⟩
          refine lv_iload_n hx hb dX8_readOne_50 rfl (lv_at hl 5 rfl) ?_
          refine lv_bipush (v := 8) hx hb dX8_readOne_51 (by decide) ?_
          refine lv_icmp_le (tgt := 62) hx hb dX8_readOne_53 (by decide) (fun _ => ?_) (fun g => absurd (by decide) g)
          refine lv_aload_n hx hb dX8_readOne_62 rfl (lv_at hl 2 rfl) ?_
          refine lv_dup hx hb dX8_readOne_63 rfl ?_
          refine get_f (D := D) (ci := 8) (v := .int x_ones) (C := RX8) (T := TX8) (N := 5) hx hb hw inAX8 hown hK hP 0 rfl rfl 4 (by decide) (hw _ q_696) (fun _ h9 => h9) e_ones dX8_readOne_64 ?_
          refine lv_iconst (v := 1) hx hb dX8_readOne_67 (by decide) ?_
          refine lv_iadd hx hb dX8_readOne_68 ?_
          refine lv_topi (fun v78 ev78 => ?_)
          have bv78 : v78.toInt = x_ones.toInt + 1 := by rw [ev78]; exact add_k rfl rfl k77 ⟨Int.le_refl _, Int.le_refl _⟩ (by decide)
          have k79 : (-2147483647) ≤ v78.toInt ∧ v78.toInt ≤ 20 := add_r bv78 k77 ⟨Int.le_refl _, Int.le_refl _⟩ (by decide)
          refine put_f (D := D) (ci := 8) (v := .int v78) (ty := .int) (C := RX8) (T := TX8) (N := 5) hx hb hw inAX8 tyX8 tyX8_ok nmX8 hown hK hP hD hS 0 rfl rfl 4 (by decide) (hw _ q_696) (fun _ h9 => h9) rfl (by decide +kernel) rfl rfl dX8_readOne_69 (fun H locs F80 eF80 hP hD hS => ?_)
          have hP : va_P D vwCl [(h0, .inr (8, vL 5 F80)), (h_step, .inl (cI, 40, .inl f_step)), (h_sign, .inl (cI, 40, .inl f_sign)), (h_value, .inl (cI, 40, .inl f_value)), (h_p0_bytes, .inl (cB, 940, .inl f_p0_bytes)), (h_p0_wordNames, .inl (cJ, 23, .inr (.inl f_p0_wordNames))), (p1, .inr (1, vL 18 F_p1_)), (h_p1_manName, .inl (cJ, 12, .inr (.inl f_p1_manName))), (p0, .inr (6, vL 12 F_p0_))] H := hP
          have hD : va_D A [(h0, .inr (8, vL 5 F80)), (h_step, .inl (cI, 40, .inl f_step)), (h_sign, .inl (cI, 40, .inl f_sign)), (h_value, .inl (cI, 40, .inl f_value)), (h_p0_bytes, .inl (cB, 940, .inl f_p0_bytes)), (h_p0_wordNames, .inl (cJ, 23, .inr (.inl f_p0_wordNames))), (p1, .inr (1, vL 18 F_p1_)), (h_p1_manName, .inl (cJ, 12, .inr (.inl f_p1_manName))), (p0, .inr (6, vL 12 F_p0_))] := hD
          refine lv_aload_n hx hb dX8_readOne_72 rfl (lv_at hl 3 rfl) ?_
          refine call_Vv (wr := [(h0, .inr (8, vL 5 F80)), (h_step, .inl (cI, 40, .inl f_step)), (h_sign, .inl (cI, 40, .inl f_sign)), (h_value, .inl (cI, 40, .inl f_value)), (p1, .inr (1, vL 18 F_p1_)), (h_p1_manName, .inl (cJ, 12, .inr (.inl f_p1_manName)))]) (As := []) (rest := []) hx hb hml hown hw (m_X6_advance l D cI cJ cB cP cM cZ p0 h_p0_bytes h_p0_wordNames F_p0_ x_p0_length x_p0_kind x_p0_place x_p0_value x_p0_name x_p0_at x_p0_mostBytes f_p0_bytes f_p0_wordNames _ e_p0_bytes e_p0_length i_x_p0_length e_p0_kind e_p0_place e_p0_value e_p0_name e_p0_wordNames e_p0_at i_x_p0_at e_p0_mostBytes s_p0_bytes_0 s_p0_wordNames_KN) wV_X8_38_X6_advance dX8_readOne_73 hK hP hD hS hA [8, 4, 5] [0, 1, 2, 3, 6, 7] rfl rfl (by decide) (by decide) (by decide) 0 6 rfl rfl GG.fb hG.at hl.1 rfl (Nat.le_of_ble_eq_true rfl) ⟨(Nat.le_of_ble_eq_true rfl), (Nat.le_of_ble_eq_true rfl)⟩ ⟨(Nat.le_of_ble_eq_true rfl), (Nat.le_of_ble_eq_true rfl)⟩ (fun u H locs hp hP hD hS => ?_)
          obtain ⟨F82, y83, y84, y85, y86, y87, t88, t89, t90, t91, t92, t93, t94, t95, t96, t97, t98, rfl⟩ := hp
          have hP : va_P D vwCl [(h0, .inr (8, vL 5 F80)), (h_step, .inl (cI, 40, .inl f_step)), (h_sign, .inl (cI, 40, .inl f_sign)), (h_value, .inl (cI, 40, .inl f_value)), (p1, .inr (1, vL 18 F_p1_)), (h_p1_manName, .inl (cJ, 12, .inr (.inl f_p1_manName))), (p0, .inr (6, vL 12 F82)), (h_p0_bytes, .inl (cB, 940, .inl f_p0_bytes)), (h_p0_wordNames, .inl (cJ, 23, .inr (.inl f_p0_wordNames)))] H := hP
          have hD : va_D A [(h0, .inr (8, vL 5 F80)), (h_step, .inl (cI, 40, .inl f_step)), (h_sign, .inl (cI, 40, .inl f_sign)), (h_value, .inl (cI, 40, .inl f_value)), (p1, .inr (1, vL 18 F_p1_)), (h_p1_manName, .inl (cJ, 12, .inr (.inl f_p1_manName))), (p0, .inr (6, vL 12 F82)), (h_p0_bytes, .inl (cB, 940, .inl f_p0_bytes)), (h_p0_wordNames, .inl (cJ, 23, .inr (.inl f_p0_wordNames)))] := hD
          refine W.widen (k := 0) (n := 0) (Nat.le_of_ble_eq_true rfl) (Nat.le_of_ble_eq_true rfl) ?_
          refine lv_iload hx hb dX8_readOne_76 (lv_at hl 1 rfl) ?_
          refine lv_if_eq (tgt := 108) hx hb dX8_readOne_78 (by decide) (fun _ => ?_) (fun g => absurd (by decide) g)
          refine lv_iload hx hb dX8_readOne_108 (lv_at hl 0 rfl) ?_
          refine lv_bipush (v := 16) hx hb dX8_readOne_110 (by decide) ?_
          refine lv_icmp_ne (tgt := 144) hx hb dX8_readOne_112 (by decide) (fun c100 => ?_) (fun c100 => ?_)
          · have dc100 : x_p0_value.toInt ≠ 16 := ne_i (a := x_p0_value.toInt) (b := 16) rfl rfl c100
            refine lv_iload hx hb dX8_readOne_144 (lv_at hl 0 rfl) ?_
            refine lv_bipush (v := 18) hx hb dX8_readOne_146 (by decide) ?_
            refine lv_icmp_ne (tgt := 158) hx hb dX8_readOne_148 (by decide) (fun c101 => ?_) (fun c101 => ?_)
            · have dc101 : x_p0_value.toInt ≠ 18 := ne_i (a := x_p0_value.toInt) (b := 18) rfl rfl c101
              refine lv_iload hx hb dX8_readOne_158 (lv_at hl 0 rfl) ?_
              refine lv_bipush (v := 19) hx hb dX8_readOne_160 (by decide) ?_
              refine lv_icmp_lt (tgt := 173) hx hb dX8_readOne_162 (by decide) (fun c102 => ?_) (fun c102 => ?_)
              · have dc102 : x_p0_value.toInt < 19 := lt_i (a := x_p0_value.toInt) (b := 19) rfl rfl c102
                have k103 : (-2147483648) ≤ x_p0_value.toInt ∧ x_p0_value.toInt ≤ 18 := ⟨(ir_any _).1, up_lt dc102 (Int.le_refl _) (by decide)⟩
                refine lv_aload_n hx hb dX8_readOne_173 rfl (lv_at hl 2 rfl) ?_
                refine lv_iload hx hb dX8_readOne_174 (lv_at hl 0 rfl) ?_
                refine lv_iconst (v := 0) hx hb dX8_readOne_176 (by decide) ?_
                refine lv_iconst (v := 0) hx hb dX8_readOne_177 (by decide) ?_
                have n104 : F80 0 = .ref h_step := (get_ne eF80 (by decide) e_step)
                have n105 : F80 1 = .ref h_sign := (get_ne eF80 (by decide) e_sign)
                have n106 : F80 2 = .ref h_value := (get_ne eF80 (by decide) e_value)
                have n107 : F80 3 = .int x_steps := (get_ne eF80 (by decide) e_steps)
                refine call_Vi (wr := [(p1, .inr (1, vL 18 F_p1_)), (h_p1_manName, .inl (cJ, 12, .inr (.inl f_p1_manName))), (p0, .inr (6, vL 12 F82)), (h_p0_bytes, .inl (cB, 940, .inl f_p0_bytes)), (h_p0_wordNames, .inl (cJ, 23, .inr (.inl f_p0_wordNames)))]) (As := [.int x_p0_value, .int 0, .int 0]) (rest := []) hx hb hml hown hw (m_X8_addStep l D cI cJ cB cP cM cZ h0 h_step h_sign h_value F80 x_steps f_step f_sign f_value x_p0_value 0 0 _ n104 n105 n106 n107 i_x_steps) wV_X8_41_X8_addStep dX8_readOne_178 hK hP hD hS hA [0, 1, 2, 3] [4, 5, 6, 7, 8] rfl rfl (by decide) (by decide) (by decide) 0 8 rfl rfl GG.fb hG.at hl.1 rfl (Nat.le_of_ble_eq_true rfl) ⟨(Nat.le_of_ble_eq_true rfl), (Nat.le_of_ble_eq_true rfl)⟩ ⟨(Nat.le_of_ble_eq_true rfl), (Nat.le_of_ble_eq_true rfl)⟩ (fun r108 u H locs hp hP hD hS => ?_)
                have zl0 : (0 : Int32).toInt = 0 := by decide
                obtain ⟨F109, y110, g111, g112, g113, t114, t115, t116, rfl, rfl⟩ := hp
                have hP : va_P D vwCl [(p1, .inr (1, vL 18 F_p1_)), (h_p1_manName, .inl (cJ, 12, .inr (.inl f_p1_manName))), (p0, .inr (6, vL 12 F82)), (h_p0_bytes, .inl (cB, 940, .inl f_p0_bytes)), (h_p0_wordNames, .inl (cJ, 23, .inr (.inl f_p0_wordNames))), (h0, .inr (8, vL 5 F109)), (h_step, .inl (cI, 40, .inl g111)), (h_sign, .inl (cI, 40, .inl g112)), (h_value, .inl (cI, 40, .inl g113))] H := hP
                have hD : va_D A [(p1, .inr (1, vL 18 F_p1_)), (h_p1_manName, .inl (cJ, 12, .inr (.inl f_p1_manName))), (p0, .inr (6, vL 12 F82)), (h_p0_bytes, .inl (cB, 940, .inl f_p0_bytes)), (h_p0_wordNames, .inl (cJ, 23, .inr (.inl f_p0_wordNames))), (h0, .inr (8, vL 5 F109)), (h_step, .inl (cI, 40, .inl g111)), (h_sign, .inl (cI, 40, .inl g112)), (h_value, .inl (cI, 40, .inl g113))] := hD
                refine W.widen (k := 0) (n := 0) (Nat.le_of_ble_eq_true rfl) (Nat.le_of_ble_eq_true rfl) ?_
                exact ret_i (v := 1) hx hb hr hlocks hS (hP.sub (ws' := [(h0, .inr (8, vL 5 F109)), (h_step, .inl (cI, 40, .inl g111)), (h_sign, .inl (cI, 40, .inl g112)), (h_value, .inl (cI, 40, .inl g113)), (p0, .inr (6, vL 12 F82)), (h_p0_bytes, .inl (cB, 940, .inl f_p0_bytes)), (h_p0_wordNames, .inl (cJ, 23, .inr (.inl f_p0_wordNames))), (p1, .inr (1, vL 18 F_p1_)), (h_p1_manName, .inl (cJ, 12, .inr (.inl f_p1_manName)))]) [5, 6, 7, 8, 2, 3, 4, 0, 1] rfl) (hD.sub (ws' := [(h0, .inr (8, vL 5 F109)), (h_step, .inl (cI, 40, .inl g111)), (h_sign, .inl (cI, 40, .inl g112)), (h_value, .inl (cI, 40, .inl g113)), (p0, .inr (6, vL 12 F82)), (h_p0_bytes, .inl (cB, 940, .inl f_p0_bytes)), (h_p0_wordNames, .inl (cJ, 23, .inr (.inl f_p0_wordNames))), (p1, .inr (1, vL 18 F_p1_)), (h_p1_manName, .inl (cJ, 12, .inr (.inl f_p1_manName)))]) [5, 6, 7, 8, 2, 3, 4, 0, 1] (by decide) rfl) dX8_readOne_181 rfl (Nat.le_of_ble_eq_true rfl) (Nat.le_of_ble_eq_true rfl) ⟨F109, y110, v78, F82, y83, y84, y85, y86, x_p0_number, x_p0_faultKind, x_p0_faultPlace, y87, g111, g112, g113, (SAME.tr (SAME.up eF80 SAME.rf (by decide)) t114 (by decide)), t115, (ir_wk t116 (by decide) (by decide)), (SAME.at t114 (by decide) (get_eq eF80)), (SAME.tr SAME.rf t88 (by decide)), t89, t91, t93, t94, (SAME.at t88 (by decide) e_p0_number), (SAME.at t88 (by decide) e_p0_faultKind), (SAME.at t88 (by decide) e_p0_faultPlace), t95, t96, (show 0 ≤ (1 : Int32).toInt ∧ (1 : Int32).toInt ≤ 1 by decide), rfl⟩
              · have dc102 : 19 ≤ x_p0_value.toInt := nlt_i (a := x_p0_value.toInt) (b := 19) rfl rfl c102
                have k118 : 19 ≤ x_p0_value.toInt ∧ x_p0_value.toInt ≤ 2147483647 := ⟨Int.le_trans (Int.le_refl _) dc102, (ir_any _).2⟩
                refine lv_aload_n hx hb dX8_readOne_165 rfl (lv_at hl 2 rfl) ?_
                refine lv_aload_n hx hb dX8_readOne_166 rfl (lv_at hl 3 rfl) ?_
                refine lv_iload hx hb dX8_readOne_167 (lv_at hl 0 rfl) ?_
                have n119 : F80 0 = .ref h_step := (get_ne eF80 (by decide) e_step)
                have n120 : F80 1 = .ref h_sign := (get_ne eF80 (by decide) e_sign)
                have n121 : F80 2 = .ref h_value := (get_ne eF80 (by decide) e_value)
                have n122 : F80 3 = .int x_steps := (get_ne eF80 (by decide) e_steps)
                have n123 : F82 0 = .ref h_p0_bytes := (SAME.at t88 (by decide) e_p0_bytes)
                have n124 : F82 1 = .int x_p0_length := (SAME.at t88 (by decide) e_p0_length)
                have n125 : F82 6 = .int x_p0_number := (SAME.at t88 (by decide) e_p0_number)
                have n126 : F82 7 = .int x_p0_faultKind := (SAME.at t88 (by decide) e_p0_faultKind)
                have n127 : F82 8 = .int x_p0_faultPlace := (SAME.at t88 (by decide) e_p0_faultPlace)
                have n128 : F82 9 = .ref h_p0_wordNames := (SAME.at t88 (by decide) e_p0_wordNames)
                have n129 : F82 11 = .int x_p0_mostBytes := (SAME.at t88 (by decide) e_p0_mostBytes)
                refine call_Vi (wr := [(p1, .inr (1, vL 18 F_p1_)), (h_p1_manName, .inl (cJ, 12, .inr (.inl f_p1_manName)))]) (As := [.ref p0, .int x_p0_value]) (rest := []) hx hb hml hown hw (m_X8_readCompared l D cI cJ cB cP cM cZ h0 h_step h_sign h_value p0 h_p0_bytes h_p0_wordNames F80 x_steps f_step f_sign f_value F82 x_p0_length y83 y84 y85 y86 x_p0_number x_p0_faultKind x_p0_faultPlace y87 x_p0_mostBytes f_p0_bytes f_p0_wordNames x_p0_value _ n119 n120 n121 n122 i_x_steps n123 n124 i_x_p0_length t89 t91 t93 t94 n125 n126 n127 n128 t95 t96 n129 s_p0_bytes_0 s_p0_wordNames_KN) wV_X8_68_X8_readCompared dX8_readOne_169 hK hP hD hS hA [0, 1, 2, 3, 6, 7, 8] [4, 5] rfl rfl (by decide) (by decide) (by decide) 0 8 rfl rfl GG.fb hG.at hl.1 rfl (Nat.le_of_ble_eq_true rfl) ⟨(Nat.le_of_ble_eq_true rfl), (Nat.le_of_ble_eq_true rfl)⟩ ⟨(Nat.le_of_ble_eq_true rfl), (Nat.le_of_ble_eq_true rfl)⟩ (fun r130 u H locs hp hP hD hS => ?_)
                refine hp.elim (fun F131 h9z0 => h9z0.elim (fun y132 h9z1 => h9z1.elim (fun F133 h9z2 => h9z2.elim (fun y134 h9z3 => h9z3.elim (fun y135 h9z4 => h9z4.elim (fun y136 h9z5 => h9z5.elim (fun y137 h9z6 => h9z6.elim (fun y138 h9z7 => h9z7.elim (fun y139 h9z8 => h9z8.elim (fun y140 h9z9 => h9z9.elim (fun y141 h9z10 => h9z10.elim (fun g142 h9z11 => h9z11.elim (fun g143 h9z12 => h9z12.elim (fun g144 h9z13 => h9z13.elim (fun t145 h9z14 => h9z14.elim (fun t146 h9z15 => h9z15.elim (fun t147 h9z16 => h9z16.elim (fun t148 h9z17 => h9z17.elim (fun t149 h9z18 => h9z18.elim (fun t150 h9z19 => h9z19.elim (fun t151 h9z20 => h9z20.elim (fun t152 h9z21 => h9z21.elim (fun t153 h9z22 => h9z22.elim (fun t154 h9z23 => h9z23.elim (fun t155 h9z24 => h9z24.elim (fun t156 h9z25 => h9z25.elim (fun t157 h9z26 => h9z26.elim (fun t158 h9z27 => ?_))))))))))))))))))))))))))))
                clear h9z0 h9z1 h9z2 h9z3 h9z4 h9z5 h9z6 h9z7 h9z8 h9z9 h9z10 h9z11 h9z12 h9z13 h9z14 h9z15 h9z16 h9z17 h9z18 h9z19 h9z20 h9z21 h9z22 h9z23 h9z24 h9z25 h9z26
                subst h9z27
                have hP : va_P D vwCl [(p1, .inr (1, vL 18 F_p1_)), (h_p1_manName, .inl (cJ, 12, .inr (.inl f_p1_manName))), (h0, .inr (8, vL 5 F131)), (h_step, .inl (cI, 40, .inl g142)), (h_sign, .inl (cI, 40, .inl g143)), (h_value, .inl (cI, 40, .inl g144)), (p0, .inr (6, vL 12 F133)), (h_p0_bytes, .inl (cB, 940, .inl f_p0_bytes)), (h_p0_wordNames, .inl (cJ, 23, .inr (.inl f_p0_wordNames)))] H := hP
                have hD : va_D A [(p1, .inr (1, vL 18 F_p1_)), (h_p1_manName, .inl (cJ, 12, .inr (.inl f_p1_manName))), (h0, .inr (8, vL 5 F131)), (h_step, .inl (cI, 40, .inl g142)), (h_sign, .inl (cI, 40, .inl g143)), (h_value, .inl (cI, 40, .inl g144)), (p0, .inr (6, vL 12 F133)), (h_p0_bytes, .inl (cB, 940, .inl f_p0_bytes)), (h_p0_wordNames, .inl (cJ, 23, .inr (.inl f_p0_wordNames)))] := hD
                refine W.widen (k := 0) (n := 0) (Nat.le_of_ble_eq_true rfl) (Nat.le_of_ble_eq_true rfl) ?_
                exact ret_i (v := r130) hx hb hr hlocks hS (hP.sub (ws' := [(h0, .inr (8, vL 5 F131)), (h_step, .inl (cI, 40, .inl g142)), (h_sign, .inl (cI, 40, .inl g143)), (h_value, .inl (cI, 40, .inl g144)), (p0, .inr (6, vL 12 F133)), (h_p0_bytes, .inl (cB, 940, .inl f_p0_bytes)), (h_p0_wordNames, .inl (cJ, 23, .inr (.inl f_p0_wordNames))), (p1, .inr (1, vL 18 F_p1_)), (h_p1_manName, .inl (cJ, 12, .inr (.inl f_p1_manName)))]) [2, 3, 4, 5, 6, 7, 8, 0, 1] rfl) (hD.sub (ws' := [(h0, .inr (8, vL 5 F131)), (h_step, .inl (cI, 40, .inl g142)), (h_sign, .inl (cI, 40, .inl g143)), (h_value, .inl (cI, 40, .inl g144)), (p0, .inr (6, vL 12 F133)), (h_p0_bytes, .inl (cB, 940, .inl f_p0_bytes)), (h_p0_wordNames, .inl (cJ, 23, .inr (.inl f_p0_wordNames))), (p1, .inr (1, vL 18 F_p1_)), (h_p1_manName, .inl (cJ, 12, .inr (.inl f_p1_manName)))]) [2, 3, 4, 5, 6, 7, 8, 0, 1] (by decide) rfl) dX8_readOne_172 (nz_i t158.1 t158.2) (Nat.le_of_ble_eq_true rfl) (Nat.le_of_ble_eq_true rfl) ⟨F131, y132, v78, F133, y134, y135, y136, y137, y138, y139, y140, y141, g142, g143, g144, (SAME.tr (SAME.up eF80 SAME.rf (by decide)) t145 (by decide)), t146, t147, (SAME.at t145 (by decide) (get_eq eF80)), (SAME.tr (SAME.tr SAME.rf t88 (by decide)) t148 (by decide)), t149, t150, t151, t152, t153, t154, t155, t156, t157, t158, rfl⟩
            · have dc101 : x_p0_value.toInt = 18 := eq_i (a := x_p0_value.toInt) (b := 18) rfl rfl c101
              have k160 : 18 ≤ x_p0_value.toInt ∧ x_p0_value.toInt ≤ 18 := ⟨Int.le_trans (Int.le_refl _) (Int.le_of_eq dc101.symm), Int.le_trans (Int.le_of_eq dc101) (Int.le_refl _)⟩
              refine lv_aload_n hx hb dX8_readOne_151 rfl (lv_at hl 2 rfl) ?_
              refine lv_aload_n hx hb dX8_readOne_152 rfl (lv_at hl 3 rfl) ?_
              refine lv_aload_n hx hb dX8_readOne_153 rfl (lv_at hl 4 rfl) ?_
              have n161 : F80 0 = .ref h_step := (get_ne eF80 (by decide) e_step)
              have n162 : F80 1 = .ref h_sign := (get_ne eF80 (by decide) e_sign)
              have n163 : F80 2 = .ref h_value := (get_ne eF80 (by decide) e_value)
              have n164 : F80 3 = .int x_steps := (get_ne eF80 (by decide) e_steps)
              have n165 : F82 0 = .ref h_p0_bytes := (SAME.at t88 (by decide) e_p0_bytes)
              have n166 : F82 1 = .int x_p0_length := (SAME.at t88 (by decide) e_p0_length)
              have n167 : F82 7 = .int x_p0_faultKind := (SAME.at t88 (by decide) e_p0_faultKind)
              have n168 : F82 8 = .int x_p0_faultPlace := (SAME.at t88 (by decide) e_p0_faultPlace)
              have n169 : F82 9 = .ref h_p0_wordNames := (SAME.at t88 (by decide) e_p0_wordNames)
              have n170 : F82 11 = .int x_p0_mostBytes := (SAME.at t88 (by decide) e_p0_mostBytes)
              refine call_Vi (wr := []) (As := [.ref p0, .ref p1]) (rest := []) hx hb hml hown hw (m_X8_readAhead l D cI cJ cB cP cM cZ h0 h_step h_sign h_value p0 h_p0_bytes h_p0_wordNames p1 h_p1_manName F80 x_steps f_step f_sign f_value F82 x_p0_length y83 y84 y85 y86 x_p0_faultKind x_p0_faultPlace y87 x_p0_mostBytes f_p0_bytes f_p0_wordNames F_p1_ x_p1_men f_p1_manName _ n161 n162 n163 n164 i_x_steps n165 n166 i_x_p0_length t89 t91 t93 t94 n167 n168 n169 t95 t96 n170 s_p0_bytes_0 s_p0_wordNames_KN e_p1_manName e_p1_men i_x_p1_men) wV_X8_64_X8_readAhead dX8_readOne_154 hK hP hD hS hA [0, 1, 2, 3, 6, 7, 8, 4, 5] [] rfl rfl (by decide) (by decide) (by decide) 0 8 rfl rfl GG.fb hG.at hl.1 rfl (Nat.le_of_ble_eq_true rfl) ⟨(Nat.le_of_ble_eq_true rfl), (Nat.le_of_ble_eq_true rfl)⟩ ⟨(Nat.le_of_ble_eq_true rfl), (Nat.le_of_ble_eq_true rfl)⟩ (fun r171 u H locs hp hP hD hS => ?_)
              refine hp.elim (fun F172 h9z0 => h9z0.elim (fun y173 h9z1 => h9z1.elim (fun F174 h9z2 => h9z2.elim (fun y175 h9z3 => h9z3.elim (fun y176 h9z4 => h9z4.elim (fun y177 h9z5 => h9z5.elim (fun y178 h9z6 => h9z6.elim (fun y179 h9z7 => h9z7.elim (fun y180 h9z8 => h9z8.elim (fun y181 h9z9 => h9z9.elim (fun g182 h9z10 => h9z10.elim (fun g183 h9z11 => h9z11.elim (fun g184 h9z12 => h9z12.elim (fun t185 h9z13 => h9z13.elim (fun t186 h9z14 => h9z14.elim (fun t187 h9z15 => h9z15.elim (fun t188 h9z16 => h9z16.elim (fun t189 h9z17 => h9z17.elim (fun t190 h9z18 => h9z18.elim (fun t191 h9z19 => h9z19.elim (fun t192 h9z20 => h9z20.elim (fun t193 h9z21 => h9z21.elim (fun t194 h9z22 => h9z22.elim (fun t195 h9z23 => h9z23.elim (fun t196 h9z24 => h9z24.elim (fun t197 h9z25 => ?_))))))))))))))))))))))))))
              clear h9z0 h9z1 h9z2 h9z3 h9z4 h9z5 h9z6 h9z7 h9z8 h9z9 h9z10 h9z11 h9z12 h9z13 h9z14 h9z15 h9z16 h9z17 h9z18 h9z19 h9z20 h9z21 h9z22 h9z23 h9z24
              subst h9z25
              have hP : va_P D vwCl [(h0, .inr (8, vL 5 F172)), (h_step, .inl (cI, 40, .inl g182)), (h_sign, .inl (cI, 40, .inl g183)), (h_value, .inl (cI, 40, .inl g184)), (p0, .inr (6, vL 12 F174)), (h_p0_bytes, .inl (cB, 940, .inl f_p0_bytes)), (h_p0_wordNames, .inl (cJ, 23, .inr (.inl f_p0_wordNames))), (p1, .inr (1, vL 18 F_p1_)), (h_p1_manName, .inl (cJ, 12, .inr (.inl f_p1_manName)))] H := hP
              have hD : va_D A [(h0, .inr (8, vL 5 F172)), (h_step, .inl (cI, 40, .inl g182)), (h_sign, .inl (cI, 40, .inl g183)), (h_value, .inl (cI, 40, .inl g184)), (p0, .inr (6, vL 12 F174)), (h_p0_bytes, .inl (cB, 940, .inl f_p0_bytes)), (h_p0_wordNames, .inl (cJ, 23, .inr (.inl f_p0_wordNames))), (p1, .inr (1, vL 18 F_p1_)), (h_p1_manName, .inl (cJ, 12, .inr (.inl f_p1_manName)))] := hD
              refine W.widen (k := 0) (n := 0) (Nat.le_of_ble_eq_true rfl) (Nat.le_of_ble_eq_true rfl) ?_
              exact ret_i (v := r171) hx hb hr hlocks hS hP hD dX8_readOne_157 (nz_i t197.1 t197.2) (Nat.le_of_ble_eq_true rfl) (Nat.le_of_ble_eq_true rfl) ⟨F172, y173, v78, F174, y175, y176, y177, y178, x_p0_number, y179, y180, y181, g182, g183, g184, (SAME.tr (SAME.up eF80 SAME.rf (by decide)) t185 (by decide)), t186, t187, (SAME.at t185 (by decide) (get_eq eF80)), (SAME.tr (SAME.tr SAME.rf t88 (by decide)) t188 (by decide)), t189, t190, t191, t192, (SAME.at t188 (by decide) (SAME.at t88 (by decide) e_p0_number)), t193, t194, t195, t196, t197, rfl⟩
          · have dc100 : x_p0_value.toInt = 16 := eq_i (a := x_p0_value.toInt) (b := 16) rfl rfl c100
            have k199 : 16 ≤ x_p0_value.toInt ∧ x_p0_value.toInt ≤ 16 := ⟨Int.le_trans (Int.le_refl _) (Int.le_of_eq dc100.symm), Int.le_trans (Int.le_of_eq dc100) (Int.le_refl _)⟩
            refine lv_aload_n hx hb dX8_readOne_115 rfl (lv_at hl 2 rfl) ?_
            refine lv_aload_n hx hb dX8_readOne_116 rfl (lv_at hl 3 rfl) ?_
            refine lv_aload_n hx hb dX8_readOne_117 rfl (lv_at hl 4 rfl) ?_
            refine lv_iload_n hx hb dX8_readOne_118 rfl (lv_at hl 5 rfl) ?_
            refine lv_iconst (v := 1) hx hb dX8_readOne_119 (by decide) ?_
            refine lv_iadd hx hb dX8_readOne_120 ?_
            refine lv_ci (y := 2) (by decide +kernel) ?_
            have n200 : F80 0 = .ref h_step := (get_ne eF80 (by decide) e_step)
            have n201 : F80 1 = .ref h_sign := (get_ne eF80 (by decide) e_sign)
            have n202 : F80 2 = .ref h_value := (get_ne eF80 (by decide) e_value)
            have n203 : F80 3 = .int x_steps := (get_ne eF80 (by decide) e_steps)
            have n204 : F82 0 = .ref h_p0_bytes := (SAME.at t88 (by decide) e_p0_bytes)
            have n205 : F82 1 = .int x_p0_length := (SAME.at t88 (by decide) e_p0_length)
            have n206 : F82 6 = .int x_p0_number := (SAME.at t88 (by decide) e_p0_number)
            have n207 : F82 7 = .int x_p0_faultKind := (SAME.at t88 (by decide) e_p0_faultKind)
            have n208 : F82 8 = .int x_p0_faultPlace := (SAME.at t88 (by decide) e_p0_faultPlace)
            have n209 : F82 9 = .ref h_p0_wordNames := (SAME.at t88 (by decide) e_p0_wordNames)
            have n210 : F82 11 = .int x_p0_mostBytes := (SAME.at t88 (by decide) e_p0_mostBytes)
            refine call_Vi (wr := []) (As := [.ref p0, .ref p1, .int 2]) (rest := []) hx hb hml hown hw (m_X8_readOne_2 l D cI cJ cB cP cM cZ h0 h_step h_sign h_value p0 h_p0_bytes h_p0_wordNames p1 h_p1_manName F80 x_steps v78 f_step f_sign f_value F82 x_p0_length y83 y84 y85 y86 x_p0_number x_p0_faultKind x_p0_faultPlace y87 x_p0_mostBytes f_p0_bytes f_p0_wordNames F_p1_ x_p1_men f_p1_manName _ n200 n201 n202 n203 i_x_steps (get_eq eF80) n204 n205 i_x_p0_length t89 t91 t93 t94 n206 n207 n208 n209 t95 t96 n210 s_p0_bytes_0 s_p0_wordNames_KN e_p1_manName e_p1_men i_x_p1_men) wV_X8_52_X8_readOne dX8_readOne_121 hK hP hD hS hA [0, 1, 2, 3, 6, 7, 8, 4, 5] [] rfl rfl (by decide) (by decide) (by decide) 0 8 rfl rfl GG.fb hG.at hl.1 rfl (Nat.le_of_ble_eq_true rfl) ⟨(Nat.le_of_ble_eq_true rfl), (Nat.le_of_ble_eq_true rfl)⟩ ⟨(Nat.le_of_ble_eq_true rfl), (Nat.le_of_ble_eq_true rfl)⟩ (fun r211 u H locs hp hP hD hS => ?_)
            have zl2 : (2 : Int32).toInt = 2 := by decide
            refine hp.elim (fun F212 h9z0 => h9z0.elim (fun y213 h9z1 => h9z1.elim (fun y214 h9z2 => h9z2.elim (fun F215 h9z3 => h9z3.elim (fun y216 h9z4 => h9z4.elim (fun y217 h9z5 => h9z5.elim (fun y218 h9z6 => h9z6.elim (fun y219 h9z7 => h9z7.elim (fun y220 h9z8 => h9z8.elim (fun y221 h9z9 => h9z9.elim (fun y222 h9z10 => h9z10.elim (fun y223 h9z11 => h9z11.elim (fun g224 h9z12 => h9z12.elim (fun g225 h9z13 => h9z13.elim (fun g226 h9z14 => h9z14.elim (fun t227 h9z15 => h9z15.elim (fun t228 h9z16 => h9z16.elim (fun t229 h9z17 => h9z17.elim (fun t230 h9z18 => h9z18.elim (fun t231 h9z19 => h9z19.elim (fun t232 h9z20 => h9z20.elim (fun t233 h9z21 => h9z21.elim (fun t234 h9z22 => h9z22.elim (fun t235 h9z23 => h9z23.elim (fun t236 h9z24 => h9z24.elim (fun t237 h9z25 => h9z25.elim (fun t238 h9z26 => h9z26.elim (fun t239 h9z27 => h9z27.elim (fun t240 h9z28 => h9z28.elim (fun t241 h9z29 => ?_))))))))))))))))))))))))))))))
            clear h9z0 h9z1 h9z2 h9z3 h9z4 h9z5 h9z6 h9z7 h9z8 h9z9 h9z10 h9z11 h9z12 h9z13 h9z14 h9z15 h9z16 h9z17 h9z18 h9z19 h9z20 h9z21 h9z22 h9z23 h9z24 h9z25 h9z26 h9z27 h9z28
            subst h9z29
            have hP : va_P D vwCl [(h0, .inr (8, vL 5 F212)), (h_step, .inl (cI, 40, .inl g224)), (h_sign, .inl (cI, 40, .inl g225)), (h_value, .inl (cI, 40, .inl g226)), (p0, .inr (6, vL 12 F215)), (h_p0_bytes, .inl (cB, 940, .inl f_p0_bytes)), (h_p0_wordNames, .inl (cJ, 23, .inr (.inl f_p0_wordNames))), (p1, .inr (1, vL 18 F_p1_)), (h_p1_manName, .inl (cJ, 12, .inr (.inl f_p1_manName)))] H := hP
            have hD : va_D A [(h0, .inr (8, vL 5 F212)), (h_step, .inl (cI, 40, .inl g224)), (h_sign, .inl (cI, 40, .inl g225)), (h_value, .inl (cI, 40, .inl g226)), (p0, .inr (6, vL 12 F215)), (h_p0_bytes, .inl (cB, 940, .inl f_p0_bytes)), (h_p0_wordNames, .inl (cJ, 23, .inr (.inl f_p0_wordNames))), (p1, .inr (1, vL 18 F_p1_)), (h_p1_manName, .inl (cJ, 12, .inr (.inl f_p1_manName)))] := hD
            refine W.widen (k := 0) (n := 0) (Nat.le_of_ble_eq_true rfl) (Nat.le_of_ble_eq_true rfl) ?_
            refine lv_if_eq (tgt := 142) hx hb dX8_readOne_124 (by decide) (fun c243 => ?_) (fun c243 => ?_)
            · have dc243 : r211.toInt = 0 := eq_i (a := r211.toInt) (b := 0) rfl rfl c243
              have k244 : 0 ≤ r211.toInt ∧ r211.toInt ≤ 0 := ⟨t241.1, Int.le_trans (Int.le_of_eq dc243) (Int.le_refl _)⟩
              refine lv_iconst (v := 0) hx hb dX8_readOne_142 (by decide) ?_
              exact ret_i (v := 0) hx hb hr hlocks hS hP hD dX8_readOne_143 rfl (Nat.le_of_ble_eq_true rfl) (Nat.le_of_ble_eq_true rfl) ⟨F212, y213, y214, F215, y216, y217, y218, y219, y220, y221, y222, y223, g224, g225, g226, (SAME.tr (SAME.up eF80 SAME.rf (by decide)) t227 (by decide)), t228, t229, t230, (SAME.tr (SAME.tr SAME.rf t88 (by decide)) t231 (by decide)), t232, t233, t234, t235, t236, t237, t238, t239, t240, (show 0 ≤ (0 : Int32).toInt ∧ (0 : Int32).toInt ≤ 1 by decide), rfl⟩
            · have dc243 : r211.toInt ≠ 0 := ne_i (a := r211.toInt) (b := 0) rfl rfl c243
              have k245 : 1 ≤ r211.toInt ∧ r211.toInt ≤ 1 := ⟨ne_lo dc243 t241.1 ⟨Int.le_refl _, Int.le_refl _⟩ (by decide), t241.2⟩
              refine lv_aload_n hx hb dX8_readOne_127 rfl (lv_at hl 2 rfl) ?_
              refine lv_bipush (v := 16) hx hb dX8_readOne_128 (by decide) ?_
              refine lv_iconst (v := 0) hx hb dX8_readOne_130 (by decide) ?_
              refine lv_iconst (v := 0) hx hb dX8_readOne_131 (by decide) ?_
              have n246 : F212 0 = .ref h_step := (SAME.at t227 (by decide) n200)
              have n247 : F212 1 = .ref h_sign := (SAME.at t227 (by decide) n201)
              have n248 : F212 2 = .ref h_value := (SAME.at t227 (by decide) n202)
              refine call_Vi (wr := [(p0, .inr (6, vL 12 F215)), (h_p0_bytes, .inl (cB, 940, .inl f_p0_bytes)), (h_p0_wordNames, .inl (cJ, 23, .inr (.inl f_p0_wordNames))), (p1, .inr (1, vL 18 F_p1_)), (h_p1_manName, .inl (cJ, 12, .inr (.inl f_p1_manName)))]) (As := [.int 16, .int 0, .int 0]) (rest := []) hx hb hml hown hw (m_X8_addStep l D cI cJ cB cP cM cZ h0 h_step h_sign h_value F212 y213 g224 g225 g226 16 0 0 _ n246 n247 n248 t228 t229) wV_X8_41_X8_addStep dX8_readOne_132 hK hP hD hS hA [0, 1, 2, 3] [4, 5, 6, 7, 8] rfl rfl (by decide) (by decide) (by decide) 0 8 rfl rfl GG.fb hG.at hl.1 rfl (Nat.le_of_ble_eq_true rfl) ⟨(Nat.le_of_ble_eq_true rfl), (Nat.le_of_ble_eq_true rfl)⟩ ⟨(Nat.le_of_ble_eq_true rfl), (Nat.le_of_ble_eq_true rfl)⟩ (fun r249 u H locs hp hP hD hS => ?_)
              have zl0 : (0 : Int32).toInt = 0 := by decide
              have zl16 : (16 : Int32).toInt = 16 := by decide
              obtain ⟨F250, y251, g252, g253, g254, t255, t256, t257, rfl, rfl⟩ := hp
              have hP : va_P D vwCl [(p0, .inr (6, vL 12 F215)), (h_p0_bytes, .inl (cB, 940, .inl f_p0_bytes)), (h_p0_wordNames, .inl (cJ, 23, .inr (.inl f_p0_wordNames))), (p1, .inr (1, vL 18 F_p1_)), (h_p1_manName, .inl (cJ, 12, .inr (.inl f_p1_manName))), (h0, .inr (8, vL 5 F250)), (h_step, .inl (cI, 40, .inl g252)), (h_sign, .inl (cI, 40, .inl g253)), (h_value, .inl (cI, 40, .inl g254))] H := hP
              have hD : va_D A [(p0, .inr (6, vL 12 F215)), (h_p0_bytes, .inl (cB, 940, .inl f_p0_bytes)), (h_p0_wordNames, .inl (cJ, 23, .inr (.inl f_p0_wordNames))), (p1, .inr (1, vL 18 F_p1_)), (h_p1_manName, .inl (cJ, 12, .inr (.inl f_p1_manName))), (h0, .inr (8, vL 5 F250)), (h_step, .inl (cI, 40, .inl g252)), (h_sign, .inl (cI, 40, .inl g253)), (h_value, .inl (cI, 40, .inl g254))] := hD
              refine W.widen (k := 0) (n := 0) (Nat.le_of_ble_eq_true rfl) (Nat.le_of_ble_eq_true rfl) ?_
              refine lv_if_eq (tgt := 142) hx hb dX8_readOne_135 (by decide) (fun g => absurd g (by decide)) (fun _ => ?_)
              refine lv_iconst (v := 1) hx hb dX8_readOne_138 (by decide) ?_
              refine lv_goto (tgt := 143) hx hb dX8_readOne_139 (by decide) ?_
              exact ret_i (v := 1) hx hb hr hlocks hS (hP.sub (ws' := [(h0, .inr (8, vL 5 F250)), (h_step, .inl (cI, 40, .inl g252)), (h_sign, .inl (cI, 40, .inl g253)), (h_value, .inl (cI, 40, .inl g254)), (p0, .inr (6, vL 12 F215)), (h_p0_bytes, .inl (cB, 940, .inl f_p0_bytes)), (h_p0_wordNames, .inl (cJ, 23, .inr (.inl f_p0_wordNames))), (p1, .inr (1, vL 18 F_p1_)), (h_p1_manName, .inl (cJ, 12, .inr (.inl f_p1_manName)))]) [5, 6, 7, 8, 0, 1, 2, 3, 4] rfl) (hD.sub (ws' := [(h0, .inr (8, vL 5 F250)), (h_step, .inl (cI, 40, .inl g252)), (h_sign, .inl (cI, 40, .inl g253)), (h_value, .inl (cI, 40, .inl g254)), (p0, .inr (6, vL 12 F215)), (h_p0_bytes, .inl (cB, 940, .inl f_p0_bytes)), (h_p0_wordNames, .inl (cJ, 23, .inr (.inl f_p0_wordNames))), (p1, .inr (1, vL 18 F_p1_)), (h_p1_manName, .inl (cJ, 12, .inr (.inl f_p1_manName)))]) [5, 6, 7, 8, 0, 1, 2, 3, 4] (by decide) rfl) dX8_readOne_143 rfl (Nat.le_of_ble_eq_true rfl) (Nat.le_of_ble_eq_true rfl) ⟨F250, y251, y214, F215, y216, y217, y218, y219, y220, y221, y222, y223, g252, g253, g254, (SAME.tr (SAME.tr (SAME.up eF80 SAME.rf (by decide)) t227 (by decide)) t255 (by decide)), t256, (ir_wk t257 (by decide) (by decide)), (SAME.at t255 (by decide) t230), (SAME.tr (SAME.tr SAME.rf t88 (by decide)) t231 (by decide)), t232, t233, t234, t235, t236, t237, t238, t239, t240, (show 0 ≤ (1 : Int32).toInt ∧ (1 : Int32).toInt ≤ 1 by decide), rfl⟩
      · have dc67 : r64.toInt = 0 := eq_i (a := r64.toInt) (b := 0) rfl rfl c67
        have k259 : 0 ≤ r64.toInt ∧ r64.toInt ≤ 0 := ⟨t65.1, Int.le_trans (Int.le_of_eq dc67) (Int.le_refl _)⟩
        refine lv_aload_n hx hb dX8_readOne_35 rfl (lv_at hl 3 rfl) ?_
        refine lv_iconst (v := 1) hx hb dX8_readOne_36 (by decide) ?_
        refine call_Vi (wr := [(h0, .inr (8, vL 5 Fh)), (h_step, .inl (cI, 40, .inl f_step)), (h_sign, .inl (cI, 40, .inl f_sign)), (h_value, .inl (cI, 40, .inl f_value)), (h_p0_bytes, .inl (cB, 940, .inl f_p0_bytes)), (h_p0_wordNames, .inl (cJ, 23, .inr (.inl f_p0_wordNames))), (p1, .inr (1, vL 18 F_p1_)), (h_p1_manName, .inl (cJ, 12, .inr (.inl f_p1_manName)))]) (As := [.int 1]) (rest := []) hx hb hml hown hw (m_X6_fail l D cI cJ cB cP cM cZ p0 F_p0_ x_p0_place 1 _ e_p0_place) wV_X8_48_X6_fail dX8_readOne_37 hK hP hD hS hA [8] [0, 1, 2, 3, 4, 5, 6, 7] rfl rfl (by decide) (by decide) (by decide) 0 6 rfl rfl GG.fb hG.at hl.1 rfl (Nat.le_of_ble_eq_true rfl) ⟨(Nat.le_of_ble_eq_true rfl), (Nat.le_of_ble_eq_true rfl)⟩ ⟨(Nat.le_of_ble_eq_true rfl), (Nat.le_of_ble_eq_true rfl)⟩ (fun r260 u H locs hp hP hD hS => ?_)
        have zl1 : (1 : Int32).toInt = 1 := by decide
        obtain ⟨F261, t262, t263, t264, rfl, rfl⟩ := hp
        have hP : va_P D vwCl [(h0, .inr (8, vL 5 Fh)), (h_step, .inl (cI, 40, .inl f_step)), (h_sign, .inl (cI, 40, .inl f_sign)), (h_value, .inl (cI, 40, .inl f_value)), (h_p0_bytes, .inl (cB, 940, .inl f_p0_bytes)), (h_p0_wordNames, .inl (cJ, 23, .inr (.inl f_p0_wordNames))), (p1, .inr (1, vL 18 F_p1_)), (h_p1_manName, .inl (cJ, 12, .inr (.inl f_p1_manName))), (p0, .inr (6, vL 12 F261))] H := hP
        have hD : va_D A [(h0, .inr (8, vL 5 Fh)), (h_step, .inl (cI, 40, .inl f_step)), (h_sign, .inl (cI, 40, .inl f_sign)), (h_value, .inl (cI, 40, .inl f_value)), (h_p0_bytes, .inl (cB, 940, .inl f_p0_bytes)), (h_p0_wordNames, .inl (cJ, 23, .inr (.inl f_p0_wordNames))), (p1, .inr (1, vL 18 F_p1_)), (h_p1_manName, .inl (cJ, 12, .inr (.inl f_p1_manName))), (p0, .inr (6, vL 12 F261))] := hD
        refine W.widen (k := 0) (n := 0) (Nat.le_of_ble_eq_true rfl) (Nat.le_of_ble_eq_true rfl) ?_
        exact ret_i (v := 0) hx hb hr hlocks hS (hP.sub (ws' := [(h0, .inr (8, vL 5 Fh)), (h_step, .inl (cI, 40, .inl f_step)), (h_sign, .inl (cI, 40, .inl f_sign)), (h_value, .inl (cI, 40, .inl f_value)), (p0, .inr (6, vL 12 F261)), (h_p0_bytes, .inl (cB, 940, .inl f_p0_bytes)), (h_p0_wordNames, .inl (cJ, 23, .inr (.inl f_p0_wordNames))), (p1, .inr (1, vL 18 F_p1_)), (h_p1_manName, .inl (cJ, 12, .inr (.inl f_p1_manName)))]) [0, 1, 2, 3, 8, 4, 5, 6, 7] rfl) (hD.sub (ws' := [(h0, .inr (8, vL 5 Fh)), (h_step, .inl (cI, 40, .inl f_step)), (h_sign, .inl (cI, 40, .inl f_sign)), (h_value, .inl (cI, 40, .inl f_value)), (p0, .inr (6, vL 12 F261)), (h_p0_bytes, .inl (cB, 940, .inl f_p0_bytes)), (h_p0_wordNames, .inl (cJ, 23, .inr (.inl f_p0_wordNames))), (p1, .inr (1, vL 18 F_p1_)), (h_p1_manName, .inl (cJ, 12, .inr (.inl f_p1_manName)))]) [0, 1, 2, 3, 8, 4, 5, 6, 7] (by decide) rfl) dX8_readOne_40 rfl (Nat.le_of_ble_eq_true rfl) (Nat.le_of_ble_eq_true rfl) ⟨Fh, x_steps, x_ones, F261, x_p0_kind, x_p0_place, x_p0_value, x_p0_name, x_p0_number, 1, x_p0_place, x_p0_at, f_step, f_sign, f_value, SAME.rf, e_steps, i_x_steps, e_ones, (SAME.tr SAME.rf t262 (by decide)), (SAME.at t262 (by decide) e_p0_kind), (SAME.at t262 (by decide) e_p0_place), (SAME.at t262 (by decide) e_p0_value), (SAME.at t262 (by decide) e_p0_name), (SAME.at t262 (by decide) e_p0_number), t263, t264, (SAME.at t262 (by decide) e_p0_at), i_x_p0_at, (show 0 ≤ (0 : Int32).toInt ∧ (0 : Int32).toInt ≤ 1 by decide), rfl⟩
  · have dc1 : x_p0_kind.toInt = 40 := eq_i (a := x_p0_kind.toInt) (b := 40) rfl rfl c1
    have k266 : 40 ≤ x_p0_kind.toInt ∧ x_p0_kind.toInt ≤ 40 := ⟨Int.le_trans (Int.le_refl _) (Int.le_of_eq dc1.symm), Int.le_trans (Int.le_of_eq dc1) (Int.le_refl _)⟩
    refine lv_iconst (v := 1) hx hb dX8_readOne_9 (by decide) ?_
    refine lv_goto (tgt := 14) hx hb dX8_readOne_10 (by decide) ?_
    refine lv_istore (lv' := [(4, .int 1), (0, .ref h0), (1, .ref p0), (2, .ref p1), (3, .int 1)]) hx hb dX8_readOne_14 hl (by decide) rfl (fun ls hl => ?_)
    refine lv_aload_n hx hb dX8_readOne_16 rfl (lv_at hl 2 rfl) ?_
    refine call_Vi (wr := [(h0, .inr (8, vL 5 Fh)), (h_step, .inl (cI, 40, .inl f_step)), (h_sign, .inl (cI, 40, .inl f_sign)), (h_value, .inl (cI, 40, .inl f_value)), (h_p0_bytes, .inl (cB, 940, .inl f_p0_bytes)), (h_p0_wordNames, .inl (cJ, 23, .inr (.inl f_p0_wordNames))), (p1, .inr (1, vL 18 F_p1_)), (h_p1_manName, .inl (cJ, 12, .inr (.inl f_p1_manName)))]) (As := []) (rest := []) hx hb hml hown hw (m_X6_wordHere l D cI cJ cB cP cM cZ p0 F_p0_ x_p0_kind x_p0_value _ e_p0_kind e_p0_value) wV_X8_32_X6_wordHere dX8_readOne_17 hK hP hD hS hA [4] [0, 1, 2, 3, 5, 6, 7, 8] rfl rfl (by decide) (by decide) (by decide) 0 6 rfl rfl GG.fb hG.at hl.1 rfl (Nat.le_of_ble_eq_true rfl) ⟨(Nat.le_of_ble_eq_true rfl), (Nat.le_of_ble_eq_true rfl)⟩ ⟨(Nat.le_of_ble_eq_true rfl), (Nat.le_of_ble_eq_true rfl)⟩ (fun r267 u H locs hp hP hD hS => ?_)
    rcases hp with ⟨t268, rfl, rfl⟩ | ⟨t269, er270, rfl⟩
    · have hP : va_P D vwCl [(h0, .inr (8, vL 5 Fh)), (h_step, .inl (cI, 40, .inl f_step)), (h_sign, .inl (cI, 40, .inl f_sign)), (h_value, .inl (cI, 40, .inl f_value)), (h_p0_bytes, .inl (cB, 940, .inl f_p0_bytes)), (h_p0_wordNames, .inl (cJ, 23, .inr (.inl f_p0_wordNames))), (p1, .inr (1, vL 18 F_p1_)), (h_p1_manName, .inl (cJ, 12, .inr (.inl f_p1_manName))), (p0, .inr (6, vL 12 F_p0_))] H := hP
      have hD : va_D A [(h0, .inr (8, vL 5 Fh)), (h_step, .inl (cI, 40, .inl f_step)), (h_sign, .inl (cI, 40, .inl f_sign)), (h_value, .inl (cI, 40, .inl f_value)), (h_p0_bytes, .inl (cB, 940, .inl f_p0_bytes)), (h_p0_wordNames, .inl (cJ, 23, .inr (.inl f_p0_wordNames))), (p1, .inr (1, vL 18 F_p1_)), (h_p1_manName, .inl (cJ, 12, .inr (.inl f_p1_manName))), (p0, .inr (6, vL 12 F_p0_))] := hD
      refine W.widen (k := 0) (n := 0) (Nat.le_of_ble_eq_true rfl) (Nat.le_of_ble_eq_true rfl) ?_
      refine lv_istore (lv' := [(5, .int (-1)), (4, .int 1), (0, .ref h0), (1, .ref p0), (2, .ref p1), (3, .int 1)]) hx hb dX8_readOne_20 hl (by decide) rfl (fun ls hl => ?_)
      refine lv_iload hx hb dX8_readOne_22 (lv_at hl 1 rfl) ?_
      refine lv_if_ne (tgt := 41) hx hb dX8_readOne_24 (by decide) (fun _ => ?_) (fun g => absurd g (by decide))
      refine lv_aload_n hx hb dX8_readOne_41 rfl (lv_at hl 2 rfl) ?_
      refine get_f (D := D) (ci := 8) (v := .int x_ones) (C := RX8) (T := TX8) (N := 5) hx hb hw inAX8 hown hK hP 0 rfl rfl 4 (by decide) (hw _ q_696) (fun _ h9 => h9) e_ones dX8_readOne_42 ?_
      refine lv_bipush (v := 20) hx hb dX8_readOne_45 (by decide) ?_
      refine lv_icmp_ge (tgt := 56) hx hb dX8_readOne_47 (by decide) (fun c271 => ?_) (fun c271 => ?_)
      · have dc271 : 20 ≤ x_ones.toInt := le_i (a := 20) (b := x_ones.toInt) rfl rfl c271
        have k272 : 20 ≤ x_ones.toInt ∧ x_ones.toInt ≤ 2147483647 := ⟨Int.le_trans (Int.le_refl _) dc271, (ir_any _).2⟩
        refine lv_aload_n hx hb dX8_readOne_56 rfl (lv_at hl 3 rfl) ?_
        refine lv_iconst (v := 4) hx hb dX8_readOne_57 (by decide) ?_
        refine call_Vi (wr := [(h0, .inr (8, vL 5 Fh)), (h_step, .inl (cI, 40, .inl f_step)), (h_sign, .inl (cI, 40, .inl f_sign)), (h_value, .inl (cI, 40, .inl f_value)), (h_p0_bytes, .inl (cB, 940, .inl f_p0_bytes)), (h_p0_wordNames, .inl (cJ, 23, .inr (.inl f_p0_wordNames))), (p1, .inr (1, vL 18 F_p1_)), (h_p1_manName, .inl (cJ, 12, .inr (.inl f_p1_manName)))]) (As := [.int 4]) (rest := []) hx hb hml hown hw (m_X6_fail l D cI cJ cB cP cM cZ p0 F_p0_ x_p0_place 4 _ e_p0_place) wV_X8_48_X6_fail dX8_readOne_58 hK hP hD hS hA [8] [0, 1, 2, 3, 4, 5, 6, 7] rfl rfl (by decide) (by decide) (by decide) 0 6 rfl rfl GG.fb hG.at hl.1 rfl (Nat.le_of_ble_eq_true rfl) ⟨(Nat.le_of_ble_eq_true rfl), (Nat.le_of_ble_eq_true rfl)⟩ ⟨(Nat.le_of_ble_eq_true rfl), (Nat.le_of_ble_eq_true rfl)⟩ (fun r273 u H locs hp hP hD hS => ?_)
        have zl4 : (4 : Int32).toInt = 4 := by decide
        obtain ⟨F274, t275, t276, t277, rfl, rfl⟩ := hp
        have hP : va_P D vwCl [(h0, .inr (8, vL 5 Fh)), (h_step, .inl (cI, 40, .inl f_step)), (h_sign, .inl (cI, 40, .inl f_sign)), (h_value, .inl (cI, 40, .inl f_value)), (h_p0_bytes, .inl (cB, 940, .inl f_p0_bytes)), (h_p0_wordNames, .inl (cJ, 23, .inr (.inl f_p0_wordNames))), (p1, .inr (1, vL 18 F_p1_)), (h_p1_manName, .inl (cJ, 12, .inr (.inl f_p1_manName))), (p0, .inr (6, vL 12 F274))] H := hP
        have hD : va_D A [(h0, .inr (8, vL 5 Fh)), (h_step, .inl (cI, 40, .inl f_step)), (h_sign, .inl (cI, 40, .inl f_sign)), (h_value, .inl (cI, 40, .inl f_value)), (h_p0_bytes, .inl (cB, 940, .inl f_p0_bytes)), (h_p0_wordNames, .inl (cJ, 23, .inr (.inl f_p0_wordNames))), (p1, .inr (1, vL 18 F_p1_)), (h_p1_manName, .inl (cJ, 12, .inr (.inl f_p1_manName))), (p0, .inr (6, vL 12 F274))] := hD
        refine W.widen (k := 0) (n := 0) (Nat.le_of_ble_eq_true rfl) (Nat.le_of_ble_eq_true rfl) ?_
        exact ret_i (v := 0) hx hb hr hlocks hS (hP.sub (ws' := [(h0, .inr (8, vL 5 Fh)), (h_step, .inl (cI, 40, .inl f_step)), (h_sign, .inl (cI, 40, .inl f_sign)), (h_value, .inl (cI, 40, .inl f_value)), (p0, .inr (6, vL 12 F274)), (h_p0_bytes, .inl (cB, 940, .inl f_p0_bytes)), (h_p0_wordNames, .inl (cJ, 23, .inr (.inl f_p0_wordNames))), (p1, .inr (1, vL 18 F_p1_)), (h_p1_manName, .inl (cJ, 12, .inr (.inl f_p1_manName)))]) [0, 1, 2, 3, 8, 4, 5, 6, 7] rfl) (hD.sub (ws' := [(h0, .inr (8, vL 5 Fh)), (h_step, .inl (cI, 40, .inl f_step)), (h_sign, .inl (cI, 40, .inl f_sign)), (h_value, .inl (cI, 40, .inl f_value)), (p0, .inr (6, vL 12 F274)), (h_p0_bytes, .inl (cB, 940, .inl f_p0_bytes)), (h_p0_wordNames, .inl (cJ, 23, .inr (.inl f_p0_wordNames))), (p1, .inr (1, vL 18 F_p1_)), (h_p1_manName, .inl (cJ, 12, .inr (.inl f_p1_manName)))]) [0, 1, 2, 3, 8, 4, 5, 6, 7] (by decide) rfl) dX8_readOne_61 rfl (Nat.le_of_ble_eq_true rfl) (Nat.le_of_ble_eq_true rfl) ⟨Fh, x_steps, x_ones, F274, x_p0_kind, x_p0_place, x_p0_value, x_p0_name, x_p0_number, 4, x_p0_place, x_p0_at, f_step, f_sign, f_value, SAME.rf, e_steps, i_x_steps, e_ones, (SAME.tr SAME.rf t275 (by decide)), (SAME.at t275 (by decide) e_p0_kind), (SAME.at t275 (by decide) e_p0_place), (SAME.at t275 (by decide) e_p0_value), (SAME.at t275 (by decide) e_p0_name), (SAME.at t275 (by decide) e_p0_number), t276, t277, (SAME.at t275 (by decide) e_p0_at), i_x_p0_at, (show 0 ≤ (0 : Int32).toInt ∧ (0 : Int32).toInt ≤ 1 by decide), rfl⟩
      · have dc271 : x_ones.toInt < 20 := nle_i (a := 20) (b := x_ones.toInt) rfl rfl c271
        have k279 : (-2147483648) ≤ x_ones.toInt ∧ x_ones.toInt ≤ 19 := ⟨(ir_any _).1, up_lt dc271 (Int.le_refl _) (by decide)⟩
        refine lv_iload_n hx hb dX8_readOne_50 rfl (lv_at hl 5 rfl) ?_
        refine lv_bipush (v := 8) hx hb dX8_readOne_51 (by decide) ?_
        refine lv_icmp_le (tgt := 62) hx hb dX8_readOne_53 (by decide) (fun _ => ?_) (fun g => absurd (by decide) g)
        refine lv_aload_n hx hb dX8_readOne_62 rfl (lv_at hl 2 rfl) ?_
        refine lv_dup hx hb dX8_readOne_63 rfl ?_
        refine get_f (D := D) (ci := 8) (v := .int x_ones) (C := RX8) (T := TX8) (N := 5) hx hb hw inAX8 hown hK hP 0 rfl rfl 4 (by decide) (hw _ q_696) (fun _ h9 => h9) e_ones dX8_readOne_64 ?_
        refine lv_iconst (v := 1) hx hb dX8_readOne_67 (by decide) ?_
        refine lv_iadd hx hb dX8_readOne_68 ?_
        refine lv_topi (fun v280 ev280 => ?_)
        have bv280 : v280.toInt = x_ones.toInt + 1 := by rw [ev280]; exact add_k rfl rfl k279 ⟨Int.le_refl _, Int.le_refl _⟩ (by decide)
        have k281 : (-2147483647) ≤ v280.toInt ∧ v280.toInt ≤ 20 := add_r bv280 k279 ⟨Int.le_refl _, Int.le_refl _⟩ (by decide)
        refine put_f (D := D) (ci := 8) (v := .int v280) (ty := .int) (C := RX8) (T := TX8) (N := 5) hx hb hw inAX8 tyX8 tyX8_ok nmX8 hown hK hP hD hS 0 rfl rfl 4 (by decide) (hw _ q_696) (fun _ h9 => h9) rfl (by decide +kernel) rfl rfl dX8_readOne_69 (fun H locs F282 eF282 hP hD hS => ?_)
        have hP : va_P D vwCl [(h0, .inr (8, vL 5 F282)), (h_step, .inl (cI, 40, .inl f_step)), (h_sign, .inl (cI, 40, .inl f_sign)), (h_value, .inl (cI, 40, .inl f_value)), (h_p0_bytes, .inl (cB, 940, .inl f_p0_bytes)), (h_p0_wordNames, .inl (cJ, 23, .inr (.inl f_p0_wordNames))), (p1, .inr (1, vL 18 F_p1_)), (h_p1_manName, .inl (cJ, 12, .inr (.inl f_p1_manName))), (p0, .inr (6, vL 12 F_p0_))] H := hP
        have hD : va_D A [(h0, .inr (8, vL 5 F282)), (h_step, .inl (cI, 40, .inl f_step)), (h_sign, .inl (cI, 40, .inl f_sign)), (h_value, .inl (cI, 40, .inl f_value)), (h_p0_bytes, .inl (cB, 940, .inl f_p0_bytes)), (h_p0_wordNames, .inl (cJ, 23, .inr (.inl f_p0_wordNames))), (p1, .inr (1, vL 18 F_p1_)), (h_p1_manName, .inl (cJ, 12, .inr (.inl f_p1_manName))), (p0, .inr (6, vL 12 F_p0_))] := hD
        refine lv_aload_n hx hb dX8_readOne_72 rfl (lv_at hl 3 rfl) ?_
        refine call_Vv (wr := [(h0, .inr (8, vL 5 F282)), (h_step, .inl (cI, 40, .inl f_step)), (h_sign, .inl (cI, 40, .inl f_sign)), (h_value, .inl (cI, 40, .inl f_value)), (p1, .inr (1, vL 18 F_p1_)), (h_p1_manName, .inl (cJ, 12, .inr (.inl f_p1_manName)))]) (As := []) (rest := []) hx hb hml hown hw (m_X6_advance l D cI cJ cB cP cM cZ p0 h_p0_bytes h_p0_wordNames F_p0_ x_p0_length x_p0_kind x_p0_place x_p0_value x_p0_name x_p0_at x_p0_mostBytes f_p0_bytes f_p0_wordNames _ e_p0_bytes e_p0_length i_x_p0_length e_p0_kind e_p0_place e_p0_value e_p0_name e_p0_wordNames e_p0_at i_x_p0_at e_p0_mostBytes s_p0_bytes_0 s_p0_wordNames_KN) wV_X8_38_X6_advance dX8_readOne_73 hK hP hD hS hA [8, 4, 5] [0, 1, 2, 3, 6, 7] rfl rfl (by decide) (by decide) (by decide) 0 6 rfl rfl GG.fb hG.at hl.1 rfl (Nat.le_of_ble_eq_true rfl) ⟨(Nat.le_of_ble_eq_true rfl), (Nat.le_of_ble_eq_true rfl)⟩ ⟨(Nat.le_of_ble_eq_true rfl), (Nat.le_of_ble_eq_true rfl)⟩ (fun u H locs hp hP hD hS => ?_)
        obtain ⟨F284, y285, y286, y287, y288, y289, t290, t291, t292, t293, t294, t295, t296, t297, t298, t299, t300, rfl⟩ := hp
        have hP : va_P D vwCl [(h0, .inr (8, vL 5 F282)), (h_step, .inl (cI, 40, .inl f_step)), (h_sign, .inl (cI, 40, .inl f_sign)), (h_value, .inl (cI, 40, .inl f_value)), (p1, .inr (1, vL 18 F_p1_)), (h_p1_manName, .inl (cJ, 12, .inr (.inl f_p1_manName))), (p0, .inr (6, vL 12 F284)), (h_p0_bytes, .inl (cB, 940, .inl f_p0_bytes)), (h_p0_wordNames, .inl (cJ, 23, .inr (.inl f_p0_wordNames)))] H := hP
        have hD : va_D A [(h0, .inr (8, vL 5 F282)), (h_step, .inl (cI, 40, .inl f_step)), (h_sign, .inl (cI, 40, .inl f_sign)), (h_value, .inl (cI, 40, .inl f_value)), (p1, .inr (1, vL 18 F_p1_)), (h_p1_manName, .inl (cJ, 12, .inr (.inl f_p1_manName))), (p0, .inr (6, vL 12 F284)), (h_p0_bytes, .inl (cB, 940, .inl f_p0_bytes)), (h_p0_wordNames, .inl (cJ, 23, .inr (.inl f_p0_wordNames)))] := hD
        refine W.widen (k := 0) (n := 0) (Nat.le_of_ble_eq_true rfl) (Nat.le_of_ble_eq_true rfl) ?_
        refine lv_iload hx hb dX8_readOne_76 (lv_at hl 1 rfl) ?_
        refine lv_if_eq (tgt := 108) hx hb dX8_readOne_78 (by decide) (fun g => absurd g (by decide)) (fun _ => ?_)
        refine lv_aload_n hx hb dX8_readOne_81 rfl (lv_at hl 2 rfl) ?_
        refine lv_aload_n hx hb dX8_readOne_82 rfl (lv_at hl 3 rfl) ?_
        refine lv_aload_n hx hb dX8_readOne_83 rfl (lv_at hl 4 rfl) ?_
        refine lv_iload_n hx hb dX8_readOne_84 rfl (lv_at hl 5 rfl) ?_
        refine lv_iconst (v := 1) hx hb dX8_readOne_85 (by decide) ?_
        refine lv_iadd hx hb dX8_readOne_86 ?_
        refine lv_ci (y := 2) (by decide +kernel) ?_
        have n302 : F282 0 = .ref h_step := (get_ne eF282 (by decide) e_step)
        have n303 : F282 1 = .ref h_sign := (get_ne eF282 (by decide) e_sign)
        have n304 : F282 2 = .ref h_value := (get_ne eF282 (by decide) e_value)
        have n305 : F282 3 = .int x_steps := (get_ne eF282 (by decide) e_steps)
        have n306 : F284 0 = .ref h_p0_bytes := (SAME.at t290 (by decide) e_p0_bytes)
        have n307 : F284 1 = .int x_p0_length := (SAME.at t290 (by decide) e_p0_length)
        have n308 : F284 6 = .int x_p0_number := (SAME.at t290 (by decide) e_p0_number)
        have n309 : F284 7 = .int x_p0_faultKind := (SAME.at t290 (by decide) e_p0_faultKind)
        have n310 : F284 8 = .int x_p0_faultPlace := (SAME.at t290 (by decide) e_p0_faultPlace)
        have n311 : F284 9 = .ref h_p0_wordNames := (SAME.at t290 (by decide) e_p0_wordNames)
        have n312 : F284 11 = .int x_p0_mostBytes := (SAME.at t290 (by decide) e_p0_mostBytes)
        refine call_Vi (wr := []) (As := [.ref p0, .ref p1, .int 2]) (rest := []) hx hb hml hown hw (m_X8_readCond_2 l D cI cJ cB cP cM cZ h0 h_step h_sign h_value p0 h_p0_bytes h_p0_wordNames p1 h_p1_manName F282 x_steps v280 f_step f_sign f_value F284 x_p0_length y285 y286 y287 y288 x_p0_number x_p0_faultKind x_p0_faultPlace y289 x_p0_mostBytes f_p0_bytes f_p0_wordNames F_p1_ x_p1_men f_p1_manName _ n302 n303 n304 n305 i_x_steps (get_eq eF282) n306 n307 i_x_p0_length t291 t293 t295 t296 n308 n309 n310 n311 t297 t298 n312 s_p0_bytes_0 s_p0_wordNames_KN e_p1_manName e_p1_men i_x_p1_men) wV_X8_58_X8_readCond dX8_readOne_87 hK hP hD hS hA [0, 1, 2, 3, 6, 7, 8, 4, 5] [] rfl rfl (by decide) (by decide) (by decide) 0 8 rfl rfl GG.fb hG.at hl.1 rfl (Nat.le_of_ble_eq_true rfl) ⟨(Nat.le_of_ble_eq_true rfl), (Nat.le_of_ble_eq_true rfl)⟩ ⟨(Nat.le_of_ble_eq_true rfl), (Nat.le_of_ble_eq_true rfl)⟩ (fun r313 u H locs hp hP hD hS => ?_)
        have zl2 : (2 : Int32).toInt = 2 := by decide
        refine hp.elim (fun F314 h9z0 => h9z0.elim (fun y315 h9z1 => h9z1.elim (fun y316 h9z2 => h9z2.elim (fun F317 h9z3 => h9z3.elim (fun y318 h9z4 => h9z4.elim (fun y319 h9z5 => h9z5.elim (fun y320 h9z6 => h9z6.elim (fun y321 h9z7 => h9z7.elim (fun y322 h9z8 => h9z8.elim (fun y323 h9z9 => h9z9.elim (fun y324 h9z10 => h9z10.elim (fun y325 h9z11 => h9z11.elim (fun g326 h9z12 => h9z12.elim (fun g327 h9z13 => h9z13.elim (fun g328 h9z14 => h9z14.elim (fun t329 h9z15 => h9z15.elim (fun t330 h9z16 => h9z16.elim (fun t331 h9z17 => h9z17.elim (fun t332 h9z18 => h9z18.elim (fun t333 h9z19 => h9z19.elim (fun t334 h9z20 => h9z20.elim (fun t335 h9z21 => h9z21.elim (fun t336 h9z22 => h9z22.elim (fun t337 h9z23 => h9z23.elim (fun t338 h9z24 => h9z24.elim (fun t339 h9z25 => h9z25.elim (fun t340 h9z26 => h9z26.elim (fun t341 h9z27 => h9z27.elim (fun t342 h9z28 => h9z28.elim (fun t343 h9z29 => ?_))))))))))))))))))))))))))))))
        clear h9z0 h9z1 h9z2 h9z3 h9z4 h9z5 h9z6 h9z7 h9z8 h9z9 h9z10 h9z11 h9z12 h9z13 h9z14 h9z15 h9z16 h9z17 h9z18 h9z19 h9z20 h9z21 h9z22 h9z23 h9z24 h9z25 h9z26 h9z27 h9z28
        subst h9z29
        have hP : va_P D vwCl [(h0, .inr (8, vL 5 F314)), (h_step, .inl (cI, 40, .inl g326)), (h_sign, .inl (cI, 40, .inl g327)), (h_value, .inl (cI, 40, .inl g328)), (p0, .inr (6, vL 12 F317)), (h_p0_bytes, .inl (cB, 940, .inl f_p0_bytes)), (h_p0_wordNames, .inl (cJ, 23, .inr (.inl f_p0_wordNames))), (p1, .inr (1, vL 18 F_p1_)), (h_p1_manName, .inl (cJ, 12, .inr (.inl f_p1_manName)))] H := hP
        have hD : va_D A [(h0, .inr (8, vL 5 F314)), (h_step, .inl (cI, 40, .inl g326)), (h_sign, .inl (cI, 40, .inl g327)), (h_value, .inl (cI, 40, .inl g328)), (p0, .inr (6, vL 12 F317)), (h_p0_bytes, .inl (cB, 940, .inl f_p0_bytes)), (h_p0_wordNames, .inl (cJ, 23, .inr (.inl f_p0_wordNames))), (p1, .inr (1, vL 18 F_p1_)), (h_p1_manName, .inl (cJ, 12, .inr (.inl f_p1_manName)))] := hD
        refine W.widen (k := 0) (n := 0) (Nat.le_of_ble_eq_true rfl) (Nat.le_of_ble_eq_true rfl) ?_
        refine lv_if_eq (tgt := 106) hx hb dX8_readOne_90 (by decide) (fun c345 => ?_) (fun c345 => ?_)
        · have dc345 : r313.toInt = 0 := eq_i (a := r313.toInt) (b := 0) rfl rfl c345
          have k346 : 0 ≤ r313.toInt ∧ r313.toInt ≤ 0 := ⟨t343.1, Int.le_trans (Int.le_of_eq dc345) (Int.le_refl _)⟩
          refine lv_iconst (v := 0) hx hb dX8_readOne_106 (by decide) ?_
          exact ret_i (v := 0) hx hb hr hlocks hS hP hD dX8_readOne_107 rfl (Nat.le_of_ble_eq_true rfl) (Nat.le_of_ble_eq_true rfl) ⟨F314, y315, y316, F317, y318, y319, y320, y321, y322, y323, y324, y325, g326, g327, g328, (SAME.tr (SAME.up eF282 SAME.rf (by decide)) t329 (by decide)), t330, t331, t332, (SAME.tr (SAME.tr SAME.rf t290 (by decide)) t333 (by decide)), t334, t335, t336, t337, t338, t339, t340, t341, t342, (show 0 ≤ (0 : Int32).toInt ∧ (0 : Int32).toInt ≤ 1 by decide), rfl⟩
        · have dc345 : r313.toInt ≠ 0 := ne_i (a := r313.toInt) (b := 0) rfl rfl c345
          have k347 : 1 ≤ r313.toInt ∧ r313.toInt ≤ 1 := ⟨ne_lo dc345 t343.1 ⟨Int.le_refl _, Int.le_refl _⟩ (by decide), t343.2⟩
          refine lv_aload_n hx hb dX8_readOne_93 rfl (lv_at hl 3 rfl) ?_
          refine lv_bipush (v := 41) hx hb dX8_readOne_94 (by decide) ?_
          have n348 : F317 0 = .ref h_p0_bytes := (SAME.at t333 (by decide) n306)
          have n349 : F317 1 = .int x_p0_length := (SAME.at t333 (by decide) n307)
          have n350 : F317 9 = .ref h_p0_wordNames := (SAME.at t333 (by decide) n311)
          have n351 : F317 11 = .int x_p0_mostBytes := (SAME.at t333 (by decide) n312)
          refine call_Vi (wr := [(h0, .inr (8, vL 5 F314)), (h_step, .inl (cI, 40, .inl g326)), (h_sign, .inl (cI, 40, .inl g327)), (h_value, .inl (cI, 40, .inl g328)), (p1, .inr (1, vL 18 F_p1_)), (h_p1_manName, .inl (cJ, 12, .inr (.inl f_p1_manName)))]) (As := [.int 41]) (rest := []) hx hb hml hown hw (m_X6_takeSign l D cI cJ cB cP cM cZ p0 h_p0_bytes h_p0_wordNames F317 x_p0_length y318 y319 y320 y321 y323 y324 y325 x_p0_mostBytes f_p0_bytes f_p0_wordNames 41 _ n348 n349 i_x_p0_length t334 t335 t336 t337 t339 t340 n350 t341 t342 n351 s_p0_bytes_0 s_p0_wordNames_KN (show 40 ≤ (41 : Int32).toInt ∧ (41 : Int32).toInt ≤ 62 by decide)) wV_X8_61_X6_takeSign dX8_readOne_96 hK hP hD hS hA [4, 5, 6] [0, 1, 2, 3, 7, 8] rfl rfl (by decide) (by decide) (by decide) 0 6 rfl rfl GG.fb hG.at hl.1 rfl (Nat.le_of_ble_eq_true rfl) ⟨(Nat.le_of_ble_eq_true rfl), (Nat.le_of_ble_eq_true rfl)⟩ ⟨(Nat.le_of_ble_eq_true rfl), (Nat.le_of_ble_eq_true rfl)⟩ (fun r352 u H locs hp hP hD hS => ?_)
          have zl41 : (41 : Int32).toInt = 41 := by decide
          rcases hp with ⟨F353, y354, y355, y356, y357, y358, t359, t360, t361, t362, t363, t364, t365, t366, t367, t368, t369, t370, rfl, rfl⟩ | ⟨F371, y372, y373, t374, t375, t376, t377, t378, t379, rfl, rfl⟩
          · have hP : va_P D vwCl [(h0, .inr (8, vL 5 F314)), (h_step, .inl (cI, 40, .inl g326)), (h_sign, .inl (cI, 40, .inl g327)), (h_value, .inl (cI, 40, .inl g328)), (p1, .inr (1, vL 18 F_p1_)), (h_p1_manName, .inl (cJ, 12, .inr (.inl f_p1_manName))), (p0, .inr (6, vL 12 F353)), (h_p0_bytes, .inl (cB, 940, .inl f_p0_bytes)), (h_p0_wordNames, .inl (cJ, 23, .inr (.inl f_p0_wordNames)))] H := hP
            have hD : va_D A [(h0, .inr (8, vL 5 F314)), (h_step, .inl (cI, 40, .inl g326)), (h_sign, .inl (cI, 40, .inl g327)), (h_value, .inl (cI, 40, .inl g328)), (p1, .inr (1, vL 18 F_p1_)), (h_p1_manName, .inl (cJ, 12, .inr (.inl f_p1_manName))), (p0, .inr (6, vL 12 F353)), (h_p0_bytes, .inl (cB, 940, .inl f_p0_bytes)), (h_p0_wordNames, .inl (cJ, 23, .inr (.inl f_p0_wordNames)))] := hD
            refine W.widen (k := 0) (n := 0) (Nat.le_of_ble_eq_true rfl) (Nat.le_of_ble_eq_true rfl) ?_
            have k381 : 41 ≤ y318.toInt ∧ y318.toInt ≤ 41 := ⟨Int.le_trans (Int.le_refl _) (Int.le_of_eq t368.symm), Int.le_trans (Int.le_of_eq t368) (Int.le_refl _)⟩
            refine lv_if_eq (tgt := 106) hx hb dX8_readOne_99 (by decide) (fun g => absurd g (by decide)) (fun _ => ?_)
            refine lv_iconst (v := 1) hx hb dX8_readOne_102 (by decide) ?_
            refine lv_goto (tgt := 107) hx hb dX8_readOne_103 (by decide) ?_
            exact ret_i (v := 1) hx hb hr hlocks hS (hP.sub (ws' := [(h0, .inr (8, vL 5 F314)), (h_step, .inl (cI, 40, .inl g326)), (h_sign, .inl (cI, 40, .inl g327)), (h_value, .inl (cI, 40, .inl g328)), (p0, .inr (6, vL 12 F353)), (h_p0_bytes, .inl (cB, 940, .inl f_p0_bytes)), (h_p0_wordNames, .inl (cJ, 23, .inr (.inl f_p0_wordNames))), (p1, .inr (1, vL 18 F_p1_)), (h_p1_manName, .inl (cJ, 12, .inr (.inl f_p1_manName)))]) [0, 1, 2, 3, 6, 7, 8, 4, 5] rfl) (hD.sub (ws' := [(h0, .inr (8, vL 5 F314)), (h_step, .inl (cI, 40, .inl g326)), (h_sign, .inl (cI, 40, .inl g327)), (h_value, .inl (cI, 40, .inl g328)), (p0, .inr (6, vL 12 F353)), (h_p0_bytes, .inl (cB, 940, .inl f_p0_bytes)), (h_p0_wordNames, .inl (cJ, 23, .inr (.inl f_p0_wordNames))), (p1, .inr (1, vL 18 F_p1_)), (h_p1_manName, .inl (cJ, 12, .inr (.inl f_p1_manName)))]) [0, 1, 2, 3, 6, 7, 8, 4, 5] (by decide) rfl) dX8_readOne_107 rfl (Nat.le_of_ble_eq_true rfl) (Nat.le_of_ble_eq_true rfl) ⟨F314, y315, y316, F353, y354, y355, y356, y357, y322, y323, y324, y358, g326, g327, g328, (SAME.tr (SAME.up eF282 SAME.rf (by decide)) t329 (by decide)), t330, t331, t332, (SAME.tr (SAME.tr (SAME.tr SAME.rf t290 (by decide)) t333 (by decide)) t359 (by decide)), t360, t362, t364, t365, (SAME.at t359 (by decide) t338), (SAME.at t359 (by decide) t339), (SAME.at t359 (by decide) t340), t366, t367, (show 0 ≤ (1 : Int32).toInt ∧ (1 : Int32).toInt ≤ 1 by decide), rfl⟩
          · have hP : va_P D vwCl [(h0, .inr (8, vL 5 F314)), (h_step, .inl (cI, 40, .inl g326)), (h_sign, .inl (cI, 40, .inl g327)), (h_value, .inl (cI, 40, .inl g328)), (p1, .inr (1, vL 18 F_p1_)), (h_p1_manName, .inl (cJ, 12, .inr (.inl f_p1_manName))), (p0, .inr (6, vL 12 F371)), (h_p0_bytes, .inl (cB, 940, .inl f_p0_bytes)), (h_p0_wordNames, .inl (cJ, 23, .inr (.inl f_p0_wordNames)))] H := hP
            have hD : va_D A [(h0, .inr (8, vL 5 F314)), (h_step, .inl (cI, 40, .inl g326)), (h_sign, .inl (cI, 40, .inl g327)), (h_value, .inl (cI, 40, .inl g328)), (p1, .inr (1, vL 18 F_p1_)), (h_p1_manName, .inl (cJ, 12, .inr (.inl f_p1_manName))), (p0, .inr (6, vL 12 F371)), (h_p0_bytes, .inl (cB, 940, .inl f_p0_bytes)), (h_p0_wordNames, .inl (cJ, 23, .inr (.inl f_p0_wordNames)))] := hD
            refine W.widen (k := 0) (n := 0) (Nat.le_of_ble_eq_true rfl) (Nat.le_of_ble_eq_true rfl) ?_
            refine lv_if_eq (tgt := 106) hx hb dX8_readOne_99 (by decide) (fun _ => ?_) (fun g => absurd (by decide) g)
            refine lv_iconst (v := 0) hx hb dX8_readOne_106 (by decide) ?_
            exact ret_i (v := 0) hx hb hr hlocks hS (hP.sub (ws' := [(h0, .inr (8, vL 5 F314)), (h_step, .inl (cI, 40, .inl g326)), (h_sign, .inl (cI, 40, .inl g327)), (h_value, .inl (cI, 40, .inl g328)), (p0, .inr (6, vL 12 F371)), (h_p0_bytes, .inl (cB, 940, .inl f_p0_bytes)), (h_p0_wordNames, .inl (cJ, 23, .inr (.inl f_p0_wordNames))), (p1, .inr (1, vL 18 F_p1_)), (h_p1_manName, .inl (cJ, 12, .inr (.inl f_p1_manName)))]) [0, 1, 2, 3, 6, 7, 8, 4, 5] rfl) (hD.sub (ws' := [(h0, .inr (8, vL 5 F314)), (h_step, .inl (cI, 40, .inl g326)), (h_sign, .inl (cI, 40, .inl g327)), (h_value, .inl (cI, 40, .inl g328)), (p0, .inr (6, vL 12 F371)), (h_p0_bytes, .inl (cB, 940, .inl f_p0_bytes)), (h_p0_wordNames, .inl (cJ, 23, .inr (.inl f_p0_wordNames))), (p1, .inr (1, vL 18 F_p1_)), (h_p1_manName, .inl (cJ, 12, .inr (.inl f_p1_manName)))]) [0, 1, 2, 3, 6, 7, 8, 4, 5] (by decide) rfl) dX8_readOne_107 rfl (Nat.le_of_ble_eq_true rfl) (Nat.le_of_ble_eq_true rfl) ⟨F314, y315, y316, F371, y318, y319, y320, y321, y322, y372, y373, y325, g326, g327, g328, (SAME.tr (SAME.up eF282 SAME.rf (by decide)) t329 (by decide)), t330, t331, t332, (SAME.tr (SAME.tr (SAME.tr SAME.rf t290 (by decide)) t333 (by decide)) t374 (by decide)), (SAME.at t374 (by decide) t334), (SAME.at t374 (by decide) t335), (SAME.at t374 (by decide) t336), (SAME.at t374 (by decide) t337), (SAME.at t374 (by decide) t338), t375, t377, (SAME.at t374 (by decide) t341), t342, (show 0 ≤ (0 : Int32).toInt ∧ (0 : Int32).toInt ≤ 1 by decide), rfl⟩
    · have hP : va_P D vwCl [(h0, .inr (8, vL 5 Fh)), (h_step, .inl (cI, 40, .inl f_step)), (h_sign, .inl (cI, 40, .inl f_sign)), (h_value, .inl (cI, 40, .inl f_value)), (h_p0_bytes, .inl (cB, 940, .inl f_p0_bytes)), (h_p0_wordNames, .inl (cJ, 23, .inr (.inl f_p0_wordNames))), (p1, .inr (1, vL 18 F_p1_)), (h_p1_manName, .inl (cJ, 12, .inr (.inl f_p1_manName))), (p0, .inr (6, vL 12 F_p0_))] H := hP
      have hD : va_D A [(h0, .inr (8, vL 5 Fh)), (h_step, .inl (cI, 40, .inl f_step)), (h_sign, .inl (cI, 40, .inl f_sign)), (h_value, .inl (cI, 40, .inl f_value)), (h_p0_bytes, .inl (cB, 940, .inl f_p0_bytes)), (h_p0_wordNames, .inl (cJ, 23, .inr (.inl f_p0_wordNames))), (p1, .inr (1, vL 18 F_p1_)), (h_p1_manName, .inl (cJ, 12, .inr (.inl f_p1_manName))), (p0, .inr (6, vL 12 F_p0_))] := hD
      refine W.widen (k := 0) (n := 0) (Nat.le_of_ble_eq_true rfl) (Nat.le_of_ble_eq_true rfl) ?_
      refine lv_ci (y := x_p0_value) er270 ?_
      exact False.elim (bad_le (Int.le_of_eq t269) k266.1 (Int.le_refl _) (by decide))
set_option maxHeartbeats 4000000 in
set_option maxRecDepth 100000 in
theorem m_X8_readAll_1 (l : Launch) (D : va_G) (cI cJ cB cP cM cZ : ClassId) (h0 : Nat) (h_step : Nat) (h_sign : Nat) (h_value : Nat) (p0 : Nat) (h_p0_bytes : Nat) (h_p0_wordNames : Nat) (p1 : Nat) (h_p1_manName : Nat) (Fh : Nat → Value) (x_steps : Int32) (x_ones : Int32) (f_step : Nat → Int32) (f_sign : Nat → Int32) (f_value : Nat → Int32) (F_p0_ : Nat → Value) (x_p0_length : Int32) (x_p0_kind : Int32) (x_p0_place : Int32) (x_p0_value : Int32) (x_p0_name : Int64) (x_p0_number : Int32) (x_p0_faultKind : Int32) (x_p0_faultPlace : Int32) (x_p0_at : Int32) (x_p0_mostBytes : Int32) (f_p0_bytes : Nat → Int32) (f_p0_wordNames : Nat → Int64) (F_p1_ : Nat → Value) (x_p1_men : Int32) (f_p1_manName : Nat → Int64) (sz : Nat) (e_step : Fh 0 = .ref h_step) (e_sign : Fh 1 = .ref h_sign) (e_value : Fh 2 = .ref h_value) (e_steps : Fh 3 = .int x_steps) (i_x_steps : IR 0 40 x_steps) (e_ones : Fh 4 = .int x_ones) (e_p0_bytes : F_p0_ 0 = .ref h_p0_bytes) (e_p0_length : F_p0_ 1 = .int x_p0_length) (i_x_p0_length : IR 0 940 x_p0_length) (e_p0_kind : F_p0_ 2 = .int x_p0_kind) (e_p0_place : F_p0_ 3 = .int x_p0_place) (e_p0_value : F_p0_ 4 = .int x_p0_value) (e_p0_name : F_p0_ 5 = .long x_p0_name) (e_p0_number : F_p0_ 6 = .int x_p0_number) (e_p0_faultKind : F_p0_ 7 = .int x_p0_faultKind) (e_p0_faultPlace : F_p0_ 8 = .int x_p0_faultPlace) (e_p0_wordNames : F_p0_ 9 = .ref h_p0_wordNames) (e_p0_at : F_p0_ 10 = .int x_p0_at) (i_x_p0_at : IR 0 940 x_p0_at) (e_p0_mostBytes : F_p0_ 11 = .int x_p0_mostBytes) (s_p0_bytes_0 : SG 0 939 (-128) 127 f_p0_bytes) (s_p0_wordNames_KN : KWN f_p0_wordNames) (e_p1_manName : F_p1_ 2 = .ref h_p1_manName) (e_p1_men : F_p1_ 13 = .int x_p1_men) (i_x_p1_men : IR 0 12 x_p1_men) : CI l yX8_readAll cX8_readAll 5 (some .boolean) { frames := 26, cells := 0, slots := 0, locals := 630 } (GG D cI cJ cB cP cM cZ) D [(h0, .inr (8, vL 5 Fh)), (h_step, .inl (cI, 40, .inl f_step)), (h_sign, .inl (cI, 40, .inl f_sign)), (h_value, .inl (cI, 40, .inl f_value)), (p0, .inr (6, vL 12 F_p0_)), (h_p0_bytes, .inl (cB, 940, .inl f_p0_bytes)), (h_p0_wordNames, .inl (cJ, 23, .inr (.inl f_p0_wordNames))), (p1, .inr (1, vL 18 F_p1_)), (h_p1_manName, .inl (cJ, 12, .inr (.inl f_p1_manName)))] sz [.ref h0, .ref p0, .ref p1, .int 1] (fun (r : Int32) (u : va_W) => ∃ (Gh : Nat → Value) (y_steps : Int32) (y_ones : Int32) (G_p0_ : Nat → Value) (y_p0_kind : Int32) (y_p0_place : Int32) (y_p0_value : Int32) (y_p0_name : Int64) (y_p0_number : Int32) (y_p0_faultKind : Int32) (y_p0_faultPlace : Int32) (y_p0_at : Int32) (g_step : Nat → Int32) (g_sign : Nat → Int32) (g_value : Nat → Int32), SAME [3, 4] Fh Gh ∧ Gh 3 = .int y_steps ∧ IR 0 40 y_steps ∧ Gh 4 = .int y_ones ∧ SAME [2, 3, 4, 5, 6, 7, 8, 10] F_p0_ G_p0_ ∧ G_p0_ 2 = .int y_p0_kind ∧ G_p0_ 3 = .int y_p0_place ∧ G_p0_ 4 = .int y_p0_value ∧ G_p0_ 5 = .long y_p0_name ∧ G_p0_ 6 = .int y_p0_number ∧ G_p0_ 7 = .int y_p0_faultKind ∧ G_p0_ 8 = .int y_p0_faultPlace ∧ G_p0_ 10 = .int y_p0_at ∧ IR 0 940 y_p0_at ∧ IR 0 1 r ∧ u = [(h0, .inr (8, vL 5 Gh)), (h_step, .inl (cI, 40, .inl g_step)), (h_sign, .inl (cI, 40, .inl g_sign)), (h_value, .inl (cI, 40, .inl g_value)), (p0, .inr (6, vL 12 G_p0_)), (h_p0_bytes, .inl (cB, 940, .inl f_p0_bytes)), (h_p0_wordNames, .inl (cJ, 23, .inr (.inl f_p0_wordNames))), (p1, .inr (1, vL 18 F_p1_)), (h_p1_manName, .inl (cJ, 12, .inr (.inl f_p1_manName)))]) := by
  refine CI_mk (by decide) (Nat.le_of_ble_eq_true rfl) ?_
  intro p e s m below meth c A ls E hAe hG hsz hP hD hA hS hl
  obtain ⟨hx, hb, hr, hw, hown, hlocks, hml, hnm⟩ := E
  have hK := hG.1
  have i_x_steps : 0 ≤ x_steps.toInt ∧ x_steps.toInt ≤ 40 := i_x_steps
  have i_x_p0_length : 0 ≤ x_p0_length.toInt ∧ x_p0_length.toInt ≤ 940 := i_x_p0_length
  have i_x_p0_at : 0 ≤ x_p0_at.toInt ∧ x_p0_at.toInt ≤ 940 := i_x_p0_at
  have i_x_p1_men : 0 ≤ x_p1_men.toInt ∧ x_p1_men.toInt ≤ 12 := i_x_p1_men
  have hl : lv_has ls 5 [(0, .ref h0), (1, .ref p0), (2, .ref p1), (3, .int 1)] := hl
  refine lv_aload_n hx hb dX8_readAll_0 rfl (lv_at hl 0 rfl) ?_
  refine lv_aload_n hx hb dX8_readAll_1 rfl (lv_at hl 1 rfl) ?_
  refine lv_aload_n hx hb dX8_readAll_2 rfl (lv_at hl 2 rfl) ?_
  refine lv_iload_n hx hb dX8_readAll_3 rfl (lv_at hl 3 rfl) ?_
  refine call_Vi (wr := []) (As := [.ref p0, .ref p1, .int 1]) (rest := []) hx hb hml hown hw (m_X8_readOne_1 l D cI cJ cB cP cM cZ h0 h_step h_sign h_value p0 h_p0_bytes h_p0_wordNames p1 h_p1_manName Fh x_steps x_ones f_step f_sign f_value F_p0_ x_p0_length x_p0_kind x_p0_place x_p0_value x_p0_name x_p0_number x_p0_faultKind x_p0_faultPlace x_p0_at x_p0_mostBytes f_p0_bytes f_p0_wordNames F_p1_ x_p1_men f_p1_manName _ e_step e_sign e_value e_steps i_x_steps e_ones e_p0_bytes e_p0_length i_x_p0_length e_p0_kind e_p0_place e_p0_value e_p0_name e_p0_number e_p0_faultKind e_p0_faultPlace e_p0_wordNames e_p0_at i_x_p0_at e_p0_mostBytes s_p0_bytes_0 s_p0_wordNames_KN e_p1_manName e_p1_men i_x_p1_men) wV_X8_52_X8_readOne dX8_readAll_4 hK hP hD hS hA [0, 1, 2, 3, 4, 5, 6, 7, 8] [] rfl rfl (by decide) (by decide) (by decide) 0 8 rfl rfl GG.fb hG.at hl.1 rfl (Nat.le_of_ble_eq_true rfl) ⟨(Nat.le_of_ble_eq_true rfl), (Nat.le_of_ble_eq_true rfl)⟩ ⟨(Nat.le_of_ble_eq_true rfl), (Nat.le_of_ble_eq_true rfl)⟩ (fun r1 u H locs hp hP hD hS => ?_)
  have zl1 : (1 : Int32).toInt = 1 := by decide
  refine hp.elim (fun F2 h9z0 => h9z0.elim (fun y3 h9z1 => h9z1.elim (fun y4 h9z2 => h9z2.elim (fun F5 h9z3 => h9z3.elim (fun y6 h9z4 => h9z4.elim (fun y7 h9z5 => h9z5.elim (fun y8 h9z6 => h9z6.elim (fun y9 h9z7 => h9z7.elim (fun y10 h9z8 => h9z8.elim (fun y11 h9z9 => h9z9.elim (fun y12 h9z10 => h9z10.elim (fun y13 h9z11 => h9z11.elim (fun g14 h9z12 => h9z12.elim (fun g15 h9z13 => h9z13.elim (fun g16 h9z14 => h9z14.elim (fun t17 h9z15 => h9z15.elim (fun t18 h9z16 => h9z16.elim (fun t19 h9z17 => h9z17.elim (fun t20 h9z18 => h9z18.elim (fun t21 h9z19 => h9z19.elim (fun t22 h9z20 => h9z20.elim (fun t23 h9z21 => h9z21.elim (fun t24 h9z22 => h9z22.elim (fun t25 h9z23 => h9z23.elim (fun t26 h9z24 => h9z24.elim (fun t27 h9z25 => h9z25.elim (fun t28 h9z26 => h9z26.elim (fun t29 h9z27 => h9z27.elim (fun t30 h9z28 => h9z28.elim (fun t31 h9z29 => ?_))))))))))))))))))))))))))))))
  clear h9z0 h9z1 h9z2 h9z3 h9z4 h9z5 h9z6 h9z7 h9z8 h9z9 h9z10 h9z11 h9z12 h9z13 h9z14 h9z15 h9z16 h9z17 h9z18 h9z19 h9z20 h9z21 h9z22 h9z23 h9z24 h9z25 h9z26 h9z27 h9z28
  subst h9z29
  have hP : va_P D vwCl [(h0, .inr (8, vL 5 F2)), (h_step, .inl (cI, 40, .inl g14)), (h_sign, .inl (cI, 40, .inl g15)), (h_value, .inl (cI, 40, .inl g16)), (p0, .inr (6, vL 12 F5)), (h_p0_bytes, .inl (cB, 940, .inl f_p0_bytes)), (h_p0_wordNames, .inl (cJ, 23, .inr (.inl f_p0_wordNames))), (p1, .inr (1, vL 18 F_p1_)), (h_p1_manName, .inl (cJ, 12, .inr (.inl f_p1_manName)))] H := hP
  have hD : va_D A [(h0, .inr (8, vL 5 F2)), (h_step, .inl (cI, 40, .inl g14)), (h_sign, .inl (cI, 40, .inl g15)), (h_value, .inl (cI, 40, .inl g16)), (p0, .inr (6, vL 12 F5)), (h_p0_bytes, .inl (cB, 940, .inl f_p0_bytes)), (h_p0_wordNames, .inl (cJ, 23, .inr (.inl f_p0_wordNames))), (p1, .inr (1, vL 18 F_p1_)), (h_p1_manName, .inl (cJ, 12, .inr (.inl f_p1_manName)))] := hD
  refine W.widen (k := 0) (n := 0) (Nat.le_of_ble_eq_true rfl) (Nat.le_of_ble_eq_true rfl) ?_
  refine lv_if_ne (tgt := 12) hx hb dX8_readAll_7 (by decide) (fun c33 => ?_) (fun c33 => ?_)
  · have dc33 : r1.toInt ≠ 0 := ne_i (a := r1.toInt) (b := 0) rfl rfl c33
    have k34 : 1 ≤ r1.toInt ∧ r1.toInt ≤ 1 := ⟨ne_lo dc33 t31.1 ⟨Int.le_refl _, Int.le_refl _⟩ (by decide), t31.2⟩
    refine lv_iconst (v := 0) hx hb dX8_readAll_12 (by decide) ?_
    refine lv_istore (lv' := [(4, .int 0), (0, .ref h0), (1, .ref p0), (2, .ref p1), (3, .int 1)]) hx hb dX8_readAll_13 hl (by decide) rfl (fun ls hl => ?_)
    refine mloop (α := (Int32) × (Nat → Value) × (Int32) × (Int32) × (Nat → Int32) × (Nat → Int32) × (Nat → Int32) × (Nat → Value) × (Int32) × (Int32) × (Int32) × (Int64) × (Int32) × (Int32) × (Int32) × (Int32)) (nL := 5) (D := D) (A := A) (H0 := s.heap) (fun a => (200 - a.1.toInt).toNat) (fun a => IR 0 200 a.1 ∧ SAME [3, 4] F2 a.2.1 ∧ a.2.1 3 = .int a.2.2.1 ∧ a.2.1 4 = .int a.2.2.2.1 ∧ IR 0 40 a.2.2.1 ∧ SAME [2, 3, 4, 5, 6, 7, 8, 10] F5 a.2.2.2.2.2.2.2.1 ∧ a.2.2.2.2.2.2.2.1 2 = .int a.2.2.2.2.2.2.2.2.1 ∧ a.2.2.2.2.2.2.2.1 3 = .int a.2.2.2.2.2.2.2.2.2.1 ∧ a.2.2.2.2.2.2.2.1 4 = .int a.2.2.2.2.2.2.2.2.2.2.1 ∧ a.2.2.2.2.2.2.2.1 5 = .long a.2.2.2.2.2.2.2.2.2.2.2.1 ∧ a.2.2.2.2.2.2.2.1 6 = .int a.2.2.2.2.2.2.2.2.2.2.2.2.1 ∧ a.2.2.2.2.2.2.2.1 7 = .int a.2.2.2.2.2.2.2.2.2.2.2.2.2.1 ∧ a.2.2.2.2.2.2.2.1 8 = .int a.2.2.2.2.2.2.2.2.2.2.2.2.2.2.1 ∧ a.2.2.2.2.2.2.2.1 10 = .int a.2.2.2.2.2.2.2.2.2.2.2.2.2.2.2 ∧ IR 0 940 a.2.2.2.2.2.2.2.2.2.2.2.2.2.2.2) (fun a => [(h0, .inr (8, vL 5 a.2.1)), (h_step, .inl (cI, 40, .inl a.2.2.2.2.1)), (h_sign, .inl (cI, 40, .inl a.2.2.2.2.2.1)), (h_value, .inl (cI, 40, .inl a.2.2.2.2.2.2.1)), (p0, .inr (6, vL 12 a.2.2.2.2.2.2.2.1)), (h_p0_bytes, .inl (cB, 940, .inl f_p0_bytes)), (h_p0_wordNames, .inl (cJ, 23, .inr (.inl f_p0_wordNames))), (p1, .inr (1, vL 18 F_p1_)), (h_p1_manName, .inl (cJ, 12, .inr (.inl f_p1_manName)))]) (fun a => [(4, .int a.1), (0, .ref h0), (1, .ref p0), (2, .ref p1), (3, .int 1)]) (fun H locs ls => W p l e ({ frames := 26, cells := 0, slots := 0, locals := 630 } : Room) s m [.ref h0, .ref p0, .ref p1, .int 1].toArray below meth c H locs 0 0 (MQ below (va_Qi (fun (r : Int32) (u : va_W) => ∃ (Gh : Nat → Value) (y_steps : Int32) (y_ones : Int32) (G_p0_ : Nat → Value) (y_p0_kind : Int32) (y_p0_place : Int32) (y_p0_value : Int32) (y_p0_name : Int64) (y_p0_number : Int32) (y_p0_faultKind : Int32) (y_p0_faultPlace : Int32) (y_p0_at : Int32) (g_step : Nat → Int32) (g_sign : Nat → Int32) (g_value : Nat → Int32), SAME [3, 4] Fh Gh ∧ Gh 3 = .int y_steps ∧ IR 0 40 y_steps ∧ Gh 4 = .int y_ones ∧ SAME [2, 3, 4, 5, 6, 7, 8, 10] F_p0_ G_p0_ ∧ G_p0_ 2 = .int y_p0_kind ∧ G_p0_ 3 = .int y_p0_place ∧ G_p0_ 4 = .int y_p0_value ∧ G_p0_ 5 = .long y_p0_name ∧ G_p0_ 6 = .int y_p0_number ∧ G_p0_ 7 = .int y_p0_faultKind ∧ G_p0_ 8 = .int y_p0_faultPlace ∧ G_p0_ 10 = .int y_p0_at ∧ IR 0 940 y_p0_at ∧ IR 0 1 r ∧ u = [(h0, .inr (8, vL 5 Gh)), (h_step, .inl (cI, 40, .inl g_step)), (h_sign, .inl (cI, 40, .inl g_sign)), (h_value, .inl (cI, 40, .inl g_value)), (p0, .inr (6, vL 12 G_p0_)), (h_p0_bytes, .inl (cB, 940, .inl f_p0_bytes)), (h_p0_wordNames, .inl (cJ, 23, .inr (.inl f_p0_wordNames))), (p1, .inr (1, vL 18 F_p1_)), (h_p1_manName, .inl (cJ, 12, .inr (.inl f_p1_manName)))]) (PO D A) A) [.ref h0, .ref p0, .ref p1, .int 1].toArray s 0 0 A) (F0 m 15 ls [])) ?_ (0, F2, y3, y4, g14, g15, g16, F5, y6, y7, y8, y9, y10, y11, y12, y13) ⟨(show 0 ≤ (0 : Int32).toInt ∧ (0 : Int32).toInt ≤ 200 by decide), SAME.rf, t18, t20, t19, SAME.rf, t22, t23, t24, t25, t26, t27, t28, t29, t30⟩ _ _ _ hP hD hS hl
    rintro ⟨u35, G36, u37, u38, w39, w40, w41, G42, u43, u44, u45, u46, u47, u48, u49, u50⟩ ⟨i51, i52, i53, i54, i55, i56, i57, i58, i59, i60, i61, i62, i63, i64, i65⟩ ih H locs ls hP hD hS hl
    have i51 : 0 ≤ u35.toInt ∧ u35.toInt ≤ 200 := i51
    have i55 : 0 ≤ u37.toInt ∧ u37.toInt ≤ 40 := i55
    have i65 : 0 ≤ u50.toInt ∧ u50.toInt ≤ 940 := i65
    have hP : va_P D vwCl [(h0, .inr (8, vL 5 G36)), (h_step, .inl (cI, 40, .inl w39)), (h_sign, .inl (cI, 40, .inl w40)), (h_value, .inl (cI, 40, .inl w41)), (p0, .inr (6, vL 12 G42)), (h_p0_bytes, .inl (cB, 940, .inl f_p0_bytes)), (h_p0_wordNames, .inl (cJ, 23, .inr (.inl f_p0_wordNames))), (p1, .inr (1, vL 18 F_p1_)), (h_p1_manName, .inl (cJ, 12, .inr (.inl f_p1_manName)))] H := hP
    have hD : va_D A [(h0, .inr (8, vL 5 G36)), (h_step, .inl (cI, 40, .inl w39)), (h_sign, .inl (cI, 40, .inl w40)), (h_value, .inl (cI, 40, .inl w41)), (p0, .inr (6, vL 12 G42)), (h_p0_bytes, .inl (cB, 940, .inl f_p0_bytes)), (h_p0_wordNames, .inl (cJ, 23, .inr (.inl f_p0_wordNames))), (p1, .inr (1, vL 18 F_p1_)), (h_p1_manName, .inl (cJ, 12, .inr (.inl f_p1_manName)))] := hD
    have hl : lv_has ls 5 [(4, .int u35), (0, .ref h0), (1, .ref p0), (2, .ref p1), (3, .int 1)] := hl
    refine lv_iload hx hb dX8_readAll_15 (lv_at hl 0 rfl) ?_
    refine lv_sipush (v := 200) hx hb dX8_readAll_17 (by decide) ?_
    refine lv_icmp_ge (tgt := 63) hx hb dX8_readAll_20 (by decide) (fun c66 => ?_) (fun c66 => ?_)
    · have dc66 : 200 ≤ u35.toInt := le_i (a := 200) (b := u35.toInt) rfl rfl c66
      have k67 : 200 ≤ u35.toInt ∧ u35.toInt ≤ 200 := ⟨Int.le_trans (Int.le_refl _) dc66, i51.2⟩
      refine lv_iconst (v := 1) hx hb dX8_readAll_63 (by decide) ?_
      exact ret_i (v := 1) hx hb hr hlocks hS hP hD dX8_readAll_64 rfl (Nat.le_of_ble_eq_true rfl) (Nat.le_of_ble_eq_true rfl) ⟨G36, u37, u38, G42, u43, u44, u45, u46, u47, u48, u49, u50, w39, w40, w41, (SAME.tr (SAME.tr SAME.rf t17 (by decide)) i52 (by decide)), i53, i55, i54, (SAME.tr (SAME.tr SAME.rf t21 (by decide)) i56 (by decide)), i57, i58, i59, i60, i61, i62, i63, i64, i65, (show 0 ≤ (1 : Int32).toInt ∧ (1 : Int32).toInt ≤ 1 by decide), rfl⟩
    · have dc66 : u35.toInt < 200 := nle_i (a := 200) (b := u35.toInt) rfl rfl c66
      have k68 : 0 ≤ u35.toInt ∧ u35.toInt ≤ 199 := ⟨i51.1, up_lt dc66 (Int.le_refl _) (by decide)⟩
      refine lv_aload_n hx hb dX8_readAll_23 rfl (lv_at hl 2 rfl) ?_
      refine call_Vi (wr := [(h0, .inr (8, vL 5 G36)), (h_step, .inl (cI, 40, .inl w39)), (h_sign, .inl (cI, 40, .inl w40)), (h_value, .inl (cI, 40, .inl w41)), (h_p0_bytes, .inl (cB, 940, .inl f_p0_bytes)), (h_p0_wordNames, .inl (cJ, 23, .inr (.inl f_p0_wordNames))), (p1, .inr (1, vL 18 F_p1_)), (h_p1_manName, .inl (cJ, 12, .inr (.inl f_p1_manName)))]) (As := []) (rest := []) hx hb hml hown hw (m_X6_wordHere l D cI cJ cB cP cM cZ p0 G42 u43 u45 _ i57 i59) wV_X8_32_X6_wordHere dX8_readAll_24 hK hP hD hS hA [4] [0, 1, 2, 3, 5, 6, 7, 8] rfl rfl (by decide) (by decide) (by decide) 0 6 rfl rfl GG.fb hG.at hl.1 rfl (Nat.le_of_ble_eq_true rfl) ⟨(Nat.le_of_ble_eq_true rfl), (Nat.le_of_ble_eq_true rfl)⟩ ⟨(Nat.le_of_ble_eq_true rfl), (Nat.le_of_ble_eq_true rfl)⟩ (fun r69 u H locs hp hP hD hS => ?_)
      rcases hp with ⟨t70, rfl, rfl⟩ | ⟨t71, er72, rfl⟩
      · have hP : va_P D vwCl [(h0, .inr (8, vL 5 G36)), (h_step, .inl (cI, 40, .inl w39)), (h_sign, .inl (cI, 40, .inl w40)), (h_value, .inl (cI, 40, .inl w41)), (h_p0_bytes, .inl (cB, 940, .inl f_p0_bytes)), (h_p0_wordNames, .inl (cJ, 23, .inr (.inl f_p0_wordNames))), (p1, .inr (1, vL 18 F_p1_)), (h_p1_manName, .inl (cJ, 12, .inr (.inl f_p1_manName))), (p0, .inr (6, vL 12 G42))] H := hP
        have hD : va_D A [(h0, .inr (8, vL 5 G36)), (h_step, .inl (cI, 40, .inl w39)), (h_sign, .inl (cI, 40, .inl w40)), (h_value, .inl (cI, 40, .inl w41)), (h_p0_bytes, .inl (cB, 940, .inl f_p0_bytes)), (h_p0_wordNames, .inl (cJ, 23, .inr (.inl f_p0_wordNames))), (p1, .inr (1, vL 18 F_p1_)), (h_p1_manName, .inl (cJ, 12, .inr (.inl f_p1_manName))), (p0, .inr (6, vL 12 G42))] := hD
        refine W.widen (k := 0) (n := 0) (Nat.le_of_ble_eq_true rfl) (Nat.le_of_ble_eq_true rfl) ?_
        refine lv_bipush (v := 15) hx hb dX8_readAll_27 (by decide) ?_
        refine lv_icmp_ne (tgt := 63) hx hb dX8_readAll_29 (by decide) (fun _ => ?_) (fun g => absurd g (by decide))
        refine lv_iconst (v := 1) hx hb dX8_readAll_63 (by decide) ?_
        exact ret_i (v := 1) hx hb hr hlocks hS (hP.sub (ws' := [(h0, .inr (8, vL 5 G36)), (h_step, .inl (cI, 40, .inl w39)), (h_sign, .inl (cI, 40, .inl w40)), (h_value, .inl (cI, 40, .inl w41)), (p0, .inr (6, vL 12 G42)), (h_p0_bytes, .inl (cB, 940, .inl f_p0_bytes)), (h_p0_wordNames, .inl (cJ, 23, .inr (.inl f_p0_wordNames))), (p1, .inr (1, vL 18 F_p1_)), (h_p1_manName, .inl (cJ, 12, .inr (.inl f_p1_manName)))]) [0, 1, 2, 3, 8, 4, 5, 6, 7] rfl) (hD.sub (ws' := [(h0, .inr (8, vL 5 G36)), (h_step, .inl (cI, 40, .inl w39)), (h_sign, .inl (cI, 40, .inl w40)), (h_value, .inl (cI, 40, .inl w41)), (p0, .inr (6, vL 12 G42)), (h_p0_bytes, .inl (cB, 940, .inl f_p0_bytes)), (h_p0_wordNames, .inl (cJ, 23, .inr (.inl f_p0_wordNames))), (p1, .inr (1, vL 18 F_p1_)), (h_p1_manName, .inl (cJ, 12, .inr (.inl f_p1_manName)))]) [0, 1, 2, 3, 8, 4, 5, 6, 7] (by decide) rfl) dX8_readAll_64 rfl (Nat.le_of_ble_eq_true rfl) (Nat.le_of_ble_eq_true rfl) ⟨G36, u37, u38, G42, u43, u44, u45, u46, u47, u48, u49, u50, w39, w40, w41, (SAME.tr (SAME.tr SAME.rf t17 (by decide)) i52 (by decide)), i53, i55, i54, (SAME.tr (SAME.tr SAME.rf t21 (by decide)) i56 (by decide)), i57, i58, i59, i60, i61, i62, i63, i64, i65, (show 0 ≤ (1 : Int32).toInt ∧ (1 : Int32).toInt ≤ 1 by decide), rfl⟩
      · have hP : va_P D vwCl [(h0, .inr (8, vL 5 G36)), (h_step, .inl (cI, 40, .inl w39)), (h_sign, .inl (cI, 40, .inl w40)), (h_value, .inl (cI, 40, .inl w41)), (h_p0_bytes, .inl (cB, 940, .inl f_p0_bytes)), (h_p0_wordNames, .inl (cJ, 23, .inr (.inl f_p0_wordNames))), (p1, .inr (1, vL 18 F_p1_)), (h_p1_manName, .inl (cJ, 12, .inr (.inl f_p1_manName))), (p0, .inr (6, vL 12 G42))] H := hP
        have hD : va_D A [(h0, .inr (8, vL 5 G36)), (h_step, .inl (cI, 40, .inl w39)), (h_sign, .inl (cI, 40, .inl w40)), (h_value, .inl (cI, 40, .inl w41)), (h_p0_bytes, .inl (cB, 940, .inl f_p0_bytes)), (h_p0_wordNames, .inl (cJ, 23, .inr (.inl f_p0_wordNames))), (p1, .inr (1, vL 18 F_p1_)), (h_p1_manName, .inl (cJ, 12, .inr (.inl f_p1_manName))), (p0, .inr (6, vL 12 G42))] := hD
        refine W.widen (k := 0) (n := 0) (Nat.le_of_ble_eq_true rfl) (Nat.le_of_ble_eq_true rfl) ?_
        refine lv_ci (y := u45) er72 ?_
        have k73 : 2 ≤ u43.toInt ∧ u43.toInt ≤ 2 := ⟨Int.le_trans (Int.le_refl _) (Int.le_of_eq t71.symm), Int.le_trans (Int.le_of_eq t71) (Int.le_refl _)⟩
        refine lv_bipush (v := 15) hx hb dX8_readAll_27 (by decide) ?_
        refine lv_icmp_ne (tgt := 63) hx hb dX8_readAll_29 (by decide) (fun c74 => ?_) (fun c74 => ?_)
        · have dc74 : u45.toInt ≠ 15 := ne_i (a := u45.toInt) (b := 15) rfl rfl c74
          refine lv_iconst (v := 1) hx hb dX8_readAll_63 (by decide) ?_
          exact ret_i (v := 1) hx hb hr hlocks hS (hP.sub (ws' := [(h0, .inr (8, vL 5 G36)), (h_step, .inl (cI, 40, .inl w39)), (h_sign, .inl (cI, 40, .inl w40)), (h_value, .inl (cI, 40, .inl w41)), (p0, .inr (6, vL 12 G42)), (h_p0_bytes, .inl (cB, 940, .inl f_p0_bytes)), (h_p0_wordNames, .inl (cJ, 23, .inr (.inl f_p0_wordNames))), (p1, .inr (1, vL 18 F_p1_)), (h_p1_manName, .inl (cJ, 12, .inr (.inl f_p1_manName)))]) [0, 1, 2, 3, 8, 4, 5, 6, 7] rfl) (hD.sub (ws' := [(h0, .inr (8, vL 5 G36)), (h_step, .inl (cI, 40, .inl w39)), (h_sign, .inl (cI, 40, .inl w40)), (h_value, .inl (cI, 40, .inl w41)), (p0, .inr (6, vL 12 G42)), (h_p0_bytes, .inl (cB, 940, .inl f_p0_bytes)), (h_p0_wordNames, .inl (cJ, 23, .inr (.inl f_p0_wordNames))), (p1, .inr (1, vL 18 F_p1_)), (h_p1_manName, .inl (cJ, 12, .inr (.inl f_p1_manName)))]) [0, 1, 2, 3, 8, 4, 5, 6, 7] (by decide) rfl) dX8_readAll_64 rfl (Nat.le_of_ble_eq_true rfl) (Nat.le_of_ble_eq_true rfl) ⟨G36, u37, u38, G42, u43, u44, u45, u46, u47, u48, u49, u50, w39, w40, w41, (SAME.tr (SAME.tr SAME.rf t17 (by decide)) i52 (by decide)), i53, i55, i54, (SAME.tr (SAME.tr SAME.rf t21 (by decide)) i56 (by decide)), i57, i58, i59, i60, i61, i62, i63, i64, i65, (show 0 ≤ (1 : Int32).toInt ∧ (1 : Int32).toInt ≤ 1 by decide), rfl⟩
        · have dc74 : u45.toInt = 15 := eq_i (a := u45.toInt) (b := 15) rfl rfl c74
          have k75 : 15 ≤ u45.toInt ∧ u45.toInt ≤ 15 := ⟨Int.le_trans (Int.le_refl _) (Int.le_of_eq dc74.symm), Int.le_trans (Int.le_of_eq dc74) (Int.le_refl _)⟩
          refine lv_aload_n hx hb dX8_readAll_32 rfl (lv_at hl 2 rfl) ?_
          have n76 : F5 0 = .ref h_p0_bytes := (SAME.at t21 (by decide) e_p0_bytes)
          have n77 : G42 0 = .ref h_p0_bytes := (SAME.at i56 (by decide) n76)
          have n78 : F5 1 = .int x_p0_length := (SAME.at t21 (by decide) e_p0_length)
          have n79 : G42 1 = .int x_p0_length := (SAME.at i56 (by decide) n78)
          have n80 : F5 9 = .ref h_p0_wordNames := (SAME.at t21 (by decide) e_p0_wordNames)
          have n81 : G42 9 = .ref h_p0_wordNames := (SAME.at i56 (by decide) n80)
          have n82 : F5 11 = .int x_p0_mostBytes := (SAME.at t21 (by decide) e_p0_mostBytes)
          have n83 : G42 11 = .int x_p0_mostBytes := (SAME.at i56 (by decide) n82)
          refine call_Vv (wr := [(h0, .inr (8, vL 5 G36)), (h_step, .inl (cI, 40, .inl w39)), (h_sign, .inl (cI, 40, .inl w40)), (h_value, .inl (cI, 40, .inl w41)), (p1, .inr (1, vL 18 F_p1_)), (h_p1_manName, .inl (cJ, 12, .inr (.inl f_p1_manName)))]) (As := []) (rest := []) hx hb hml hown hw (m_X6_advance l D cI cJ cB cP cM cZ p0 h_p0_bytes h_p0_wordNames G42 x_p0_length u43 u44 u45 u46 u50 x_p0_mostBytes f_p0_bytes f_p0_wordNames _ n77 n79 i_x_p0_length i57 i58 i59 i60 n81 i64 i65 n83 s_p0_bytes_0 s_p0_wordNames_KN) wV_X8_38_X6_advance dX8_readAll_33 hK hP hD hS hA [8, 4, 5] [0, 1, 2, 3, 6, 7] rfl rfl (by decide) (by decide) (by decide) 0 6 rfl rfl GG.fb hG.at hl.1 rfl (Nat.le_of_ble_eq_true rfl) ⟨(Nat.le_of_ble_eq_true rfl), (Nat.le_of_ble_eq_true rfl)⟩ ⟨(Nat.le_of_ble_eq_true rfl), (Nat.le_of_ble_eq_true rfl)⟩ (fun u H locs hp hP hD hS => ?_)
          obtain ⟨F85, y86, y87, y88, y89, y90, t91, t92, t93, t94, t95, t96, t97, t98, t99, t100, t101, rfl⟩ := hp
          have hP : va_P D vwCl [(h0, .inr (8, vL 5 G36)), (h_step, .inl (cI, 40, .inl w39)), (h_sign, .inl (cI, 40, .inl w40)), (h_value, .inl (cI, 40, .inl w41)), (p1, .inr (1, vL 18 F_p1_)), (h_p1_manName, .inl (cJ, 12, .inr (.inl f_p1_manName))), (p0, .inr (6, vL 12 F85)), (h_p0_bytes, .inl (cB, 940, .inl f_p0_bytes)), (h_p0_wordNames, .inl (cJ, 23, .inr (.inl f_p0_wordNames)))] H := hP
          have hD : va_D A [(h0, .inr (8, vL 5 G36)), (h_step, .inl (cI, 40, .inl w39)), (h_sign, .inl (cI, 40, .inl w40)), (h_value, .inl (cI, 40, .inl w41)), (p1, .inr (1, vL 18 F_p1_)), (h_p1_manName, .inl (cJ, 12, .inr (.inl f_p1_manName))), (p0, .inr (6, vL 12 F85)), (h_p0_bytes, .inl (cB, 940, .inl f_p0_bytes)), (h_p0_wordNames, .inl (cJ, 23, .inr (.inl f_p0_wordNames)))] := hD
          refine W.widen (k := 0) (n := 0) (Nat.le_of_ble_eq_true rfl) (Nat.le_of_ble_eq_true rfl) ?_
          refine lv_aload_n hx hb dX8_readAll_36 rfl (lv_at hl 1 rfl) ?_
          refine lv_aload_n hx hb dX8_readAll_37 rfl (lv_at hl 2 rfl) ?_
          refine lv_aload_n hx hb dX8_readAll_38 rfl (lv_at hl 3 rfl) ?_
          refine lv_iload_n hx hb dX8_readAll_39 rfl (lv_at hl 4 rfl) ?_
          have n103 : F2 0 = .ref h_step := (SAME.at t17 (by decide) e_step)
          have n104 : G36 0 = .ref h_step := (SAME.at i52 (by decide) n103)
          have n105 : F2 1 = .ref h_sign := (SAME.at t17 (by decide) e_sign)
          have n106 : G36 1 = .ref h_sign := (SAME.at i52 (by decide) n105)
          have n107 : F2 2 = .ref h_value := (SAME.at t17 (by decide) e_value)
          have n108 : G36 2 = .ref h_value := (SAME.at i52 (by decide) n107)
          have n109 : F85 0 = .ref h_p0_bytes := (SAME.at t91 (by decide) n77)
          have n110 : F85 1 = .int x_p0_length := (SAME.at t91 (by decide) n79)
          have n111 : F85 6 = .int u47 := (SAME.at t91 (by decide) i61)
          have n112 : F85 7 = .int u48 := (SAME.at t91 (by decide) i62)
          have n113 : F85 8 = .int u49 := (SAME.at t91 (by decide) i63)
          have n114 : F85 9 = .ref h_p0_wordNames := (SAME.at t91 (by decide) n81)
          have n115 : F85 11 = .int x_p0_mostBytes := (SAME.at t91 (by decide) n83)
          refine call_Vi (wr := []) (As := [.ref p0, .ref p1, .int 1]) (rest := []) hx hb hml hown hw (m_X8_readOne_1 l D cI cJ cB cP cM cZ h0 h_step h_sign h_value p0 h_p0_bytes h_p0_wordNames p1 h_p1_manName G36 u37 u38 w39 w40 w41 F85 x_p0_length y86 y87 y88 y89 u47 u48 u49 y90 x_p0_mostBytes f_p0_bytes f_p0_wordNames F_p1_ x_p1_men f_p1_manName _ n104 n106 n108 i53 i55 i54 n109 n110 i_x_p0_length t92 t94 t96 t97 n111 n112 n113 n114 t98 t99 n115 s_p0_bytes_0 s_p0_wordNames_KN e_p1_manName e_p1_men i_x_p1_men) wV_X8_52_X8_readOne dX8_readAll_40 hK hP hD hS hA [0, 1, 2, 3, 6, 7, 8, 4, 5] [] rfl rfl (by decide) (by decide) (by decide) 0 8 rfl rfl GG.fb hG.at hl.1 rfl (Nat.le_of_ble_eq_true rfl) ⟨(Nat.le_of_ble_eq_true rfl), (Nat.le_of_ble_eq_true rfl)⟩ ⟨(Nat.le_of_ble_eq_true rfl), (Nat.le_of_ble_eq_true rfl)⟩ (fun r116 u H locs hp hP hD hS => ?_)
          refine hp.elim (fun F117 h9z0 => h9z0.elim (fun y118 h9z1 => h9z1.elim (fun y119 h9z2 => h9z2.elim (fun F120 h9z3 => h9z3.elim (fun y121 h9z4 => h9z4.elim (fun y122 h9z5 => h9z5.elim (fun y123 h9z6 => h9z6.elim (fun y124 h9z7 => h9z7.elim (fun y125 h9z8 => h9z8.elim (fun y126 h9z9 => h9z9.elim (fun y127 h9z10 => h9z10.elim (fun y128 h9z11 => h9z11.elim (fun g129 h9z12 => h9z12.elim (fun g130 h9z13 => h9z13.elim (fun g131 h9z14 => h9z14.elim (fun t132 h9z15 => h9z15.elim (fun t133 h9z16 => h9z16.elim (fun t134 h9z17 => h9z17.elim (fun t135 h9z18 => h9z18.elim (fun t136 h9z19 => h9z19.elim (fun t137 h9z20 => h9z20.elim (fun t138 h9z21 => h9z21.elim (fun t139 h9z22 => h9z22.elim (fun t140 h9z23 => h9z23.elim (fun t141 h9z24 => h9z24.elim (fun t142 h9z25 => h9z25.elim (fun t143 h9z26 => h9z26.elim (fun t144 h9z27 => h9z27.elim (fun t145 h9z28 => h9z28.elim (fun t146 h9z29 => ?_))))))))))))))))))))))))))))))
          clear h9z0 h9z1 h9z2 h9z3 h9z4 h9z5 h9z6 h9z7 h9z8 h9z9 h9z10 h9z11 h9z12 h9z13 h9z14 h9z15 h9z16 h9z17 h9z18 h9z19 h9z20 h9z21 h9z22 h9z23 h9z24 h9z25 h9z26 h9z27 h9z28
          subst h9z29
          have hP : va_P D vwCl [(h0, .inr (8, vL 5 F117)), (h_step, .inl (cI, 40, .inl g129)), (h_sign, .inl (cI, 40, .inl g130)), (h_value, .inl (cI, 40, .inl g131)), (p0, .inr (6, vL 12 F120)), (h_p0_bytes, .inl (cB, 940, .inl f_p0_bytes)), (h_p0_wordNames, .inl (cJ, 23, .inr (.inl f_p0_wordNames))), (p1, .inr (1, vL 18 F_p1_)), (h_p1_manName, .inl (cJ, 12, .inr (.inl f_p1_manName)))] H := hP
          have hD : va_D A [(h0, .inr (8, vL 5 F117)), (h_step, .inl (cI, 40, .inl g129)), (h_sign, .inl (cI, 40, .inl g130)), (h_value, .inl (cI, 40, .inl g131)), (p0, .inr (6, vL 12 F120)), (h_p0_bytes, .inl (cB, 940, .inl f_p0_bytes)), (h_p0_wordNames, .inl (cJ, 23, .inr (.inl f_p0_wordNames))), (p1, .inr (1, vL 18 F_p1_)), (h_p1_manName, .inl (cJ, 12, .inr (.inl f_p1_manName)))] := hD
          refine W.widen (k := 0) (n := 0) (Nat.le_of_ble_eq_true rfl) (Nat.le_of_ble_eq_true rfl) ?_
          refine lv_if_ne (tgt := 48) hx hb dX8_readAll_43 (by decide) (fun c148 => ?_) (fun c148 => ?_)
          · have dc148 : r116.toInt ≠ 0 := ne_i (a := r116.toInt) (b := 0) rfl rfl c148
            have k149 : 1 ≤ r116.toInt ∧ r116.toInt ≤ 1 := ⟨ne_lo dc148 t146.1 ⟨Int.le_refl _, Int.le_refl _⟩ (by decide), t146.2⟩
            refine lv_aload_n hx hb dX8_readAll_48 rfl (lv_at hl 1 rfl) ?_
            refine lv_bipush (v := 15) hx hb dX8_readAll_49 (by decide) ?_
            refine lv_iconst (v := 0) hx hb dX8_readAll_51 (by decide) ?_
            refine lv_iconst (v := 0) hx hb dX8_readAll_52 (by decide) ?_
            have n150 : F117 0 = .ref h_step := (SAME.at t132 (by decide) n104)
            have n151 : F117 1 = .ref h_sign := (SAME.at t132 (by decide) n106)
            have n152 : F117 2 = .ref h_value := (SAME.at t132 (by decide) n108)
            refine call_Vi (wr := [(p0, .inr (6, vL 12 F120)), (h_p0_bytes, .inl (cB, 940, .inl f_p0_bytes)), (h_p0_wordNames, .inl (cJ, 23, .inr (.inl f_p0_wordNames))), (p1, .inr (1, vL 18 F_p1_)), (h_p1_manName, .inl (cJ, 12, .inr (.inl f_p1_manName)))]) (As := [.int 15, .int 0, .int 0]) (rest := []) hx hb hml hown hw (m_X8_addStep l D cI cJ cB cP cM cZ h0 h_step h_sign h_value F117 y118 g129 g130 g131 15 0 0 _ n150 n151 n152 t133 t134) wV_X8_41_X8_addStep dX8_readAll_53 hK hP hD hS hA [0, 1, 2, 3] [4, 5, 6, 7, 8] rfl rfl (by decide) (by decide) (by decide) 0 8 rfl rfl GG.fb hG.at hl.1 rfl (Nat.le_of_ble_eq_true rfl) ⟨(Nat.le_of_ble_eq_true rfl), (Nat.le_of_ble_eq_true rfl)⟩ ⟨(Nat.le_of_ble_eq_true rfl), (Nat.le_of_ble_eq_true rfl)⟩ (fun r153 u H locs hp hP hD hS => ?_)
            have zl0 : (0 : Int32).toInt = 0 := by decide
            have zl15 : (15 : Int32).toInt = 15 := by decide
            obtain ⟨F154, y155, g156, g157, g158, t159, t160, t161, rfl, rfl⟩ := hp
            have hP : va_P D vwCl [(p0, .inr (6, vL 12 F120)), (h_p0_bytes, .inl (cB, 940, .inl f_p0_bytes)), (h_p0_wordNames, .inl (cJ, 23, .inr (.inl f_p0_wordNames))), (p1, .inr (1, vL 18 F_p1_)), (h_p1_manName, .inl (cJ, 12, .inr (.inl f_p1_manName))), (h0, .inr (8, vL 5 F154)), (h_step, .inl (cI, 40, .inl g156)), (h_sign, .inl (cI, 40, .inl g157)), (h_value, .inl (cI, 40, .inl g158))] H := hP
            have hD : va_D A [(p0, .inr (6, vL 12 F120)), (h_p0_bytes, .inl (cB, 940, .inl f_p0_bytes)), (h_p0_wordNames, .inl (cJ, 23, .inr (.inl f_p0_wordNames))), (p1, .inr (1, vL 18 F_p1_)), (h_p1_manName, .inl (cJ, 12, .inr (.inl f_p1_manName))), (h0, .inr (8, vL 5 F154)), (h_step, .inl (cI, 40, .inl g156)), (h_sign, .inl (cI, 40, .inl g157)), (h_value, .inl (cI, 40, .inl g158))] := hD
            refine W.widen (k := 0) (n := 0) (Nat.le_of_ble_eq_true rfl) (Nat.le_of_ble_eq_true rfl) ?_
            refine lv_pop hx hb dX8_readAll_56 rfl ?_
            obtain ⟨v163, ev163⟩ : ∃ z : Int32, z = u35 + 1 := ⟨_, rfl⟩
            have bv163 : v163.toInt = u35.toInt + 1 := by rw [ev163]; exact add_k rfl rfl k68 ⟨Int.le_refl _, Int.le_refl _⟩ (by decide)
            have k164 : 1 ≤ v163.toInt ∧ v163.toInt ≤ 200 := add_r bv163 k68 ⟨Int.le_refl _, Int.le_refl _⟩ (by decide)
            refine lv_iinc (v := v163) (lv' := [(4, .int v163), (0, .ref h0), (1, .ref p0), (2, .ref p1), (3, .int 1)]) hx hb dX8_readAll_57 hl (k := 0) rfl (by rw [ev163]; rfl) (by decide) rfl (fun ls hl => ?_)
            refine lv_goto (tgt := 15) hx hb dX8_readAll_60 (by decide) ?_
            have n165 : F154 4 = .int y119 := (SAME.at t159 (by decide) t135)
            exact ih (v163, F154, y155, y119, g156, g157, g158, F120, y121, y122, y123, y124, y125, y126, y127, y128) ⟨(ir_wk k164 (by decide) (by decide)), (SAME.tr (SAME.tr (SAME.tr SAME.rf i52 (by decide)) t132 (by decide)) t159 (by decide)), t160, n165, (ir_wk t161 (by decide) (by decide)), (SAME.tr (SAME.tr (SAME.tr SAME.rf i56 (by decide)) t91 (by decide)) t136 (by decide)), t137, t138, t139, t140, t141, t142, t143, t144, t145⟩ (by show (200 - v163.toInt).toNat < (200 - u35.toInt).toNat; omega) _ _ _ (hP.sub [5, 6, 7, 8, 0, 1, 2, 3, 4] rfl) (hD.sub [5, 6, 7, 8, 0, 1, 2, 3, 4] (by decide) rfl) hS (lv_sub hl [0, 1, 2, 3, 4] rfl)
          · have dc148 : r116.toInt = 0 := eq_i (a := r116.toInt) (b := 0) rfl rfl c148
            have k166 : 0 ≤ r116.toInt ∧ r116.toInt ≤ 0 := ⟨t146.1, Int.le_trans (Int.le_of_eq dc148) (Int.le_refl _)⟩
            refine lv_iconst (v := 0) hx hb dX8_readAll_46 (by decide) ?_
            exact ret_i (v := 0) hx hb hr hlocks hS hP hD dX8_readAll_47 rfl (Nat.le_of_ble_eq_true rfl) (Nat.le_of_ble_eq_true rfl) ⟨F117, y118, y119, F120, y121, y122, y123, y124, y125, y126, y127, y128, g129, g130, g131, (SAME.tr (SAME.tr (SAME.tr SAME.rf t17 (by decide)) i52 (by decide)) t132 (by decide)), t133, t134, t135, (SAME.tr (SAME.tr (SAME.tr (SAME.tr SAME.rf t21 (by decide)) i56 (by decide)) t91 (by decide)) t136 (by decide)), t137, t138, t139, t140, t141, t142, t143, t144, t145, (show 0 ≤ (0 : Int32).toInt ∧ (0 : Int32).toInt ≤ 1 by decide), rfl⟩
  · have dc33 : r1.toInt = 0 := eq_i (a := r1.toInt) (b := 0) rfl rfl c33
    have k167 : 0 ≤ r1.toInt ∧ r1.toInt ≤ 0 := ⟨t31.1, Int.le_trans (Int.le_of_eq dc33) (Int.le_refl _)⟩
    refine lv_iconst (v := 0) hx hb dX8_readAll_10 (by decide) ?_
    exact ret_i (v := 0) hx hb hr hlocks hS hP hD dX8_readAll_11 rfl (Nat.le_of_ble_eq_true rfl) (Nat.le_of_ble_eq_true rfl) ⟨F2, y3, y4, F5, y6, y7, y8, y9, y10, y11, y12, y13, g14, g15, g16, (SAME.tr SAME.rf t17 (by decide)), t18, t19, t20, (SAME.tr SAME.rf t21 (by decide)), t22, t23, t24, t25, t26, t27, t28, t29, t30, (show 0 ≤ (0 : Int32).toInt ∧ (0 : Int32).toInt ≤ 1 by decide), rfl⟩
set_option maxHeartbeats 4000000 in
set_option maxRecDepth 100000 in
theorem m_X8_readCond_1 (l : Launch) (D : va_G) (cI cJ cB cP cM cZ : ClassId) (h0 : Nat) (h_step : Nat) (h_sign : Nat) (h_value : Nat) (p0 : Nat) (h_p0_bytes : Nat) (h_p0_wordNames : Nat) (p1 : Nat) (h_p1_manName : Nat) (Fh : Nat → Value) (x_steps : Int32) (x_ones : Int32) (f_step : Nat → Int32) (f_sign : Nat → Int32) (f_value : Nat → Int32) (F_p0_ : Nat → Value) (x_p0_length : Int32) (x_p0_kind : Int32) (x_p0_place : Int32) (x_p0_value : Int32) (x_p0_name : Int64) (x_p0_number : Int32) (x_p0_faultKind : Int32) (x_p0_faultPlace : Int32) (x_p0_at : Int32) (x_p0_mostBytes : Int32) (f_p0_bytes : Nat → Int32) (f_p0_wordNames : Nat → Int64) (F_p1_ : Nat → Value) (x_p1_men : Int32) (f_p1_manName : Nat → Int64) (sz : Nat) (e_step : Fh 0 = .ref h_step) (e_sign : Fh 1 = .ref h_sign) (e_value : Fh 2 = .ref h_value) (e_steps : Fh 3 = .int x_steps) (i_x_steps : IR 0 40 x_steps) (e_ones : Fh 4 = .int x_ones) (e_p0_bytes : F_p0_ 0 = .ref h_p0_bytes) (e_p0_length : F_p0_ 1 = .int x_p0_length) (i_x_p0_length : IR 0 940 x_p0_length) (e_p0_kind : F_p0_ 2 = .int x_p0_kind) (e_p0_place : F_p0_ 3 = .int x_p0_place) (e_p0_value : F_p0_ 4 = .int x_p0_value) (e_p0_name : F_p0_ 5 = .long x_p0_name) (e_p0_number : F_p0_ 6 = .int x_p0_number) (e_p0_faultKind : F_p0_ 7 = .int x_p0_faultKind) (e_p0_faultPlace : F_p0_ 8 = .int x_p0_faultPlace) (e_p0_wordNames : F_p0_ 9 = .ref h_p0_wordNames) (e_p0_at : F_p0_ 10 = .int x_p0_at) (i_x_p0_at : IR 0 940 x_p0_at) (e_p0_mostBytes : F_p0_ 11 = .int x_p0_mostBytes) (s_p0_bytes_0 : SG 0 939 (-128) 127 f_p0_bytes) (s_p0_wordNames_KN : KWN f_p0_wordNames) (e_p1_manName : F_p1_ 2 = .ref h_p1_manName) (e_p1_men : F_p1_ 13 = .int x_p1_men) (i_x_p1_men : IR 0 12 x_p1_men) : CI l yX8_readCond cX8_readCond 5 (some .boolean) { frames := 27, cells := 0, slots := 0, locals := 654 } (GG D cI cJ cB cP cM cZ) D [(h0, .inr (8, vL 5 Fh)), (h_step, .inl (cI, 40, .inl f_step)), (h_sign, .inl (cI, 40, .inl f_sign)), (h_value, .inl (cI, 40, .inl f_value)), (p0, .inr (6, vL 12 F_p0_)), (h_p0_bytes, .inl (cB, 940, .inl f_p0_bytes)), (h_p0_wordNames, .inl (cJ, 23, .inr (.inl f_p0_wordNames))), (p1, .inr (1, vL 18 F_p1_)), (h_p1_manName, .inl (cJ, 12, .inr (.inl f_p1_manName)))] sz [.ref h0, .ref p0, .ref p1, .int 1] (fun (r : Int32) (u : va_W) => ∃ (Gh : Nat → Value) (y_steps : Int32) (y_ones : Int32) (G_p0_ : Nat → Value) (y_p0_kind : Int32) (y_p0_place : Int32) (y_p0_value : Int32) (y_p0_name : Int64) (y_p0_number : Int32) (y_p0_faultKind : Int32) (y_p0_faultPlace : Int32) (y_p0_at : Int32) (g_step : Nat → Int32) (g_sign : Nat → Int32) (g_value : Nat → Int32), SAME [3, 4] Fh Gh ∧ Gh 3 = .int y_steps ∧ IR 0 40 y_steps ∧ Gh 4 = .int y_ones ∧ SAME [2, 3, 4, 5, 6, 7, 8, 10] F_p0_ G_p0_ ∧ G_p0_ 2 = .int y_p0_kind ∧ G_p0_ 3 = .int y_p0_place ∧ G_p0_ 4 = .int y_p0_value ∧ G_p0_ 5 = .long y_p0_name ∧ G_p0_ 6 = .int y_p0_number ∧ G_p0_ 7 = .int y_p0_faultKind ∧ G_p0_ 8 = .int y_p0_faultPlace ∧ G_p0_ 10 = .int y_p0_at ∧ IR 0 940 y_p0_at ∧ IR 0 1 r ∧ u = [(h0, .inr (8, vL 5 Gh)), (h_step, .inl (cI, 40, .inl g_step)), (h_sign, .inl (cI, 40, .inl g_sign)), (h_value, .inl (cI, 40, .inl g_value)), (p0, .inr (6, vL 12 G_p0_)), (h_p0_bytes, .inl (cB, 940, .inl f_p0_bytes)), (h_p0_wordNames, .inl (cJ, 23, .inr (.inl f_p0_wordNames))), (p1, .inr (1, vL 18 F_p1_)), (h_p1_manName, .inl (cJ, 12, .inr (.inl f_p1_manName)))]) := by
  refine CI_mk (by decide) (Nat.le_of_ble_eq_true rfl) ?_
  intro p e s m below meth c A ls E hAe hG hsz hP hD hA hS hl
  obtain ⟨hx, hb, hr, hw, hown, hlocks, hml, hnm⟩ := E
  have hK := hG.1
  have i_x_steps : 0 ≤ x_steps.toInt ∧ x_steps.toInt ≤ 40 := i_x_steps
  have i_x_p0_length : 0 ≤ x_p0_length.toInt ∧ x_p0_length.toInt ≤ 940 := i_x_p0_length
  have i_x_p0_at : 0 ≤ x_p0_at.toInt ∧ x_p0_at.toInt ≤ 940 := i_x_p0_at
  have i_x_p1_men : 0 ≤ x_p1_men.toInt ∧ x_p1_men.toInt ≤ 12 := i_x_p1_men
  have hl : lv_has ls 5 [(0, .ref h0), (1, .ref p0), (2, .ref p1), (3, .int 1)] := hl
  refine lv_aload_n hx hb dX8_readCond_0 rfl (lv_at hl 0 rfl) ?_
  refine lv_aload_n hx hb dX8_readCond_1 rfl (lv_at hl 1 rfl) ?_
  refine lv_aload_n hx hb dX8_readCond_2 rfl (lv_at hl 2 rfl) ?_
  refine lv_iload_n hx hb dX8_readCond_3 rfl (lv_at hl 3 rfl) ?_
  refine call_Vi (wr := []) (As := [.ref p0, .ref p1, .int 1]) (rest := []) hx hb hml hown hw (m_X8_readAll_1 l D cI cJ cB cP cM cZ h0 h_step h_sign h_value p0 h_p0_bytes h_p0_wordNames p1 h_p1_manName Fh x_steps x_ones f_step f_sign f_value F_p0_ x_p0_length x_p0_kind x_p0_place x_p0_value x_p0_name x_p0_number x_p0_faultKind x_p0_faultPlace x_p0_at x_p0_mostBytes f_p0_bytes f_p0_wordNames F_p1_ x_p1_men f_p1_manName _ e_step e_sign e_value e_steps i_x_steps e_ones e_p0_bytes e_p0_length i_x_p0_length e_p0_kind e_p0_place e_p0_value e_p0_name e_p0_number e_p0_faultKind e_p0_faultPlace e_p0_wordNames e_p0_at i_x_p0_at e_p0_mostBytes s_p0_bytes_0 s_p0_wordNames_KN e_p1_manName e_p1_men i_x_p1_men) wV_X8_28_X8_readAll dX8_readCond_4 hK hP hD hS hA [0, 1, 2, 3, 4, 5, 6, 7, 8] [] rfl rfl (by decide) (by decide) (by decide) 0 8 rfl rfl GG.fb hG.at hl.1 rfl (Nat.le_of_ble_eq_true rfl) ⟨(Nat.le_of_ble_eq_true rfl), (Nat.le_of_ble_eq_true rfl)⟩ ⟨(Nat.le_of_ble_eq_true rfl), (Nat.le_of_ble_eq_true rfl)⟩ (fun r1 u H locs hp hP hD hS => ?_)
  have zl1 : (1 : Int32).toInt = 1 := by decide
  refine hp.elim (fun F2 h9z0 => h9z0.elim (fun y3 h9z1 => h9z1.elim (fun y4 h9z2 => h9z2.elim (fun F5 h9z3 => h9z3.elim (fun y6 h9z4 => h9z4.elim (fun y7 h9z5 => h9z5.elim (fun y8 h9z6 => h9z6.elim (fun y9 h9z7 => h9z7.elim (fun y10 h9z8 => h9z8.elim (fun y11 h9z9 => h9z9.elim (fun y12 h9z10 => h9z10.elim (fun y13 h9z11 => h9z11.elim (fun g14 h9z12 => h9z12.elim (fun g15 h9z13 => h9z13.elim (fun g16 h9z14 => h9z14.elim (fun t17 h9z15 => h9z15.elim (fun t18 h9z16 => h9z16.elim (fun t19 h9z17 => h9z17.elim (fun t20 h9z18 => h9z18.elim (fun t21 h9z19 => h9z19.elim (fun t22 h9z20 => h9z20.elim (fun t23 h9z21 => h9z21.elim (fun t24 h9z22 => h9z22.elim (fun t25 h9z23 => h9z23.elim (fun t26 h9z24 => h9z24.elim (fun t27 h9z25 => h9z25.elim (fun t28 h9z26 => h9z26.elim (fun t29 h9z27 => h9z27.elim (fun t30 h9z28 => h9z28.elim (fun t31 h9z29 => ?_))))))))))))))))))))))))))))))
  clear h9z0 h9z1 h9z2 h9z3 h9z4 h9z5 h9z6 h9z7 h9z8 h9z9 h9z10 h9z11 h9z12 h9z13 h9z14 h9z15 h9z16 h9z17 h9z18 h9z19 h9z20 h9z21 h9z22 h9z23 h9z24 h9z25 h9z26 h9z27 h9z28
  subst h9z29
  have hP : va_P D vwCl [(h0, .inr (8, vL 5 F2)), (h_step, .inl (cI, 40, .inl g14)), (h_sign, .inl (cI, 40, .inl g15)), (h_value, .inl (cI, 40, .inl g16)), (p0, .inr (6, vL 12 F5)), (h_p0_bytes, .inl (cB, 940, .inl f_p0_bytes)), (h_p0_wordNames, .inl (cJ, 23, .inr (.inl f_p0_wordNames))), (p1, .inr (1, vL 18 F_p1_)), (h_p1_manName, .inl (cJ, 12, .inr (.inl f_p1_manName)))] H := hP
  have hD : va_D A [(h0, .inr (8, vL 5 F2)), (h_step, .inl (cI, 40, .inl g14)), (h_sign, .inl (cI, 40, .inl g15)), (h_value, .inl (cI, 40, .inl g16)), (p0, .inr (6, vL 12 F5)), (h_p0_bytes, .inl (cB, 940, .inl f_p0_bytes)), (h_p0_wordNames, .inl (cJ, 23, .inr (.inl f_p0_wordNames))), (p1, .inr (1, vL 18 F_p1_)), (h_p1_manName, .inl (cJ, 12, .inr (.inl f_p1_manName)))] := hD
  refine W.widen (k := 0) (n := 0) (Nat.le_of_ble_eq_true rfl) (Nat.le_of_ble_eq_true rfl) ?_
  refine lv_if_ne (tgt := 12) hx hb dX8_readCond_7 (by decide) (fun c33 => ?_) (fun c33 => ?_)
  · have dc33 : r1.toInt ≠ 0 := ne_i (a := r1.toInt) (b := 0) rfl rfl c33
    have k34 : 1 ≤ r1.toInt ∧ r1.toInt ≤ 1 := ⟨ne_lo dc33 t31.1 ⟨Int.le_refl _, Int.le_refl _⟩ (by decide), t31.2⟩
    refine lv_iconst (v := 0) hx hb dX8_readCond_12 (by decide) ?_
    refine lv_istore (lv' := [(4, .int 0), (0, .ref h0), (1, .ref p0), (2, .ref p1), (3, .int 1)]) hx hb dX8_readCond_13 hl (by decide) rfl (fun ls hl => ?_)
    refine mloop (α := (Int32) × (Nat → Value) × (Int32) × (Int32) × (Nat → Int32) × (Nat → Int32) × (Nat → Int32) × (Nat → Value) × (Int32) × (Int32) × (Int32) × (Int64) × (Int32) × (Int32) × (Int32) × (Int32)) (nL := 5) (D := D) (A := A) (H0 := s.heap) (fun a => (200 - a.1.toInt).toNat) (fun a => IR 0 200 a.1 ∧ SAME [3, 4] F2 a.2.1 ∧ a.2.1 3 = .int a.2.2.1 ∧ a.2.1 4 = .int a.2.2.2.1 ∧ IR 0 40 a.2.2.1 ∧ SAME [2, 3, 4, 5, 6, 7, 8, 10] F5 a.2.2.2.2.2.2.2.1 ∧ a.2.2.2.2.2.2.2.1 2 = .int a.2.2.2.2.2.2.2.2.1 ∧ a.2.2.2.2.2.2.2.1 3 = .int a.2.2.2.2.2.2.2.2.2.1 ∧ a.2.2.2.2.2.2.2.1 4 = .int a.2.2.2.2.2.2.2.2.2.2.1 ∧ a.2.2.2.2.2.2.2.1 5 = .long a.2.2.2.2.2.2.2.2.2.2.2.1 ∧ a.2.2.2.2.2.2.2.1 6 = .int a.2.2.2.2.2.2.2.2.2.2.2.2.1 ∧ a.2.2.2.2.2.2.2.1 7 = .int a.2.2.2.2.2.2.2.2.2.2.2.2.2.1 ∧ a.2.2.2.2.2.2.2.1 8 = .int a.2.2.2.2.2.2.2.2.2.2.2.2.2.2.1 ∧ a.2.2.2.2.2.2.2.1 10 = .int a.2.2.2.2.2.2.2.2.2.2.2.2.2.2.2 ∧ IR 0 940 a.2.2.2.2.2.2.2.2.2.2.2.2.2.2.2) (fun a => [(h0, .inr (8, vL 5 a.2.1)), (h_step, .inl (cI, 40, .inl a.2.2.2.2.1)), (h_sign, .inl (cI, 40, .inl a.2.2.2.2.2.1)), (h_value, .inl (cI, 40, .inl a.2.2.2.2.2.2.1)), (p0, .inr (6, vL 12 a.2.2.2.2.2.2.2.1)), (h_p0_bytes, .inl (cB, 940, .inl f_p0_bytes)), (h_p0_wordNames, .inl (cJ, 23, .inr (.inl f_p0_wordNames))), (p1, .inr (1, vL 18 F_p1_)), (h_p1_manName, .inl (cJ, 12, .inr (.inl f_p1_manName)))]) (fun a => [(4, .int a.1), (0, .ref h0), (1, .ref p0), (2, .ref p1), (3, .int 1)]) (fun H locs ls => W p l e ({ frames := 27, cells := 0, slots := 0, locals := 654 } : Room) s m [.ref h0, .ref p0, .ref p1, .int 1].toArray below meth c H locs 0 0 (MQ below (va_Qi (fun (r : Int32) (u : va_W) => ∃ (Gh : Nat → Value) (y_steps : Int32) (y_ones : Int32) (G_p0_ : Nat → Value) (y_p0_kind : Int32) (y_p0_place : Int32) (y_p0_value : Int32) (y_p0_name : Int64) (y_p0_number : Int32) (y_p0_faultKind : Int32) (y_p0_faultPlace : Int32) (y_p0_at : Int32) (g_step : Nat → Int32) (g_sign : Nat → Int32) (g_value : Nat → Int32), SAME [3, 4] Fh Gh ∧ Gh 3 = .int y_steps ∧ IR 0 40 y_steps ∧ Gh 4 = .int y_ones ∧ SAME [2, 3, 4, 5, 6, 7, 8, 10] F_p0_ G_p0_ ∧ G_p0_ 2 = .int y_p0_kind ∧ G_p0_ 3 = .int y_p0_place ∧ G_p0_ 4 = .int y_p0_value ∧ G_p0_ 5 = .long y_p0_name ∧ G_p0_ 6 = .int y_p0_number ∧ G_p0_ 7 = .int y_p0_faultKind ∧ G_p0_ 8 = .int y_p0_faultPlace ∧ G_p0_ 10 = .int y_p0_at ∧ IR 0 940 y_p0_at ∧ IR 0 1 r ∧ u = [(h0, .inr (8, vL 5 Gh)), (h_step, .inl (cI, 40, .inl g_step)), (h_sign, .inl (cI, 40, .inl g_sign)), (h_value, .inl (cI, 40, .inl g_value)), (p0, .inr (6, vL 12 G_p0_)), (h_p0_bytes, .inl (cB, 940, .inl f_p0_bytes)), (h_p0_wordNames, .inl (cJ, 23, .inr (.inl f_p0_wordNames))), (p1, .inr (1, vL 18 F_p1_)), (h_p1_manName, .inl (cJ, 12, .inr (.inl f_p1_manName)))]) (PO D A) A) [.ref h0, .ref p0, .ref p1, .int 1].toArray s 0 0 A) (F0 m 15 ls [])) ?_ (0, F2, y3, y4, g14, g15, g16, F5, y6, y7, y8, y9, y10, y11, y12, y13) ⟨(show 0 ≤ (0 : Int32).toInt ∧ (0 : Int32).toInt ≤ 200 by decide), SAME.rf, t18, t20, t19, SAME.rf, t22, t23, t24, t25, t26, t27, t28, t29, t30⟩ _ _ _ hP hD hS hl
    rintro ⟨u35, G36, u37, u38, w39, w40, w41, G42, u43, u44, u45, u46, u47, u48, u49, u50⟩ ⟨i51, i52, i53, i54, i55, i56, i57, i58, i59, i60, i61, i62, i63, i64, i65⟩ ih H locs ls hP hD hS hl
    have i51 : 0 ≤ u35.toInt ∧ u35.toInt ≤ 200 := i51
    have i55 : 0 ≤ u37.toInt ∧ u37.toInt ≤ 40 := i55
    have i65 : 0 ≤ u50.toInt ∧ u50.toInt ≤ 940 := i65
    have hP : va_P D vwCl [(h0, .inr (8, vL 5 G36)), (h_step, .inl (cI, 40, .inl w39)), (h_sign, .inl (cI, 40, .inl w40)), (h_value, .inl (cI, 40, .inl w41)), (p0, .inr (6, vL 12 G42)), (h_p0_bytes, .inl (cB, 940, .inl f_p0_bytes)), (h_p0_wordNames, .inl (cJ, 23, .inr (.inl f_p0_wordNames))), (p1, .inr (1, vL 18 F_p1_)), (h_p1_manName, .inl (cJ, 12, .inr (.inl f_p1_manName)))] H := hP
    have hD : va_D A [(h0, .inr (8, vL 5 G36)), (h_step, .inl (cI, 40, .inl w39)), (h_sign, .inl (cI, 40, .inl w40)), (h_value, .inl (cI, 40, .inl w41)), (p0, .inr (6, vL 12 G42)), (h_p0_bytes, .inl (cB, 940, .inl f_p0_bytes)), (h_p0_wordNames, .inl (cJ, 23, .inr (.inl f_p0_wordNames))), (p1, .inr (1, vL 18 F_p1_)), (h_p1_manName, .inl (cJ, 12, .inr (.inl f_p1_manName)))] := hD
    have hl : lv_has ls 5 [(4, .int u35), (0, .ref h0), (1, .ref p0), (2, .ref p1), (3, .int 1)] := hl
    refine lv_iload hx hb dX8_readCond_15 (lv_at hl 0 rfl) ?_
    refine lv_sipush (v := 200) hx hb dX8_readCond_17 (by decide) ?_
    refine lv_icmp_ge (tgt := 63) hx hb dX8_readCond_20 (by decide) (fun c66 => ?_) (fun c66 => ?_)
    · have dc66 : 200 ≤ u35.toInt := le_i (a := 200) (b := u35.toInt) rfl rfl c66
      have k67 : 200 ≤ u35.toInt ∧ u35.toInt ≤ 200 := ⟨Int.le_trans (Int.le_refl _) dc66, i51.2⟩
      refine lv_iload_n hx hb dX8_readCond_63 rfl (lv_at hl 4 rfl) ?_
      refine lv_iconst (v := 1) hx hb dX8_readCond_64 (by decide) ?_
      refine lv_icmp_gt (tgt := 83) hx hb dX8_readCond_65 (by decide) (fun g => absurd g (by decide)) (fun _ => ?_)
      refine lv_aload_n hx hb dX8_readCond_68 rfl (lv_at hl 2 rfl) ?_
      refine get_f (D := D) (ci := 6) (v := .int u43) (C := RX6) (T := TX6) (N := 12) hx hb hw inAX6 hown hK hP 4 rfl rfl 2 (by decide) (hw _ q_93) (fun _ h9 => h9) i57 dX8_readCond_69 ?_
      refine lv_if_eq (tgt := 83) hx hb dX8_readCond_72 (by decide) (fun c68 => ?_) (fun c68 => ?_)
      · have dc68 : u43.toInt = 0 := eq_i (a := u43.toInt) (b := 0) rfl rfl c68
        have k69 : 0 ≤ u43.toInt ∧ u43.toInt ≤ 0 := ⟨Int.le_trans (Int.le_refl _) (Int.le_of_eq dc68.symm), Int.le_trans (Int.le_of_eq dc68) (Int.le_refl _)⟩
        refine lv_iconst (v := 1) hx hb dX8_readCond_83 (by decide) ?_
        refine lv_goto (tgt := 88) hx hb dX8_readCond_84 (by decide) ?_
        exact ret_i (v := 1) hx hb hr hlocks hS hP hD dX8_readCond_88 rfl (Nat.le_of_ble_eq_true rfl) (Nat.le_of_ble_eq_true rfl) ⟨G36, u37, u38, G42, u43, u44, u45, u46, u47, u48, u49, u50, w39, w40, w41, (SAME.tr (SAME.tr SAME.rf t17 (by decide)) i52 (by decide)), i53, i55, i54, (SAME.tr (SAME.tr SAME.rf t21 (by decide)) i56 (by decide)), i57, i58, i59, i60, i61, i62, i63, i64, i65, (show 0 ≤ (1 : Int32).toInt ∧ (1 : Int32).toInt ≤ 1 by decide), rfl⟩
      · have dc68 : u43.toInt ≠ 0 := ne_i (a := u43.toInt) (b := 0) rfl rfl c68
        refine lv_aload_n hx hb dX8_readCond_75 rfl (lv_at hl 2 rfl) ?_
        refine lv_iconst (v := 1) hx hb dX8_readCond_76 (by decide) ?_
        refine call_Vi (wr := [(h0, .inr (8, vL 5 G36)), (h_step, .inl (cI, 40, .inl w39)), (h_sign, .inl (cI, 40, .inl w40)), (h_value, .inl (cI, 40, .inl w41)), (h_p0_bytes, .inl (cB, 940, .inl f_p0_bytes)), (h_p0_wordNames, .inl (cJ, 23, .inr (.inl f_p0_wordNames))), (p1, .inr (1, vL 18 F_p1_)), (h_p1_manName, .inl (cJ, 12, .inr (.inl f_p1_manName)))]) (As := [.int 1]) (rest := []) hx hb hml hown hw (m_X6_fail l D cI cJ cB cP cM cZ p0 G42 u44 1 _ i58) wV_X8_48_X6_fail dX8_readCond_77 hK hP hD hS hA [4] [0, 1, 2, 3, 5, 6, 7, 8] rfl rfl (by decide) (by decide) (by decide) 0 6 rfl rfl GG.fb hG.at hl.1 rfl (Nat.le_of_ble_eq_true rfl) ⟨(Nat.le_of_ble_eq_true rfl), (Nat.le_of_ble_eq_true rfl)⟩ ⟨(Nat.le_of_ble_eq_true rfl), (Nat.le_of_ble_eq_true rfl)⟩ (fun r70 u H locs hp hP hD hS => ?_)
        obtain ⟨F71, t72, t73, t74, rfl, rfl⟩ := hp
        have hP : va_P D vwCl [(h0, .inr (8, vL 5 G36)), (h_step, .inl (cI, 40, .inl w39)), (h_sign, .inl (cI, 40, .inl w40)), (h_value, .inl (cI, 40, .inl w41)), (h_p0_bytes, .inl (cB, 940, .inl f_p0_bytes)), (h_p0_wordNames, .inl (cJ, 23, .inr (.inl f_p0_wordNames))), (p1, .inr (1, vL 18 F_p1_)), (h_p1_manName, .inl (cJ, 12, .inr (.inl f_p1_manName))), (p0, .inr (6, vL 12 F71))] H := hP
        have hD : va_D A [(h0, .inr (8, vL 5 G36)), (h_step, .inl (cI, 40, .inl w39)), (h_sign, .inl (cI, 40, .inl w40)), (h_value, .inl (cI, 40, .inl w41)), (h_p0_bytes, .inl (cB, 940, .inl f_p0_bytes)), (h_p0_wordNames, .inl (cJ, 23, .inr (.inl f_p0_wordNames))), (p1, .inr (1, vL 18 F_p1_)), (h_p1_manName, .inl (cJ, 12, .inr (.inl f_p1_manName))), (p0, .inr (6, vL 12 F71))] := hD
        refine W.widen (k := 0) (n := 0) (Nat.le_of_ble_eq_true rfl) (Nat.le_of_ble_eq_true rfl) ?_
        refine lv_if_eq (tgt := 87) hx hb dX8_readCond_80 (by decide) (fun _ => ?_) (fun g => absurd (by decide) g)
        refine lv_iconst (v := 0) hx hb dX8_readCond_87 (by decide) ?_
        exact ret_i (v := 0) hx hb hr hlocks hS (hP.sub (ws' := [(h0, .inr (8, vL 5 G36)), (h_step, .inl (cI, 40, .inl w39)), (h_sign, .inl (cI, 40, .inl w40)), (h_value, .inl (cI, 40, .inl w41)), (p0, .inr (6, vL 12 F71)), (h_p0_bytes, .inl (cB, 940, .inl f_p0_bytes)), (h_p0_wordNames, .inl (cJ, 23, .inr (.inl f_p0_wordNames))), (p1, .inr (1, vL 18 F_p1_)), (h_p1_manName, .inl (cJ, 12, .inr (.inl f_p1_manName)))]) [0, 1, 2, 3, 8, 4, 5, 6, 7] rfl) (hD.sub (ws' := [(h0, .inr (8, vL 5 G36)), (h_step, .inl (cI, 40, .inl w39)), (h_sign, .inl (cI, 40, .inl w40)), (h_value, .inl (cI, 40, .inl w41)), (p0, .inr (6, vL 12 F71)), (h_p0_bytes, .inl (cB, 940, .inl f_p0_bytes)), (h_p0_wordNames, .inl (cJ, 23, .inr (.inl f_p0_wordNames))), (p1, .inr (1, vL 18 F_p1_)), (h_p1_manName, .inl (cJ, 12, .inr (.inl f_p1_manName)))]) [0, 1, 2, 3, 8, 4, 5, 6, 7] (by decide) rfl) dX8_readCond_88 rfl (Nat.le_of_ble_eq_true rfl) (Nat.le_of_ble_eq_true rfl) ⟨G36, u37, u38, F71, u43, u44, u45, u46, u47, 1, u44, u50, w39, w40, w41, (SAME.tr (SAME.tr SAME.rf t17 (by decide)) i52 (by decide)), i53, i55, i54, (SAME.tr (SAME.tr (SAME.tr SAME.rf t21 (by decide)) i56 (by decide)) t72 (by decide)), (SAME.at t72 (by decide) i57), (SAME.at t72 (by decide) i58), (SAME.at t72 (by decide) i59), (SAME.at t72 (by decide) i60), (SAME.at t72 (by decide) i61), t73, t74, (SAME.at t72 (by decide) i64), i65, (show 0 ≤ (0 : Int32).toInt ∧ (0 : Int32).toInt ≤ 1 by decide), rfl⟩
    · have dc66 : u35.toInt < 200 := nle_i (a := 200) (b := u35.toInt) rfl rfl c66
      have k76 : 0 ≤ u35.toInt ∧ u35.toInt ≤ 199 := ⟨i51.1, up_lt dc66 (Int.le_refl _) (by decide)⟩
      refine lv_aload_n hx hb dX8_readCond_23 rfl (lv_at hl 2 rfl) ?_
      refine call_Vi (wr := [(h0, .inr (8, vL 5 G36)), (h_step, .inl (cI, 40, .inl w39)), (h_sign, .inl (cI, 40, .inl w40)), (h_value, .inl (cI, 40, .inl w41)), (h_p0_bytes, .inl (cB, 940, .inl f_p0_bytes)), (h_p0_wordNames, .inl (cJ, 23, .inr (.inl f_p0_wordNames))), (p1, .inr (1, vL 18 F_p1_)), (h_p1_manName, .inl (cJ, 12, .inr (.inl f_p1_manName)))]) (As := []) (rest := []) hx hb hml hown hw (m_X6_wordHere l D cI cJ cB cP cM cZ p0 G42 u43 u45 _ i57 i59) wV_X8_32_X6_wordHere dX8_readCond_24 hK hP hD hS hA [4] [0, 1, 2, 3, 5, 6, 7, 8] rfl rfl (by decide) (by decide) (by decide) 0 6 rfl rfl GG.fb hG.at hl.1 rfl (Nat.le_of_ble_eq_true rfl) ⟨(Nat.le_of_ble_eq_true rfl), (Nat.le_of_ble_eq_true rfl)⟩ ⟨(Nat.le_of_ble_eq_true rfl), (Nat.le_of_ble_eq_true rfl)⟩ (fun r77 u H locs hp hP hD hS => ?_)
      rcases hp with ⟨t78, rfl, rfl⟩ | ⟨t79, er80, rfl⟩
      · have hP : va_P D vwCl [(h0, .inr (8, vL 5 G36)), (h_step, .inl (cI, 40, .inl w39)), (h_sign, .inl (cI, 40, .inl w40)), (h_value, .inl (cI, 40, .inl w41)), (h_p0_bytes, .inl (cB, 940, .inl f_p0_bytes)), (h_p0_wordNames, .inl (cJ, 23, .inr (.inl f_p0_wordNames))), (p1, .inr (1, vL 18 F_p1_)), (h_p1_manName, .inl (cJ, 12, .inr (.inl f_p1_manName))), (p0, .inr (6, vL 12 G42))] H := hP
        have hD : va_D A [(h0, .inr (8, vL 5 G36)), (h_step, .inl (cI, 40, .inl w39)), (h_sign, .inl (cI, 40, .inl w40)), (h_value, .inl (cI, 40, .inl w41)), (h_p0_bytes, .inl (cB, 940, .inl f_p0_bytes)), (h_p0_wordNames, .inl (cJ, 23, .inr (.inl f_p0_wordNames))), (p1, .inr (1, vL 18 F_p1_)), (h_p1_manName, .inl (cJ, 12, .inr (.inl f_p1_manName))), (p0, .inr (6, vL 12 G42))] := hD
        refine W.widen (k := 0) (n := 0) (Nat.le_of_ble_eq_true rfl) (Nat.le_of_ble_eq_true rfl) ?_
        refine lv_bipush (v := 14) hx hb dX8_readCond_27 (by decide) ?_
        refine lv_icmp_ne (tgt := 63) hx hb dX8_readCond_29 (by decide) (fun _ => ?_) (fun g => absurd g (by decide))
        refine lv_iload_n hx hb dX8_readCond_63 rfl (lv_at hl 4 rfl) ?_
        refine lv_iconst (v := 1) hx hb dX8_readCond_64 (by decide) ?_
        refine lv_icmp_gt (tgt := 83) hx hb dX8_readCond_65 (by decide) (fun g => absurd g (by decide)) (fun _ => ?_)
        refine lv_aload_n hx hb dX8_readCond_68 rfl (lv_at hl 2 rfl) ?_
        refine get_f (D := D) (ci := 6) (v := .int u43) (C := RX6) (T := TX6) (N := 12) hx hb hw inAX6 hown hK hP 8 rfl rfl 2 (by decide) (hw _ q_93) (fun _ h9 => h9) i57 dX8_readCond_69 ?_
        refine lv_if_eq (tgt := 83) hx hb dX8_readCond_72 (by decide) (fun c81 => ?_) (fun c81 => ?_)
        · have dc81 : u43.toInt = 0 := eq_i (a := u43.toInt) (b := 0) rfl rfl c81
          have k82 : 0 ≤ u43.toInt ∧ u43.toInt ≤ 0 := ⟨Int.le_trans (Int.le_refl _) (Int.le_of_eq dc81.symm), Int.le_trans (Int.le_of_eq dc81) (Int.le_refl _)⟩
          refine lv_iconst (v := 1) hx hb dX8_readCond_83 (by decide) ?_
          refine lv_goto (tgt := 88) hx hb dX8_readCond_84 (by decide) ?_
          exact ret_i (v := 1) hx hb hr hlocks hS (hP.sub (ws' := [(h0, .inr (8, vL 5 G36)), (h_step, .inl (cI, 40, .inl w39)), (h_sign, .inl (cI, 40, .inl w40)), (h_value, .inl (cI, 40, .inl w41)), (p0, .inr (6, vL 12 G42)), (h_p0_bytes, .inl (cB, 940, .inl f_p0_bytes)), (h_p0_wordNames, .inl (cJ, 23, .inr (.inl f_p0_wordNames))), (p1, .inr (1, vL 18 F_p1_)), (h_p1_manName, .inl (cJ, 12, .inr (.inl f_p1_manName)))]) [0, 1, 2, 3, 8, 4, 5, 6, 7] rfl) (hD.sub (ws' := [(h0, .inr (8, vL 5 G36)), (h_step, .inl (cI, 40, .inl w39)), (h_sign, .inl (cI, 40, .inl w40)), (h_value, .inl (cI, 40, .inl w41)), (p0, .inr (6, vL 12 G42)), (h_p0_bytes, .inl (cB, 940, .inl f_p0_bytes)), (h_p0_wordNames, .inl (cJ, 23, .inr (.inl f_p0_wordNames))), (p1, .inr (1, vL 18 F_p1_)), (h_p1_manName, .inl (cJ, 12, .inr (.inl f_p1_manName)))]) [0, 1, 2, 3, 8, 4, 5, 6, 7] (by decide) rfl) dX8_readCond_88 rfl (Nat.le_of_ble_eq_true rfl) (Nat.le_of_ble_eq_true rfl) ⟨G36, u37, u38, G42, u43, u44, u45, u46, u47, u48, u49, u50, w39, w40, w41, (SAME.tr (SAME.tr SAME.rf t17 (by decide)) i52 (by decide)), i53, i55, i54, (SAME.tr (SAME.tr SAME.rf t21 (by decide)) i56 (by decide)), i57, i58, i59, i60, i61, i62, i63, i64, i65, (show 0 ≤ (1 : Int32).toInt ∧ (1 : Int32).toInt ≤ 1 by decide), rfl⟩
        · have dc81 : u43.toInt ≠ 0 := ne_i (a := u43.toInt) (b := 0) rfl rfl c81
          refine lv_aload_n hx hb dX8_readCond_75 rfl (lv_at hl 2 rfl) ?_
          refine lv_iconst (v := 1) hx hb dX8_readCond_76 (by decide) ?_
          refine call_Vi (wr := [(h0, .inr (8, vL 5 G36)), (h_step, .inl (cI, 40, .inl w39)), (h_sign, .inl (cI, 40, .inl w40)), (h_value, .inl (cI, 40, .inl w41)), (h_p0_bytes, .inl (cB, 940, .inl f_p0_bytes)), (h_p0_wordNames, .inl (cJ, 23, .inr (.inl f_p0_wordNames))), (p1, .inr (1, vL 18 F_p1_)), (h_p1_manName, .inl (cJ, 12, .inr (.inl f_p1_manName)))]) (As := [.int 1]) (rest := []) hx hb hml hown hw (m_X6_fail l D cI cJ cB cP cM cZ p0 G42 u44 1 _ i58) wV_X8_48_X6_fail dX8_readCond_77 hK hP hD hS hA [8] [0, 1, 2, 3, 4, 5, 6, 7] rfl rfl (by decide) (by decide) (by decide) 0 6 rfl rfl GG.fb hG.at hl.1 rfl (Nat.le_of_ble_eq_true rfl) ⟨(Nat.le_of_ble_eq_true rfl), (Nat.le_of_ble_eq_true rfl)⟩ ⟨(Nat.le_of_ble_eq_true rfl), (Nat.le_of_ble_eq_true rfl)⟩ (fun r83 u H locs hp hP hD hS => ?_)
          obtain ⟨F84, t85, t86, t87, rfl, rfl⟩ := hp
          have hP : va_P D vwCl [(h0, .inr (8, vL 5 G36)), (h_step, .inl (cI, 40, .inl w39)), (h_sign, .inl (cI, 40, .inl w40)), (h_value, .inl (cI, 40, .inl w41)), (h_p0_bytes, .inl (cB, 940, .inl f_p0_bytes)), (h_p0_wordNames, .inl (cJ, 23, .inr (.inl f_p0_wordNames))), (p1, .inr (1, vL 18 F_p1_)), (h_p1_manName, .inl (cJ, 12, .inr (.inl f_p1_manName))), (p0, .inr (6, vL 12 F84))] H := hP
          have hD : va_D A [(h0, .inr (8, vL 5 G36)), (h_step, .inl (cI, 40, .inl w39)), (h_sign, .inl (cI, 40, .inl w40)), (h_value, .inl (cI, 40, .inl w41)), (h_p0_bytes, .inl (cB, 940, .inl f_p0_bytes)), (h_p0_wordNames, .inl (cJ, 23, .inr (.inl f_p0_wordNames))), (p1, .inr (1, vL 18 F_p1_)), (h_p1_manName, .inl (cJ, 12, .inr (.inl f_p1_manName))), (p0, .inr (6, vL 12 F84))] := hD
          refine W.widen (k := 0) (n := 0) (Nat.le_of_ble_eq_true rfl) (Nat.le_of_ble_eq_true rfl) ?_
          refine lv_if_eq (tgt := 87) hx hb dX8_readCond_80 (by decide) (fun _ => ?_) (fun g => absurd (by decide) g)
          refine lv_iconst (v := 0) hx hb dX8_readCond_87 (by decide) ?_
          exact ret_i (v := 0) hx hb hr hlocks hS (hP.sub (ws' := [(h0, .inr (8, vL 5 G36)), (h_step, .inl (cI, 40, .inl w39)), (h_sign, .inl (cI, 40, .inl w40)), (h_value, .inl (cI, 40, .inl w41)), (p0, .inr (6, vL 12 F84)), (h_p0_bytes, .inl (cB, 940, .inl f_p0_bytes)), (h_p0_wordNames, .inl (cJ, 23, .inr (.inl f_p0_wordNames))), (p1, .inr (1, vL 18 F_p1_)), (h_p1_manName, .inl (cJ, 12, .inr (.inl f_p1_manName)))]) [0, 1, 2, 3, 8, 4, 5, 6, 7] rfl) (hD.sub (ws' := [(h0, .inr (8, vL 5 G36)), (h_step, .inl (cI, 40, .inl w39)), (h_sign, .inl (cI, 40, .inl w40)), (h_value, .inl (cI, 40, .inl w41)), (p0, .inr (6, vL 12 F84)), (h_p0_bytes, .inl (cB, 940, .inl f_p0_bytes)), (h_p0_wordNames, .inl (cJ, 23, .inr (.inl f_p0_wordNames))), (p1, .inr (1, vL 18 F_p1_)), (h_p1_manName, .inl (cJ, 12, .inr (.inl f_p1_manName)))]) [0, 1, 2, 3, 8, 4, 5, 6, 7] (by decide) rfl) dX8_readCond_88 rfl (Nat.le_of_ble_eq_true rfl) (Nat.le_of_ble_eq_true rfl) ⟨G36, u37, u38, F84, u43, u44, u45, u46, u47, 1, u44, u50, w39, w40, w41, (SAME.tr (SAME.tr SAME.rf t17 (by decide)) i52 (by decide)), i53, i55, i54, (SAME.tr (SAME.tr (SAME.tr SAME.rf t21 (by decide)) i56 (by decide)) t85 (by decide)), (SAME.at t85 (by decide) i57), (SAME.at t85 (by decide) i58), (SAME.at t85 (by decide) i59), (SAME.at t85 (by decide) i60), (SAME.at t85 (by decide) i61), t86, t87, (SAME.at t85 (by decide) i64), i65, (show 0 ≤ (0 : Int32).toInt ∧ (0 : Int32).toInt ≤ 1 by decide), rfl⟩
      · have hP : va_P D vwCl [(h0, .inr (8, vL 5 G36)), (h_step, .inl (cI, 40, .inl w39)), (h_sign, .inl (cI, 40, .inl w40)), (h_value, .inl (cI, 40, .inl w41)), (h_p0_bytes, .inl (cB, 940, .inl f_p0_bytes)), (h_p0_wordNames, .inl (cJ, 23, .inr (.inl f_p0_wordNames))), (p1, .inr (1, vL 18 F_p1_)), (h_p1_manName, .inl (cJ, 12, .inr (.inl f_p1_manName))), (p0, .inr (6, vL 12 G42))] H := hP
        have hD : va_D A [(h0, .inr (8, vL 5 G36)), (h_step, .inl (cI, 40, .inl w39)), (h_sign, .inl (cI, 40, .inl w40)), (h_value, .inl (cI, 40, .inl w41)), (h_p0_bytes, .inl (cB, 940, .inl f_p0_bytes)), (h_p0_wordNames, .inl (cJ, 23, .inr (.inl f_p0_wordNames))), (p1, .inr (1, vL 18 F_p1_)), (h_p1_manName, .inl (cJ, 12, .inr (.inl f_p1_manName))), (p0, .inr (6, vL 12 G42))] := hD
        refine W.widen (k := 0) (n := 0) (Nat.le_of_ble_eq_true rfl) (Nat.le_of_ble_eq_true rfl) ?_
        refine lv_ci (y := u45) er80 ?_
        have k89 : 2 ≤ u43.toInt ∧ u43.toInt ≤ 2 := ⟨Int.le_trans (Int.le_refl _) (Int.le_of_eq t79.symm), Int.le_trans (Int.le_of_eq t79) (Int.le_refl _)⟩
        refine lv_bipush (v := 14) hx hb dX8_readCond_27 (by decide) ?_
        refine lv_icmp_ne (tgt := 63) hx hb dX8_readCond_29 (by decide) (fun c90 => ?_) (fun c90 => ?_)
        · have dc90 : u45.toInt ≠ 14 := ne_i (a := u45.toInt) (b := 14) rfl rfl c90
          refine lv_iload_n hx hb dX8_readCond_63 rfl (lv_at hl 4 rfl) ?_
          refine lv_iconst (v := 1) hx hb dX8_readCond_64 (by decide) ?_
          refine lv_icmp_gt (tgt := 83) hx hb dX8_readCond_65 (by decide) (fun g => absurd g (by decide)) (fun _ => ?_)
          refine lv_aload_n hx hb dX8_readCond_68 rfl (lv_at hl 2 rfl) ?_
          refine get_f (D := D) (ci := 6) (v := .int u43) (C := RX6) (T := TX6) (N := 12) hx hb hw inAX6 hown hK hP 8 rfl rfl 2 (by decide) (hw _ q_93) (fun _ h9 => h9) i57 dX8_readCond_69 ?_
          refine lv_if_eq (tgt := 83) hx hb dX8_readCond_72 (by decide) (fun c91 => False.elim (bad_le (Int.le_of_eq (eq_i (a := u43.toInt) (b := 0) rfl rfl c91)) k89.1 (Int.le_refl _) (by decide))) (fun c91 => ?_)
          have dc91 : u43.toInt ≠ 0 := ne_i (a := u43.toInt) (b := 0) rfl rfl c91
          refine lv_aload_n hx hb dX8_readCond_75 rfl (lv_at hl 2 rfl) ?_
          refine lv_iconst (v := 1) hx hb dX8_readCond_76 (by decide) ?_
          refine call_Vi (wr := [(h0, .inr (8, vL 5 G36)), (h_step, .inl (cI, 40, .inl w39)), (h_sign, .inl (cI, 40, .inl w40)), (h_value, .inl (cI, 40, .inl w41)), (h_p0_bytes, .inl (cB, 940, .inl f_p0_bytes)), (h_p0_wordNames, .inl (cJ, 23, .inr (.inl f_p0_wordNames))), (p1, .inr (1, vL 18 F_p1_)), (h_p1_manName, .inl (cJ, 12, .inr (.inl f_p1_manName)))]) (As := [.int 1]) (rest := []) hx hb hml hown hw (m_X6_fail l D cI cJ cB cP cM cZ p0 G42 u44 1 _ i58) wV_X8_48_X6_fail dX8_readCond_77 hK hP hD hS hA [8] [0, 1, 2, 3, 4, 5, 6, 7] rfl rfl (by decide) (by decide) (by decide) 0 6 rfl rfl GG.fb hG.at hl.1 rfl (Nat.le_of_ble_eq_true rfl) ⟨(Nat.le_of_ble_eq_true rfl), (Nat.le_of_ble_eq_true rfl)⟩ ⟨(Nat.le_of_ble_eq_true rfl), (Nat.le_of_ble_eq_true rfl)⟩ (fun r92 u H locs hp hP hD hS => ?_)
          obtain ⟨F93, t94, t95, t96, rfl, rfl⟩ := hp
          have hP : va_P D vwCl [(h0, .inr (8, vL 5 G36)), (h_step, .inl (cI, 40, .inl w39)), (h_sign, .inl (cI, 40, .inl w40)), (h_value, .inl (cI, 40, .inl w41)), (h_p0_bytes, .inl (cB, 940, .inl f_p0_bytes)), (h_p0_wordNames, .inl (cJ, 23, .inr (.inl f_p0_wordNames))), (p1, .inr (1, vL 18 F_p1_)), (h_p1_manName, .inl (cJ, 12, .inr (.inl f_p1_manName))), (p0, .inr (6, vL 12 F93))] H := hP
          have hD : va_D A [(h0, .inr (8, vL 5 G36)), (h_step, .inl (cI, 40, .inl w39)), (h_sign, .inl (cI, 40, .inl w40)), (h_value, .inl (cI, 40, .inl w41)), (h_p0_bytes, .inl (cB, 940, .inl f_p0_bytes)), (h_p0_wordNames, .inl (cJ, 23, .inr (.inl f_p0_wordNames))), (p1, .inr (1, vL 18 F_p1_)), (h_p1_manName, .inl (cJ, 12, .inr (.inl f_p1_manName))), (p0, .inr (6, vL 12 F93))] := hD
          refine W.widen (k := 0) (n := 0) (Nat.le_of_ble_eq_true rfl) (Nat.le_of_ble_eq_true rfl) ?_
          refine lv_if_eq (tgt := 87) hx hb dX8_readCond_80 (by decide) (fun _ => ?_) (fun g => absurd (by decide) g)
          refine lv_iconst (v := 0) hx hb dX8_readCond_87 (by decide) ?_
          exact ret_i (v := 0) hx hb hr hlocks hS (hP.sub (ws' := [(h0, .inr (8, vL 5 G36)), (h_step, .inl (cI, 40, .inl w39)), (h_sign, .inl (cI, 40, .inl w40)), (h_value, .inl (cI, 40, .inl w41)), (p0, .inr (6, vL 12 F93)), (h_p0_bytes, .inl (cB, 940, .inl f_p0_bytes)), (h_p0_wordNames, .inl (cJ, 23, .inr (.inl f_p0_wordNames))), (p1, .inr (1, vL 18 F_p1_)), (h_p1_manName, .inl (cJ, 12, .inr (.inl f_p1_manName)))]) [0, 1, 2, 3, 8, 4, 5, 6, 7] rfl) (hD.sub (ws' := [(h0, .inr (8, vL 5 G36)), (h_step, .inl (cI, 40, .inl w39)), (h_sign, .inl (cI, 40, .inl w40)), (h_value, .inl (cI, 40, .inl w41)), (p0, .inr (6, vL 12 F93)), (h_p0_bytes, .inl (cB, 940, .inl f_p0_bytes)), (h_p0_wordNames, .inl (cJ, 23, .inr (.inl f_p0_wordNames))), (p1, .inr (1, vL 18 F_p1_)), (h_p1_manName, .inl (cJ, 12, .inr (.inl f_p1_manName)))]) [0, 1, 2, 3, 8, 4, 5, 6, 7] (by decide) rfl) dX8_readCond_88 rfl (Nat.le_of_ble_eq_true rfl) (Nat.le_of_ble_eq_true rfl) ⟨G36, u37, u38, F93, u43, u44, u45, u46, u47, 1, u44, u50, w39, w40, w41, (SAME.tr (SAME.tr SAME.rf t17 (by decide)) i52 (by decide)), i53, i55, i54, (SAME.tr (SAME.tr (SAME.tr SAME.rf t21 (by decide)) i56 (by decide)) t94 (by decide)), (SAME.at t94 (by decide) i57), (SAME.at t94 (by decide) i58), (SAME.at t94 (by decide) i59), (SAME.at t94 (by decide) i60), (SAME.at t94 (by decide) i61), t95, t96, (SAME.at t94 (by decide) i64), i65, (show 0 ≤ (0 : Int32).toInt ∧ (0 : Int32).toInt ≤ 1 by decide), rfl⟩
        · have dc90 : u45.toInt = 14 := eq_i (a := u45.toInt) (b := 14) rfl rfl c90
          have k98 : 14 ≤ u45.toInt ∧ u45.toInt ≤ 14 := ⟨Int.le_trans (Int.le_refl _) (Int.le_of_eq dc90.symm), Int.le_trans (Int.le_of_eq dc90) (Int.le_refl _)⟩
          refine lv_aload_n hx hb dX8_readCond_32 rfl (lv_at hl 2 rfl) ?_
          have n99 : F5 0 = .ref h_p0_bytes := (SAME.at t21 (by decide) e_p0_bytes)
          have n100 : G42 0 = .ref h_p0_bytes := (SAME.at i56 (by decide) n99)
          have n101 : F5 1 = .int x_p0_length := (SAME.at t21 (by decide) e_p0_length)
          have n102 : G42 1 = .int x_p0_length := (SAME.at i56 (by decide) n101)
          have n103 : F5 9 = .ref h_p0_wordNames := (SAME.at t21 (by decide) e_p0_wordNames)
          have n104 : G42 9 = .ref h_p0_wordNames := (SAME.at i56 (by decide) n103)
          have n105 : F5 11 = .int x_p0_mostBytes := (SAME.at t21 (by decide) e_p0_mostBytes)
          have n106 : G42 11 = .int x_p0_mostBytes := (SAME.at i56 (by decide) n105)
          refine call_Vv (wr := [(h0, .inr (8, vL 5 G36)), (h_step, .inl (cI, 40, .inl w39)), (h_sign, .inl (cI, 40, .inl w40)), (h_value, .inl (cI, 40, .inl w41)), (p1, .inr (1, vL 18 F_p1_)), (h_p1_manName, .inl (cJ, 12, .inr (.inl f_p1_manName)))]) (As := []) (rest := []) hx hb hml hown hw (m_X6_advance l D cI cJ cB cP cM cZ p0 h_p0_bytes h_p0_wordNames G42 x_p0_length u43 u44 u45 u46 u50 x_p0_mostBytes f_p0_bytes f_p0_wordNames _ n100 n102 i_x_p0_length i57 i58 i59 i60 n104 i64 i65 n106 s_p0_bytes_0 s_p0_wordNames_KN) wV_X8_38_X6_advance dX8_readCond_33 hK hP hD hS hA [8, 4, 5] [0, 1, 2, 3, 6, 7] rfl rfl (by decide) (by decide) (by decide) 0 6 rfl rfl GG.fb hG.at hl.1 rfl (Nat.le_of_ble_eq_true rfl) ⟨(Nat.le_of_ble_eq_true rfl), (Nat.le_of_ble_eq_true rfl)⟩ ⟨(Nat.le_of_ble_eq_true rfl), (Nat.le_of_ble_eq_true rfl)⟩ (fun u H locs hp hP hD hS => ?_)
          obtain ⟨F108, y109, y110, y111, y112, y113, t114, t115, t116, t117, t118, t119, t120, t121, t122, t123, t124, rfl⟩ := hp
          have hP : va_P D vwCl [(h0, .inr (8, vL 5 G36)), (h_step, .inl (cI, 40, .inl w39)), (h_sign, .inl (cI, 40, .inl w40)), (h_value, .inl (cI, 40, .inl w41)), (p1, .inr (1, vL 18 F_p1_)), (h_p1_manName, .inl (cJ, 12, .inr (.inl f_p1_manName))), (p0, .inr (6, vL 12 F108)), (h_p0_bytes, .inl (cB, 940, .inl f_p0_bytes)), (h_p0_wordNames, .inl (cJ, 23, .inr (.inl f_p0_wordNames)))] H := hP
          have hD : va_D A [(h0, .inr (8, vL 5 G36)), (h_step, .inl (cI, 40, .inl w39)), (h_sign, .inl (cI, 40, .inl w40)), (h_value, .inl (cI, 40, .inl w41)), (p1, .inr (1, vL 18 F_p1_)), (h_p1_manName, .inl (cJ, 12, .inr (.inl f_p1_manName))), (p0, .inr (6, vL 12 F108)), (h_p0_bytes, .inl (cB, 940, .inl f_p0_bytes)), (h_p0_wordNames, .inl (cJ, 23, .inr (.inl f_p0_wordNames)))] := hD
          refine W.widen (k := 0) (n := 0) (Nat.le_of_ble_eq_true rfl) (Nat.le_of_ble_eq_true rfl) ?_
          refine lv_aload_n hx hb dX8_readCond_36 rfl (lv_at hl 1 rfl) ?_
          refine lv_aload_n hx hb dX8_readCond_37 rfl (lv_at hl 2 rfl) ?_
          refine lv_aload_n hx hb dX8_readCond_38 rfl (lv_at hl 3 rfl) ?_
          refine lv_iload_n hx hb dX8_readCond_39 rfl (lv_at hl 4 rfl) ?_
          have n126 : F2 0 = .ref h_step := (SAME.at t17 (by decide) e_step)
          have n127 : G36 0 = .ref h_step := (SAME.at i52 (by decide) n126)
          have n128 : F2 1 = .ref h_sign := (SAME.at t17 (by decide) e_sign)
          have n129 : G36 1 = .ref h_sign := (SAME.at i52 (by decide) n128)
          have n130 : F2 2 = .ref h_value := (SAME.at t17 (by decide) e_value)
          have n131 : G36 2 = .ref h_value := (SAME.at i52 (by decide) n130)
          have n132 : F108 0 = .ref h_p0_bytes := (SAME.at t114 (by decide) n100)
          have n133 : F108 1 = .int x_p0_length := (SAME.at t114 (by decide) n102)
          have n134 : F108 6 = .int u47 := (SAME.at t114 (by decide) i61)
          have n135 : F108 7 = .int u48 := (SAME.at t114 (by decide) i62)
          have n136 : F108 8 = .int u49 := (SAME.at t114 (by decide) i63)
          have n137 : F108 9 = .ref h_p0_wordNames := (SAME.at t114 (by decide) n104)
          have n138 : F108 11 = .int x_p0_mostBytes := (SAME.at t114 (by decide) n106)
          refine call_Vi (wr := []) (As := [.ref p0, .ref p1, .int 1]) (rest := []) hx hb hml hown hw (m_X8_readAll_1 l D cI cJ cB cP cM cZ h0 h_step h_sign h_value p0 h_p0_bytes h_p0_wordNames p1 h_p1_manName G36 u37 u38 w39 w40 w41 F108 x_p0_length y109 y110 y111 y112 u47 u48 u49 y113 x_p0_mostBytes f_p0_bytes f_p0_wordNames F_p1_ x_p1_men f_p1_manName _ n127 n129 n131 i53 i55 i54 n132 n133 i_x_p0_length t115 t117 t119 t120 n134 n135 n136 n137 t121 t122 n138 s_p0_bytes_0 s_p0_wordNames_KN e_p1_manName e_p1_men i_x_p1_men) wV_X8_28_X8_readAll dX8_readCond_40 hK hP hD hS hA [0, 1, 2, 3, 6, 7, 8, 4, 5] [] rfl rfl (by decide) (by decide) (by decide) 0 8 rfl rfl GG.fb hG.at hl.1 rfl (Nat.le_of_ble_eq_true rfl) ⟨(Nat.le_of_ble_eq_true rfl), (Nat.le_of_ble_eq_true rfl)⟩ ⟨(Nat.le_of_ble_eq_true rfl), (Nat.le_of_ble_eq_true rfl)⟩ (fun r139 u H locs hp hP hD hS => ?_)
          refine hp.elim (fun F140 h9z0 => h9z0.elim (fun y141 h9z1 => h9z1.elim (fun y142 h9z2 => h9z2.elim (fun F143 h9z3 => h9z3.elim (fun y144 h9z4 => h9z4.elim (fun y145 h9z5 => h9z5.elim (fun y146 h9z6 => h9z6.elim (fun y147 h9z7 => h9z7.elim (fun y148 h9z8 => h9z8.elim (fun y149 h9z9 => h9z9.elim (fun y150 h9z10 => h9z10.elim (fun y151 h9z11 => h9z11.elim (fun g152 h9z12 => h9z12.elim (fun g153 h9z13 => h9z13.elim (fun g154 h9z14 => h9z14.elim (fun t155 h9z15 => h9z15.elim (fun t156 h9z16 => h9z16.elim (fun t157 h9z17 => h9z17.elim (fun t158 h9z18 => h9z18.elim (fun t159 h9z19 => h9z19.elim (fun t160 h9z20 => h9z20.elim (fun t161 h9z21 => h9z21.elim (fun t162 h9z22 => h9z22.elim (fun t163 h9z23 => h9z23.elim (fun t164 h9z24 => h9z24.elim (fun t165 h9z25 => h9z25.elim (fun t166 h9z26 => h9z26.elim (fun t167 h9z27 => h9z27.elim (fun t168 h9z28 => h9z28.elim (fun t169 h9z29 => ?_))))))))))))))))))))))))))))))
          clear h9z0 h9z1 h9z2 h9z3 h9z4 h9z5 h9z6 h9z7 h9z8 h9z9 h9z10 h9z11 h9z12 h9z13 h9z14 h9z15 h9z16 h9z17 h9z18 h9z19 h9z20 h9z21 h9z22 h9z23 h9z24 h9z25 h9z26 h9z27 h9z28
          subst h9z29
          have hP : va_P D vwCl [(h0, .inr (8, vL 5 F140)), (h_step, .inl (cI, 40, .inl g152)), (h_sign, .inl (cI, 40, .inl g153)), (h_value, .inl (cI, 40, .inl g154)), (p0, .inr (6, vL 12 F143)), (h_p0_bytes, .inl (cB, 940, .inl f_p0_bytes)), (h_p0_wordNames, .inl (cJ, 23, .inr (.inl f_p0_wordNames))), (p1, .inr (1, vL 18 F_p1_)), (h_p1_manName, .inl (cJ, 12, .inr (.inl f_p1_manName)))] H := hP
          have hD : va_D A [(h0, .inr (8, vL 5 F140)), (h_step, .inl (cI, 40, .inl g152)), (h_sign, .inl (cI, 40, .inl g153)), (h_value, .inl (cI, 40, .inl g154)), (p0, .inr (6, vL 12 F143)), (h_p0_bytes, .inl (cB, 940, .inl f_p0_bytes)), (h_p0_wordNames, .inl (cJ, 23, .inr (.inl f_p0_wordNames))), (p1, .inr (1, vL 18 F_p1_)), (h_p1_manName, .inl (cJ, 12, .inr (.inl f_p1_manName)))] := hD
          refine W.widen (k := 0) (n := 0) (Nat.le_of_ble_eq_true rfl) (Nat.le_of_ble_eq_true rfl) ?_
          refine lv_if_ne (tgt := 48) hx hb dX8_readCond_43 (by decide) (fun c171 => ?_) (fun c171 => ?_)
          · have dc171 : r139.toInt ≠ 0 := ne_i (a := r139.toInt) (b := 0) rfl rfl c171
            have k172 : 1 ≤ r139.toInt ∧ r139.toInt ≤ 1 := ⟨ne_lo dc171 t169.1 ⟨Int.le_refl _, Int.le_refl _⟩ (by decide), t169.2⟩
            refine lv_aload_n hx hb dX8_readCond_48 rfl (lv_at hl 1 rfl) ?_
            refine lv_bipush (v := 14) hx hb dX8_readCond_49 (by decide) ?_
            refine lv_iconst (v := 0) hx hb dX8_readCond_51 (by decide) ?_
            refine lv_iconst (v := 0) hx hb dX8_readCond_52 (by decide) ?_
            have n173 : F140 0 = .ref h_step := (SAME.at t155 (by decide) n127)
            have n174 : F140 1 = .ref h_sign := (SAME.at t155 (by decide) n129)
            have n175 : F140 2 = .ref h_value := (SAME.at t155 (by decide) n131)
            refine call_Vi (wr := [(p0, .inr (6, vL 12 F143)), (h_p0_bytes, .inl (cB, 940, .inl f_p0_bytes)), (h_p0_wordNames, .inl (cJ, 23, .inr (.inl f_p0_wordNames))), (p1, .inr (1, vL 18 F_p1_)), (h_p1_manName, .inl (cJ, 12, .inr (.inl f_p1_manName)))]) (As := [.int 14, .int 0, .int 0]) (rest := []) hx hb hml hown hw (m_X8_addStep l D cI cJ cB cP cM cZ h0 h_step h_sign h_value F140 y141 g152 g153 g154 14 0 0 _ n173 n174 n175 t156 t157) wV_X8_41_X8_addStep dX8_readCond_53 hK hP hD hS hA [0, 1, 2, 3] [4, 5, 6, 7, 8] rfl rfl (by decide) (by decide) (by decide) 0 8 rfl rfl GG.fb hG.at hl.1 rfl (Nat.le_of_ble_eq_true rfl) ⟨(Nat.le_of_ble_eq_true rfl), (Nat.le_of_ble_eq_true rfl)⟩ ⟨(Nat.le_of_ble_eq_true rfl), (Nat.le_of_ble_eq_true rfl)⟩ (fun r176 u H locs hp hP hD hS => ?_)
            have zl0 : (0 : Int32).toInt = 0 := by decide
            have zl14 : (14 : Int32).toInt = 14 := by decide
            obtain ⟨F177, y178, g179, g180, g181, t182, t183, t184, rfl, rfl⟩ := hp
            have hP : va_P D vwCl [(p0, .inr (6, vL 12 F143)), (h_p0_bytes, .inl (cB, 940, .inl f_p0_bytes)), (h_p0_wordNames, .inl (cJ, 23, .inr (.inl f_p0_wordNames))), (p1, .inr (1, vL 18 F_p1_)), (h_p1_manName, .inl (cJ, 12, .inr (.inl f_p1_manName))), (h0, .inr (8, vL 5 F177)), (h_step, .inl (cI, 40, .inl g179)), (h_sign, .inl (cI, 40, .inl g180)), (h_value, .inl (cI, 40, .inl g181))] H := hP
            have hD : va_D A [(p0, .inr (6, vL 12 F143)), (h_p0_bytes, .inl (cB, 940, .inl f_p0_bytes)), (h_p0_wordNames, .inl (cJ, 23, .inr (.inl f_p0_wordNames))), (p1, .inr (1, vL 18 F_p1_)), (h_p1_manName, .inl (cJ, 12, .inr (.inl f_p1_manName))), (h0, .inr (8, vL 5 F177)), (h_step, .inl (cI, 40, .inl g179)), (h_sign, .inl (cI, 40, .inl g180)), (h_value, .inl (cI, 40, .inl g181))] := hD
            refine W.widen (k := 0) (n := 0) (Nat.le_of_ble_eq_true rfl) (Nat.le_of_ble_eq_true rfl) ?_
            refine lv_pop hx hb dX8_readCond_56 rfl ?_
            obtain ⟨v186, ev186⟩ : ∃ z : Int32, z = u35 + 1 := ⟨_, rfl⟩
            have bv186 : v186.toInt = u35.toInt + 1 := by rw [ev186]; exact add_k rfl rfl k76 ⟨Int.le_refl _, Int.le_refl _⟩ (by decide)
            have k187 : 1 ≤ v186.toInt ∧ v186.toInt ≤ 200 := add_r bv186 k76 ⟨Int.le_refl _, Int.le_refl _⟩ (by decide)
            refine lv_iinc (v := v186) (lv' := [(4, .int v186), (0, .ref h0), (1, .ref p0), (2, .ref p1), (3, .int 1)]) hx hb dX8_readCond_57 hl (k := 0) rfl (by rw [ev186]; rfl) (by decide) rfl (fun ls hl => ?_)
            refine lv_goto (tgt := 15) hx hb dX8_readCond_60 (by decide) ?_
            have n188 : F177 4 = .int y142 := (SAME.at t182 (by decide) t158)
            exact ih (v186, F177, y178, y142, g179, g180, g181, F143, y144, y145, y146, y147, y148, y149, y150, y151) ⟨(ir_wk k187 (by decide) (by decide)), (SAME.tr (SAME.tr (SAME.tr SAME.rf i52 (by decide)) t155 (by decide)) t182 (by decide)), t183, n188, (ir_wk t184 (by decide) (by decide)), (SAME.tr (SAME.tr (SAME.tr SAME.rf i56 (by decide)) t114 (by decide)) t159 (by decide)), t160, t161, t162, t163, t164, t165, t166, t167, t168⟩ (by show (200 - v186.toInt).toNat < (200 - u35.toInt).toNat; omega) _ _ _ (hP.sub [5, 6, 7, 8, 0, 1, 2, 3, 4] rfl) (hD.sub [5, 6, 7, 8, 0, 1, 2, 3, 4] (by decide) rfl) hS (lv_sub hl [0, 1, 2, 3, 4] rfl)
          · have dc171 : r139.toInt = 0 := eq_i (a := r139.toInt) (b := 0) rfl rfl c171
            have k189 : 0 ≤ r139.toInt ∧ r139.toInt ≤ 0 := ⟨t169.1, Int.le_trans (Int.le_of_eq dc171) (Int.le_refl _)⟩
            refine lv_iconst (v := 0) hx hb dX8_readCond_46 (by decide) ?_
            exact ret_i (v := 0) hx hb hr hlocks hS hP hD dX8_readCond_47 rfl (Nat.le_of_ble_eq_true rfl) (Nat.le_of_ble_eq_true rfl) ⟨F140, y141, y142, F143, y144, y145, y146, y147, y148, y149, y150, y151, g152, g153, g154, (SAME.tr (SAME.tr (SAME.tr SAME.rf t17 (by decide)) i52 (by decide)) t155 (by decide)), t156, t157, t158, (SAME.tr (SAME.tr (SAME.tr (SAME.tr SAME.rf t21 (by decide)) i56 (by decide)) t114 (by decide)) t159 (by decide)), t160, t161, t162, t163, t164, t165, t166, t167, t168, (show 0 ≤ (0 : Int32).toInt ∧ (0 : Int32).toInt ≤ 1 by decide), rfl⟩
  · have dc33 : r1.toInt = 0 := eq_i (a := r1.toInt) (b := 0) rfl rfl c33
    have k190 : 0 ≤ r1.toInt ∧ r1.toInt ≤ 0 := ⟨t31.1, Int.le_trans (Int.le_of_eq dc33) (Int.le_refl _)⟩
    refine lv_iconst (v := 0) hx hb dX8_readCond_10 (by decide) ?_
    exact ret_i (v := 0) hx hb hr hlocks hS hP hD dX8_readCond_11 rfl (Nat.le_of_ble_eq_true rfl) (Nat.le_of_ble_eq_true rfl) ⟨F2, y3, y4, F5, y6, y7, y8, y9, y10, y11, y12, y13, g14, g15, g16, (SAME.tr SAME.rf t17 (by decide)), t18, t19, t20, (SAME.tr SAME.rf t21 (by decide)), t22, t23, t24, t25, t26, t27, t28, t29, t30, (show 0 ≤ (0 : Int32).toInt ∧ (0 : Int32).toInt ≤ 1 by decide), rfl⟩
set_option maxHeartbeats 4000000 in
set_option maxRecDepth 100000 in
theorem m_X9_sentence (l : Launch) (D : va_G) (cI cJ cB cP cM cZ : ClassId) (h0 : Nat) (h_tape : Nat) (h_tape_bytes : Nat) (h_tape_wordNames : Nat) (h_course : Nat) (h_course_settings : Nat) (h_course_manName : Nat) (h_course_push : Nat) (h_course_feet : Nat) (h_course_weight : Nat) (h_course_length : Nat) (h_course_drop : Nat) (h_course_ideal : Nat) (h_course_over : Nat) (h_course_runnerName : Nat) (h_course_bestAt : Nat) (h_course_bad : Nat) (Fh : Nat → Value) (F_tape_ : Nat → Value) (x_tape_length : Int32) (x_tape_kind : Int32) (x_tape_place : Int32) (x_tape_value : Int32) (x_tape_name : Int64) (x_tape_number : Int32) (x_tape_faultKind : Int32) (x_tape_faultPlace : Int32) (x_tape_at : Int32) (f_tape_bytes : Nat → Int32) (f_tape_wordNames : Nat → Int64) (F_course_ : Nat → Value) (x_course_men : Int32) (f_course_settings : Nat → Int32) (f_course_manName : Nat → Int64) (f_course_push : Nat → Int32) (f_course_feet : Nat → Int32) (f_course_weight : Nat → Int32) (f_course_length : Nat → Int32) (f_course_drop : Nat → Int32) (f_course_ideal : Nat → Int32) (f_course_over : Nat → Int32) (f_course_runnerName : Nat → Int64) (f_course_bestAt : Nat → Int32) (f_course_bad : Nat → Int32) (sz : Nat) (e_tape : Fh 0 = .ref h_tape) (e_course : Fh 10 = .ref h_course) (e_tape_bytes : F_tape_ 0 = .ref h_tape_bytes) (e_tape_length : F_tape_ 1 = .int x_tape_length) (i_x_tape_length : IR 0 940 x_tape_length) (e_tape_kind : F_tape_ 2 = .int x_tape_kind) (e_tape_place : F_tape_ 3 = .int x_tape_place) (e_tape_value : F_tape_ 4 = .int x_tape_value) (e_tape_name : F_tape_ 5 = .long x_tape_name) (e_tape_number : F_tape_ 6 = .int x_tape_number) (e_tape_faultKind : F_tape_ 7 = .int x_tape_faultKind) (e_tape_faultPlace : F_tape_ 8 = .int x_tape_faultPlace) (e_tape_wordNames : F_tape_ 9 = .ref h_tape_wordNames) (e_tape_at : F_tape_ 10 = .int x_tape_at) (i_x_tape_at : IR 0 940 x_tape_at) (s_tape_bytes_0 : SG 0 939 (-128) 127 f_tape_bytes) (s_tape_wordNames_KN : KWN f_tape_wordNames) (e_course_settings : F_course_ 1 = .ref h_course_settings) (e_course_manName : F_course_ 2 = .ref h_course_manName) (e_course_push : F_course_ 3 = .ref h_course_push) (e_course_feet : F_course_ 4 = .ref h_course_feet) (e_course_weight : F_course_ 5 = .ref h_course_weight) (e_course_length : F_course_ 6 = .ref h_course_length) (e_course_drop : F_course_ 7 = .ref h_course_drop) (e_course_ideal : F_course_ 8 = .ref h_course_ideal) (e_course_over : F_course_ 9 = .ref h_course_over) (e_course_runnerName : F_course_ 10 = .ref h_course_runnerName) (e_course_bestAt : F_course_ 11 = .ref h_course_bestAt) (e_course_bad : F_course_ 12 = .ref h_course_bad) (e_course_men : F_course_ 13 = .int x_course_men) (i_x_course_men : IR 0 12 x_course_men) (s_course_settings_0 : SG 0 0 5 40 f_course_settings) : CI l yX9_sentence cX9_sentence 3 (some .int) { frames := 28, cells := 4, slots := 125, locals := 678 } (GG D cI cJ cB cP cM cZ) D [(h0, .inr (9, vL 19 Fh)), (h_tape, .inr (6, vL 12 F_tape_)), (h_tape_bytes, .inl (cB, 940, .inl f_tape_bytes)), (h_tape_wordNames, .inl (cJ, 23, .inr (.inl f_tape_wordNames))), (h_course, .inr (1, vL 18 F_course_)), (h_course_settings, .inl (cI, 5, .inl f_course_settings)), (h_course_manName, .inl (cJ, 12, .inr (.inl f_course_manName))), (h_course_push, .inl (cI, 12, .inl f_course_push)), (h_course_feet, .inl (cI, 12, .inl f_course_feet)), (h_course_weight, .inl (cI, 12, .inl f_course_weight)), (h_course_length, .inl (cI, 12, .inl f_course_length)), (h_course_drop, .inl (cI, 12, .inl f_course_drop)), (h_course_ideal, .inl (cI, 12, .inl f_course_ideal)), (h_course_over, .inl (cI, 12, .inl f_course_over)), (h_course_runnerName, .inl (cJ, 6, .inr (.inl f_course_runnerName))), (h_course_bestAt, .inl (cI, 6, .inl f_course_bestAt)), (h_course_bad, .inl (cI, 6, .inl f_course_bad))] sz [.ref h0] (fun (r : Int32) (u : va_W) => (∃ (Gh : Nat → Value) (y_latestFault : Int32) (G_tape_ : Nat → Value) (y_tape_kind : Int32) (y_tape_place : Int32) (y_tape_value : Int32) (y_tape_name : Int64) (y_tape_number : Int32) (y_tape_faultKind : Int32) (y_tape_faultPlace : Int32) (y_tape_at : Int32), SAME [18] Fh Gh ∧ Gh 18 = .int y_latestFault ∧ SAME [1, 2, 3, 4, 5, 6, 7, 8, 10, 11] F_tape_ G_tape_ ∧ G_tape_ 1 = .int 0 ∧ G_tape_ 2 = .int y_tape_kind ∧ G_tape_ 3 = .int y_tape_place ∧ G_tape_ 4 = .int y_tape_value ∧ G_tape_ 5 = .long y_tape_name ∧ G_tape_ 6 = .int y_tape_number ∧ G_tape_ 7 = .int y_tape_faultKind ∧ G_tape_ 8 = .int y_tape_faultPlace ∧ G_tape_ 10 = .int y_tape_at ∧ IR 0 940 y_tape_at ∧ G_tape_ 11 = .int 200 ∧ u = [(h0, .inr (9, vL 19 Gh)), (h_tape, .inr (6, vL 12 G_tape_)), (h_tape_bytes, .inl (cB, 940, .inl f_tape_bytes)), (h_tape_wordNames, .inl (cJ, 23, .inr (.inl f_tape_wordNames))), (h_course, .inr (1, vL 18 F_course_)), (h_course_settings, .inl (cI, 5, .inl f_course_settings)), (h_course_manName, .inl (cJ, 12, .inr (.inl f_course_manName))), (h_course_push, .inl (cI, 12, .inl f_course_push)), (h_course_feet, .inl (cI, 12, .inl f_course_feet)), (h_course_weight, .inl (cI, 12, .inl f_course_weight)), (h_course_length, .inl (cI, 12, .inl f_course_length)), (h_course_drop, .inl (cI, 12, .inl f_course_drop)), (h_course_ideal, .inl (cI, 12, .inl f_course_ideal)), (h_course_over, .inl (cI, 12, .inl f_course_over)), (h_course_runnerName, .inl (cJ, 6, .inr (.inl f_course_runnerName))), (h_course_bestAt, .inl (cI, 6, .inl f_course_bestAt)), (h_course_bad, .inl (cI, 6, .inl f_course_bad))]) ∨ (∃ (Gh : Nat → Value) (n_sentence : Nat) (y_latestFault : Int32) (G_tape_ : Nat → Value) (y_tape_kind : Int32) (y_tape_place : Int32) (y_tape_value : Int32) (y_tape_name : Int64) (y_tape_number : Int32) (y_tape_faultKind : Int32) (y_tape_faultPlace : Int32) (y_tape_at : Int32) (G_sentence : Nat → Value) (n_sentence_step : Nat) (n_sentence_sign : Nat) (n_sentence_value : Nat) (y_sentence_steps : Int32) (y_sentence_ones : Int32) (g_sentence_step : Nat → Int32) (g_sentence_sign : Nat → Int32) (g_sentence_value : Nat → Int32), SAME [11, 18] Fh Gh ∧ Gh 11 = .ref n_sentence ∧ Gh 18 = .int y_latestFault ∧ SAME [1, 2, 3, 4, 5, 6, 7, 8, 10, 11] F_tape_ G_tape_ ∧ G_tape_ 1 = .int 0 ∧ G_tape_ 2 = .int y_tape_kind ∧ G_tape_ 3 = .int y_tape_place ∧ G_tape_ 4 = .int y_tape_value ∧ G_tape_ 5 = .long y_tape_name ∧ G_tape_ 6 = .int y_tape_number ∧ G_tape_ 7 = .int y_tape_faultKind ∧ G_tape_ 8 = .int y_tape_faultPlace ∧ G_tape_ 10 = .int y_tape_at ∧ IR 0 940 y_tape_at ∧ G_tape_ 11 = .int 200 ∧ G_sentence 0 = .ref n_sentence_step ∧ G_sentence 1 = .ref n_sentence_sign ∧ G_sentence 2 = .ref n_sentence_value ∧ G_sentence 3 = .int y_sentence_steps ∧ IR 0 40 y_sentence_steps ∧ G_sentence 4 = .int y_sentence_ones ∧ u = [(h0, .inr (9, vL 19 Gh)), (h_tape, .inr (6, vL 12 G_tape_)), (h_tape_bytes, .inl (cB, 940, .inl f_tape_bytes)), (h_tape_wordNames, .inl (cJ, 23, .inr (.inl f_tape_wordNames))), (h_course, .inr (1, vL 18 F_course_)), (h_course_settings, .inl (cI, 5, .inl f_course_settings)), (h_course_manName, .inl (cJ, 12, .inr (.inl f_course_manName))), (h_course_push, .inl (cI, 12, .inl f_course_push)), (h_course_feet, .inl (cI, 12, .inl f_course_feet)), (h_course_weight, .inl (cI, 12, .inl f_course_weight)), (h_course_length, .inl (cI, 12, .inl f_course_length)), (h_course_drop, .inl (cI, 12, .inl f_course_drop)), (h_course_ideal, .inl (cI, 12, .inl f_course_ideal)), (h_course_over, .inl (cI, 12, .inl f_course_over)), (h_course_runnerName, .inl (cJ, 6, .inr (.inl f_course_runnerName))), (h_course_bestAt, .inl (cI, 6, .inl f_course_bestAt)), (h_course_bad, .inl (cI, 6, .inl f_course_bad)), (n_sentence, .inr (8, vL 5 G_sentence)), (n_sentence_step, .inl (cI, 40, .inl g_sentence_step)), (n_sentence_sign, .inl (cI, 40, .inl g_sentence_sign)), (n_sentence_value, .inl (cI, 40, .inl g_sentence_value))])) := by
  refine CI_mk (by decide) (Nat.le_of_ble_eq_true rfl) ?_
  intro p e s m below meth c A ls E hAe hG hsz hP hD hA hS hl
  obtain ⟨hx, hb, hr, hw, hown, hlocks, hml, hnm⟩ := E
  have hK := hG.1
  have i_x_tape_length : 0 ≤ x_tape_length.toInt ∧ x_tape_length.toInt ≤ 940 := i_x_tape_length
  have i_x_tape_at : 0 ≤ x_tape_at.toInt ∧ x_tape_at.toInt ≤ 940 := i_x_tape_at
  have i_x_course_men : 0 ≤ x_course_men.toInt ∧ x_course_men.toInt ≤ 12 := i_x_course_men
  have hl : lv_has ls 3 [(0, .ref h0)] := hl
  refine va_new (ci := 8) (fs := [.null, .null, .null, .int 0, .int 0]) (C := RX8) (T := TX8) (N := 5) hx hb hw inAX8 tyX8 tyX8_ok hown (hw _ q_686) (hw _ q_687) (hw _ q_23) hK hP hD hS hA rfl (fun j hj => fsXX8 j hj) (Nat.le_of_ble_eq_true rfl) (Nat.le_of_ble_eq_true rfl) dX9_sentence_0 (fun q1 H hP hD hS => ?_)
  obtain ⟨F2, eF2⟩ : ∃ z : Nat → Value, z = fun j => ([.null, .null, .null, .int 0, .int 0] : List Value).getD j .null := ⟨_, rfl⟩
  have gF2 : ([.null, .null, .null, .int 0, .int 0] : List Value) = vL 5 F2 := by rw [eF2]; rfl
  rw [gF2] at hP hD
  have hP : va_P D vwCl [(h0, .inr (9, vL 19 Fh)), (h_tape, .inr (6, vL 12 F_tape_)), (h_tape_bytes, .inl (cB, 940, .inl f_tape_bytes)), (h_tape_wordNames, .inl (cJ, 23, .inr (.inl f_tape_wordNames))), (h_course, .inr (1, vL 18 F_course_)), (h_course_settings, .inl (cI, 5, .inl f_course_settings)), (h_course_manName, .inl (cJ, 12, .inr (.inl f_course_manName))), (h_course_push, .inl (cI, 12, .inl f_course_push)), (h_course_feet, .inl (cI, 12, .inl f_course_feet)), (h_course_weight, .inl (cI, 12, .inl f_course_weight)), (h_course_length, .inl (cI, 12, .inl f_course_length)), (h_course_drop, .inl (cI, 12, .inl f_course_drop)), (h_course_ideal, .inl (cI, 12, .inl f_course_ideal)), (h_course_over, .inl (cI, 12, .inl f_course_over)), (h_course_runnerName, .inl (cJ, 6, .inr (.inl f_course_runnerName))), (h_course_bestAt, .inl (cI, 6, .inl f_course_bestAt)), (h_course_bad, .inl (cI, 6, .inl f_course_bad)), (q1, .inr (8, vL 5 F2))] H := hP
  have hD : va_D A [(h0, .inr (9, vL 19 Fh)), (h_tape, .inr (6, vL 12 F_tape_)), (h_tape_bytes, .inl (cB, 940, .inl f_tape_bytes)), (h_tape_wordNames, .inl (cJ, 23, .inr (.inl f_tape_wordNames))), (h_course, .inr (1, vL 18 F_course_)), (h_course_settings, .inl (cI, 5, .inl f_course_settings)), (h_course_manName, .inl (cJ, 12, .inr (.inl f_course_manName))), (h_course_push, .inl (cI, 12, .inl f_course_push)), (h_course_feet, .inl (cI, 12, .inl f_course_feet)), (h_course_weight, .inl (cI, 12, .inl f_course_weight)), (h_course_length, .inl (cI, 12, .inl f_course_length)), (h_course_drop, .inl (cI, 12, .inl f_course_drop)), (h_course_ideal, .inl (cI, 12, .inl f_course_ideal)), (h_course_over, .inl (cI, 12, .inl f_course_over)), (h_course_runnerName, .inl (cJ, 6, .inr (.inl f_course_runnerName))), (h_course_bestAt, .inl (cI, 6, .inl f_course_bestAt)), (h_course_bad, .inl (cI, 6, .inl f_course_bad)), (q1, .inr (8, vL 5 F2))] := hD
  refine W.widen (k := 1) (n := 5) (Nat.le_of_ble_eq_true rfl) (Nat.le_of_ble_eq_true rfl) ?_
  refine lv_dup hx hb dX9_sentence_3 rfl ?_
  refine call_Nv (wr := [(h0, .inr (9, vL 19 Fh)), (h_tape, .inr (6, vL 12 F_tape_)), (h_tape_bytes, .inl (cB, 940, .inl f_tape_bytes)), (h_tape_wordNames, .inl (cJ, 23, .inr (.inl f_tape_wordNames))), (h_course, .inr (1, vL 18 F_course_)), (h_course_settings, .inl (cI, 5, .inl f_course_settings)), (h_course_manName, .inl (cJ, 12, .inr (.inl f_course_manName))), (h_course_push, .inl (cI, 12, .inl f_course_push)), (h_course_feet, .inl (cI, 12, .inl f_course_feet)), (h_course_weight, .inl (cI, 12, .inl f_course_weight)), (h_course_length, .inl (cI, 12, .inl f_course_length)), (h_course_drop, .inl (cI, 12, .inl f_course_drop)), (h_course_ideal, .inl (cI, 12, .inl f_course_ideal)), (h_course_over, .inl (cI, 12, .inl f_course_over)), (h_course_runnerName, .inl (cJ, 6, .inr (.inl f_course_runnerName))), (h_course_bestAt, .inl (cI, 6, .inl f_course_bestAt)), (h_course_bad, .inl (cI, 6, .inl f_course_bad))]) (As := []) (rest := [.ref q1]) (b := q1) hx hb hml hown hw (m_X8_init l D cI cJ cB cP cM cZ q1 F2 _ ) wN_X8_init (hG.2.1 (.methodLinkNest "FourSledge" 139 ⟨"FourSledge$Sentence", "<init>", "()V"⟩ "FourSledge") (by decide +kernel)) dX9_sentence_4 hP hD hS hA [17] [0, 1, 2, 3, 4, 5, 6, 7, 8, 9, 10, 11, 12, 13, 14, 15, 16] rfl rfl (by decide +kernel) (by decide +kernel) (by decide +kernel) GG.fb hG.at hl.1 rfl (Nat.le_of_ble_eq_true rfl) ⟨(Nat.le_of_ble_eq_true rfl), (Nat.le_of_ble_eq_true rfl)⟩ ⟨(Nat.le_of_ble_eq_true rfl), (Nat.le_of_ble_eq_true rfl)⟩ (fun u H locs hp hP hD hS => ?_)
  obtain ⟨F4, q5, q6, q7, g8, g9, g10, t11, t12, t13, t14, t15, t16, rfl⟩ := hp
  have hP : va_P D vwCl [(h0, .inr (9, vL 19 Fh)), (h_tape, .inr (6, vL 12 F_tape_)), (h_tape_bytes, .inl (cB, 940, .inl f_tape_bytes)), (h_tape_wordNames, .inl (cJ, 23, .inr (.inl f_tape_wordNames))), (h_course, .inr (1, vL 18 F_course_)), (h_course_settings, .inl (cI, 5, .inl f_course_settings)), (h_course_manName, .inl (cJ, 12, .inr (.inl f_course_manName))), (h_course_push, .inl (cI, 12, .inl f_course_push)), (h_course_feet, .inl (cI, 12, .inl f_course_feet)), (h_course_weight, .inl (cI, 12, .inl f_course_weight)), (h_course_length, .inl (cI, 12, .inl f_course_length)), (h_course_drop, .inl (cI, 12, .inl f_course_drop)), (h_course_ideal, .inl (cI, 12, .inl f_course_ideal)), (h_course_over, .inl (cI, 12, .inl f_course_over)), (h_course_runnerName, .inl (cJ, 6, .inr (.inl f_course_runnerName))), (h_course_bestAt, .inl (cI, 6, .inl f_course_bestAt)), (h_course_bad, .inl (cI, 6, .inl f_course_bad)), (q1, .inr (8, vL 5 F4)), (q5, .inl (cI, 40, .inl g8)), (q6, .inl (cI, 40, .inl g9)), (q7, .inl (cI, 40, .inl g10))] H := hP
  have hD : va_D A [(h0, .inr (9, vL 19 Fh)), (h_tape, .inr (6, vL 12 F_tape_)), (h_tape_bytes, .inl (cB, 940, .inl f_tape_bytes)), (h_tape_wordNames, .inl (cJ, 23, .inr (.inl f_tape_wordNames))), (h_course, .inr (1, vL 18 F_course_)), (h_course_settings, .inl (cI, 5, .inl f_course_settings)), (h_course_manName, .inl (cJ, 12, .inr (.inl f_course_manName))), (h_course_push, .inl (cI, 12, .inl f_course_push)), (h_course_feet, .inl (cI, 12, .inl f_course_feet)), (h_course_weight, .inl (cI, 12, .inl f_course_weight)), (h_course_length, .inl (cI, 12, .inl f_course_length)), (h_course_drop, .inl (cI, 12, .inl f_course_drop)), (h_course_ideal, .inl (cI, 12, .inl f_course_ideal)), (h_course_over, .inl (cI, 12, .inl f_course_over)), (h_course_runnerName, .inl (cJ, 6, .inr (.inl f_course_runnerName))), (h_course_bestAt, .inl (cI, 6, .inl f_course_bestAt)), (h_course_bad, .inl (cI, 6, .inl f_course_bad)), (q1, .inr (8, vL 5 F4)), (q5, .inl (cI, 40, .inl g8)), (q6, .inl (cI, 40, .inl g9)), (q7, .inl (cI, 40, .inl g10))] := hD
  refine W.widen (k := 4) (n := 125) (Nat.le_of_ble_eq_true rfl) (Nat.le_of_ble_eq_true rfl) ?_
  refine lv_astore_n (lv' := [(1, .ref q1), (0, .ref h0)]) hx hb dX9_sentence_7 rfl hl (by decide) rfl (fun ls hl => ?_)
  refine lv_aload_n hx hb dX9_sentence_8 rfl (lv_at hl 1 rfl) ?_
  refine get_f (D := D) (ci := 9) (v := .ref h_tape) (C := RX9) (T := TX9) (N := 19) hx hb hw inAX9 hown hK hP 0 rfl rfl 0 (by decide) (hw _ q_440) (fun _ h9 => h9) e_tape dX9_sentence_9 ?_
  refine lv_sipush (v := 200) hx hb dX9_sentence_12 (by decide) ?_
  refine call_Vv (wr := [(h0, .inr (9, vL 19 Fh)), (h_course, .inr (1, vL 18 F_course_)), (h_course_settings, .inl (cI, 5, .inl f_course_settings)), (h_course_manName, .inl (cJ, 12, .inr (.inl f_course_manName))), (h_course_push, .inl (cI, 12, .inl f_course_push)), (h_course_feet, .inl (cI, 12, .inl f_course_feet)), (h_course_weight, .inl (cI, 12, .inl f_course_weight)), (h_course_length, .inl (cI, 12, .inl f_course_length)), (h_course_drop, .inl (cI, 12, .inl f_course_drop)), (h_course_ideal, .inl (cI, 12, .inl f_course_ideal)), (h_course_over, .inl (cI, 12, .inl f_course_over)), (h_course_runnerName, .inl (cJ, 6, .inr (.inl f_course_runnerName))), (h_course_bestAt, .inl (cI, 6, .inl f_course_bestAt)), (h_course_bad, .inl (cI, 6, .inl f_course_bad)), (q1, .inr (8, vL 5 F4)), (q5, .inl (cI, 40, .inl g8)), (q6, .inl (cI, 40, .inl g9)), (q7, .inl (cI, 40, .inl g10))]) (As := [.int 200]) (rest := []) hx hb hml hown hw (m_X6_open l D cI cJ cB cP cM cZ h_tape h_tape_bytes h_tape_wordNames F_tape_ x_tape_length x_tape_kind x_tape_place x_tape_value x_tape_name x_tape_at f_tape_bytes f_tape_wordNames 200 _ e_tape_bytes e_tape_length i_x_tape_length e_tape_kind e_tape_place e_tape_value e_tape_name e_tape_wordNames e_tape_at i_x_tape_at s_tape_bytes_0 s_tape_wordNames_KN) wV_X9_112_X6_open dX9_sentence_15 hK hP hD hS hA [1, 2, 3] [0, 4, 5, 6, 7, 8, 9, 10, 11, 12, 13, 14, 15, 16, 17, 18, 19, 20] rfl rfl (by decide +kernel) (by decide +kernel) (by decide +kernel) 0 6 rfl rfl GG.fb hG.at hl.1 rfl (Nat.le_of_ble_eq_true rfl) ⟨(Nat.le_of_ble_eq_true rfl), (Nat.le_of_ble_eq_true rfl)⟩ ⟨(Nat.le_of_ble_eq_true rfl), (Nat.le_of_ble_eq_true rfl)⟩ (fun u H locs hp hP hD hS => ?_)
  have zl200 : (200 : Int32).toInt = 200 := by decide
  obtain ⟨F19, y20, y21, y22, y23, y24, t25, t26, t27, t28, t29, t30, t31, t32, t33, t34, t35, t36, rfl⟩ := hp
  have hP : va_P D vwCl [(h0, .inr (9, vL 19 Fh)), (h_course, .inr (1, vL 18 F_course_)), (h_course_settings, .inl (cI, 5, .inl f_course_settings)), (h_course_manName, .inl (cJ, 12, .inr (.inl f_course_manName))), (h_course_push, .inl (cI, 12, .inl f_course_push)), (h_course_feet, .inl (cI, 12, .inl f_course_feet)), (h_course_weight, .inl (cI, 12, .inl f_course_weight)), (h_course_length, .inl (cI, 12, .inl f_course_length)), (h_course_drop, .inl (cI, 12, .inl f_course_drop)), (h_course_ideal, .inl (cI, 12, .inl f_course_ideal)), (h_course_over, .inl (cI, 12, .inl f_course_over)), (h_course_runnerName, .inl (cJ, 6, .inr (.inl f_course_runnerName))), (h_course_bestAt, .inl (cI, 6, .inl f_course_bestAt)), (h_course_bad, .inl (cI, 6, .inl f_course_bad)), (q1, .inr (8, vL 5 F4)), (q5, .inl (cI, 40, .inl g8)), (q6, .inl (cI, 40, .inl g9)), (q7, .inl (cI, 40, .inl g10)), (h_tape, .inr (6, vL 12 F19)), (h_tape_bytes, .inl (cB, 940, .inl f_tape_bytes)), (h_tape_wordNames, .inl (cJ, 23, .inr (.inl f_tape_wordNames)))] H := hP
  have hD : va_D A [(h0, .inr (9, vL 19 Fh)), (h_course, .inr (1, vL 18 F_course_)), (h_course_settings, .inl (cI, 5, .inl f_course_settings)), (h_course_manName, .inl (cJ, 12, .inr (.inl f_course_manName))), (h_course_push, .inl (cI, 12, .inl f_course_push)), (h_course_feet, .inl (cI, 12, .inl f_course_feet)), (h_course_weight, .inl (cI, 12, .inl f_course_weight)), (h_course_length, .inl (cI, 12, .inl f_course_length)), (h_course_drop, .inl (cI, 12, .inl f_course_drop)), (h_course_ideal, .inl (cI, 12, .inl f_course_ideal)), (h_course_over, .inl (cI, 12, .inl f_course_over)), (h_course_runnerName, .inl (cJ, 6, .inr (.inl f_course_runnerName))), (h_course_bestAt, .inl (cI, 6, .inl f_course_bestAt)), (h_course_bad, .inl (cI, 6, .inl f_course_bad)), (q1, .inr (8, vL 5 F4)), (q5, .inl (cI, 40, .inl g8)), (q6, .inl (cI, 40, .inl g9)), (q7, .inl (cI, 40, .inl g10)), (h_tape, .inr (6, vL 12 F19)), (h_tape_bytes, .inl (cB, 940, .inl f_tape_bytes)), (h_tape_wordNames, .inl (cJ, 23, .inr (.inl f_tape_wordNames)))] := hD
  refine W.widen (k := 4) (n := 125) (Nat.le_of_ble_eq_true rfl) (Nat.le_of_ble_eq_true rfl) ?_
  refine lv_aload_n hx hb dX9_sentence_18 rfl (lv_at hl 0 rfl) ?_
  refine lv_aload_n hx hb dX9_sentence_19 rfl (lv_at hl 1 rfl) ?_
  refine get_f (D := D) (ci := 9) (v := .ref h_tape) (C := RX9) (T := TX9) (N := 19) hx hb hw inAX9 hown hK hP 0 rfl rfl 0 (by decide) (hw _ q_440) (fun _ h9 => h9) e_tape dX9_sentence_20 ?_
  refine lv_aload_n hx hb dX9_sentence_23 rfl (lv_at hl 1 rfl) ?_
  refine get_f (D := D) (ci := 9) (v := .ref h_course) (C := RX9) (T := TX9) (N := 19) hx hb hw inAX9 hown hK hP 0 rfl rfl 10 (by decide) (hw _ q_450) (fun _ h9 => h9) e_course dX9_sentence_24 ?_
  refine lv_iconst (v := 1) hx hb dX9_sentence_27 (by decide) ?_
  have n38 : F19 0 = .ref h_tape_bytes := (SAME.at t25 (by decide) e_tape_bytes)
  have n39 : F19 1 = .int x_tape_length := (SAME.at t25 (by decide) e_tape_length)
  have n40 : F19 6 = .int x_tape_number := (SAME.at t25 (by decide) e_tape_number)
  have n41 : F19 7 = .int x_tape_faultKind := (SAME.at t25 (by decide) e_tape_faultKind)
  have n42 : F19 8 = .int x_tape_faultPlace := (SAME.at t25 (by decide) e_tape_faultPlace)
  have n43 : F19 9 = .ref h_tape_wordNames := (SAME.at t25 (by decide) e_tape_wordNames)
  refine call_Vi (wr := [(h0, .inr (9, vL 19 Fh)), (h_course_settings, .inl (cI, 5, .inl f_course_settings)), (h_course_push, .inl (cI, 12, .inl f_course_push)), (h_course_feet, .inl (cI, 12, .inl f_course_feet)), (h_course_weight, .inl (cI, 12, .inl f_course_weight)), (h_course_length, .inl (cI, 12, .inl f_course_length)), (h_course_drop, .inl (cI, 12, .inl f_course_drop)), (h_course_ideal, .inl (cI, 12, .inl f_course_ideal)), (h_course_over, .inl (cI, 12, .inl f_course_over)), (h_course_runnerName, .inl (cJ, 6, .inr (.inl f_course_runnerName))), (h_course_bestAt, .inl (cI, 6, .inl f_course_bestAt)), (h_course_bad, .inl (cI, 6, .inl f_course_bad))]) (As := [.ref h_tape, .ref h_course, .int 1]) (rest := []) hx hb hml hown hw (m_X8_readCond_1 l D cI cJ cB cP cM cZ q1 q5 q6 q7 h_tape h_tape_bytes h_tape_wordNames h_course h_course_manName F4 0 0 g8 g9 g10 F19 x_tape_length y20 y21 y22 y23 x_tape_number x_tape_faultKind x_tape_faultPlace y24 200 f_tape_bytes f_tape_wordNames F_course_ x_course_men f_course_manName _ t12 t13 t14 t15 (show 0 ≤ (0 : Int32).toInt ∧ (0 : Int32).toInt ≤ 40 by decide) t16 n38 n39 i_x_tape_length t26 t28 t30 t31 n40 n41 n42 n43 t32 t33 t34 s_tape_bytes_0 s_tape_wordNames_KN e_course_manName e_course_men i_x_course_men) wV_X9_140_X8_readCond dX9_sentence_28 hK hP hD hS hA [14, 15, 16, 17, 18, 19, 20, 1, 3] [0, 2, 4, 5, 6, 7, 8, 9, 10, 11, 12, 13] rfl rfl (by decide +kernel) (by decide +kernel) (by decide +kernel) 0 8 rfl rfl GG.fb hG.at hl.1 rfl (Nat.le_of_ble_eq_true rfl) ⟨(Nat.le_of_ble_eq_true rfl), (Nat.le_of_ble_eq_true rfl)⟩ ⟨(Nat.le_of_ble_eq_true rfl), (Nat.le_of_ble_eq_true rfl)⟩ (fun r44 u H locs hp hP hD hS => ?_)
  have zl0 : (0 : Int32).toInt = 0 := by decide
  have zl1 : (1 : Int32).toInt = 1 := by decide
  refine hp.elim (fun F45 h9z0 => h9z0.elim (fun y46 h9z1 => h9z1.elim (fun y47 h9z2 => h9z2.elim (fun F48 h9z3 => h9z3.elim (fun y49 h9z4 => h9z4.elim (fun y50 h9z5 => h9z5.elim (fun y51 h9z6 => h9z6.elim (fun y52 h9z7 => h9z7.elim (fun y53 h9z8 => h9z8.elim (fun y54 h9z9 => h9z9.elim (fun y55 h9z10 => h9z10.elim (fun y56 h9z11 => h9z11.elim (fun g57 h9z12 => h9z12.elim (fun g58 h9z13 => h9z13.elim (fun g59 h9z14 => h9z14.elim (fun t60 h9z15 => h9z15.elim (fun t61 h9z16 => h9z16.elim (fun t62 h9z17 => h9z17.elim (fun t63 h9z18 => h9z18.elim (fun t64 h9z19 => h9z19.elim (fun t65 h9z20 => h9z20.elim (fun t66 h9z21 => h9z21.elim (fun t67 h9z22 => h9z22.elim (fun t68 h9z23 => h9z23.elim (fun t69 h9z24 => h9z24.elim (fun t70 h9z25 => h9z25.elim (fun t71 h9z26 => h9z26.elim (fun t72 h9z27 => h9z27.elim (fun t73 h9z28 => h9z28.elim (fun t74 h9z29 => ?_))))))))))))))))))))))))))))))
  clear h9z0 h9z1 h9z2 h9z3 h9z4 h9z5 h9z6 h9z7 h9z8 h9z9 h9z10 h9z11 h9z12 h9z13 h9z14 h9z15 h9z16 h9z17 h9z18 h9z19 h9z20 h9z21 h9z22 h9z23 h9z24 h9z25 h9z26 h9z27 h9z28
  subst h9z29
  have hP : va_P D vwCl [(h0, .inr (9, vL 19 Fh)), (h_course_settings, .inl (cI, 5, .inl f_course_settings)), (h_course_push, .inl (cI, 12, .inl f_course_push)), (h_course_feet, .inl (cI, 12, .inl f_course_feet)), (h_course_weight, .inl (cI, 12, .inl f_course_weight)), (h_course_length, .inl (cI, 12, .inl f_course_length)), (h_course_drop, .inl (cI, 12, .inl f_course_drop)), (h_course_ideal, .inl (cI, 12, .inl f_course_ideal)), (h_course_over, .inl (cI, 12, .inl f_course_over)), (h_course_runnerName, .inl (cJ, 6, .inr (.inl f_course_runnerName))), (h_course_bestAt, .inl (cI, 6, .inl f_course_bestAt)), (h_course_bad, .inl (cI, 6, .inl f_course_bad)), (q1, .inr (8, vL 5 F45)), (q5, .inl (cI, 40, .inl g57)), (q6, .inl (cI, 40, .inl g58)), (q7, .inl (cI, 40, .inl g59)), (h_tape, .inr (6, vL 12 F48)), (h_tape_bytes, .inl (cB, 940, .inl f_tape_bytes)), (h_tape_wordNames, .inl (cJ, 23, .inr (.inl f_tape_wordNames))), (h_course, .inr (1, vL 18 F_course_)), (h_course_manName, .inl (cJ, 12, .inr (.inl f_course_manName)))] H := hP
  have hD : va_D A [(h0, .inr (9, vL 19 Fh)), (h_course_settings, .inl (cI, 5, .inl f_course_settings)), (h_course_push, .inl (cI, 12, .inl f_course_push)), (h_course_feet, .inl (cI, 12, .inl f_course_feet)), (h_course_weight, .inl (cI, 12, .inl f_course_weight)), (h_course_length, .inl (cI, 12, .inl f_course_length)), (h_course_drop, .inl (cI, 12, .inl f_course_drop)), (h_course_ideal, .inl (cI, 12, .inl f_course_ideal)), (h_course_over, .inl (cI, 12, .inl f_course_over)), (h_course_runnerName, .inl (cJ, 6, .inr (.inl f_course_runnerName))), (h_course_bestAt, .inl (cI, 6, .inl f_course_bestAt)), (h_course_bad, .inl (cI, 6, .inl f_course_bad)), (q1, .inr (8, vL 5 F45)), (q5, .inl (cI, 40, .inl g57)), (q6, .inl (cI, 40, .inl g58)), (q7, .inl (cI, 40, .inl g59)), (h_tape, .inr (6, vL 12 F48)), (h_tape_bytes, .inl (cB, 940, .inl f_tape_bytes)), (h_tape_wordNames, .inl (cJ, 23, .inr (.inl f_tape_wordNames))), (h_course, .inr (1, vL 18 F_course_)), (h_course_manName, .inl (cJ, 12, .inr (.inl f_course_manName)))] := hD
  refine W.widen (k := 4) (n := 125) (Nat.le_of_ble_eq_true rfl) (Nat.le_of_ble_eq_true rfl) ?_
  refine lv_istore_n (lv' := [(2, .int r44), (1, .ref q1), (0, .ref h0)]) hx hb dX9_sentence_31 rfl hl (by decide) rfl (fun ls hl => ?_)
  refine lv_iload_n hx hb dX9_sentence_32 rfl (lv_at hl 0 rfl) ?_
  refine lv_if_eq (tgt := 41) hx hb dX9_sentence_33 (by decide) (fun c76 => ?_) (fun c76 => ?_)
  · have dc76 : r44.toInt = 0 := eq_i (a := r44.toInt) (b := 0) rfl rfl c76
    have k77 : 0 ≤ r44.toInt ∧ r44.toInt ≤ 0 := ⟨t74.1, Int.le_trans (Int.le_of_eq dc76) (Int.le_refl _)⟩
    refine lv_aload_n hx hb dX9_sentence_41 rfl (lv_at hl 2 rfl) ?_
    refine lv_iload_n hx hb dX9_sentence_42 rfl (lv_at hl 0 rfl) ?_
    refine lv_aload_n hx hb dX9_sentence_43 rfl (lv_at hl 1 rfl) ?_
    refine get_f (D := D) (ci := 8) (v := .int y47) (C := RX8) (T := TX8) (N := 5) hx hb hw inAX8 hown hK hP 12 rfl rfl 4 (by decide) (hw _ q_697) (fun _ h9 => h9) t63 dX9_sentence_44 ?_
    have n78 : F48 0 = .ref h_tape_bytes := (SAME.at t64 (by decide) n38)
    have n79 : F48 9 = .ref h_tape_wordNames := (SAME.at t64 (by decide) n43)
    refine call_Vi (wr := [(h_course_settings, .inl (cI, 5, .inl f_course_settings)), (h_course_push, .inl (cI, 12, .inl f_course_push)), (h_course_feet, .inl (cI, 12, .inl f_course_feet)), (h_course_weight, .inl (cI, 12, .inl f_course_weight)), (h_course_length, .inl (cI, 12, .inl f_course_length)), (h_course_drop, .inl (cI, 12, .inl f_course_drop)), (h_course_ideal, .inl (cI, 12, .inl f_course_ideal)), (h_course_over, .inl (cI, 12, .inl f_course_over)), (h_course_runnerName, .inl (cJ, 6, .inr (.inl f_course_runnerName))), (h_course_bestAt, .inl (cI, 6, .inl f_course_bestAt)), (h_course_bad, .inl (cI, 6, .inl f_course_bad)), (q1, .inr (8, vL 5 F45)), (q5, .inl (cI, 40, .inl g57)), (q6, .inl (cI, 40, .inl g58)), (q7, .inl (cI, 40, .inl g59)), (h_course, .inr (1, vL 18 F_course_)), (h_course_manName, .inl (cJ, 12, .inr (.inl f_course_manName)))]) (As := [.int r44, .int y47]) (rest := []) hx hb hml hown hw (m_X9_answerText l D cI cJ cB cP cM cZ h0 h_tape h_tape_bytes h_tape_wordNames Fh F48 y54 y55 f_tape_bytes f_tape_wordNames r44 y47 _ e_tape n78 t70 t71 n79 s_tape_bytes_0 s_tape_wordNames_KN (ir_wk k77 (by decide) (by decide))) wV_X9_125_X9_answerText dX9_sentence_47 hK hP hD hS hA [0, 16, 17, 18] [1, 2, 3, 4, 5, 6, 7, 8, 9, 10, 11, 12, 13, 14, 15, 19, 20] rfl rfl (by decide +kernel) (by decide +kernel) (by decide +kernel) 0 9 rfl rfl GG.fb hG.at hl.1 rfl (Nat.le_of_ble_eq_true rfl) ⟨(Nat.le_of_ble_eq_true rfl), (Nat.le_of_ble_eq_true rfl)⟩ ⟨(Nat.le_of_ble_eq_true rfl), (Nat.le_of_ble_eq_true rfl)⟩ (fun r80 u H locs hp hP hD hS => ?_)
    obtain ⟨F81, y82, F83, t84, t85, t86, t87, t88, rfl⟩ := hp
    have hP : va_P D vwCl [(h_course_settings, .inl (cI, 5, .inl f_course_settings)), (h_course_push, .inl (cI, 12, .inl f_course_push)), (h_course_feet, .inl (cI, 12, .inl f_course_feet)), (h_course_weight, .inl (cI, 12, .inl f_course_weight)), (h_course_length, .inl (cI, 12, .inl f_course_length)), (h_course_drop, .inl (cI, 12, .inl f_course_drop)), (h_course_ideal, .inl (cI, 12, .inl f_course_ideal)), (h_course_over, .inl (cI, 12, .inl f_course_over)), (h_course_runnerName, .inl (cJ, 6, .inr (.inl f_course_runnerName))), (h_course_bestAt, .inl (cI, 6, .inl f_course_bestAt)), (h_course_bad, .inl (cI, 6, .inl f_course_bad)), (q1, .inr (8, vL 5 F45)), (q5, .inl (cI, 40, .inl g57)), (q6, .inl (cI, 40, .inl g58)), (q7, .inl (cI, 40, .inl g59)), (h_course, .inr (1, vL 18 F_course_)), (h_course_manName, .inl (cJ, 12, .inr (.inl f_course_manName))), (h0, .inr (9, vL 19 F81)), (h_tape, .inr (6, vL 12 F83)), (h_tape_bytes, .inl (cB, 940, .inl f_tape_bytes)), (h_tape_wordNames, .inl (cJ, 23, .inr (.inl f_tape_wordNames)))] H := hP
    have hD : va_D A [(h_course_settings, .inl (cI, 5, .inl f_course_settings)), (h_course_push, .inl (cI, 12, .inl f_course_push)), (h_course_feet, .inl (cI, 12, .inl f_course_feet)), (h_course_weight, .inl (cI, 12, .inl f_course_weight)), (h_course_length, .inl (cI, 12, .inl f_course_length)), (h_course_drop, .inl (cI, 12, .inl f_course_drop)), (h_course_ideal, .inl (cI, 12, .inl f_course_ideal)), (h_course_over, .inl (cI, 12, .inl f_course_over)), (h_course_runnerName, .inl (cJ, 6, .inr (.inl f_course_runnerName))), (h_course_bestAt, .inl (cI, 6, .inl f_course_bestAt)), (h_course_bad, .inl (cI, 6, .inl f_course_bad)), (q1, .inr (8, vL 5 F45)), (q5, .inl (cI, 40, .inl g57)), (q6, .inl (cI, 40, .inl g58)), (q7, .inl (cI, 40, .inl g59)), (h_course, .inr (1, vL 18 F_course_)), (h_course_manName, .inl (cJ, 12, .inr (.inl f_course_manName))), (h0, .inr (9, vL 19 F81)), (h_tape, .inr (6, vL 12 F83)), (h_tape_bytes, .inl (cB, 940, .inl f_tape_bytes)), (h_tape_wordNames, .inl (cJ, 23, .inr (.inl f_tape_wordNames)))] := hD
    refine W.widen (k := 4) (n := 125) (Nat.le_of_ble_eq_true rfl) (Nat.le_of_ble_eq_true rfl) ?_
    exact ret_i (v := r80) hx hb hr hlocks hS (hP.sub (ws' := [(h0, .inr (9, vL 19 F81)), (h_tape, .inr (6, vL 12 F83)), (h_tape_bytes, .inl (cB, 940, .inl f_tape_bytes)), (h_tape_wordNames, .inl (cJ, 23, .inr (.inl f_tape_wordNames))), (h_course, .inr (1, vL 18 F_course_)), (h_course_settings, .inl (cI, 5, .inl f_course_settings)), (h_course_manName, .inl (cJ, 12, .inr (.inl f_course_manName))), (h_course_push, .inl (cI, 12, .inl f_course_push)), (h_course_feet, .inl (cI, 12, .inl f_course_feet)), (h_course_weight, .inl (cI, 12, .inl f_course_weight)), (h_course_length, .inl (cI, 12, .inl f_course_length)), (h_course_drop, .inl (cI, 12, .inl f_course_drop)), (h_course_ideal, .inl (cI, 12, .inl f_course_ideal)), (h_course_over, .inl (cI, 12, .inl f_course_over)), (h_course_runnerName, .inl (cJ, 6, .inr (.inl f_course_runnerName))), (h_course_bestAt, .inl (cI, 6, .inl f_course_bestAt)), (h_course_bad, .inl (cI, 6, .inl f_course_bad))]) [17, 18, 19, 20, 15, 0, 16, 1, 2, 3, 4, 5, 6, 7, 8, 9, 10] rfl) (hD.sub (ws' := [(h0, .inr (9, vL 19 F81)), (h_tape, .inr (6, vL 12 F83)), (h_tape_bytes, .inl (cB, 940, .inl f_tape_bytes)), (h_tape_wordNames, .inl (cJ, 23, .inr (.inl f_tape_wordNames))), (h_course, .inr (1, vL 18 F_course_)), (h_course_settings, .inl (cI, 5, .inl f_course_settings)), (h_course_manName, .inl (cJ, 12, .inr (.inl f_course_manName))), (h_course_push, .inl (cI, 12, .inl f_course_push)), (h_course_feet, .inl (cI, 12, .inl f_course_feet)), (h_course_weight, .inl (cI, 12, .inl f_course_weight)), (h_course_length, .inl (cI, 12, .inl f_course_length)), (h_course_drop, .inl (cI, 12, .inl f_course_drop)), (h_course_ideal, .inl (cI, 12, .inl f_course_ideal)), (h_course_over, .inl (cI, 12, .inl f_course_over)), (h_course_runnerName, .inl (cJ, 6, .inr (.inl f_course_runnerName))), (h_course_bestAt, .inl (cI, 6, .inl f_course_bestAt)), (h_course_bad, .inl (cI, 6, .inl f_course_bad))]) [17, 18, 19, 20, 15, 0, 16, 1, 2, 3, 4, 5, 6, 7, 8, 9, 10] (by decide +kernel) rfl) dX9_sentence_50 rfl (Nat.le_of_ble_eq_true rfl) (Nat.le_of_ble_eq_true rfl) (Or.inl ⟨F81, y82, F83, y49, y50, y51, y52, y53, y54, y55, y56, (SAME.tr SAME.rf t84 (by decide)), t85, (SAME.tr (SAME.tr (SAME.tr SAME.rf t25 (by decide)) t64 (by decide)) t86 (by decide)), t87, (SAME.at t86 (by decide) t65), (SAME.at t86 (by decide) t66), (SAME.at t86 (by decide) t67), (SAME.at t86 (by decide) t68), (SAME.at t86 (by decide) t69), (SAME.at t86 (by decide) t70), (SAME.at t86 (by decide) t71), (SAME.at t86 (by decide) t72), t73, (SAME.at t86 (by decide) (SAME.at t64 (by decide) t34)), rfl⟩)
  · have dc76 : r44.toInt ≠ 0 := ne_i (a := r44.toInt) (b := 0) rfl rfl c76
    have k90 : 1 ≤ r44.toInt ∧ r44.toInt ≤ 1 := ⟨ne_lo dc76 t74.1 ⟨Int.le_refl _, Int.le_refl _⟩ (by decide), t74.2⟩
    refine lv_aload_n hx hb dX9_sentence_36 rfl (lv_at hl 2 rfl) ?_
    refine lv_aload_n hx hb dX9_sentence_37 rfl (lv_at hl 1 rfl) ?_
    refine put_f (D := D) (ci := 9) (v := .ref q1) (ty := (.object "FourSledge$Sentence")) (C := RX9) (T := TX9) (N := 19) hx hb hw inAX9 tyX9 tyX9_ok nmX9 hown hK hP hD hS 0 rfl rfl 11 (by decide) (hw _ q_451) (fun _ h9 => h9) rfl (by decide +kernel) rfl rfl dX9_sentence_38 (fun H locs F91 eF91 hP hD hS => ?_)
    have hP : va_P D vwCl [(h0, .inr (9, vL 19 F91)), (h_course_settings, .inl (cI, 5, .inl f_course_settings)), (h_course_push, .inl (cI, 12, .inl f_course_push)), (h_course_feet, .inl (cI, 12, .inl f_course_feet)), (h_course_weight, .inl (cI, 12, .inl f_course_weight)), (h_course_length, .inl (cI, 12, .inl f_course_length)), (h_course_drop, .inl (cI, 12, .inl f_course_drop)), (h_course_ideal, .inl (cI, 12, .inl f_course_ideal)), (h_course_over, .inl (cI, 12, .inl f_course_over)), (h_course_runnerName, .inl (cJ, 6, .inr (.inl f_course_runnerName))), (h_course_bestAt, .inl (cI, 6, .inl f_course_bestAt)), (h_course_bad, .inl (cI, 6, .inl f_course_bad)), (q1, .inr (8, vL 5 F45)), (q5, .inl (cI, 40, .inl g57)), (q6, .inl (cI, 40, .inl g58)), (q7, .inl (cI, 40, .inl g59)), (h_tape, .inr (6, vL 12 F48)), (h_tape_bytes, .inl (cB, 940, .inl f_tape_bytes)), (h_tape_wordNames, .inl (cJ, 23, .inr (.inl f_tape_wordNames))), (h_course, .inr (1, vL 18 F_course_)), (h_course_manName, .inl (cJ, 12, .inr (.inl f_course_manName)))] H := hP
    have hD : va_D A [(h0, .inr (9, vL 19 F91)), (h_course_settings, .inl (cI, 5, .inl f_course_settings)), (h_course_push, .inl (cI, 12, .inl f_course_push)), (h_course_feet, .inl (cI, 12, .inl f_course_feet)), (h_course_weight, .inl (cI, 12, .inl f_course_weight)), (h_course_length, .inl (cI, 12, .inl f_course_length)), (h_course_drop, .inl (cI, 12, .inl f_course_drop)), (h_course_ideal, .inl (cI, 12, .inl f_course_ideal)), (h_course_over, .inl (cI, 12, .inl f_course_over)), (h_course_runnerName, .inl (cJ, 6, .inr (.inl f_course_runnerName))), (h_course_bestAt, .inl (cI, 6, .inl f_course_bestAt)), (h_course_bad, .inl (cI, 6, .inl f_course_bad)), (q1, .inr (8, vL 5 F45)), (q5, .inl (cI, 40, .inl g57)), (q6, .inl (cI, 40, .inl g58)), (q7, .inl (cI, 40, .inl g59)), (h_tape, .inr (6, vL 12 F48)), (h_tape_bytes, .inl (cB, 940, .inl f_tape_bytes)), (h_tape_wordNames, .inl (cJ, 23, .inr (.inl f_tape_wordNames))), (h_course, .inr (1, vL 18 F_course_)), (h_course_manName, .inl (cJ, 12, .inr (.inl f_course_manName)))] := hD
    refine lv_aload_n hx hb dX9_sentence_41 rfl (lv_at hl 2 rfl) ?_
    refine lv_iload_n hx hb dX9_sentence_42 rfl (lv_at hl 0 rfl) ?_
    refine lv_aload_n hx hb dX9_sentence_43 rfl (lv_at hl 1 rfl) ?_
    refine get_f (D := D) (ci := 8) (v := .int y47) (C := RX8) (T := TX8) (N := 5) hx hb hw inAX8 hown hK hP 12 rfl rfl 4 (by decide) (hw _ q_697) (fun _ h9 => h9) t63 dX9_sentence_44 ?_
    have n92 : F91 0 = .ref h_tape := (get_ne eF91 (by decide) e_tape)
    have n93 : F48 0 = .ref h_tape_bytes := (SAME.at t64 (by decide) n38)
    have n94 : F48 9 = .ref h_tape_wordNames := (SAME.at t64 (by decide) n43)
    refine call_Vi (wr := [(h_course_settings, .inl (cI, 5, .inl f_course_settings)), (h_course_push, .inl (cI, 12, .inl f_course_push)), (h_course_feet, .inl (cI, 12, .inl f_course_feet)), (h_course_weight, .inl (cI, 12, .inl f_course_weight)), (h_course_length, .inl (cI, 12, .inl f_course_length)), (h_course_drop, .inl (cI, 12, .inl f_course_drop)), (h_course_ideal, .inl (cI, 12, .inl f_course_ideal)), (h_course_over, .inl (cI, 12, .inl f_course_over)), (h_course_runnerName, .inl (cJ, 6, .inr (.inl f_course_runnerName))), (h_course_bestAt, .inl (cI, 6, .inl f_course_bestAt)), (h_course_bad, .inl (cI, 6, .inl f_course_bad)), (q1, .inr (8, vL 5 F45)), (q5, .inl (cI, 40, .inl g57)), (q6, .inl (cI, 40, .inl g58)), (q7, .inl (cI, 40, .inl g59)), (h_course, .inr (1, vL 18 F_course_)), (h_course_manName, .inl (cJ, 12, .inr (.inl f_course_manName)))]) (As := [.int r44, .int y47]) (rest := []) hx hb hml hown hw (m_X9_answerText l D cI cJ cB cP cM cZ h0 h_tape h_tape_bytes h_tape_wordNames F91 F48 y54 y55 f_tape_bytes f_tape_wordNames r44 y47 _ n92 n93 t70 t71 n94 s_tape_bytes_0 s_tape_wordNames_KN (ir_wk k90 (by decide) (by decide))) wV_X9_125_X9_answerText dX9_sentence_47 hK hP hD hS hA [0, 16, 17, 18] [1, 2, 3, 4, 5, 6, 7, 8, 9, 10, 11, 12, 13, 14, 15, 19, 20] rfl rfl (by decide +kernel) (by decide +kernel) (by decide +kernel) 0 9 rfl rfl GG.fb hG.at hl.1 rfl (Nat.le_of_ble_eq_true rfl) ⟨(Nat.le_of_ble_eq_true rfl), (Nat.le_of_ble_eq_true rfl)⟩ ⟨(Nat.le_of_ble_eq_true rfl), (Nat.le_of_ble_eq_true rfl)⟩ (fun r95 u H locs hp hP hD hS => ?_)
    obtain ⟨F96, y97, F98, t99, t100, t101, t102, t103, rfl⟩ := hp
    have hP : va_P D vwCl [(h_course_settings, .inl (cI, 5, .inl f_course_settings)), (h_course_push, .inl (cI, 12, .inl f_course_push)), (h_course_feet, .inl (cI, 12, .inl f_course_feet)), (h_course_weight, .inl (cI, 12, .inl f_course_weight)), (h_course_length, .inl (cI, 12, .inl f_course_length)), (h_course_drop, .inl (cI, 12, .inl f_course_drop)), (h_course_ideal, .inl (cI, 12, .inl f_course_ideal)), (h_course_over, .inl (cI, 12, .inl f_course_over)), (h_course_runnerName, .inl (cJ, 6, .inr (.inl f_course_runnerName))), (h_course_bestAt, .inl (cI, 6, .inl f_course_bestAt)), (h_course_bad, .inl (cI, 6, .inl f_course_bad)), (q1, .inr (8, vL 5 F45)), (q5, .inl (cI, 40, .inl g57)), (q6, .inl (cI, 40, .inl g58)), (q7, .inl (cI, 40, .inl g59)), (h_course, .inr (1, vL 18 F_course_)), (h_course_manName, .inl (cJ, 12, .inr (.inl f_course_manName))), (h0, .inr (9, vL 19 F96)), (h_tape, .inr (6, vL 12 F98)), (h_tape_bytes, .inl (cB, 940, .inl f_tape_bytes)), (h_tape_wordNames, .inl (cJ, 23, .inr (.inl f_tape_wordNames)))] H := hP
    have hD : va_D A [(h_course_settings, .inl (cI, 5, .inl f_course_settings)), (h_course_push, .inl (cI, 12, .inl f_course_push)), (h_course_feet, .inl (cI, 12, .inl f_course_feet)), (h_course_weight, .inl (cI, 12, .inl f_course_weight)), (h_course_length, .inl (cI, 12, .inl f_course_length)), (h_course_drop, .inl (cI, 12, .inl f_course_drop)), (h_course_ideal, .inl (cI, 12, .inl f_course_ideal)), (h_course_over, .inl (cI, 12, .inl f_course_over)), (h_course_runnerName, .inl (cJ, 6, .inr (.inl f_course_runnerName))), (h_course_bestAt, .inl (cI, 6, .inl f_course_bestAt)), (h_course_bad, .inl (cI, 6, .inl f_course_bad)), (q1, .inr (8, vL 5 F45)), (q5, .inl (cI, 40, .inl g57)), (q6, .inl (cI, 40, .inl g58)), (q7, .inl (cI, 40, .inl g59)), (h_course, .inr (1, vL 18 F_course_)), (h_course_manName, .inl (cJ, 12, .inr (.inl f_course_manName))), (h0, .inr (9, vL 19 F96)), (h_tape, .inr (6, vL 12 F98)), (h_tape_bytes, .inl (cB, 940, .inl f_tape_bytes)), (h_tape_wordNames, .inl (cJ, 23, .inr (.inl f_tape_wordNames)))] := hD
    refine W.widen (k := 4) (n := 125) (Nat.le_of_ble_eq_true rfl) (Nat.le_of_ble_eq_true rfl) ?_
    exact ret_i (v := r95) hx hb hr hlocks hS (hP.sub (ws' := [(h0, .inr (9, vL 19 F96)), (h_tape, .inr (6, vL 12 F98)), (h_tape_bytes, .inl (cB, 940, .inl f_tape_bytes)), (h_tape_wordNames, .inl (cJ, 23, .inr (.inl f_tape_wordNames))), (h_course, .inr (1, vL 18 F_course_)), (h_course_settings, .inl (cI, 5, .inl f_course_settings)), (h_course_manName, .inl (cJ, 12, .inr (.inl f_course_manName))), (h_course_push, .inl (cI, 12, .inl f_course_push)), (h_course_feet, .inl (cI, 12, .inl f_course_feet)), (h_course_weight, .inl (cI, 12, .inl f_course_weight)), (h_course_length, .inl (cI, 12, .inl f_course_length)), (h_course_drop, .inl (cI, 12, .inl f_course_drop)), (h_course_ideal, .inl (cI, 12, .inl f_course_ideal)), (h_course_over, .inl (cI, 12, .inl f_course_over)), (h_course_runnerName, .inl (cJ, 6, .inr (.inl f_course_runnerName))), (h_course_bestAt, .inl (cI, 6, .inl f_course_bestAt)), (h_course_bad, .inl (cI, 6, .inl f_course_bad)), (q1, .inr (8, vL 5 F45)), (q5, .inl (cI, 40, .inl g57)), (q6, .inl (cI, 40, .inl g58)), (q7, .inl (cI, 40, .inl g59))]) [17, 18, 19, 20, 15, 0, 16, 1, 2, 3, 4, 5, 6, 7, 8, 9, 10, 11, 12, 13, 14] rfl) (hD.sub (ws' := [(h0, .inr (9, vL 19 F96)), (h_tape, .inr (6, vL 12 F98)), (h_tape_bytes, .inl (cB, 940, .inl f_tape_bytes)), (h_tape_wordNames, .inl (cJ, 23, .inr (.inl f_tape_wordNames))), (h_course, .inr (1, vL 18 F_course_)), (h_course_settings, .inl (cI, 5, .inl f_course_settings)), (h_course_manName, .inl (cJ, 12, .inr (.inl f_course_manName))), (h_course_push, .inl (cI, 12, .inl f_course_push)), (h_course_feet, .inl (cI, 12, .inl f_course_feet)), (h_course_weight, .inl (cI, 12, .inl f_course_weight)), (h_course_length, .inl (cI, 12, .inl f_course_length)), (h_course_drop, .inl (cI, 12, .inl f_course_drop)), (h_course_ideal, .inl (cI, 12, .inl f_course_ideal)), (h_course_over, .inl (cI, 12, .inl f_course_over)), (h_course_runnerName, .inl (cJ, 6, .inr (.inl f_course_runnerName))), (h_course_bestAt, .inl (cI, 6, .inl f_course_bestAt)), (h_course_bad, .inl (cI, 6, .inl f_course_bad)), (q1, .inr (8, vL 5 F45)), (q5, .inl (cI, 40, .inl g57)), (q6, .inl (cI, 40, .inl g58)), (q7, .inl (cI, 40, .inl g59))]) [17, 18, 19, 20, 15, 0, 16, 1, 2, 3, 4, 5, 6, 7, 8, 9, 10, 11, 12, 13, 14] (by decide +kernel) rfl) dX9_sentence_50 rfl (Nat.le_of_ble_eq_true rfl) (Nat.le_of_ble_eq_true rfl) (Or.inr ⟨F96, q1, y97, F98, y49, y50, y51, y52, y53, y54, y55, y56, F45, q5, q6, q7, y46, y47, g57, g58, g59, (SAME.tr (SAME.up eF91 SAME.rf (by decide)) t99 (by decide)), (SAME.at t99 (by decide) (get_eq eF91)), t100, (SAME.tr (SAME.tr (SAME.tr SAME.rf t25 (by decide)) t64 (by decide)) t101 (by decide)), t102, (SAME.at t101 (by decide) t65), (SAME.at t101 (by decide) t66), (SAME.at t101 (by decide) t67), (SAME.at t101 (by decide) t68), (SAME.at t101 (by decide) t69), (SAME.at t101 (by decide) t70), (SAME.at t101 (by decide) t71), (SAME.at t101 (by decide) t72), t73, (SAME.at t101 (by decide) (SAME.at t64 (by decide) t34)), (SAME.at t60 (by decide) t12), (SAME.at t60 (by decide) t13), (SAME.at t60 (by decide) t14), t61, t62, t63, rfl⟩)
set_option maxHeartbeats 4000000 in
set_option maxRecDepth 100000 in
theorem m_X9_bend (l : Launch) (D : va_G) (cI cJ cB cP cM cZ : ClassId) (h0 : Nat) (h_plan : Nat) (h_plan_crew : Nat) (h_plan_yard : Nat) (h_plan_high : Nat) (h_course : Nat) (h_course_settings : Nat) (h_course_manName : Nat) (h_course_push : Nat) (h_course_feet : Nat) (h_course_weight : Nat) (h_course_length : Nat) (h_course_drop : Nat) (h_course_ideal : Nat) (h_course_over : Nat) (h_course_runnerName : Nat) (h_course_bestAt : Nat) (h_course_bad : Nat) (Fh : Nat → Value) (F_plan_ : Nat → Value) (f_plan_crew : Nat → Int32) (f_plan_yard : Nat → Int32) (f_plan_high : Nat → Int32) (F_course_ : Nat → Value) (x_course_bends : Int32) (f_course_settings : Nat → Int32) (f_course_manName : Nat → Int64) (f_course_push : Nat → Int32) (f_course_feet : Nat → Int32) (f_course_weight : Nat → Int32) (f_course_length : Nat → Int32) (f_course_drop : Nat → Int32) (f_course_ideal : Nat → Int32) (f_course_over : Nat → Int32) (f_course_runnerName : Nat → Int64) (f_course_bestAt : Nat → Int32) (f_course_bad : Nat → Int32) (p0 : Int32) (p1 : Int32) (sz : Nat) (e_plan : Fh 1 = .ref h_plan) (e_course : Fh 10 = .ref h_course) (e_plan_crew : F_plan_ 0 = .ref h_plan_crew) (e_plan_yard : F_plan_ 1 = .ref h_plan_yard) (e_plan_high : F_plan_ 2 = .ref h_plan_high) (s_plan_crew_0 : SG 0 3 0 11 f_plan_crew) (e_course_settings : F_course_ 1 = .ref h_course_settings) (e_course_manName : F_course_ 2 = .ref h_course_manName) (e_course_push : F_course_ 3 = .ref h_course_push) (e_course_feet : F_course_ 4 = .ref h_course_feet) (e_course_weight : F_course_ 5 = .ref h_course_weight) (e_course_length : F_course_ 6 = .ref h_course_length) (e_course_drop : F_course_ 7 = .ref h_course_drop) (e_course_ideal : F_course_ 8 = .ref h_course_ideal) (e_course_over : F_course_ 9 = .ref h_course_over) (e_course_runnerName : F_course_ 10 = .ref h_course_runnerName) (e_course_bestAt : F_course_ 11 = .ref h_course_bestAt) (e_course_bad : F_course_ 12 = .ref h_course_bad) (e_course_bends : F_course_ 14 = .int x_course_bends) (i_x_course_bends : IR 0 12 x_course_bends) (s_course_settings_0 : SG 0 0 5 40 f_course_settings) : CI l yX9_bend cX9_bend 3 (some .int) { frames := 0, cells := 0, slots := 0, locals := 0 } (GG D cI cJ cB cP cM cZ) D [(h0, .inr (9, vL 19 Fh)), (h_plan, .inr (5, vL 11 F_plan_)), (h_plan_crew, .inl (cI, 4, .inl f_plan_crew)), (h_plan_yard, .inl (cI, 4, .inl f_plan_yard)), (h_plan_high, .inl (cI, 12, .inl f_plan_high)), (h_course, .inr (1, vL 18 F_course_)), (h_course_settings, .inl (cI, 5, .inl f_course_settings)), (h_course_manName, .inl (cJ, 12, .inr (.inl f_course_manName))), (h_course_push, .inl (cI, 12, .inl f_course_push)), (h_course_feet, .inl (cI, 12, .inl f_course_feet)), (h_course_weight, .inl (cI, 12, .inl f_course_weight)), (h_course_length, .inl (cI, 12, .inl f_course_length)), (h_course_drop, .inl (cI, 12, .inl f_course_drop)), (h_course_ideal, .inl (cI, 12, .inl f_course_ideal)), (h_course_over, .inl (cI, 12, .inl f_course_over)), (h_course_runnerName, .inl (cJ, 6, .inr (.inl f_course_runnerName))), (h_course_bestAt, .inl (cI, 6, .inl f_course_bestAt)), (h_course_bad, .inl (cI, 6, .inl f_course_bad))] sz [.ref h0, .int p0, .int p1] (fun (r : Int32) (u : va_W) => u = [(h0, .inr (9, vL 19 Fh)), (h_plan, .inr (5, vL 11 F_plan_)), (h_plan_crew, .inl (cI, 4, .inl f_plan_crew)), (h_plan_yard, .inl (cI, 4, .inl f_plan_yard)), (h_plan_high, .inl (cI, 12, .inl f_plan_high)), (h_course, .inr (1, vL 18 F_course_)), (h_course_settings, .inl (cI, 5, .inl f_course_settings)), (h_course_manName, .inl (cJ, 12, .inr (.inl f_course_manName))), (h_course_push, .inl (cI, 12, .inl f_course_push)), (h_course_feet, .inl (cI, 12, .inl f_course_feet)), (h_course_weight, .inl (cI, 12, .inl f_course_weight)), (h_course_length, .inl (cI, 12, .inl f_course_length)), (h_course_drop, .inl (cI, 12, .inl f_course_drop)), (h_course_ideal, .inl (cI, 12, .inl f_course_ideal)), (h_course_over, .inl (cI, 12, .inl f_course_over)), (h_course_runnerName, .inl (cJ, 6, .inr (.inl f_course_runnerName))), (h_course_bestAt, .inl (cI, 6, .inl f_course_bestAt)), (h_course_bad, .inl (cI, 6, .inl f_course_bad))]) := by
  refine CI_mk (by decide) (Nat.le_of_ble_eq_true rfl) ?_
  intro p e s m below meth c A ls E hAe hG hsz hP hD hA hS hl
  obtain ⟨hx, hb, hr, hw, hown, hlocks, hml, hnm⟩ := E
  have hK := hG.1
  have i_x_course_bends : 0 ≤ x_course_bends.toInt ∧ x_course_bends.toInt ≤ 12 := i_x_course_bends
  have hl : lv_has ls 3 [(0, .ref h0), (1, .int p0), (2, .int p1)] := hl
  refine lv_iload_n hx hb dX9_bend_0 rfl (lv_at hl 1 rfl) ?_
  refine lv_if_lt (tgt := 15) hx hb dX9_bend_1 (by decide) (fun c1 => ?_) (fun c1 => ?_)
  · have dc1 : p0.toInt < 0 := lt_i (a := p0.toInt) (b := 0) rfl rfl c1
    have k2 : (-2147483648) ≤ p0.toInt ∧ p0.toInt ≤ (-1) := ⟨(ir_any _).1, up_lt dc1 (Int.le_refl _) (by decide)⟩
    refine lv_iconst (v := (-1)) hx hb dX9_bend_15 (by decide) ?_
    exact ret_i (v := (-1)) hx hb hr hlocks hS hP hD dX9_bend_16 rfl (Nat.le_of_ble_eq_true rfl) (Nat.le_of_ble_eq_true rfl) rfl
  · have dc1 : 0 ≤ p0.toInt := nlt_i (a := p0.toInt) (b := 0) rfl rfl c1
    have k3 : 0 ≤ p0.toInt ∧ p0.toInt ≤ 2147483647 := ⟨Int.le_trans (Int.le_refl _) dc1, (ir_any _).2⟩
    refine lv_iload_n hx hb dX9_bend_4 rfl (lv_at hl 1 rfl) ?_
    refine lv_aload_n hx hb dX9_bend_5 rfl (lv_at hl 0 rfl) ?_
    refine get_f (D := D) (ci := 9) (v := .ref h_course) (C := RX9) (T := TX9) (N := 19) hx hb hw inAX9 hown hK hP 0 rfl rfl 10 (by decide) (hw _ q_450) (fun _ h9 => h9) e_course dX9_bend_6 ?_
    refine get_f (D := D) (ci := 1) (v := .int x_course_bends) (C := RX1) (T := TX1) (N := 18) hx hb hw inAX1 hown hK hP 5 rfl rfl 14 (by decide) (hw _ q_356) (fun _ h9 => h9) e_course_bends dX9_bend_9 ?_
    refine lv_icmp_lt (tgt := 17) hx hb dX9_bend_12 (by decide) (fun c4 => ?_) (fun c4 => ?_)
    · have dc4 : p0.toInt < x_course_bends.toInt := lt_i (a := p0.toInt) (b := x_course_bends.toInt) rfl rfl c4
      have k5 : 0 ≤ p0.toInt ∧ p0.toInt ≤ 11 := ⟨k3.1, up_lt dc4 i_x_course_bends.2 (by decide)⟩
      have k6 : 1 ≤ x_course_bends.toInt ∧ x_course_bends.toInt ≤ 12 := ⟨lo_lt dc4 k3.1 (by decide), i_x_course_bends.2⟩
      refine lv_iload_n hx hb dX9_bend_17 rfl (lv_at hl 2 rfl) ?_
      by_cases k7 : p1 = 0
      · have dk7 : p1.toInt = 0 := eq_i rfl rfl k7
        have k8 : 0 ≤ p1.toInt ∧ p1.toInt ≤ 0 := ⟨Int.le_trans (Int.le_refl _) (Int.le_of_eq dk7.symm), Int.le_trans (Int.le_of_eq dk7) (Int.le_refl _)⟩
        refine lv_ci (y := 0) k7 ?_
        refine lv_tableIn (tgt := 52) (off := 34) hx hb dX9_bend_18 (by decide) (by decide) (by decide) (by decide) ?_
        refine lv_aload_n hx hb dX9_bend_52 rfl (lv_at hl 0 rfl) ?_
        refine get_f (D := D) (ci := 9) (v := .ref h_course) (C := RX9) (T := TX9) (N := 19) hx hb hw inAX9 hown hK hP 0 rfl rfl 10 (by decide) (hw _ q_450) (fun _ h9 => h9) e_course dX9_bend_53 ?_
        refine get_f (D := D) (ci := 1) (v := .ref h_course_length) (C := RX1) (T := TX1) (N := 18) hx hb hw inAX1 hown hK hP 5 rfl rfl 6 (by decide) (hw _ q_338) (fun _ h9 => h9) e_course_length dX9_bend_56 ?_
        refine lv_iload_n hx hb dX9_bend_59 rfl (lv_at hl 1 rfl) ?_
        refine va_iald hx hb hK hP 11 0 rfl rfl (ix_k k5 (by decide) (by decide)) dX9_bend_60 ?_
        refine lv_topi (fun v9 ev9 => ?_)
        exact ret_i (v := v9) hx hb hr hlocks hS hP hD dX9_bend_61 rfl (Nat.le_of_ble_eq_true rfl) (Nat.le_of_ble_eq_true rfl) rfl
      by_cases k10 : p1 = 1
      · have dk10 : p1.toInt = 1 := eq_i rfl rfl k10
        have k11 : 1 ≤ p1.toInt ∧ p1.toInt ≤ 1 := ⟨Int.le_trans (Int.le_refl _) (Int.le_of_eq dk10.symm), Int.le_trans (Int.le_of_eq dk10) (Int.le_refl _)⟩
        refine lv_ci (y := 1) k10 ?_
        refine lv_tableIn (tgt := 62) (off := 44) hx hb dX9_bend_18 (by decide) (by decide) (by decide) (by decide) ?_
        refine lv_aload_n hx hb dX9_bend_62 rfl (lv_at hl 0 rfl) ?_
        refine get_f (D := D) (ci := 9) (v := .ref h_course) (C := RX9) (T := TX9) (N := 19) hx hb hw inAX9 hown hK hP 0 rfl rfl 10 (by decide) (hw _ q_450) (fun _ h9 => h9) e_course dX9_bend_63 ?_
        refine get_f (D := D) (ci := 1) (v := .ref h_course_drop) (C := RX1) (T := TX1) (N := 18) hx hb hw inAX1 hown hK hP 5 rfl rfl 7 (by decide) (hw _ q_341) (fun _ h9 => h9) e_course_drop dX9_bend_66 ?_
        refine lv_iload_n hx hb dX9_bend_69 rfl (lv_at hl 1 rfl) ?_
        refine va_iald hx hb hK hP 12 0 rfl rfl (ix_k k5 (by decide) (by decide)) dX9_bend_70 ?_
        refine lv_topi (fun v12 ev12 => ?_)
        exact ret_i (v := v12) hx hb hr hlocks hS hP hD dX9_bend_71 rfl (Nat.le_of_ble_eq_true rfl) (Nat.le_of_ble_eq_true rfl) rfl
      by_cases k13 : p1 = 2
      · have dk13 : p1.toInt = 2 := eq_i rfl rfl k13
        have k14 : 2 ≤ p1.toInt ∧ p1.toInt ≤ 2 := ⟨Int.le_trans (Int.le_refl _) (Int.le_of_eq dk13.symm), Int.le_trans (Int.le_of_eq dk13) (Int.le_refl _)⟩
        refine lv_ci (y := 2) k13 ?_
        refine lv_tableIn (tgt := 72) (off := 54) hx hb dX9_bend_18 (by decide) (by decide) (by decide) (by decide) ?_
        refine lv_aload_n hx hb dX9_bend_72 rfl (lv_at hl 0 rfl) ?_
        refine get_f (D := D) (ci := 9) (v := .ref h_course) (C := RX9) (T := TX9) (N := 19) hx hb hw inAX9 hown hK hP 0 rfl rfl 10 (by decide) (hw _ q_450) (fun _ h9 => h9) e_course dX9_bend_73 ?_
        refine get_f (D := D) (ci := 1) (v := .ref h_course_ideal) (C := RX1) (T := TX1) (N := 18) hx hb hw inAX1 hown hK hP 5 rfl rfl 8 (by decide) (hw _ q_344) (fun _ h9 => h9) e_course_ideal dX9_bend_76 ?_
        refine lv_iload_n hx hb dX9_bend_79 rfl (lv_at hl 1 rfl) ?_
        refine va_iald hx hb hK hP 13 0 rfl rfl (ix_k k5 (by decide) (by decide)) dX9_bend_80 ?_
        refine lv_topi (fun v15 ev15 => ?_)
        exact ret_i (v := v15) hx hb hr hlocks hS hP hD dX9_bend_81 rfl (Nat.le_of_ble_eq_true rfl) (Nat.le_of_ble_eq_true rfl) rfl
      by_cases k16 : p1 = 3
      · have dk16 : p1.toInt = 3 := eq_i rfl rfl k16
        have k17 : 3 ≤ p1.toInt ∧ p1.toInt ≤ 3 := ⟨Int.le_trans (Int.le_refl _) (Int.le_of_eq dk16.symm), Int.le_trans (Int.le_of_eq dk16) (Int.le_refl _)⟩
        refine lv_ci (y := 3) k16 ?_
        refine lv_tableIn (tgt := 82) (off := 64) hx hb dX9_bend_18 (by decide) (by decide) (by decide) (by decide) ?_
        refine lv_aload_n hx hb dX9_bend_82 rfl (lv_at hl 0 rfl) ?_
        refine get_f (D := D) (ci := 9) (v := .ref h_course) (C := RX9) (T := TX9) (N := 19) hx hb hw inAX9 hown hK hP 0 rfl rfl 10 (by decide) (hw _ q_450) (fun _ h9 => h9) e_course dX9_bend_83 ?_
        refine get_f (D := D) (ci := 1) (v := .ref h_course_over) (C := RX1) (T := TX1) (N := 18) hx hb hw inAX1 hown hK hP 5 rfl rfl 9 (by decide) (hw _ q_346) (fun _ h9 => h9) e_course_over dX9_bend_86 ?_
        refine lv_iload_n hx hb dX9_bend_89 rfl (lv_at hl 1 rfl) ?_
        refine va_iald hx hb hK hP 14 0 rfl rfl (ix_k k5 (by decide) (by decide)) dX9_bend_90 ?_
        refine lv_topi (fun v18 ev18 => ?_)
        exact ret_i (v := v18) hx hb hr hlocks hS hP hD dX9_bend_91 rfl (Nat.le_of_ble_eq_true rfl) (Nat.le_of_ble_eq_true rfl) rfl
      by_cases k19 : p1 = 4
      · have dk19 : p1.toInt = 4 := eq_i rfl rfl k19
        have k20 : 4 ≤ p1.toInt ∧ p1.toInt ≤ 4 := ⟨Int.le_trans (Int.le_refl _) (Int.le_of_eq dk19.symm), Int.le_trans (Int.le_of_eq dk19) (Int.le_refl _)⟩
        refine lv_ci (y := 4) k19 ?_
        refine lv_tableIn (tgt := 92) (off := 74) hx hb dX9_bend_18 (by decide) (by decide) (by decide) (by decide) ?_
        refine lv_aload_n hx hb dX9_bend_92 rfl (lv_at hl 0 rfl) ?_
        refine get_f (D := D) (ci := 9) (v := .ref h_plan) (C := RX9) (T := TX9) (N := 19) hx hb hw inAX9 hown hK hP 0 rfl rfl 1 (by decide) (hw _ q_441) (fun _ h9 => h9) e_plan dX9_bend_93 ?_
        refine get_f (D := D) (ci := 5) (v := .ref h_plan_high) (C := RX5) (T := TX5) (N := 11) hx hb hw inAX5 hown hK hP 1 rfl rfl 2 (by decide) (hw _ q_156) (fun _ h9 => h9) e_plan_high dX9_bend_96 ?_
        refine lv_iload_n hx hb dX9_bend_99 rfl (lv_at hl 1 rfl) ?_
        refine va_iald hx hb hK hP 4 0 rfl rfl (ix_k k5 (by decide) (by decide)) dX9_bend_100 ?_
        refine lv_topi (fun v21 ev21 => ?_)
        exact ret_i (v := v21) hx hb hr hlocks hS hP hD dX9_bend_101 rfl (Nat.le_of_ble_eq_true rfl) (Nat.le_of_ble_eq_true rfl) rfl
      have dk7 : p1.toInt ≠ 0 := ne_i rfl rfl k7
      have dk10 : p1.toInt ≠ 1 := ne_i rfl rfl k10
      have dk13 : p1.toInt ≠ 2 := ne_i rfl rfl k13
      have dk16 : p1.toInt ≠ 3 := ne_i rfl rfl k16
      have dk19 : p1.toInt ≠ 4 := ne_i rfl rfl k19
      refine lv_tableOut (tgt := 102) hx hb dX9_bend_18 (by omega) (by decide) ?_
      refine lv_iconst (v := (-1)) hx hb dX9_bend_102 (by decide) ?_
      exact ret_i (v := (-1)) hx hb hr hlocks hS hP hD dX9_bend_103 rfl (Nat.le_of_ble_eq_true rfl) (Nat.le_of_ble_eq_true rfl) rfl
    · have dc4 : x_course_bends.toInt ≤ p0.toInt := nlt_i (a := p0.toInt) (b := x_course_bends.toInt) rfl rfl c4
      refine lv_iconst (v := (-1)) hx hb dX9_bend_15 (by decide) ?_
      exact ret_i (v := (-1)) hx hb hr hlocks hS hP hD dX9_bend_16 rfl (Nat.le_of_ble_eq_true rfl) (Nat.le_of_ble_eq_true rfl) rfl
set_option maxHeartbeats 4000000 in
set_option maxRecDepth 100000 in
theorem m_X1_runnerTakes (l : Launch) (D : va_G) (cI cJ cB cP cM cZ : ClassId) (h0 : Nat) (h_settings : Nat) (h_bestAt : Nat) (h_bad : Nat) (Fh : Nat → Value) (x_runners : Int32) (f_settings : Nat → Int32) (f_bestAt : Nat → Int32) (f_bad : Nat → Int32) (p0 : Int32) (p1 : Int32) (sz : Nat) (e_settings : Fh 1 = .ref h_settings) (e_bestAt : Fh 11 = .ref h_bestAt) (e_bad : Fh 12 = .ref h_bad) (e_runners : Fh 15 = .int x_runners) (i_x_runners : IR 0 6 x_runners) (s_settings_0 : SG 0 0 5 40 f_settings) : CI l yX1_runnerTakes cX1_runnerTakes 4 (some .int) { frames := 1, cells := 0, slots := 0, locals := 40 } (GG D cI cJ cB cP cM cZ) D [(h0, .inr (1, vL 18 Fh)), (h_settings, .inl (cI, 5, .inl f_settings)), (h_bestAt, .inl (cI, 6, .inl f_bestAt)), (h_bad, .inl (cI, 6, .inl f_bad))] sz [.ref h0, .int p0, .int p1] (fun (r : Int32) (u : va_W) => u = [(h0, .inr (1, vL 18 Fh)), (h_settings, .inl (cI, 5, .inl f_settings)), (h_bestAt, .inl (cI, 6, .inl f_bestAt)), (h_bad, .inl (cI, 6, .inl f_bad))]) := by
  refine CI_mk (by decide) (Nat.le_of_ble_eq_true rfl) ?_
  intro p e s m below meth c A ls E hAe hG hsz hP hD hA hS hl
  obtain ⟨hx, hb, hr, hw, hown, hlocks, hml, hnm⟩ := E
  have hK := hG.1
  have i_x_runners : 0 ≤ x_runners.toInt ∧ x_runners.toInt ≤ 6 := i_x_runners
  have hl : lv_has ls 4 [(0, .ref h0), (1, .int p0), (2, .int p1)] := hl
  refine lv_iload_n hx hb dX1_runnerTakes_0 rfl (lv_at hl 1 rfl) ?_
  refine lv_if_lt (tgt := 12) hx hb dX1_runnerTakes_1 (by decide) (fun c1 => ?_) (fun c1 => ?_)
  · have dc1 : p0.toInt < 0 := lt_i (a := p0.toInt) (b := 0) rfl rfl c1
    have k2 : (-2147483648) ≤ p0.toInt ∧ p0.toInt ≤ (-1) := ⟨(ir_any _).1, up_lt dc1 (Int.le_refl _) (by decide)⟩
    refine lv_iconst (v := 0) hx hb dX1_runnerTakes_12 (by decide) ?_
    exact ret_i (v := 0) hx hb hr hlocks hS hP hD dX1_runnerTakes_13 rfl (Nat.le_of_ble_eq_true rfl) (Nat.le_of_ble_eq_true rfl) rfl
  · have dc1 : 0 ≤ p0.toInt := nlt_i (a := p0.toInt) (b := 0) rfl rfl c1
    have k3 : 0 ≤ p0.toInt ∧ p0.toInt ≤ 2147483647 := ⟨Int.le_trans (Int.le_refl _) dc1, (ir_any _).2⟩
    refine lv_iload_n hx hb dX1_runnerTakes_4 rfl (lv_at hl 1 rfl) ?_
    refine lv_aload_n hx hb dX1_runnerTakes_5 rfl (lv_at hl 0 rfl) ?_
    refine get_f (D := D) (ci := 1) (v := .int x_runners) (C := RX1) (T := TX1) (N := 18) hx hb hw inAX1 hown hK hP 0 rfl rfl 15 (by decide) (hw _ q_359) (fun _ h9 => h9) e_runners dX1_runnerTakes_6 ?_
    refine lv_icmp_lt (tgt := 14) hx hb dX1_runnerTakes_9 (by decide) (fun c4 => ?_) (fun c4 => ?_)
    · have dc4 : p0.toInt < x_runners.toInt := lt_i (a := p0.toInt) (b := x_runners.toInt) rfl rfl c4
      have k5 : 0 ≤ p0.toInt ∧ p0.toInt ≤ 5 := ⟨k3.1, up_lt dc4 i_x_runners.2 (by decide)⟩
      have k6 : 1 ≤ x_runners.toInt ∧ x_runners.toInt ≤ 6 := ⟨lo_lt dc4 k3.1 (by decide), i_x_runners.2⟩
      refine lv_aload_n hx hb dX1_runnerTakes_14 rfl (lv_at hl 0 rfl) ?_
      refine get_f (D := D) (ci := 1) (v := .ref h_settings) (C := RX1) (T := TX1) (N := 18) hx hb hw inAX1 hown hK hP 0 rfl rfl 1 (by decide) (hw _ q_315) (fun _ h9 => h9) e_settings dX1_runnerTakes_15 ?_
      refine lv_iconst (v := 4) hx hb dX1_runnerTakes_18 (by decide) ?_
      refine iald_n hx hb hK hP 1 0 rfl rfl 4 rfl (Nat.le_of_ble_eq_true rfl) (Nat.le_of_ble_eq_true rfl) rfl dX1_runnerTakes_19 ?_
      refine lv_topi (fun v7 ev7 => ?_)
      refine lv_iload_n hx hb dX1_runnerTakes_20 rfl (lv_at hl 2 rfl) ?_
      refine lv_iconst (v := 3) hx hb dX1_runnerTakes_21 (by decide) ?_
      refine lv_idiv hx hb dX1_runnerTakes_22 (by decide) ?_
      refine lv_topi (fun v8 ev8 => ?_)
      refine lv_iadd hx hb dX1_runnerTakes_23 ?_
      refine lv_topi (fun v9 ev9 => ?_)
      refine lv_istore_n (lv' := [(3, .int v9), (0, .ref h0), (1, .int p0), (2, .int p1)]) hx hb dX1_runnerTakes_24 rfl hl (by decide) rfl (fun ls hl => ?_)
      refine lv_aload_n hx hb dX1_runnerTakes_25 rfl (lv_at hl 1 rfl) ?_
      refine get_f (D := D) (ci := 1) (v := .ref h_bad) (C := RX1) (T := TX1) (N := 18) hx hb hw inAX1 hown hK hP 0 rfl rfl 12 (by decide) (hw _ q_350) (fun _ h9 => h9) e_bad dX1_runnerTakes_26 ?_
      refine lv_iload_n hx hb dX1_runnerTakes_29 rfl (lv_at hl 2 rfl) ?_
      refine va_iald hx hb hK hP 3 0 rfl rfl (ix_k k5 (by decide) (by decide)) dX1_runnerTakes_30 ?_
      refine lv_topi (fun v10 ev10 => ?_)
      refine lv_iload_n hx hb dX1_runnerTakes_31 rfl (lv_at hl 0 rfl) ?_
      refine lv_aload_n hx hb dX1_runnerTakes_32 rfl (lv_at hl 1 rfl) ?_
      refine get_f (D := D) (ci := 1) (v := .ref h_bestAt) (C := RX1) (T := TX1) (N := 18) hx hb hw inAX1 hown hK hP 0 rfl rfl 11 (by decide) (hw _ q_348) (fun _ h9 => h9) e_bestAt dX1_runnerTakes_33 ?_
      refine lv_iload_n hx hb dX1_runnerTakes_36 rfl (lv_at hl 2 rfl) ?_
      refine va_iald hx hb hK hP 2 0 rfl rfl (ix_k k5 (by decide) (by decide)) dX1_runnerTakes_37 ?_
      refine lv_topi (fun v11 ev11 => ?_)
      refine lv_isub hx hb dX1_runnerTakes_38 ?_
      refine lv_topi (fun v12 ev12 => ?_)
      refine va_mabs hx hb (hml.trans hl.1.symm) hown (hw _ q_756) (hw _ q_757) (hw _ q_19) (hw _ q_758) (Nat.le_of_ble_eq_true rfl) (Nat.le_of_ble_eq_true rfl) (Nat.le_of_ble_eq_true rfl) (Nat.le_of_ble_eq_true rfl) dX1_runnerTakes_39 ?_
      refine lv_topi (fun v13 ev13 => ?_)
      refine lv_imul hx hb dX1_runnerTakes_42 ?_
      refine lv_topi (fun v14 ev14 => ?_)
      refine lv_iconst (v := 4) hx hb dX1_runnerTakes_43 (by decide) ?_
      refine lv_idiv hx hb dX1_runnerTakes_44 (by decide) ?_
      refine lv_topi (fun v15 ev15 => ?_)
      exact ret_i (v := v15) hx hb hr hlocks hS hP hD dX1_runnerTakes_45 rfl (Nat.le_of_ble_eq_true rfl) (Nat.le_of_ble_eq_true rfl) rfl
    · have dc4 : x_runners.toInt ≤ p0.toInt := nlt_i (a := p0.toInt) (b := x_runners.toInt) rfl rfl c4
      refine lv_iconst (v := 0) hx hb dX1_runnerTakes_12 (by decide) ?_
      exact ret_i (v := 0) hx hb hr hlocks hS hP hD dX1_runnerTakes_13 rfl (Nat.le_of_ble_eq_true rfl) (Nat.le_of_ble_eq_true rfl) rfl
set_option maxHeartbeats 4000000 in
set_option maxRecDepth 100000 in
theorem m_X9_runner (l : Launch) (D : va_G) (cI cJ cB cP cM cZ : ClassId) (h0 : Nat) (h_plan : Nat) (h_plan_crew : Nat) (h_plan_yard : Nat) (h_plan_high : Nat) (h_course : Nat) (h_course_settings : Nat) (h_course_manName : Nat) (h_course_push : Nat) (h_course_feet : Nat) (h_course_weight : Nat) (h_course_length : Nat) (h_course_drop : Nat) (h_course_ideal : Nat) (h_course_over : Nat) (h_course_runnerName : Nat) (h_course_bestAt : Nat) (h_course_bad : Nat) (Fh : Nat → Value) (F_plan_ : Nat → Value) (x_plan_number : Int32) (f_plan_crew : Nat → Int32) (f_plan_yard : Nat → Int32) (f_plan_high : Nat → Int32) (F_course_ : Nat → Value) (x_course_runners : Int32) (f_course_settings : Nat → Int32) (f_course_manName : Nat → Int64) (f_course_push : Nat → Int32) (f_course_feet : Nat → Int32) (f_course_weight : Nat → Int32) (f_course_length : Nat → Int32) (f_course_drop : Nat → Int32) (f_course_ideal : Nat → Int32) (f_course_over : Nat → Int32) (f_course_runnerName : Nat → Int64) (f_course_bestAt : Nat → Int32) (f_course_bad : Nat → Int32) (p0 : Int32) (p1 : Int32) (sz : Nat) (e_plan : Fh 1 = .ref h_plan) (e_course : Fh 10 = .ref h_course) (e_plan_crew : F_plan_ 0 = .ref h_plan_crew) (e_plan_yard : F_plan_ 1 = .ref h_plan_yard) (e_plan_high : F_plan_ 2 = .ref h_plan_high) (e_plan_number : F_plan_ 6 = .int x_plan_number) (s_plan_crew_0 : SG 0 3 0 11 f_plan_crew) (e_course_settings : F_course_ 1 = .ref h_course_settings) (e_course_manName : F_course_ 2 = .ref h_course_manName) (e_course_push : F_course_ 3 = .ref h_course_push) (e_course_feet : F_course_ 4 = .ref h_course_feet) (e_course_weight : F_course_ 5 = .ref h_course_weight) (e_course_length : F_course_ 6 = .ref h_course_length) (e_course_drop : F_course_ 7 = .ref h_course_drop) (e_course_ideal : F_course_ 8 = .ref h_course_ideal) (e_course_over : F_course_ 9 = .ref h_course_over) (e_course_runnerName : F_course_ 10 = .ref h_course_runnerName) (e_course_bestAt : F_course_ 11 = .ref h_course_bestAt) (e_course_bad : F_course_ 12 = .ref h_course_bad) (e_course_runners : F_course_ 15 = .int x_course_runners) (i_x_course_runners : IR 0 6 x_course_runners) (s_course_settings_0 : SG 0 0 5 40 f_course_settings) : CI l yX9_runner cX9_runner 3 (some .int) { frames := 2, cells := 0, slots := 0, locals := 63 } (GG D cI cJ cB cP cM cZ) D [(h0, .inr (9, vL 19 Fh)), (h_plan, .inr (5, vL 11 F_plan_)), (h_plan_crew, .inl (cI, 4, .inl f_plan_crew)), (h_plan_yard, .inl (cI, 4, .inl f_plan_yard)), (h_plan_high, .inl (cI, 12, .inl f_plan_high)), (h_course, .inr (1, vL 18 F_course_)), (h_course_settings, .inl (cI, 5, .inl f_course_settings)), (h_course_manName, .inl (cJ, 12, .inr (.inl f_course_manName))), (h_course_push, .inl (cI, 12, .inl f_course_push)), (h_course_feet, .inl (cI, 12, .inl f_course_feet)), (h_course_weight, .inl (cI, 12, .inl f_course_weight)), (h_course_length, .inl (cI, 12, .inl f_course_length)), (h_course_drop, .inl (cI, 12, .inl f_course_drop)), (h_course_ideal, .inl (cI, 12, .inl f_course_ideal)), (h_course_over, .inl (cI, 12, .inl f_course_over)), (h_course_runnerName, .inl (cJ, 6, .inr (.inl f_course_runnerName))), (h_course_bestAt, .inl (cI, 6, .inl f_course_bestAt)), (h_course_bad, .inl (cI, 6, .inl f_course_bad))] sz [.ref h0, .int p0, .int p1] (fun (r : Int32) (u : va_W) => u = [(h0, .inr (9, vL 19 Fh)), (h_plan, .inr (5, vL 11 F_plan_)), (h_plan_crew, .inl (cI, 4, .inl f_plan_crew)), (h_plan_yard, .inl (cI, 4, .inl f_plan_yard)), (h_plan_high, .inl (cI, 12, .inl f_plan_high)), (h_course, .inr (1, vL 18 F_course_)), (h_course_settings, .inl (cI, 5, .inl f_course_settings)), (h_course_manName, .inl (cJ, 12, .inr (.inl f_course_manName))), (h_course_push, .inl (cI, 12, .inl f_course_push)), (h_course_feet, .inl (cI, 12, .inl f_course_feet)), (h_course_weight, .inl (cI, 12, .inl f_course_weight)), (h_course_length, .inl (cI, 12, .inl f_course_length)), (h_course_drop, .inl (cI, 12, .inl f_course_drop)), (h_course_ideal, .inl (cI, 12, .inl f_course_ideal)), (h_course_over, .inl (cI, 12, .inl f_course_over)), (h_course_runnerName, .inl (cJ, 6, .inr (.inl f_course_runnerName))), (h_course_bestAt, .inl (cI, 6, .inl f_course_bestAt)), (h_course_bad, .inl (cI, 6, .inl f_course_bad))]) := by
  refine CI_mk (by decide) (Nat.le_of_ble_eq_true rfl) ?_
  intro p e s m below meth c A ls E hAe hG hsz hP hD hA hS hl
  obtain ⟨hx, hb, hr, hw, hown, hlocks, hml, hnm⟩ := E
  have hK := hG.1
  have i_x_course_runners : 0 ≤ x_course_runners.toInt ∧ x_course_runners.toInt ≤ 6 := i_x_course_runners
  have hl : lv_has ls 3 [(0, .ref h0), (1, .int p0), (2, .int p1)] := hl
  refine lv_iload_n hx hb dX9_runner_0 rfl (lv_at hl 1 rfl) ?_
  refine lv_if_lt (tgt := 15) hx hb dX9_runner_1 (by decide) (fun c1 => ?_) (fun c1 => ?_)
  · have dc1 : p0.toInt < 0 := lt_i (a := p0.toInt) (b := 0) rfl rfl c1
    have k2 : (-2147483648) ≤ p0.toInt ∧ p0.toInt ≤ (-1) := ⟨(ir_any _).1, up_lt dc1 (Int.le_refl _) (by decide)⟩
    refine lv_iconst (v := (-1)) hx hb dX9_runner_15 (by decide) ?_
    exact ret_i (v := (-1)) hx hb hr hlocks hS hP hD dX9_runner_16 rfl (Nat.le_of_ble_eq_true rfl) (Nat.le_of_ble_eq_true rfl) rfl
  · have dc1 : 0 ≤ p0.toInt := nlt_i (a := p0.toInt) (b := 0) rfl rfl c1
    have k3 : 0 ≤ p0.toInt ∧ p0.toInt ≤ 2147483647 := ⟨Int.le_trans (Int.le_refl _) dc1, (ir_any _).2⟩
    refine lv_iload_n hx hb dX9_runner_4 rfl (lv_at hl 1 rfl) ?_
    refine lv_aload_n hx hb dX9_runner_5 rfl (lv_at hl 0 rfl) ?_
    refine get_f (D := D) (ci := 9) (v := .ref h_course) (C := RX9) (T := TX9) (N := 19) hx hb hw inAX9 hown hK hP 0 rfl rfl 10 (by decide) (hw _ q_450) (fun _ h9 => h9) e_course dX9_runner_6 ?_
    refine get_f (D := D) (ci := 1) (v := .int x_course_runners) (C := RX1) (T := TX1) (N := 18) hx hb hw inAX1 hown hK hP 5 rfl rfl 15 (by decide) (hw _ q_361) (fun _ h9 => h9) e_course_runners dX9_runner_9 ?_
    refine lv_icmp_lt (tgt := 17) hx hb dX9_runner_12 (by decide) (fun c4 => ?_) (fun c4 => ?_)
    · have dc4 : p0.toInt < x_course_runners.toInt := lt_i (a := p0.toInt) (b := x_course_runners.toInt) rfl rfl c4
      have k5 : 0 ≤ p0.toInt ∧ p0.toInt ≤ 5 := ⟨k3.1, up_lt dc4 i_x_course_runners.2 (by decide)⟩
      have k6 : 1 ≤ x_course_runners.toInt ∧ x_course_runners.toInt ≤ 6 := ⟨lo_lt dc4 k3.1 (by decide), i_x_course_runners.2⟩
      refine lv_iload_n hx hb dX9_runner_17 rfl (lv_at hl 2 rfl) ?_
      by_cases k7 : p1 = 0
      · have dk7 : p1.toInt = 0 := eq_i rfl rfl k7
        have k8 : 0 ≤ p1.toInt ∧ p1.toInt ≤ 0 := ⟨Int.le_trans (Int.le_refl _) (Int.le_of_eq dk7.symm), Int.le_trans (Int.le_of_eq dk7) (Int.le_refl _)⟩
        refine lv_ci (y := 0) k7 ?_
        refine lv_tableIn (tgt := 44) (off := 26) hx hb dX9_runner_18 (by decide) (by decide) (by decide) (by decide) ?_
        refine lv_aload_n hx hb dX9_runner_44 rfl (lv_at hl 0 rfl) ?_
        refine get_f (D := D) (ci := 9) (v := .ref h_course) (C := RX9) (T := TX9) (N := 19) hx hb hw inAX9 hown hK hP 0 rfl rfl 10 (by decide) (hw _ q_450) (fun _ h9 => h9) e_course dX9_runner_45 ?_
        refine get_f (D := D) (ci := 1) (v := .ref h_course_bestAt) (C := RX1) (T := TX1) (N := 18) hx hb hw inAX1 hown hK hP 5 rfl rfl 11 (by decide) (hw _ q_349) (fun _ h9 => h9) e_course_bestAt dX9_runner_48 ?_
        refine lv_iload_n hx hb dX9_runner_51 rfl (lv_at hl 1 rfl) ?_
        refine va_iald hx hb hK hP 16 0 rfl rfl (ix_k k5 (by decide) (by decide)) dX9_runner_52 ?_
        refine lv_topi (fun v9 ev9 => ?_)
        exact ret_i (v := v9) hx hb hr hlocks hS hP hD dX9_runner_53 rfl (Nat.le_of_ble_eq_true rfl) (Nat.le_of_ble_eq_true rfl) rfl
      by_cases k10 : p1 = 1
      · have dk10 : p1.toInt = 1 := eq_i rfl rfl k10
        have k11 : 1 ≤ p1.toInt ∧ p1.toInt ≤ 1 := ⟨Int.le_trans (Int.le_refl _) (Int.le_of_eq dk10.symm), Int.le_trans (Int.le_of_eq dk10) (Int.le_refl _)⟩
        refine lv_ci (y := 1) k10 ?_
        refine lv_tableIn (tgt := 54) (off := 36) hx hb dX9_runner_18 (by decide) (by decide) (by decide) (by decide) ?_
        refine lv_aload_n hx hb dX9_runner_54 rfl (lv_at hl 0 rfl) ?_
        refine get_f (D := D) (ci := 9) (v := .ref h_course) (C := RX9) (T := TX9) (N := 19) hx hb hw inAX9 hown hK hP 0 rfl rfl 10 (by decide) (hw _ q_450) (fun _ h9 => h9) e_course dX9_runner_55 ?_
        refine get_f (D := D) (ci := 1) (v := .ref h_course_bad) (C := RX1) (T := TX1) (N := 18) hx hb hw inAX1 hown hK hP 5 rfl rfl 12 (by decide) (hw _ q_351) (fun _ h9 => h9) e_course_bad dX9_runner_58 ?_
        refine lv_iload_n hx hb dX9_runner_61 rfl (lv_at hl 1 rfl) ?_
        refine va_iald hx hb hK hP 17 0 rfl rfl (ix_k k5 (by decide) (by decide)) dX9_runner_62 ?_
        refine lv_topi (fun v12 ev12 => ?_)
        exact ret_i (v := v12) hx hb hr hlocks hS hP hD dX9_runner_63 rfl (Nat.le_of_ble_eq_true rfl) (Nat.le_of_ble_eq_true rfl) rfl
      by_cases k13 : p1 = 2
      · have dk13 : p1.toInt = 2 := eq_i rfl rfl k13
        have k14 : 2 ≤ p1.toInt ∧ p1.toInt ≤ 2 := ⟨Int.le_trans (Int.le_refl _) (Int.le_of_eq dk13.symm), Int.le_trans (Int.le_of_eq dk13) (Int.le_refl _)⟩
        refine lv_ci (y := 2) k13 ?_
        refine lv_tableIn (tgt := 64) (off := 46) hx hb dX9_runner_18 (by decide) (by decide) (by decide) (by decide) ?_
        refine lv_aload_n hx hb dX9_runner_64 rfl (lv_at hl 0 rfl) ?_
        refine get_f (D := D) (ci := 9) (v := .ref h_course) (C := RX9) (T := TX9) (N := 19) hx hb hw inAX9 hown hK hP 0 rfl rfl 10 (by decide) (hw _ q_450) (fun _ h9 => h9) e_course dX9_runner_65 ?_
        refine lv_iload_n hx hb dX9_runner_68 rfl (lv_at hl 1 rfl) ?_
        refine lv_aload_n hx hb dX9_runner_69 rfl (lv_at hl 0 rfl) ?_
        refine get_f (D := D) (ci := 9) (v := .ref h_plan) (C := RX9) (T := TX9) (N := 19) hx hb hw inAX9 hown hK hP 0 rfl rfl 1 (by decide) (hw _ q_441) (fun _ h9 => h9) e_plan dX9_runner_70 ?_
        refine get_f (D := D) (ci := 5) (v := .int x_plan_number) (C := RX5) (T := TX5) (N := 11) hx hb hw inAX5 hown hK hP 1 rfl rfl 6 (by decide) (hw _ q_169) (fun _ h9 => h9) e_plan_number dX9_runner_73 ?_
        refine call_Vi (wr := [(h0, .inr (9, vL 19 Fh)), (h_plan, .inr (5, vL 11 F_plan_)), (h_plan_crew, .inl (cI, 4, .inl f_plan_crew)), (h_plan_yard, .inl (cI, 4, .inl f_plan_yard)), (h_plan_high, .inl (cI, 12, .inl f_plan_high)), (h_course_manName, .inl (cJ, 12, .inr (.inl f_course_manName))), (h_course_push, .inl (cI, 12, .inl f_course_push)), (h_course_feet, .inl (cI, 12, .inl f_course_feet)), (h_course_weight, .inl (cI, 12, .inl f_course_weight)), (h_course_length, .inl (cI, 12, .inl f_course_length)), (h_course_drop, .inl (cI, 12, .inl f_course_drop)), (h_course_ideal, .inl (cI, 12, .inl f_course_ideal)), (h_course_over, .inl (cI, 12, .inl f_course_over)), (h_course_runnerName, .inl (cJ, 6, .inr (.inl f_course_runnerName)))]) (As := [.int p0, .int x_plan_number]) (rest := []) hx hb hml hown hw (m_X1_runnerTakes l D cI cJ cB cP cM cZ h_course h_course_settings h_course_bestAt h_course_bad F_course_ x_course_runners f_course_settings f_course_bestAt f_course_bad p0 x_plan_number _ e_course_settings e_course_bestAt e_course_bad e_course_runners (ir_wk k6 (by decide) (by decide)) s_course_settings_0) wV_X9_209_X1_runnerTakes dX9_runner_76 hK hP hD hS hA [5, 6, 16, 17] [0, 1, 2, 3, 4, 7, 8, 9, 10, 11, 12, 13, 14, 15] rfl rfl (by decide +kernel) (by decide +kernel) (by decide +kernel) 0 1 rfl rfl GG.fb hG.at hl.1 rfl (Nat.le_of_ble_eq_true rfl) ⟨(Nat.le_of_ble_eq_true rfl), (Nat.le_of_ble_eq_true rfl)⟩ ⟨(Nat.le_of_ble_eq_true rfl), (Nat.le_of_ble_eq_true rfl)⟩ (fun r15 u H locs hp hP hD hS => ?_)
        obtain rfl := hp
        have hP : va_P D vwCl [(h0, .inr (9, vL 19 Fh)), (h_plan, .inr (5, vL 11 F_plan_)), (h_plan_crew, .inl (cI, 4, .inl f_plan_crew)), (h_plan_yard, .inl (cI, 4, .inl f_plan_yard)), (h_plan_high, .inl (cI, 12, .inl f_plan_high)), (h_course_manName, .inl (cJ, 12, .inr (.inl f_course_manName))), (h_course_push, .inl (cI, 12, .inl f_course_push)), (h_course_feet, .inl (cI, 12, .inl f_course_feet)), (h_course_weight, .inl (cI, 12, .inl f_course_weight)), (h_course_length, .inl (cI, 12, .inl f_course_length)), (h_course_drop, .inl (cI, 12, .inl f_course_drop)), (h_course_ideal, .inl (cI, 12, .inl f_course_ideal)), (h_course_over, .inl (cI, 12, .inl f_course_over)), (h_course_runnerName, .inl (cJ, 6, .inr (.inl f_course_runnerName))), (h_course, .inr (1, vL 18 F_course_)), (h_course_settings, .inl (cI, 5, .inl f_course_settings)), (h_course_bestAt, .inl (cI, 6, .inl f_course_bestAt)), (h_course_bad, .inl (cI, 6, .inl f_course_bad))] H := hP
        have hD : va_D A [(h0, .inr (9, vL 19 Fh)), (h_plan, .inr (5, vL 11 F_plan_)), (h_plan_crew, .inl (cI, 4, .inl f_plan_crew)), (h_plan_yard, .inl (cI, 4, .inl f_plan_yard)), (h_plan_high, .inl (cI, 12, .inl f_plan_high)), (h_course_manName, .inl (cJ, 12, .inr (.inl f_course_manName))), (h_course_push, .inl (cI, 12, .inl f_course_push)), (h_course_feet, .inl (cI, 12, .inl f_course_feet)), (h_course_weight, .inl (cI, 12, .inl f_course_weight)), (h_course_length, .inl (cI, 12, .inl f_course_length)), (h_course_drop, .inl (cI, 12, .inl f_course_drop)), (h_course_ideal, .inl (cI, 12, .inl f_course_ideal)), (h_course_over, .inl (cI, 12, .inl f_course_over)), (h_course_runnerName, .inl (cJ, 6, .inr (.inl f_course_runnerName))), (h_course, .inr (1, vL 18 F_course_)), (h_course_settings, .inl (cI, 5, .inl f_course_settings)), (h_course_bestAt, .inl (cI, 6, .inl f_course_bestAt)), (h_course_bad, .inl (cI, 6, .inl f_course_bad))] := hD
        refine W.widen (k := 0) (n := 0) (Nat.le_of_ble_eq_true rfl) (Nat.le_of_ble_eq_true rfl) ?_
        exact ret_i (v := r15) hx hb hr hlocks hS (hP.sub (ws' := [(h0, .inr (9, vL 19 Fh)), (h_plan, .inr (5, vL 11 F_plan_)), (h_plan_crew, .inl (cI, 4, .inl f_plan_crew)), (h_plan_yard, .inl (cI, 4, .inl f_plan_yard)), (h_plan_high, .inl (cI, 12, .inl f_plan_high)), (h_course, .inr (1, vL 18 F_course_)), (h_course_settings, .inl (cI, 5, .inl f_course_settings)), (h_course_manName, .inl (cJ, 12, .inr (.inl f_course_manName))), (h_course_push, .inl (cI, 12, .inl f_course_push)), (h_course_feet, .inl (cI, 12, .inl f_course_feet)), (h_course_weight, .inl (cI, 12, .inl f_course_weight)), (h_course_length, .inl (cI, 12, .inl f_course_length)), (h_course_drop, .inl (cI, 12, .inl f_course_drop)), (h_course_ideal, .inl (cI, 12, .inl f_course_ideal)), (h_course_over, .inl (cI, 12, .inl f_course_over)), (h_course_runnerName, .inl (cJ, 6, .inr (.inl f_course_runnerName))), (h_course_bestAt, .inl (cI, 6, .inl f_course_bestAt)), (h_course_bad, .inl (cI, 6, .inl f_course_bad))]) [0, 1, 2, 3, 4, 14, 15, 5, 6, 7, 8, 9, 10, 11, 12, 13, 16, 17] rfl) (hD.sub (ws' := [(h0, .inr (9, vL 19 Fh)), (h_plan, .inr (5, vL 11 F_plan_)), (h_plan_crew, .inl (cI, 4, .inl f_plan_crew)), (h_plan_yard, .inl (cI, 4, .inl f_plan_yard)), (h_plan_high, .inl (cI, 12, .inl f_plan_high)), (h_course, .inr (1, vL 18 F_course_)), (h_course_settings, .inl (cI, 5, .inl f_course_settings)), (h_course_manName, .inl (cJ, 12, .inr (.inl f_course_manName))), (h_course_push, .inl (cI, 12, .inl f_course_push)), (h_course_feet, .inl (cI, 12, .inl f_course_feet)), (h_course_weight, .inl (cI, 12, .inl f_course_weight)), (h_course_length, .inl (cI, 12, .inl f_course_length)), (h_course_drop, .inl (cI, 12, .inl f_course_drop)), (h_course_ideal, .inl (cI, 12, .inl f_course_ideal)), (h_course_over, .inl (cI, 12, .inl f_course_over)), (h_course_runnerName, .inl (cJ, 6, .inr (.inl f_course_runnerName))), (h_course_bestAt, .inl (cI, 6, .inl f_course_bestAt)), (h_course_bad, .inl (cI, 6, .inl f_course_bad))]) [0, 1, 2, 3, 4, 14, 15, 5, 6, 7, 8, 9, 10, 11, 12, 13, 16, 17] (by decide +kernel) rfl) dX9_runner_79 rfl (Nat.le_of_ble_eq_true rfl) (Nat.le_of_ble_eq_true rfl) rfl
      have dk7 : p1.toInt ≠ 0 := ne_i rfl rfl k7
      have dk10 : p1.toInt ≠ 1 := ne_i rfl rfl k10
      have dk13 : p1.toInt ≠ 2 := ne_i rfl rfl k13
      refine lv_tableOut (tgt := 80) hx hb dX9_runner_18 (by omega) (by decide) ?_
      refine lv_iconst (v := (-1)) hx hb dX9_runner_80 (by decide) ?_
      exact ret_i (v := (-1)) hx hb hr hlocks hS hP hD dX9_runner_81 rfl (Nat.le_of_ble_eq_true rfl) (Nat.le_of_ble_eq_true rfl) rfl
    · have dc4 : x_course_runners.toInt ≤ p0.toInt := nlt_i (a := p0.toInt) (b := x_course_runners.toInt) rfl rfl c4
      refine lv_iconst (v := (-1)) hx hb dX9_runner_15 (by decide) ?_
      exact ret_i (v := (-1)) hx hb hr hlocks hS hP hD dX9_runner_16 rfl (Nat.le_of_ble_eq_true rfl) (Nat.le_of_ble_eq_true rfl) rfl
set_option maxHeartbeats 4000000 in
set_option maxRecDepth 100000 in
theorem m_X9_count (l : Launch) (D : va_G) (cI cJ cB cP cM cZ : ClassId) (h0 : Nat) (h_tape : Nat) (h_tape_bytes : Nat) (h_tape_wordNames : Nat) (h_plan : Nat) (h_plan_crew : Nat) (h_plan_yard : Nat) (h_plan_high : Nat) (h_course : Nat) (h_course_settings : Nat) (h_course_manName : Nat) (h_course_push : Nat) (h_course_feet : Nat) (h_course_weight : Nat) (h_course_length : Nat) (h_course_drop : Nat) (h_course_ideal : Nat) (h_course_over : Nat) (h_course_runnerName : Nat) (h_course_bestAt : Nat) (h_course_bad : Nat) (Fh : Nat → Value) (F_tape_ : Nat → Value) (x_tape_length : Int32) (f_tape_bytes : Nat → Int32) (f_tape_wordNames : Nat → Int64) (F_plan_ : Nat → Value) (x_plan_crewed : Int32) (x_plan_lead : Int32) (x_plan_runner : Int32) (x_plan_number : Int32) (f_plan_crew : Nat → Int32) (f_plan_yard : Nat → Int32) (f_plan_high : Nat → Int32) (F_course_ : Nat → Value) (x_course_men : Int32) (x_course_bends : Int32) (x_course_runners : Int32) (f_course_settings : Nat → Int32) (f_course_manName : Nat → Int64) (f_course_push : Nat → Int32) (f_course_feet : Nat → Int32) (f_course_weight : Nat → Int32) (f_course_length : Nat → Int32) (f_course_drop : Nat → Int32) (f_course_ideal : Nat → Int32) (f_course_over : Nat → Int32) (f_course_runnerName : Nat → Int64) (f_course_bestAt : Nat → Int32) (f_course_bad : Nat → Int32) (p0 : Int32) (sz : Nat) (e_tape : Fh 0 = .ref h_tape) (e_plan : Fh 1 = .ref h_plan) (e_course : Fh 10 = .ref h_course) (e_tape_bytes : F_tape_ 0 = .ref h_tape_bytes) (e_tape_length : F_tape_ 1 = .int x_tape_length) (i_x_tape_length : IR 0 940 x_tape_length) (e_tape_wordNames : F_tape_ 9 = .ref h_tape_wordNames) (s_tape_bytes_0 : SG 0 939 (-128) 127 f_tape_bytes) (s_tape_wordNames_KN : KWN f_tape_wordNames) (e_plan_crew : F_plan_ 0 = .ref h_plan_crew) (e_plan_yard : F_plan_ 1 = .ref h_plan_yard) (e_plan_high : F_plan_ 2 = .ref h_plan_high) (e_plan_crewed : F_plan_ 3 = .int x_plan_crewed) (i_x_plan_crewed : IR 0 1 x_plan_crewed) (e_plan_lead : F_plan_ 4 = .int x_plan_lead) (e_plan_runner : F_plan_ 5 = .int x_plan_runner) (e_plan_number : F_plan_ 6 = .int x_plan_number) (s_plan_crew_0 : SG 0 3 0 11 f_plan_crew) (e_course_settings : F_course_ 1 = .ref h_course_settings) (e_course_manName : F_course_ 2 = .ref h_course_manName) (e_course_push : F_course_ 3 = .ref h_course_push) (e_course_feet : F_course_ 4 = .ref h_course_feet) (e_course_weight : F_course_ 5 = .ref h_course_weight) (e_course_length : F_course_ 6 = .ref h_course_length) (e_course_drop : F_course_ 7 = .ref h_course_drop) (e_course_ideal : F_course_ 8 = .ref h_course_ideal) (e_course_over : F_course_ 9 = .ref h_course_over) (e_course_runnerName : F_course_ 10 = .ref h_course_runnerName) (e_course_bestAt : F_course_ 11 = .ref h_course_bestAt) (e_course_bad : F_course_ 12 = .ref h_course_bad) (e_course_men : F_course_ 13 = .int x_course_men) (i_x_course_men : IR 0 12 x_course_men) (e_course_bends : F_course_ 14 = .int x_course_bends) (i_x_course_bends : IR 0 12 x_course_bends) (e_course_runners : F_course_ 15 = .int x_course_runners) (i_x_course_runners : IR 0 6 x_course_runners) (s_course_settings_0 : SG 0 0 5 40 f_course_settings) : CI l yX9_count cX9_count 2 (some .int) { frames := 0, cells := 0, slots := 0, locals := 0 } (GG D cI cJ cB cP cM cZ) D [(h0, .inr (9, vL 19 Fh)), (h_tape, .inr (6, vL 12 F_tape_)), (h_tape_bytes, .inl (cB, 940, .inl f_tape_bytes)), (h_tape_wordNames, .inl (cJ, 23, .inr (.inl f_tape_wordNames))), (h_plan, .inr (5, vL 11 F_plan_)), (h_plan_crew, .inl (cI, 4, .inl f_plan_crew)), (h_plan_yard, .inl (cI, 4, .inl f_plan_yard)), (h_plan_high, .inl (cI, 12, .inl f_plan_high)), (h_course, .inr (1, vL 18 F_course_)), (h_course_settings, .inl (cI, 5, .inl f_course_settings)), (h_course_manName, .inl (cJ, 12, .inr (.inl f_course_manName))), (h_course_push, .inl (cI, 12, .inl f_course_push)), (h_course_feet, .inl (cI, 12, .inl f_course_feet)), (h_course_weight, .inl (cI, 12, .inl f_course_weight)), (h_course_length, .inl (cI, 12, .inl f_course_length)), (h_course_drop, .inl (cI, 12, .inl f_course_drop)), (h_course_ideal, .inl (cI, 12, .inl f_course_ideal)), (h_course_over, .inl (cI, 12, .inl f_course_over)), (h_course_runnerName, .inl (cJ, 6, .inr (.inl f_course_runnerName))), (h_course_bestAt, .inl (cI, 6, .inl f_course_bestAt)), (h_course_bad, .inl (cI, 6, .inl f_course_bad))] sz [.ref h0, .int p0] (fun (r : Int32) (u : va_W) => u = [(h0, .inr (9, vL 19 Fh)), (h_tape, .inr (6, vL 12 F_tape_)), (h_tape_bytes, .inl (cB, 940, .inl f_tape_bytes)), (h_tape_wordNames, .inl (cJ, 23, .inr (.inl f_tape_wordNames))), (h_plan, .inr (5, vL 11 F_plan_)), (h_plan_crew, .inl (cI, 4, .inl f_plan_crew)), (h_plan_yard, .inl (cI, 4, .inl f_plan_yard)), (h_plan_high, .inl (cI, 12, .inl f_plan_high)), (h_course, .inr (1, vL 18 F_course_)), (h_course_settings, .inl (cI, 5, .inl f_course_settings)), (h_course_manName, .inl (cJ, 12, .inr (.inl f_course_manName))), (h_course_push, .inl (cI, 12, .inl f_course_push)), (h_course_feet, .inl (cI, 12, .inl f_course_feet)), (h_course_weight, .inl (cI, 12, .inl f_course_weight)), (h_course_length, .inl (cI, 12, .inl f_course_length)), (h_course_drop, .inl (cI, 12, .inl f_course_drop)), (h_course_ideal, .inl (cI, 12, .inl f_course_ideal)), (h_course_over, .inl (cI, 12, .inl f_course_over)), (h_course_runnerName, .inl (cJ, 6, .inr (.inl f_course_runnerName))), (h_course_bestAt, .inl (cI, 6, .inl f_course_bestAt)), (h_course_bad, .inl (cI, 6, .inl f_course_bad))]) := by
  refine CI_mk (by decide) (Nat.le_of_ble_eq_true rfl) ?_
  intro p e s m below meth c A ls E hAe hG hsz hP hD hA hS hl
  obtain ⟨hx, hb, hr, hw, hown, hlocks, hml, hnm⟩ := E
  have hK := hG.1
  have i_x_tape_length : 0 ≤ x_tape_length.toInt ∧ x_tape_length.toInt ≤ 940 := i_x_tape_length
  have i_x_plan_crewed : 0 ≤ x_plan_crewed.toInt ∧ x_plan_crewed.toInt ≤ 1 := i_x_plan_crewed
  have i_x_course_men : 0 ≤ x_course_men.toInt ∧ x_course_men.toInt ≤ 12 := i_x_course_men
  have i_x_course_bends : 0 ≤ x_course_bends.toInt ∧ x_course_bends.toInt ≤ 12 := i_x_course_bends
  have i_x_course_runners : 0 ≤ x_course_runners.toInt ∧ x_course_runners.toInt ≤ 6 := i_x_course_runners
  have hl : lv_has ls 2 [(0, .ref h0), (1, .int p0)] := hl
  refine lv_iload_n hx hb dX9_count_0 rfl (lv_at hl 1 rfl) ?_
  refine lv_if_lt (tgt := 19) hx hb dX9_count_1 (by decide) (fun c1 => ?_) (fun c1 => ?_)
  · have dc1 : p0.toInt < 0 := lt_i (a := p0.toInt) (b := 0) rfl rfl c1
    have k2 : (-2147483648) ≤ p0.toInt ∧ p0.toInt ≤ (-1) := ⟨(ir_any _).1, up_lt dc1 (Int.le_refl _) (by decide)⟩
    refine lv_iload_n hx hb dX9_count_19 rfl (lv_at hl 1 rfl) ?_
    refine lv_tableOut (tgt := 140) hx hb dX9_count_20 (by omega) (by decide) ?_
    refine lv_iconst (v := (-1)) hx hb dX9_count_140 (by decide) ?_
    exact ret_i (v := (-1)) hx hb hr hlocks hS hP hD dX9_count_141 rfl (Nat.le_of_ble_eq_true rfl) (Nat.le_of_ble_eq_true rfl) rfl
  · have dc1 : 0 ≤ p0.toInt := nlt_i (a := p0.toInt) (b := 0) rfl rfl c1
    have k3 : 0 ≤ p0.toInt ∧ p0.toInt ≤ 2147483647 := ⟨Int.le_trans (Int.le_refl _) dc1, (ir_any _).2⟩
    refine lv_iload_n hx hb dX9_count_4 rfl (lv_at hl 1 rfl) ?_
    refine lv_iconst (v := 5) hx hb dX9_count_5 (by decide) ?_
    refine lv_icmp_ge (tgt := 19) hx hb dX9_count_6 (by decide) (fun c4 => ?_) (fun c4 => ?_)
    · have dc4 : 5 ≤ p0.toInt := le_i (a := 5) (b := p0.toInt) rfl rfl c4
      have k5 : 5 ≤ p0.toInt ∧ p0.toInt ≤ 2147483647 := ⟨Int.le_trans (Int.le_refl _) dc4, k3.2⟩
      refine lv_iload_n hx hb dX9_count_19 rfl (lv_at hl 1 rfl) ?_
      by_cases k6 : p0 = 5
      · have dk6 : p0.toInt = 5 := eq_i rfl rfl k6
        have k7 : 5 ≤ p0.toInt ∧ p0.toInt ≤ 5 := ⟨k5.1, Int.le_trans (Int.le_of_eq dk6) (Int.le_refl _)⟩
        refine lv_ci (y := 5) k6 ?_
        refine lv_tableIn (tgt := 68) (off := 48) hx hb dX9_count_20 (by decide) (by decide) (by decide) (by decide) ?_
        refine lv_aload_n hx hb dX9_count_68 rfl (lv_at hl 0 rfl) ?_
        refine get_f (D := D) (ci := 9) (v := .ref h_course) (C := RX9) (T := TX9) (N := 19) hx hb hw inAX9 hown hK hP 0 rfl rfl 10 (by decide) (hw _ q_450) (fun _ h9 => h9) e_course dX9_count_69 ?_
        refine get_f (D := D) (ci := 1) (v := .int x_course_men) (C := RX1) (T := TX1) (N := 18) hx hb hw inAX1 hown hK hP 8 rfl rfl 13 (by decide) (hw _ q_353) (fun _ h9 => h9) e_course_men dX9_count_72 ?_
        exact ret_i (v := x_course_men) hx hb hr hlocks hS hP hD dX9_count_75 rfl (Nat.le_of_ble_eq_true rfl) (Nat.le_of_ble_eq_true rfl) rfl
      by_cases k8 : p0 = 6
      · have dk8 : p0.toInt = 6 := eq_i rfl rfl k8
        have k9 : 6 ≤ p0.toInt ∧ p0.toInt ≤ 6 := ⟨Int.le_trans (Int.le_refl _) (Int.le_of_eq dk8.symm), Int.le_trans (Int.le_of_eq dk8) (Int.le_refl _)⟩
        refine lv_ci (y := 6) k8 ?_
        refine lv_tableIn (tgt := 76) (off := 56) hx hb dX9_count_20 (by decide) (by decide) (by decide) (by decide) ?_
        refine lv_aload_n hx hb dX9_count_76 rfl (lv_at hl 0 rfl) ?_
        refine get_f (D := D) (ci := 9) (v := .ref h_course) (C := RX9) (T := TX9) (N := 19) hx hb hw inAX9 hown hK hP 0 rfl rfl 10 (by decide) (hw _ q_450) (fun _ h9 => h9) e_course dX9_count_77 ?_
        refine get_f (D := D) (ci := 1) (v := .int x_course_bends) (C := RX1) (T := TX1) (N := 18) hx hb hw inAX1 hown hK hP 8 rfl rfl 14 (by decide) (hw _ q_356) (fun _ h9 => h9) e_course_bends dX9_count_80 ?_
        exact ret_i (v := x_course_bends) hx hb hr hlocks hS hP hD dX9_count_83 rfl (Nat.le_of_ble_eq_true rfl) (Nat.le_of_ble_eq_true rfl) rfl
      by_cases k10 : p0 = 7
      · have dk10 : p0.toInt = 7 := eq_i rfl rfl k10
        have k11 : 7 ≤ p0.toInt ∧ p0.toInt ≤ 7 := ⟨Int.le_trans (Int.le_refl _) (Int.le_of_eq dk10.symm), Int.le_trans (Int.le_of_eq dk10) (Int.le_refl _)⟩
        refine lv_ci (y := 7) k10 ?_
        refine lv_tableIn (tgt := 84) (off := 64) hx hb dX9_count_20 (by decide) (by decide) (by decide) (by decide) ?_
        refine lv_aload_n hx hb dX9_count_84 rfl (lv_at hl 0 rfl) ?_
        refine get_f (D := D) (ci := 9) (v := .ref h_course) (C := RX9) (T := TX9) (N := 19) hx hb hw inAX9 hown hK hP 0 rfl rfl 10 (by decide) (hw _ q_450) (fun _ h9 => h9) e_course dX9_count_85 ?_
        refine get_f (D := D) (ci := 1) (v := .int x_course_runners) (C := RX1) (T := TX1) (N := 18) hx hb hw inAX1 hown hK hP 8 rfl rfl 15 (by decide) (hw _ q_361) (fun _ h9 => h9) e_course_runners dX9_count_88 ?_
        exact ret_i (v := x_course_runners) hx hb hr hlocks hS hP hD dX9_count_91 rfl (Nat.le_of_ble_eq_true rfl) (Nat.le_of_ble_eq_true rfl) rfl
      by_cases k12 : p0 = 8
      · have dk12 : p0.toInt = 8 := eq_i rfl rfl k12
        have k13 : 8 ≤ p0.toInt ∧ p0.toInt ≤ 8 := ⟨Int.le_trans (Int.le_refl _) (Int.le_of_eq dk12.symm), Int.le_trans (Int.le_of_eq dk12) (Int.le_refl _)⟩
        refine lv_ci (y := 8) k12 ?_
        refine lv_tableIn (tgt := 92) (off := 72) hx hb dX9_count_20 (by decide) (by decide) (by decide) (by decide) ?_
        refine lv_aload_n hx hb dX9_count_92 rfl (lv_at hl 0 rfl) ?_
        refine get_f (D := D) (ci := 9) (v := .ref h_plan) (C := RX9) (T := TX9) (N := 19) hx hb hw inAX9 hown hK hP 0 rfl rfl 1 (by decide) (hw _ q_441) (fun _ h9 => h9) e_plan dX9_count_93 ?_
        refine get_f (D := D) (ci := 5) (v := .int x_plan_lead) (C := RX5) (T := TX5) (N := 11) hx hb hw inAX5 hown hK hP 4 rfl rfl 4 (by decide) (hw _ q_163) (fun _ h9 => h9) e_plan_lead dX9_count_96 ?_
        exact ret_i (v := x_plan_lead) hx hb hr hlocks hS hP hD dX9_count_99 rfl (Nat.le_of_ble_eq_true rfl) (Nat.le_of_ble_eq_true rfl) rfl
      by_cases k14 : p0 = 9
      · have dk14 : p0.toInt = 9 := eq_i rfl rfl k14
        have k15 : 9 ≤ p0.toInt ∧ p0.toInt ≤ 9 := ⟨Int.le_trans (Int.le_refl _) (Int.le_of_eq dk14.symm), Int.le_trans (Int.le_of_eq dk14) (Int.le_refl _)⟩
        refine lv_ci (y := 9) k14 ?_
        refine lv_tableIn (tgt := 100) (off := 80) hx hb dX9_count_20 (by decide) (by decide) (by decide) (by decide) ?_
        refine lv_aload_n hx hb dX9_count_100 rfl (lv_at hl 0 rfl) ?_
        refine get_f (D := D) (ci := 9) (v := .ref h_plan) (C := RX9) (T := TX9) (N := 19) hx hb hw inAX9 hown hK hP 0 rfl rfl 1 (by decide) (hw _ q_441) (fun _ h9 => h9) e_plan dX9_count_101 ?_
        refine get_f (D := D) (ci := 5) (v := .int x_plan_runner) (C := RX5) (T := TX5) (N := 11) hx hb hw inAX5 hown hK hP 4 rfl rfl 5 (by decide) (hw _ q_166) (fun _ h9 => h9) e_plan_runner dX9_count_104 ?_
        exact ret_i (v := x_plan_runner) hx hb hr hlocks hS hP hD dX9_count_107 rfl (Nat.le_of_ble_eq_true rfl) (Nat.le_of_ble_eq_true rfl) rfl
      by_cases k16 : p0 = 10
      · have dk16 : p0.toInt = 10 := eq_i rfl rfl k16
        have k17 : 10 ≤ p0.toInt ∧ p0.toInt ≤ 10 := ⟨Int.le_trans (Int.le_refl _) (Int.le_of_eq dk16.symm), Int.le_trans (Int.le_of_eq dk16) (Int.le_refl _)⟩
        refine lv_ci (y := 10) k16 ?_
        refine lv_tableIn (tgt := 108) (off := 88) hx hb dX9_count_20 (by decide) (by decide) (by decide) (by decide) ?_
        refine lv_aload_n hx hb dX9_count_108 rfl (lv_at hl 0 rfl) ?_
        refine get_f (D := D) (ci := 9) (v := .ref h_plan) (C := RX9) (T := TX9) (N := 19) hx hb hw inAX9 hown hK hP 0 rfl rfl 1 (by decide) (hw _ q_441) (fun _ h9 => h9) e_plan dX9_count_109 ?_
        refine get_f (D := D) (ci := 5) (v := .int x_plan_number) (C := RX5) (T := TX5) (N := 11) hx hb hw inAX5 hown hK hP 4 rfl rfl 6 (by decide) (hw _ q_169) (fun _ h9 => h9) e_plan_number dX9_count_112 ?_
        exact ret_i (v := x_plan_number) hx hb hr hlocks hS hP hD dX9_count_115 rfl (Nat.le_of_ble_eq_true rfl) (Nat.le_of_ble_eq_true rfl) rfl
      by_cases k18 : p0 = 11
      · have dk18 : p0.toInt = 11 := eq_i rfl rfl k18
        have k19 : 11 ≤ p0.toInt ∧ p0.toInt ≤ 11 := ⟨Int.le_trans (Int.le_refl _) (Int.le_of_eq dk18.symm), Int.le_trans (Int.le_of_eq dk18) (Int.le_refl _)⟩
        refine lv_ci (y := 11) k18 ?_
        refine lv_tableIn (tgt := 116) (off := 96) hx hb dX9_count_20 (by decide) (by decide) (by decide) (by decide) ?_
        refine lv_aload_n hx hb dX9_count_116 rfl (lv_at hl 0 rfl) ?_
        refine get_f (D := D) (ci := 9) (v := .ref h_plan) (C := RX9) (T := TX9) (N := 19) hx hb hw inAX9 hown hK hP 0 rfl rfl 1 (by decide) (hw _ q_441) (fun _ h9 => h9) e_plan dX9_count_117 ?_
        refine get_f (D := D) (ci := 5) (v := .int x_plan_crewed) (C := RX5) (T := TX5) (N := 11) hx hb hw inAX5 hown hK hP 4 rfl rfl 3 (by decide) (hw _ q_159) (fun _ h9 => h9) e_plan_crewed dX9_count_120 ?_
        refine lv_if_eq (tgt := 130) hx hb dX9_count_123 (by decide) (fun c20 => ?_) (fun c20 => ?_)
        · have dc20 : x_plan_crewed.toInt = 0 := eq_i (a := x_plan_crewed.toInt) (b := 0) rfl rfl c20
          have k21 : 0 ≤ x_plan_crewed.toInt ∧ x_plan_crewed.toInt ≤ 0 := ⟨i_x_plan_crewed.1, Int.le_trans (Int.le_of_eq dc20) (Int.le_refl _)⟩
          refine lv_iconst (v := 0) hx hb dX9_count_130 (by decide) ?_
          exact ret_i (v := 0) hx hb hr hlocks hS hP hD dX9_count_131 rfl (Nat.le_of_ble_eq_true rfl) (Nat.le_of_ble_eq_true rfl) rfl
        · have dc20 : x_plan_crewed.toInt ≠ 0 := ne_i (a := x_plan_crewed.toInt) (b := 0) rfl rfl c20
          have k22 : 1 ≤ x_plan_crewed.toInt ∧ x_plan_crewed.toInt ≤ 1 := ⟨ne_lo dc20 i_x_plan_crewed.1 ⟨Int.le_refl _, Int.le_refl _⟩ (by decide), i_x_plan_crewed.2⟩
          refine lv_iconst (v := 1) hx hb dX9_count_126 (by decide) ?_
          refine lv_goto (tgt := 131) hx hb dX9_count_127 (by decide) ?_
          exact ret_i (v := 1) hx hb hr hlocks hS hP hD dX9_count_131 rfl (Nat.le_of_ble_eq_true rfl) (Nat.le_of_ble_eq_true rfl) rfl
      by_cases k23 : p0 = 12
      · have dk23 : p0.toInt = 12 := eq_i rfl rfl k23
        have k24 : 12 ≤ p0.toInt ∧ p0.toInt ≤ 12 := ⟨Int.le_trans (Int.le_refl _) (Int.le_of_eq dk23.symm), Int.le_trans (Int.le_of_eq dk23) (Int.le_refl _)⟩
        refine lv_ci (y := 12) k23 ?_
        refine lv_tableIn (tgt := 132) (off := 112) hx hb dX9_count_20 (by decide) (by decide) (by decide) (by decide) ?_
        refine lv_aload_n hx hb dX9_count_132 rfl (lv_at hl 0 rfl) ?_
        refine get_f (D := D) (ci := 9) (v := .ref h_tape) (C := RX9) (T := TX9) (N := 19) hx hb hw inAX9 hown hK hP 0 rfl rfl 0 (by decide) (hw _ q_440) (fun _ h9 => h9) e_tape dX9_count_133 ?_
        refine get_f (D := D) (ci := 6) (v := .int x_tape_length) (C := RX6) (T := TX6) (N := 12) hx hb hw inAX6 hown hK hP 1 rfl rfl 1 (by decide) (hw _ q_91) (fun _ h9 => h9) e_tape_length dX9_count_136 ?_
        exact ret_i (v := x_tape_length) hx hb hr hlocks hS hP hD dX9_count_139 rfl (Nat.le_of_ble_eq_true rfl) (Nat.le_of_ble_eq_true rfl) rfl
      have dk6 : p0.toInt ≠ 5 := ne_i rfl rfl k6
      have k25 : 6 ≤ p0.toInt ∧ p0.toInt ≤ 2147483647 := ⟨ne_lo dk6 k5.1 ⟨Int.le_refl _, Int.le_refl _⟩ (by decide), k5.2⟩
      have dk8 : p0.toInt ≠ 6 := ne_i rfl rfl k8
      have k26 : 7 ≤ p0.toInt ∧ p0.toInt ≤ 2147483647 := ⟨ne_lo dk8 k25.1 ⟨Int.le_refl _, Int.le_refl _⟩ (by decide), k25.2⟩
      have dk10 : p0.toInt ≠ 7 := ne_i rfl rfl k10
      have k27 : 8 ≤ p0.toInt ∧ p0.toInt ≤ 2147483647 := ⟨ne_lo dk10 k26.1 ⟨Int.le_refl _, Int.le_refl _⟩ (by decide), k26.2⟩
      have dk12 : p0.toInt ≠ 8 := ne_i rfl rfl k12
      have k28 : 9 ≤ p0.toInt ∧ p0.toInt ≤ 2147483647 := ⟨ne_lo dk12 k27.1 ⟨Int.le_refl _, Int.le_refl _⟩ (by decide), k27.2⟩
      have dk14 : p0.toInt ≠ 9 := ne_i rfl rfl k14
      have k29 : 10 ≤ p0.toInt ∧ p0.toInt ≤ 2147483647 := ⟨ne_lo dk14 k28.1 ⟨Int.le_refl _, Int.le_refl _⟩ (by decide), k28.2⟩
      have dk16 : p0.toInt ≠ 10 := ne_i rfl rfl k16
      have k30 : 11 ≤ p0.toInt ∧ p0.toInt ≤ 2147483647 := ⟨ne_lo dk16 k29.1 ⟨Int.le_refl _, Int.le_refl _⟩ (by decide), k29.2⟩
      have dk18 : p0.toInt ≠ 11 := ne_i rfl rfl k18
      have k31 : 12 ≤ p0.toInt ∧ p0.toInt ≤ 2147483647 := ⟨ne_lo dk18 k30.1 ⟨Int.le_refl _, Int.le_refl _⟩ (by decide), k30.2⟩
      have dk23 : p0.toInt ≠ 12 := ne_i rfl rfl k23
      have k32 : 13 ≤ p0.toInt ∧ p0.toInt ≤ 2147483647 := ⟨ne_lo dk23 k31.1 ⟨Int.le_refl _, Int.le_refl _⟩ (by decide), k31.2⟩
      refine lv_tableOut (tgt := 140) hx hb dX9_count_20 (by omega) (by decide) ?_
      refine lv_iconst (v := (-1)) hx hb dX9_count_140 (by decide) ?_
      exact ret_i (v := (-1)) hx hb hr hlocks hS hP hD dX9_count_141 rfl (Nat.le_of_ble_eq_true rfl) (Nat.le_of_ble_eq_true rfl) rfl
    · have dc4 : p0.toInt < 5 := nle_i (a := 5) (b := p0.toInt) rfl rfl c4
      have k33 : 0 ≤ p0.toInt ∧ p0.toInt ≤ 4 := ⟨k3.1, up_lt dc4 (Int.le_refl _) (by decide)⟩
      refine lv_aload_n hx hb dX9_count_9 rfl (lv_at hl 0 rfl) ?_
      refine get_f (D := D) (ci := 9) (v := .ref h_course) (C := RX9) (T := TX9) (N := 19) hx hb hw inAX9 hown hK hP 0 rfl rfl 10 (by decide) (hw _ q_450) (fun _ h9 => h9) e_course dX9_count_10 ?_
      refine get_f (D := D) (ci := 1) (v := .ref h_course_settings) (C := RX1) (T := TX1) (N := 18) hx hb hw inAX1 hown hK hP 8 rfl rfl 1 (by decide) (hw _ q_319) (fun _ h9 => h9) e_course_settings dX9_count_13 ?_
      refine lv_iload_n hx hb dX9_count_16 rfl (lv_at hl 1 rfl) ?_
      refine va_iald hx hb hK hP 9 0 rfl rfl (ix_k k33 (by decide) (by decide)) dX9_count_17 ?_
      refine lv_topi (fun v34 ev34 => ?_)
      have r35 : IMP (0 ≤ p0.toInt → p0.toInt ≤ 0 → 5 ≤ v34.toInt ∧ v34.toInt ≤ 40) := IMP.mk (fun q1 q2 => by rw [ev34]; exact s_course_settings_0.at _ q1 q2)
      exact ret_i (v := v34) hx hb hr hlocks hS hP hD dX9_count_18 rfl (Nat.le_of_ble_eq_true rfl) (Nat.le_of_ble_eq_true rfl) rfl
set_option maxHeartbeats 4000000 in
set_option maxRecDepth 100000 in
theorem m_X7_pushed (l : Launch) (D : va_G) (cI cJ cB cP cM cZ : ClassId) (h0 : Nat) (p0 : Nat) (h_p0_push : Nat) (h_p0_feet : Nat) (p1 : Nat) (h_p1_crew : Nat) (Fh : Nat → Value) (x_in : Int32) (x_late : Int32) (F_p0_ : Nat → Value) (f_p0_push : Nat → Int32) (f_p0_feet : Nat → Int32) (F_p1_ : Nat → Value) (f_p1_crew : Nat → Int32) (p2 : Int32) (sz : Nat) (e_in : Fh 5 = .int x_in) (e_late : Fh 6 = .int x_late) (e_p0_push : F_p0_ 3 = .ref h_p0_push) (e_p0_feet : F_p0_ 4 = .ref h_p0_feet) (e_p1_crew : F_p1_ 0 = .ref h_p1_crew) (s_p1_crew_0 : SG 0 3 0 11 f_p1_crew) : CI l yX7_pushed cX7_pushed 7 (some .int) { frames := 0, cells := 0, slots := 0, locals := 0 } (GG D cI cJ cB cP cM cZ) D [(h0, .inr (7, vL 18 Fh)), (p0, .inr (1, vL 18 F_p0_)), (h_p0_push, .inl (cI, 12, .inl f_p0_push)), (h_p0_feet, .inl (cI, 12, .inl f_p0_feet)), (p1, .inr (5, vL 11 F_p1_)), (h_p1_crew, .inl (cI, 4, .inl f_p1_crew))] sz [.ref h0, .ref p0, .ref p1, .int p2] (fun (r : Int32) (u : va_W) => u = [(h0, .inr (7, vL 18 Fh)), (p0, .inr (1, vL 18 F_p0_)), (h_p0_push, .inl (cI, 12, .inl f_p0_push)), (h_p0_feet, .inl (cI, 12, .inl f_p0_feet)), (p1, .inr (5, vL 11 F_p1_)), (h_p1_crew, .inl (cI, 4, .inl f_p1_crew))]) := by
  refine CI_mk (by decide) (Nat.le_of_ble_eq_true rfl) ?_
  intro p e s m below meth c A ls E hAe hG hsz hP hD hA hS hl
  obtain ⟨hx, hb, hr, hw, hown, hlocks, hml, hnm⟩ := E
  have hK := hG.1
  have hl : lv_has ls 7 [(0, .ref h0), (1, .ref p0), (2, .ref p1), (3, .int p2)] := hl
  refine lv_iconst (v := 0) hx hb dX7_pushed_0 (by decide) ?_
  refine lv_istore (lv' := [(4, .int 0), (0, .ref h0), (1, .ref p0), (2, .ref p1), (3, .int p2)]) hx hb dX7_pushed_1 hl (by decide) rfl (fun ls hl => ?_)
  refine lv_iconst (v := 0) hx hb dX7_pushed_3 (by decide) ?_
  refine lv_istore (lv' := [(5, .int 0), (4, .int 0), (0, .ref h0), (1, .ref p0), (2, .ref p1), (3, .int p2)]) hx hb dX7_pushed_4 hl (by decide) rfl (fun ls hl => ?_)
  refine mloop (α := (Int32) × (Int32)) (nL := 7) (D := D) (A := A) (H0 := s.heap) (fun a => (4 - a.1.toInt).toNat) (fun a => IR 0 4 a.1) (fun a => [(h0, .inr (7, vL 18 Fh)), (p0, .inr (1, vL 18 F_p0_)), (h_p0_push, .inl (cI, 12, .inl f_p0_push)), (h_p0_feet, .inl (cI, 12, .inl f_p0_feet)), (p1, .inr (5, vL 11 F_p1_)), (h_p1_crew, .inl (cI, 4, .inl f_p1_crew))]) (fun a => [(5, .int a.1), (4, .int a.2), (0, .ref h0), (1, .ref p0), (2, .ref p1), (3, .int p2)]) (fun H locs ls => W p l e ({ frames := 0, cells := 0, slots := 0, locals := 0 } : Room) s m [.ref h0, .ref p0, .ref p1, .int p2].toArray below meth c H locs 0 0 (MQ below (va_Qi (fun (r : Int32) (u : va_W) => u = [(h0, .inr (7, vL 18 Fh)), (p0, .inr (1, vL 18 F_p0_)), (h_p0_push, .inl (cI, 12, .inl f_p0_push)), (h_p0_feet, .inl (cI, 12, .inl f_p0_feet)), (p1, .inr (5, vL 11 F_p1_)), (h_p1_crew, .inl (cI, 4, .inl f_p1_crew))]) (PO D A) A) [.ref h0, .ref p0, .ref p1, .int p2].toArray s 0 0 A) (F0 m 6 ls [])) ?_ (0, 0) (show 0 ≤ (0 : Int32).toInt ∧ (0 : Int32).toInt ≤ 4 by decide) _ _ _ hP hD hS hl
  rintro ⟨u1, u2⟩ i3 ih H locs ls hP hD hS hl
  have i3 : 0 ≤ u1.toInt ∧ u1.toInt ≤ 4 := i3
  have hP : va_P D vwCl [(h0, .inr (7, vL 18 Fh)), (p0, .inr (1, vL 18 F_p0_)), (h_p0_push, .inl (cI, 12, .inl f_p0_push)), (h_p0_feet, .inl (cI, 12, .inl f_p0_feet)), (p1, .inr (5, vL 11 F_p1_)), (h_p1_crew, .inl (cI, 4, .inl f_p1_crew))] H := hP
  have hD : va_D A [(h0, .inr (7, vL 18 Fh)), (p0, .inr (1, vL 18 F_p0_)), (h_p0_push, .inl (cI, 12, .inl f_p0_push)), (h_p0_feet, .inl (cI, 12, .inl f_p0_feet)), (p1, .inr (5, vL 11 F_p1_)), (h_p1_crew, .inl (cI, 4, .inl f_p1_crew))] := hD
  have hl : lv_has ls 7 [(5, .int u1), (4, .int u2), (0, .ref h0), (1, .ref p0), (2, .ref p1), (3, .int p2)] := hl
  refine lv_iload hx hb dX7_pushed_6 (lv_at hl 0 rfl) ?_
  refine lv_iconst (v := 4) hx hb dX7_pushed_8 (by decide) ?_
  refine lv_icmp_ge (tgt := 70) hx hb dX7_pushed_9 (by decide) (fun c4 => ?_) (fun c4 => ?_)
  · have dc4 : 4 ≤ u1.toInt := le_i (a := 4) (b := u1.toInt) rfl rfl c4
    have k5 : 4 ≤ u1.toInt ∧ u1.toInt ≤ 4 := ⟨Int.le_trans (Int.le_refl _) dc4, i3.2⟩
    refine lv_iload hx hb dX7_pushed_70 (lv_at hl 1 rfl) ?_
    exact ret_i (v := u2) hx hb hr hlocks hS hP hD dX7_pushed_72 rfl (Nat.le_of_ble_eq_true rfl) (Nat.le_of_ble_eq_true rfl) rfl
  · have dc4 : u1.toInt < 4 := nle_i (a := 4) (b := u1.toInt) rfl rfl c4
    have k6 : 0 ≤ u1.toInt ∧ u1.toInt ≤ 3 := ⟨i3.1, up_lt dc4 (Int.le_refl _) (by decide)⟩
    refine lv_aload_n hx hb dX7_pushed_12 rfl (lv_at hl 4 rfl) ?_
    refine get_f (D := D) (ci := 5) (v := .ref h_p1_crew) (C := RX5) (T := TX5) (N := 11) hx hb hw inAX5 hown hK hP 4 rfl rfl 0 (by decide) (hw _ q_148) (fun _ h9 => h9) e_p1_crew dX7_pushed_13 ?_
    refine lv_iload hx hb dX7_pushed_16 (lv_at hl 0 rfl) ?_
    refine va_iald hx hb hK hP 5 0 rfl rfl (ix_k k6 (by decide) (by decide)) dX7_pushed_18 ?_
    refine lv_topi (fun v7 ev7 => ?_)
    have k8 : 0 ≤ v7.toInt ∧ v7.toInt ≤ 11 := by rw [ev7]; exact s_p1_crew_0.at _ (Int.le_trans (by decide) k6.1) (Int.le_trans k6.2 (by decide))
    refine lv_istore (lv' := [(6, .int v7), (5, .int u1), (4, .int u2), (0, .ref h0), (1, .ref p0), (2, .ref p1), (3, .int p2)]) hx hb dX7_pushed_19 hl (by decide) rfl (fun ls hl => ?_)
    refine lv_aload_n hx hb dX7_pushed_21 rfl (lv_at hl 3 rfl) ?_
    refine get_f (D := D) (ci := 7) (v := .int x_in) (C := RX7) (T := TX7) (N := 18) hx hb hw inAX7 hown hK hP 0 rfl rfl 5 (by decide) (hw _ q_215) (fun _ h9 => h9) e_in dX7_pushed_22 ?_
    refine lv_aload_n hx hb dX7_pushed_25 rfl (lv_at hl 3 rfl) ?_
    refine get_f (D := D) (ci := 7) (v := .int x_late) (C := RX7) (T := TX7) (N := 18) hx hb hw inAX7 hown hK hP 0 rfl rfl 6 (by decide) (hw _ q_217) (fun _ h9 => h9) e_late dX7_pushed_26 ?_
    refine lv_ior hx hb dX7_pushed_29 ?_
    refine lv_topi (fun v9 ev9 => ?_)
    refine lv_iload hx hb dX7_pushed_30 (lv_at hl 1 rfl) ?_
    refine lv_ishr hx hb dX7_pushed_32 ?_
    refine lv_topi (fun v10 ev10 => ?_)
    refine lv_iconst (v := 1) hx hb dX7_pushed_33 (by decide) ?_
    refine lv_iand hx hb dX7_pushed_34 ?_
    refine lv_topi (fun v11 ev11 => ?_)
    have k12 : 0 ≤ v11.toInt ∧ v11.toInt ≤ 1 := by rw [ev11]; exact and_i v10 1 (by decide)
    refine lv_if_ne (tgt := 64) hx hb dX7_pushed_35 (by decide) (fun c13 => ?_) (fun c13 => ?_)
    · have dc13 : v11.toInt ≠ 0 := ne_i (a := v11.toInt) (b := 0) rfl rfl c13
      have k14 : 1 ≤ v11.toInt ∧ v11.toInt ≤ 1 := ⟨ne_lo dc13 k12.1 ⟨Int.le_refl _, Int.le_refl _⟩ (by decide), k12.2⟩
      obtain ⟨v15, ev15⟩ : ∃ z : Int32, z = u1 + 1 := ⟨_, rfl⟩
      have bv15 : v15.toInt = u1.toInt + 1 := by rw [ev15]; exact add_k rfl rfl k6 ⟨Int.le_refl _, Int.le_refl _⟩ (by decide)
      have k16 : 1 ≤ v15.toInt ∧ v15.toInt ≤ 4 := add_r bv15 k6 ⟨Int.le_refl _, Int.le_refl _⟩ (by decide)
      refine lv_iinc (v := v15) (lv' := [(5, .int v15), (6, .int v7), (4, .int u2), (0, .ref h0), (1, .ref p0), (2, .ref p1), (3, .int p2)]) hx hb dX7_pushed_64 hl (k := 1) rfl (by rw [ev15]; rfl) (by decide) rfl (fun ls hl => ?_)
      refine lv_goto (tgt := 6) hx hb dX7_pushed_67 (by decide) ?_
      exact ih (v15, u2) (ir_wk k16 (by decide) (by decide)) (by show (4 - v15.toInt).toNat < (4 - u1.toInt).toNat; omega) _ _ _ hP hD hS (lv_sub hl [0, 2, 3, 4, 5, 6] rfl)
    · have dc13 : v11.toInt = 0 := eq_i (a := v11.toInt) (b := 0) rfl rfl c13
      have k17 : 0 ≤ v11.toInt ∧ v11.toInt ≤ 0 := ⟨k12.1, Int.le_trans (Int.le_of_eq dc13) (Int.le_refl _)⟩
      refine lv_iload_n hx hb dX7_pushed_38 rfl (lv_at hl 6 rfl) ?_
      refine lv_bipush (v := 12) hx hb dX7_pushed_39 (by decide) ?_
      refine lv_aload_n hx hb dX7_pushed_41 rfl (lv_at hl 4 rfl) ?_
      refine get_f (D := D) (ci := 1) (v := .ref h_p0_feet) (C := RX1) (T := TX1) (N := 18) hx hb hw inAX1 hown hK hP 1 rfl rfl 4 (by decide) (hw _ q_328) (fun _ h9 => h9) e_p0_feet dX7_pushed_42 ?_
      refine lv_iload hx hb dX7_pushed_45 (lv_at hl 0 rfl) ?_
      refine va_iald hx hb hK hP 3 0 rfl rfl (ix_k k8 (by decide) (by decide)) dX7_pushed_47 ?_
      refine lv_topi (fun v18 ev18 => ?_)
      refine lv_imul hx hb dX7_pushed_48 ?_
      refine lv_topi (fun v19 ev19 => ?_)
      refine lv_icmp_ge (tgt := 64) hx hb dX7_pushed_49 (by decide) (fun c20 => ?_) (fun c20 => ?_)
      · have dc20 : v19.toInt ≤ p2.toInt := le_i (a := v19.toInt) (b := p2.toInt) rfl rfl c20
        obtain ⟨v21, ev21⟩ : ∃ z : Int32, z = u1 + 1 := ⟨_, rfl⟩
        have bv21 : v21.toInt = u1.toInt + 1 := by rw [ev21]; exact add_k rfl rfl k6 ⟨Int.le_refl _, Int.le_refl _⟩ (by decide)
        have k22 : 1 ≤ v21.toInt ∧ v21.toInt ≤ 4 := add_r bv21 k6 ⟨Int.le_refl _, Int.le_refl _⟩ (by decide)
        refine lv_iinc (v := v21) (lv' := [(5, .int v21), (6, .int v7), (4, .int u2), (0, .ref h0), (1, .ref p0), (2, .ref p1), (3, .int p2)]) hx hb dX7_pushed_64 hl (k := 1) rfl (by rw [ev21]; rfl) (by decide) rfl (fun ls hl => ?_)
        refine lv_goto (tgt := 6) hx hb dX7_pushed_67 (by decide) ?_
        exact ih (v21, u2) (ir_wk k22 (by decide) (by decide)) (by show (4 - v21.toInt).toNat < (4 - u1.toInt).toNat; omega) _ _ _ hP hD hS (lv_sub hl [0, 2, 3, 4, 5, 6] rfl)
      · have dc20 : p2.toInt < v19.toInt := nle_i (a := v19.toInt) (b := p2.toInt) rfl rfl c20
        have k23 : (-2147483648) ≤ p2.toInt ∧ p2.toInt ≤ 2147483646 := ⟨(ir_any _).1, up_lt dc20 (ir_any _).2 (by decide)⟩
        have k24 : (-2147483647) ≤ v19.toInt ∧ v19.toInt ≤ 2147483647 := ⟨lo_lt dc20 (ir_any _).1 (by decide), (ir_any _).2⟩
        refine lv_iload hx hb dX7_pushed_52 (lv_at hl 2 rfl) ?_
        refine lv_aload_n hx hb dX7_pushed_54 rfl (lv_at hl 4 rfl) ?_
        refine get_f (D := D) (ci := 1) (v := .ref h_p0_push) (C := RX1) (T := TX1) (N := 18) hx hb hw inAX1 hown hK hP 1 rfl rfl 3 (by decide) (hw _ q_323) (fun _ h9 => h9) e_p0_push dX7_pushed_55 ?_
        refine lv_iload hx hb dX7_pushed_58 (lv_at hl 0 rfl) ?_
        refine va_iald hx hb hK hP 2 0 rfl rfl (ix_k k8 (by decide) (by decide)) dX7_pushed_60 ?_
        refine lv_topi (fun v25 ev25 => ?_)
        refine lv_iadd hx hb dX7_pushed_61 ?_
        refine lv_topi (fun v26 ev26 => ?_)
        refine lv_istore (lv' := [(4, .int v26), (6, .int v7), (5, .int u1), (0, .ref h0), (1, .ref p0), (2, .ref p1), (3, .int p2)]) hx hb dX7_pushed_62 hl (by decide) rfl (fun ls hl => ?_)
        obtain ⟨v27, ev27⟩ : ∃ z : Int32, z = u1 + 1 := ⟨_, rfl⟩
        have bv27 : v27.toInt = u1.toInt + 1 := by rw [ev27]; exact add_k rfl rfl k6 ⟨Int.le_refl _, Int.le_refl _⟩ (by decide)
        have k28 : 1 ≤ v27.toInt ∧ v27.toInt ≤ 4 := add_r bv27 k6 ⟨Int.le_refl _, Int.le_refl _⟩ (by decide)
        refine lv_iinc (v := v27) (lv' := [(5, .int v27), (4, .int v26), (6, .int v7), (0, .ref h0), (1, .ref p0), (2, .ref p1), (3, .int p2)]) hx hb dX7_pushed_64 hl (k := 2) rfl (by rw [ev27]; rfl) (by decide) rfl (fun ls hl => ?_)
        refine lv_goto (tgt := 6) hx hb dX7_pushed_67 (by decide) ?_
        exact ih (v27, v26) (ir_wk k28 (by decide) (by decide)) (by show (4 - v27.toInt).toNat < (4 - u1.toInt).toNat; omega) _ _ _ hP hD hS (lv_sub hl [0, 1, 3, 4, 5, 6] rfl)
set_option maxHeartbeats 4000000 in
set_option maxRecDepth 100000 in
theorem m_X9_bounded (l : Launch) (D : va_G) (cI cJ cB cP cM cZ : ClassId) (p0 : Int32) (sz : Nat)  : CI l yX9_bounded cX9_bounded 1 (some .int) { frames := 1, cells := 0, slots := 0, locals := 40 } (GG D cI cJ cB cP cM cZ) D [] sz [.int p0] (fun (r : Int32) (u : va_W) => IR 10 250 r ∧ u = []) := by
  refine CI_mk (by decide) (Nat.le_of_ble_eq_true rfl) ?_
  intro p e s m below meth c A ls E hAe hG hsz hP hD hA hS hl
  obtain ⟨hx, hb, hr, hw, hown, hlocks, hml, hnm⟩ := E
  have hK := hG.1
  have hl : lv_has ls 1 [(0, .int p0)] := hl
  refine lv_bipush (v := 10) hx hb dX9_bounded_0 (by decide) ?_
  refine lv_sipush (v := 250) hx hb dX9_bounded_2 (by decide) ?_
  refine lv_iload_n hx hb dX9_bounded_5 rfl (lv_at hl 0 rfl) ?_
  refine va_mmin hx hb (hml.trans hl.1.symm) hown (hw _ q_782) (hw _ q_783) (hw _ q_19) (hw _ q_784) (Nat.le_of_ble_eq_true rfl) (Nat.le_of_ble_eq_true rfl) (Nat.le_of_ble_eq_true rfl) (Nat.le_of_ble_eq_true rfl) dX9_bounded_6 ?_
  refine lv_topi (fun v1 ev1 => ?_)
  have k2 : (-2147483648) ≤ v1.toInt ∧ v1.toInt ≤ 250 := by rw [ev1]; exact mmin_k rfl rfl ⟨Int.le_refl _, Int.le_refl _⟩ (ir_any _) (by decide)
  refine va_mmax hx hb (hml.trans hl.1.symm) hown (hw _ q_785) (hw _ q_786) (hw _ q_19) (hw _ q_787) (Nat.le_of_ble_eq_true rfl) (Nat.le_of_ble_eq_true rfl) (Nat.le_of_ble_eq_true rfl) (Nat.le_of_ble_eq_true rfl) dX9_bounded_9 ?_
  refine lv_topi (fun v3 ev3 => ?_)
  have k4 : 10 ≤ v3.toInt ∧ v3.toInt ≤ 250 := by rw [ev3]; exact mmax_k rfl rfl ⟨Int.le_refl _, Int.le_refl _⟩ k2 (by decide)
  exact ret_i (v := v3) hx hb hr hlocks hS hP hD dX9_bounded_12 rfl (Nat.le_of_ble_eq_true rfl) (Nat.le_of_ble_eq_true rfl) ⟨k4, rfl⟩
set_option maxHeartbeats 4000000 in
set_option maxRecDepth 100000 in
theorem m_X7_drawsKick (l : Launch) (D : va_G) (cI cJ cB cP cM cZ : ClassId) (h0 : Nat) (Fh : Nat → Value) (x_kicks : Int32) (x_seed : Int32) (sz : Nat) (e_kicks : Fh 14 = .int x_kicks) (i_x_kicks : IR 0 1 x_kicks) (e_seed : Fh 15 = .int x_seed) : CI l yX7_drawsKick cX7_drawsKick 1 (some .boolean) { frames := 0, cells := 0, slots := 0, locals := 0 } (GG D cI cJ cB cP cM cZ) D [(h0, .inr (7, vL 18 Fh))] sz [.ref h0] (fun (r : Int32) (u : va_W) => ∃ (Gh : Nat → Value) (y_seed : Int32), SAME [15] Fh Gh ∧ Gh 15 = .int y_seed ∧ IR 0 1 r ∧ u = [(h0, .inr (7, vL 18 Gh))]) := by
  refine CI_mk (by decide) (Nat.le_of_ble_eq_true rfl) ?_
  intro p e s m below meth c A ls E hAe hG hsz hP hD hA hS hl
  obtain ⟨hx, hb, hr, hw, hown, hlocks, hml, hnm⟩ := E
  have hK := hG.1
  have i_x_kicks : 0 ≤ x_kicks.toInt ∧ x_kicks.toInt ≤ 1 := i_x_kicks
  have hl : lv_has ls 1 [(0, .ref h0)] := hl
  refine lv_aload_n hx hb dX7_drawsKick_0 rfl (lv_at hl 0 rfl) ?_
  refine get_f (D := D) (ci := 7) (v := .int x_kicks) (C := RX7) (T := TX7) (N := 18) hx hb hw inAX7 hown hK hP 0 rfl rfl 14 (by decide) (hw _ q_231) (fun _ h9 => h9) e_kicks dX7_drawsKick_1 ?_
  refine lv_if_ne (tgt := 9) hx hb dX7_drawsKick_4 (by decide) (fun c1 => ?_) (fun c1 => ?_)
  · have dc1 : x_kicks.toInt ≠ 0 := ne_i (a := x_kicks.toInt) (b := 0) rfl rfl c1
    have k2 : 1 ≤ x_kicks.toInt ∧ x_kicks.toInt ≤ 1 := ⟨ne_lo dc1 i_x_kicks.1 ⟨Int.le_refl _, Int.le_refl _⟩ (by decide), i_x_kicks.2⟩
    refine lv_aload_n hx hb dX7_drawsKick_9 rfl (lv_at hl 0 rfl) ?_
    refine lv_aload_n hx hb dX7_drawsKick_10 rfl (lv_at hl 0 rfl) ?_
    refine get_f (D := D) (ci := 7) (v := .int x_seed) (C := RX7) (T := TX7) (N := 18) hx hb hw inAX7 hown hK hP 0 rfl rfl 15 (by decide) (hw _ q_232) (fun _ h9 => h9) e_seed dX7_drawsKick_11 ?_
    refine lv_ldc hx hb hown (hw _ q_796) dX7_drawsKick_14 ?_
    refine lv_imul hx hb dX7_drawsKick_16 ?_
    refine lv_topi (fun v3 ev3 => ?_)
    refine lv_sipush (v := 12345) hx hb dX7_drawsKick_17 (by decide) ?_
    refine lv_iadd hx hb dX7_drawsKick_20 ?_
    refine lv_topi (fun v4 ev4 => ?_)
    refine put_f (D := D) (ci := 7) (v := .int v4) (ty := .int) (C := RX7) (T := TX7) (N := 18) hx hb hw inAX7 tyX7 tyX7_ok nmX7 hown hK hP hD hS 0 rfl rfl 15 (by decide) (hw _ q_232) (fun _ h9 => h9) rfl (by decide +kernel) rfl rfl dX7_drawsKick_21 (fun H locs F5 eF5 hP hD hS => ?_)
    have hP : va_P D vwCl [(h0, .inr (7, vL 18 F5))] H := hP
    have hD : va_D A [(h0, .inr (7, vL 18 F5))] := hD
    refine lv_aload_n hx hb dX7_drawsKick_24 rfl (lv_at hl 0 rfl) ?_
    refine get_f (D := D) (ci := 7) (v := .int v4) (C := RX7) (T := TX7) (N := 18) hx hb hw inAX7 hown hK hP 0 rfl rfl 15 (by decide) (hw _ q_232) (fun _ h9 => h9) (get_eq eF5) dX7_drawsKick_25 ?_
    refine lv_bipush (v := 8) hx hb dX7_drawsKick_28 (by decide) ?_
    obtain ⟨v6, ev6⟩ : ∃ z : Int32, ((v4 : Int32).toUInt32 >>> ((8 : Int32).toUInt32 &&& Int32.toUInt32 31)).toInt32 = z := ⟨_, rfl⟩
    refine lv_iushr (v := v6) hx hb dX7_drawsKick_30 ev6 ?_
    have k7 : 0 ≤ v6.toInt ∧ v6.toInt ≤ 16777215 := by rw [← ev6]; exact ushr8_i _
    refine lv_bipush (v := 8) hx hb dX7_drawsKick_31 (by decide) ?_
    refine lv_irem hx hb dX7_drawsKick_33 (by decide) ?_
    refine lv_topi (fun v8 ev8 => ?_)
    have bv8 : v8.toInt = v6.toInt % 8 := by rw [ev8]; exact rem_i rfl rfl (Int.le_trans (by decide) k7.1) (by decide)
    have k9 : 0 ≤ v8.toInt ∧ v8.toInt ≤ 7 := rem_r bv8 (by decide)
    refine lv_if_ne (tgt := 41) hx hb dX7_drawsKick_34 (by decide) (fun c10 => ?_) (fun c10 => ?_)
    · have dc10 : v8.toInt ≠ 0 := ne_i (a := v8.toInt) (b := 0) rfl rfl c10
      have k11 : 1 ≤ v8.toInt ∧ v8.toInt ≤ 7 := ⟨ne_lo dc10 k9.1 ⟨Int.le_refl _, Int.le_refl _⟩ (by decide), k9.2⟩
      refine lv_iconst (v := 0) hx hb dX7_drawsKick_41 (by decide) ?_
      exact ret_i (v := 0) hx hb hr hlocks hS hP hD dX7_drawsKick_42 rfl (Nat.le_of_ble_eq_true rfl) (Nat.le_of_ble_eq_true rfl) ⟨F5, v4, (SAME.up eF5 SAME.rf (by decide)), (get_eq eF5), (show 0 ≤ (0 : Int32).toInt ∧ (0 : Int32).toInt ≤ 1 by decide), rfl⟩
    · have dc10 : v8.toInt = 0 := eq_i (a := v8.toInt) (b := 0) rfl rfl c10
      have k12 : 0 ≤ v8.toInt ∧ v8.toInt ≤ 0 := ⟨k9.1, Int.le_trans (Int.le_of_eq dc10) (Int.le_refl _)⟩
      refine lv_iconst (v := 1) hx hb dX7_drawsKick_37 (by decide) ?_
      refine lv_goto (tgt := 42) hx hb dX7_drawsKick_38 (by decide) ?_
      exact ret_i (v := 1) hx hb hr hlocks hS hP hD dX7_drawsKick_42 rfl (Nat.le_of_ble_eq_true rfl) (Nat.le_of_ble_eq_true rfl) ⟨F5, v4, (SAME.up eF5 SAME.rf (by decide)), (get_eq eF5), (show 0 ≤ (1 : Int32).toInt ∧ (1 : Int32).toInt ≤ 1 by decide), rfl⟩
  · have dc1 : x_kicks.toInt = 0 := eq_i (a := x_kicks.toInt) (b := 0) rfl rfl c1
    have k13 : 0 ≤ x_kicks.toInt ∧ x_kicks.toInt ≤ 0 := ⟨i_x_kicks.1, Int.le_trans (Int.le_of_eq dc1) (Int.le_refl _)⟩
    refine lv_iconst (v := 0) hx hb dX7_drawsKick_7 (by decide) ?_
    exact ret_i (v := 0) hx hb hr hlocks hS hP hD dX7_drawsKick_8 rfl (Nat.le_of_ble_eq_true rfl) (Nat.le_of_ble_eq_true rfl) ⟨Fh, x_seed, SAME.rf, e_seed, (show 0 ≤ (0 : Int32).toInt ∧ (0 : Int32).toInt ≤ 1 by decide), rfl⟩
set_option maxHeartbeats 4000000 in
set_option maxRecDepth 100000 in
theorem m_X7_behindJumps (l : Launch) (D : va_G) (cI cJ cB cP cM cZ : ClassId) (h0 : Nat) (h_manner : Nat) (p0 : Nat) (h_p0_feet : Nat) (h_p0_weight : Nat) (p1 : Nat) (h_p1_crew : Nat) (h_p1_yard : Nat) (Fh : Nat → Value) (x_in : Int32) (x_late : Int32) (x_weightIn : Int32) (x_latestYardIn : Int32) (x_kicks : Int32) (x_seed : Int32) (f_manner : Nat → Int32) (F_p0_ : Nat → Value) (f_p0_feet : Nat → Int32) (f_p0_weight : Nat → Int32) (F_p1_ : Nat → Value) (f_p1_crew : Nat → Int32) (f_p1_yard : Nat → Int32) (p2 : Int32) (p3 : Int32) (sz : Nat) (e_manner : Fh 1 = .ref h_manner) (e_in : Fh 5 = .int x_in) (e_late : Fh 6 = .int x_late) (e_weightIn : Fh 12 = .int x_weightIn) (e_latestYardIn : Fh 13 = .int x_latestYardIn) (e_kicks : Fh 14 = .int x_kicks) (i_x_kicks : IR 0 1 x_kicks) (e_seed : Fh 15 = .int x_seed) (e_p0_feet : F_p0_ 4 = .ref h_p0_feet) (e_p0_weight : F_p0_ 5 = .ref h_p0_weight) (e_p1_crew : F_p1_ 0 = .ref h_p1_crew) (e_p1_yard : F_p1_ 1 = .ref h_p1_yard) (s_p1_crew_0 : SG 0 3 0 11 f_p1_crew) (i_p3 : IR 10 250 p3) : CI l yX7_behindJumps cX7_behindJumps 9 (some .int) { frames := 2, cells := 0, slots := 0, locals := 60 } (GG D cI cJ cB cP cM cZ) D [(h0, .inr (7, vL 18 Fh)), (h_manner, .inl (cI, 4, .inl f_manner)), (p0, .inr (1, vL 18 F_p0_)), (h_p0_feet, .inl (cI, 12, .inl f_p0_feet)), (h_p0_weight, .inl (cI, 12, .inl f_p0_weight)), (p1, .inr (5, vL 11 F_p1_)), (h_p1_crew, .inl (cI, 4, .inl f_p1_crew)), (h_p1_yard, .inl (cI, 4, .inl f_p1_yard))] sz [.ref h0, .ref p0, .ref p1, .int p2, .int p3] (fun (r : Int32) (u : va_W) => ∃ (Gh : Nat → Value) (y_in : Int32) (y_late : Int32) (y_weightIn : Int32) (y_latestYardIn : Int32) (y_seed : Int32) (g_manner : Nat → Int32), SAME [5, 6, 12, 13, 15] Fh Gh ∧ Gh 5 = .int y_in ∧ Gh 6 = .int y_late ∧ Gh 12 = .int y_weightIn ∧ Gh 13 = .int y_latestYardIn ∧ Gh 15 = .int y_seed ∧ IR 10 250 r ∧ u = [(h0, .inr (7, vL 18 Gh)), (h_manner, .inl (cI, 4, .inl g_manner)), (p0, .inr (1, vL 18 F_p0_)), (h_p0_feet, .inl (cI, 12, .inl f_p0_feet)), (h_p0_weight, .inl (cI, 12, .inl f_p0_weight)), (p1, .inr (5, vL 11 F_p1_)), (h_p1_crew, .inl (cI, 4, .inl f_p1_crew)), (h_p1_yard, .inl (cI, 4, .inl f_p1_yard))]) := by
  refine CI_mk (by decide) (Nat.le_of_ble_eq_true rfl) ?_
  intro p e s m below meth c A ls E hAe hG hsz hP hD hA hS hl
  obtain ⟨hx, hb, hr, hw, hown, hlocks, hml, hnm⟩ := E
  have hK := hG.1
  have i_x_kicks : 0 ≤ x_kicks.toInt ∧ x_kicks.toInt ≤ 1 := i_x_kicks
  have i_p3 : 10 ≤ p3.toInt ∧ p3.toInt ≤ 250 := i_p3
  have hl : lv_has ls 9 [(0, .ref h0), (1, .ref p0), (2, .ref p1), (3, .int p2), (4, .int p3)] := hl
  refine lv_iload hx hb dX7_behindJumps_0 (lv_at hl 4 rfl) ?_
  refine lv_istore (lv' := [(5, .int p3), (0, .ref h0), (1, .ref p0), (2, .ref p1), (3, .int p2), (4, .int p3)]) hx hb dX7_behindJumps_2 hl (by decide) rfl (fun ls hl => ?_)
  refine lv_iconst (v := 0) hx hb dX7_behindJumps_4 (by decide) ?_
  refine lv_istore (lv' := [(6, .int 0), (5, .int p3), (0, .ref h0), (1, .ref p0), (2, .ref p1), (3, .int p2), (4, .int p3)]) hx hb dX7_behindJumps_5 hl (by decide) rfl (fun ls hl => ?_)
  refine mloop (α := (Int32) × (Int32) × (Nat → Value) × (Int32) × (Int32) × (Int32) × (Int32) × (Int32) × (Nat → Int32)) (nL := 9) (D := D) (A := A) (H0 := s.heap) (fun a => (4 - a.1.toInt).toNat) (fun a => IR 0 4 a.1 ∧ IR 10 250 a.2.1 ∧ SAME [5, 6, 12, 13, 15] Fh a.2.2.1 ∧ a.2.2.1 5 = .int a.2.2.2.1 ∧ a.2.2.1 6 = .int a.2.2.2.2.1 ∧ a.2.2.1 12 = .int a.2.2.2.2.2.1 ∧ a.2.2.1 13 = .int a.2.2.2.2.2.2.1 ∧ a.2.2.1 15 = .int a.2.2.2.2.2.2.2.1) (fun a => [(h0, .inr (7, vL 18 a.2.2.1)), (h_manner, .inl (cI, 4, .inl a.2.2.2.2.2.2.2.2)), (p0, .inr (1, vL 18 F_p0_)), (h_p0_feet, .inl (cI, 12, .inl f_p0_feet)), (h_p0_weight, .inl (cI, 12, .inl f_p0_weight)), (p1, .inr (5, vL 11 F_p1_)), (h_p1_crew, .inl (cI, 4, .inl f_p1_crew)), (h_p1_yard, .inl (cI, 4, .inl f_p1_yard))]) (fun a => [(6, .int a.1), (5, .int a.2.1), (0, .ref h0), (1, .ref p0), (2, .ref p1), (3, .int p2), (4, .int p3)]) (fun H locs ls => W p l e ({ frames := 2, cells := 0, slots := 0, locals := 60 } : Room) s m [.ref h0, .ref p0, .ref p1, .int p2, .int p3].toArray below meth c H locs 0 0 (MQ below (va_Qi (fun (r : Int32) (u : va_W) => ∃ (Gh : Nat → Value) (y_in : Int32) (y_late : Int32) (y_weightIn : Int32) (y_latestYardIn : Int32) (y_seed : Int32) (g_manner : Nat → Int32), SAME [5, 6, 12, 13, 15] Fh Gh ∧ Gh 5 = .int y_in ∧ Gh 6 = .int y_late ∧ Gh 12 = .int y_weightIn ∧ Gh 13 = .int y_latestYardIn ∧ Gh 15 = .int y_seed ∧ IR 10 250 r ∧ u = [(h0, .inr (7, vL 18 Gh)), (h_manner, .inl (cI, 4, .inl g_manner)), (p0, .inr (1, vL 18 F_p0_)), (h_p0_feet, .inl (cI, 12, .inl f_p0_feet)), (h_p0_weight, .inl (cI, 12, .inl f_p0_weight)), (p1, .inr (5, vL 11 F_p1_)), (h_p1_crew, .inl (cI, 4, .inl f_p1_crew)), (h_p1_yard, .inl (cI, 4, .inl f_p1_yard))]) (PO D A) A) [.ref h0, .ref p0, .ref p1, .int p2, .int p3].toArray s 0 0 A) (F0 m 7 ls [])) ?_ (0, p3, Fh, x_in, x_late, x_weightIn, x_latestYardIn, x_seed, f_manner) ⟨(show 0 ≤ (0 : Int32).toInt ∧ (0 : Int32).toInt ≤ 4 by decide), i_p3, SAME.rf, e_in, e_late, e_weightIn, e_latestYardIn, e_seed⟩ _ _ _ hP hD hS hl
  rintro ⟨u1, u2, G3, u4, u5, u6, u7, u8, w9⟩ ⟨i10, i11, i12, i13, i14, i15, i16, i17⟩ ih H locs ls hP hD hS hl
  have i10 : 0 ≤ u1.toInt ∧ u1.toInt ≤ 4 := i10
  have i11 : 10 ≤ u2.toInt ∧ u2.toInt ≤ 250 := i11
  have hP : va_P D vwCl [(h0, .inr (7, vL 18 G3)), (h_manner, .inl (cI, 4, .inl w9)), (p0, .inr (1, vL 18 F_p0_)), (h_p0_feet, .inl (cI, 12, .inl f_p0_feet)), (h_p0_weight, .inl (cI, 12, .inl f_p0_weight)), (p1, .inr (5, vL 11 F_p1_)), (h_p1_crew, .inl (cI, 4, .inl f_p1_crew)), (h_p1_yard, .inl (cI, 4, .inl f_p1_yard))] H := hP
  have hD : va_D A [(h0, .inr (7, vL 18 G3)), (h_manner, .inl (cI, 4, .inl w9)), (p0, .inr (1, vL 18 F_p0_)), (h_p0_feet, .inl (cI, 12, .inl f_p0_feet)), (h_p0_weight, .inl (cI, 12, .inl f_p0_weight)), (p1, .inr (5, vL 11 F_p1_)), (h_p1_crew, .inl (cI, 4, .inl f_p1_crew)), (h_p1_yard, .inl (cI, 4, .inl f_p1_yard))] := hD
  have hl : lv_has ls 9 [(6, .int u1), (5, .int u2), (0, .ref h0), (1, .ref p0), (2, .ref p1), (3, .int p2), (4, .int p3)] := hl
  refine lv_iload hx hb dX7_behindJumps_7 (lv_at hl 0 rfl) ?_
  refine lv_iconst (v := 4) hx hb dX7_behindJumps_9 (by decide) ?_
  refine lv_icmp_ge (tgt := 185) hx hb dX7_behindJumps_10 (by decide) (fun c18 => ?_) (fun c18 => ?_)
  · have dc18 : 4 ≤ u1.toInt := le_i (a := 4) (b := u1.toInt) rfl rfl c18
    have k19 : 4 ≤ u1.toInt ∧ u1.toInt ≤ 4 := ⟨Int.le_trans (Int.le_refl _) dc18, i10.2⟩
    refine lv_iload hx hb dX7_behindJumps_185 (lv_at hl 1 rfl) ?_
    exact ret_i (v := u2) hx hb hr hlocks hS hP hD dX7_behindJumps_187 rfl (Nat.le_of_ble_eq_true rfl) (Nat.le_of_ble_eq_true rfl) ⟨G3, u4, u5, u6, u7, u8, w9, (SAME.tr SAME.rf i12 (by decide)), i13, i14, i15, i16, i17, i11, rfl⟩
  · have dc18 : u1.toInt < 4 := nle_i (a := 4) (b := u1.toInt) rfl rfl c18
    have k20 : 0 ≤ u1.toInt ∧ u1.toInt ≤ 3 := ⟨i10.1, up_lt dc18 (Int.le_refl _) (by decide)⟩
    refine lv_aload_n hx hb dX7_behindJumps_13 rfl (lv_at hl 4 rfl) ?_
    refine get_f (D := D) (ci := 5) (v := .ref h_p1_yard) (C := RX5) (T := TX5) (N := 11) hx hb hw inAX5 hown hK hP 5 rfl rfl 1 (by decide) (hw _ q_151) (fun _ h9 => h9) e_p1_yard dX7_behindJumps_14 ?_
    refine lv_iload hx hb dX7_behindJumps_17 (lv_at hl 0 rfl) ?_
    refine va_iald hx hb hK hP 7 0 rfl rfl (ix_k k20 (by decide) (by decide)) dX7_behindJumps_19 ?_
    refine lv_topi (fun v21 ev21 => ?_)
    refine lv_iload_n hx hb dX7_behindJumps_20 rfl (lv_at hl 5 rfl) ?_
    refine lv_icmp_eq (tgt := 27) hx hb dX7_behindJumps_21 (by decide) (fun c22 => ?_) (fun c22 => ?_)
    · have dc22 : v21.toInt = p2.toInt := eq_i (a := v21.toInt) (b := p2.toInt) rfl rfl c22
      refine lv_aload_n hx hb dX7_behindJumps_27 rfl (lv_at hl 4 rfl) ?_
      refine get_f (D := D) (ci := 5) (v := .ref h_p1_crew) (C := RX5) (T := TX5) (N := 11) hx hb hw inAX5 hown hK hP 5 rfl rfl 0 (by decide) (hw _ q_148) (fun _ h9 => h9) e_p1_crew dX7_behindJumps_28 ?_
      refine lv_iload hx hb dX7_behindJumps_31 (lv_at hl 0 rfl) ?_
      refine va_iald hx hb hK hP 6 0 rfl rfl (ix_k k20 (by decide) (by decide)) dX7_behindJumps_33 ?_
      refine lv_topi (fun v23 ev23 => ?_)
      have k24 : 0 ≤ v23.toInt ∧ v23.toInt ≤ 11 := by rw [ev23]; exact s_p1_crew_0.at _ (Int.le_trans (by decide) k20.1) (Int.le_trans k20.2 (by decide))
      refine lv_istore (lv' := [(7, .int v23), (6, .int u1), (5, .int u2), (0, .ref h0), (1, .ref p0), (2, .ref p1), (3, .int p2), (4, .int p3)]) hx hb dX7_behindJumps_34 hl (by decide) rfl (fun ls hl => ?_)
      refine lv_bipush (v := 12) hx hb dX7_behindJumps_36 (by decide) ?_
      refine lv_aload_n hx hb dX7_behindJumps_38 rfl (lv_at hl 4 rfl) ?_
      refine get_f (D := D) (ci := 1) (v := .ref h_p0_feet) (C := RX1) (T := TX1) (N := 18) hx hb hw inAX1 hown hK hP 2 rfl rfl 4 (by decide) (hw _ q_328) (fun _ h9 => h9) e_p0_feet dX7_behindJumps_39 ?_
      refine lv_iload hx hb dX7_behindJumps_42 (lv_at hl 0 rfl) ?_
      refine va_iald hx hb hK hP 3 0 rfl rfl (ix_k k24 (by decide) (by decide)) dX7_behindJumps_44 ?_
      refine lv_topi (fun v25 ev25 => ?_)
      refine lv_imul hx hb dX7_behindJumps_45 ?_
      refine lv_topi (fun v26 ev26 => ?_)
      refine lv_bipush (v := 20) hx hb dX7_behindJumps_46 (by decide) ?_
      refine lv_iadd hx hb dX7_behindJumps_48 ?_
      refine lv_topi (fun v27 ev27 => ?_)
      refine lv_iload hx hb dX7_behindJumps_49 (lv_at hl 2 rfl) ?_
      refine lv_icmp_ge (tgt := 78) hx hb dX7_behindJumps_51 (by decide) (fun c28 => ?_) (fun c28 => ?_)
      · have dc28 : u2.toInt ≤ v27.toInt := le_i (a := u2.toInt) (b := v27.toInt) rfl rfl c28
        have k29 : 10 ≤ v27.toInt ∧ v27.toInt ≤ 2147483647 := ⟨Int.le_trans i11.1 dc28, (ir_any _).2⟩
        refine lv_aload_n hx hb dX7_behindJumps_78 rfl (lv_at hl 3 rfl) ?_
        refine get_f (D := D) (ci := 7) (v := .int u7) (C := RX7) (T := TX7) (N := 18) hx hb hw inAX7 hown hK hP 0 rfl rfl 13 (by decide) (hw _ q_230) (fun _ h9 => h9) i16 dX7_behindJumps_79 ?_
        refine lv_iload_n hx hb dX7_behindJumps_82 rfl (lv_at hl 6 rfl) ?_
        refine lv_iconst (v := 1) hx hb dX7_behindJumps_83 (by decide) ?_
        refine lv_isub hx hb dX7_behindJumps_84 ?_
        refine lv_topi (fun v30 ev30 => ?_)
        refine lv_icmp_lt (tgt := 92) hx hb dX7_behindJumps_85 (by decide) (fun c31 => ?_) (fun c31 => ?_)
        · have dc31 : u7.toInt < v30.toInt := lt_i (a := u7.toInt) (b := v30.toInt) rfl rfl c31
          have k32 : (-2147483648) ≤ u7.toInt ∧ u7.toInt ≤ 2147483646 := ⟨(ir_any _).1, up_lt dc31 (ir_any _).2 (by decide)⟩
          have k33 : (-2147483647) ≤ v30.toInt ∧ v30.toInt ≤ 2147483647 := ⟨lo_lt dc31 (ir_any _).1 (by decide), (ir_any _).2⟩
          refine lv_iconst (v := 0) hx hb dX7_behindJumps_92 (by decide) ?_
          refine lv_istore (lv' := [(8, .int 0), (7, .int v23), (6, .int u1), (5, .int u2), (0, .ref h0), (1, .ref p0), (2, .ref p1), (3, .int p2), (4, .int p3)]) hx hb dX7_behindJumps_93 hl (by decide) rfl (fun ls hl => ?_)
          refine lv_aload_n hx hb dX7_behindJumps_95 rfl (lv_at hl 4 rfl) ?_
          have n34 : G3 1 = .ref h_manner := (SAME.at i12 (by decide) e_manner)
          refine get_f (D := D) (ci := 7) (v := .ref h_manner) (C := RX7) (T := TX7) (N := 18) hx hb hw inAX7 hown hK hP 0 rfl rfl 1 (by decide) (hw _ q_207) (fun _ h9 => h9) n34 dX7_behindJumps_96 ?_
          refine lv_iload hx hb dX7_behindJumps_99 (lv_at hl 2 rfl) ?_
          refine lv_iload hx hb dX7_behindJumps_101 (lv_at hl 0 rfl) ?_
          refine lv_if_eq (tgt := 110) hx hb dX7_behindJumps_103 (by decide) (fun _ => ?_) (fun g => absurd (by decide) g)
          refine lv_iconst (v := 0) hx hb dX7_behindJumps_110 (by decide) ?_
          obtain ⟨g35, eg35⟩ : ∃ z : Nat → Int32, upd w9 u1.toNatClampNeg 0 = z := ⟨_, rfl⟩
          refine iast_g hx hb hK hP hD hS 1 0 rfl rfl (ix_k k20 (by decide) (by decide)) eg35 dX7_behindJumps_111 (fun H locs hP hD hS => ?_)
          have hP : va_P D vwCl [(h0, .inr (7, vL 18 G3)), (h_manner, .inl (cI, 4, .inl g35)), (p0, .inr (1, vL 18 F_p0_)), (h_p0_feet, .inl (cI, 12, .inl f_p0_feet)), (h_p0_weight, .inl (cI, 12, .inl f_p0_weight)), (p1, .inr (5, vL 11 F_p1_)), (h_p1_crew, .inl (cI, 4, .inl f_p1_crew)), (h_p1_yard, .inl (cI, 4, .inl f_p1_yard))] H := hP
          have hD : va_D A [(h0, .inr (7, vL 18 G3)), (h_manner, .inl (cI, 4, .inl g35)), (p0, .inr (1, vL 18 F_p0_)), (h_p0_feet, .inl (cI, 12, .inl f_p0_feet)), (h_p0_weight, .inl (cI, 12, .inl f_p0_weight)), (p1, .inr (5, vL 11 F_p1_)), (h_p1_crew, .inl (cI, 4, .inl f_p1_crew)), (h_p1_yard, .inl (cI, 4, .inl f_p1_yard))] := hD
          refine lv_iload hx hb dX7_behindJumps_112 (lv_at hl 3 rfl) ?_
          refine lv_iload hx hb dX7_behindJumps_114 (lv_at hl 0 rfl) ?_
          refine lv_if_eq (tgt := 124) hx hb dX7_behindJumps_116 (by decide) (fun _ => ?_) (fun g => absurd (by decide) g)
          refine lv_iconst (v := 2) hx hb dX7_behindJumps_124 (by decide) ?_
          refine lv_isub hx hb dX7_behindJumps_125 ?_
          refine lv_topi (fun v36 ev36 => ?_)
          have bv36 : v36.toInt = u2.toInt - 2 := by rw [ev36]; exact sub_k rfl rfl i11 ⟨Int.le_refl _, Int.le_refl _⟩ (by decide)
          have k37 : 8 ≤ v36.toInt ∧ v36.toInt ≤ 248 := sub_r bv36 i11 ⟨Int.le_refl _, Int.le_refl _⟩ (by decide)
          refine lv_aload_n hx hb dX7_behindJumps_126 rfl (lv_at hl 4 rfl) ?_
          have n38 : G3 14 = .int x_kicks := (SAME.at i12 (by decide) e_kicks)
          refine call_Vi (wr := [(h_manner, .inl (cI, 4, .inl g35)), (p0, .inr (1, vL 18 F_p0_)), (h_p0_feet, .inl (cI, 12, .inl f_p0_feet)), (h_p0_weight, .inl (cI, 12, .inl f_p0_weight)), (p1, .inr (5, vL 11 F_p1_)), (h_p1_crew, .inl (cI, 4, .inl f_p1_crew)), (h_p1_yard, .inl (cI, 4, .inl f_p1_yard))]) (As := []) (rest := [.int v36]) hx hb hml hown hw (m_X7_drawsKick l D cI cJ cB cP cM cZ h0 G3 x_kicks u8 _ n38 i_x_kicks i17) wV_X7_121_X7_drawsKick dX7_behindJumps_127 hK hP hD hS hA [0] [1, 2, 3, 4, 5, 6, 7] rfl rfl (by decide) (by decide) (by decide) 0 7 rfl rfl GG.fb hG.at hl.1 rfl (Nat.le_of_ble_eq_true rfl) ⟨(Nat.le_of_ble_eq_true rfl), (Nat.le_of_ble_eq_true rfl)⟩ ⟨(Nat.le_of_ble_eq_true rfl), (Nat.le_of_ble_eq_true rfl)⟩ (fun r39 u H locs hp hP hD hS => ?_)
          obtain ⟨F40, y41, t42, t43, t44, rfl⟩ := hp
          have hP : va_P D vwCl [(h_manner, .inl (cI, 4, .inl g35)), (p0, .inr (1, vL 18 F_p0_)), (h_p0_feet, .inl (cI, 12, .inl f_p0_feet)), (h_p0_weight, .inl (cI, 12, .inl f_p0_weight)), (p1, .inr (5, vL 11 F_p1_)), (h_p1_crew, .inl (cI, 4, .inl f_p1_crew)), (h_p1_yard, .inl (cI, 4, .inl f_p1_yard)), (h0, .inr (7, vL 18 F40))] H := hP
          have hD : va_D A [(h_manner, .inl (cI, 4, .inl g35)), (p0, .inr (1, vL 18 F_p0_)), (h_p0_feet, .inl (cI, 12, .inl f_p0_feet)), (h_p0_weight, .inl (cI, 12, .inl f_p0_weight)), (p1, .inr (5, vL 11 F_p1_)), (h_p1_crew, .inl (cI, 4, .inl f_p1_crew)), (h_p1_yard, .inl (cI, 4, .inl f_p1_yard)), (h0, .inr (7, vL 18 F40))] := hD
          refine W.widen (k := 0) (n := 0) (Nat.le_of_ble_eq_true rfl) (Nat.le_of_ble_eq_true rfl) ?_
          refine lv_if_eq (tgt := 138) hx hb dX7_behindJumps_130 (by decide) (fun c46 => ?_) (fun c46 => ?_)
          · have dc46 : r39.toInt = 0 := eq_i (a := r39.toInt) (b := 0) rfl rfl c46
            have k47 : 0 ≤ r39.toInt ∧ r39.toInt ≤ 0 := ⟨t44.1, Int.le_trans (Int.le_of_eq dc46) (Int.le_refl _)⟩
            refine lv_iconst (v := 0) hx hb dX7_behindJumps_138 (by decide) ?_
            refine lv_isub hx hb dX7_behindJumps_139 ?_
            refine lv_topi (fun v48 ev48 => ?_)
            have bv48 : v48.toInt = v36.toInt - 0 := by rw [ev48]; exact sub_k rfl rfl k37 ⟨Int.le_refl _, Int.le_refl _⟩ (by decide)
            have k49 : 8 ≤ v48.toInt ∧ v48.toInt ≤ 248 := sub_r bv48 k37 ⟨Int.le_refl _, Int.le_refl _⟩ (by decide)
            refine call_Ti (wr := [(h_manner, .inl (cI, 4, .inl g35)), (p0, .inr (1, vL 18 F_p0_)), (h_p0_feet, .inl (cI, 12, .inl f_p0_feet)), (h_p0_weight, .inl (cI, 12, .inl f_p0_weight)), (p1, .inr (5, vL 11 F_p1_)), (h_p1_crew, .inl (cI, 4, .inl f_p1_crew)), (h_p1_yard, .inl (cI, 4, .inl f_p1_yard)), (h0, .inr (7, vL 18 F40))]) (As := [.int v48]) (rest := []) hx hb hml hown hw (m_X9_bounded l D cI cJ cB cP cM cZ v48 _ ) wT_X9_bounded (hG.2.1 (.methodLinkNest "FourSledge$Ride" 93 ⟨"FourSledge", "bounded", "(I)I"⟩ "FourSledge") (by decide +kernel)) dX7_behindJumps_140 hP hD hS hA [] [0, 1, 2, 3, 4, 5, 6, 7] rfl rfl (by decide) (by decide) (by decide) GG.fb hG.at hl.1 rfl (Nat.le_of_ble_eq_true rfl) ⟨(Nat.le_of_ble_eq_true rfl), (Nat.le_of_ble_eq_true rfl)⟩ ⟨(Nat.le_of_ble_eq_true rfl), (Nat.le_of_ble_eq_true rfl)⟩ (fun r50 u H locs hp hP hD hS => ?_)
            obtain ⟨t51, rfl⟩ := hp
            have hP : va_P D vwCl [(h_manner, .inl (cI, 4, .inl g35)), (p0, .inr (1, vL 18 F_p0_)), (h_p0_feet, .inl (cI, 12, .inl f_p0_feet)), (h_p0_weight, .inl (cI, 12, .inl f_p0_weight)), (p1, .inr (5, vL 11 F_p1_)), (h_p1_crew, .inl (cI, 4, .inl f_p1_crew)), (h_p1_yard, .inl (cI, 4, .inl f_p1_yard)), (h0, .inr (7, vL 18 F40))] H := hP
            have hD : va_D A [(h_manner, .inl (cI, 4, .inl g35)), (p0, .inr (1, vL 18 F_p0_)), (h_p0_feet, .inl (cI, 12, .inl f_p0_feet)), (h_p0_weight, .inl (cI, 12, .inl f_p0_weight)), (p1, .inr (5, vL 11 F_p1_)), (h_p1_crew, .inl (cI, 4, .inl f_p1_crew)), (h_p1_yard, .inl (cI, 4, .inl f_p1_yard)), (h0, .inr (7, vL 18 F40))] := hD
            refine W.widen (k := 0) (n := 0) (Nat.le_of_ble_eq_true rfl) (Nat.le_of_ble_eq_true rfl) ?_
            refine lv_istore (lv' := [(5, .int r50), (8, .int 0), (7, .int v23), (6, .int u1), (0, .ref h0), (1, .ref p0), (2, .ref p1), (3, .int p2), (4, .int p3)]) hx hb dX7_behindJumps_143 hl (by decide) rfl (fun ls hl => ?_)
            refine lv_aload_n hx hb dX7_behindJumps_145 rfl (lv_at hl 4 rfl) ?_
            refine lv_dup hx hb dX7_behindJumps_146 rfl ?_
            have n53 : F40 5 = .int u4 := (SAME.at t42 (by decide) i13)
            refine get_f (D := D) (ci := 7) (v := .int u4) (C := RX7) (T := TX7) (N := 18) hx hb hw inAX7 hown hK hP 7 rfl rfl 5 (by decide) (hw _ q_215) (fun _ h9 => h9) n53 dX7_behindJumps_147 ?_
            refine lv_iconst (v := 1) hx hb dX7_behindJumps_150 (by decide) ?_
            refine lv_iload hx hb dX7_behindJumps_151 (lv_at hl 3 rfl) ?_
            refine lv_ishl hx hb dX7_behindJumps_153 ?_
            refine lv_topi (fun v54 ev54 => ?_)
            have k55 : 1 ≤ v54.toInt ∧ v54.toInt ≤ 8 := by rw [ev54]; exact shl1_i (Int.le_trans (by decide) k20.1) (Int.le_trans k20.2 (by decide))
            refine lv_ior hx hb dX7_behindJumps_154 ?_
            refine lv_topi (fun v56 ev56 => ?_)
            refine put_f (D := D) (ci := 7) (v := .int v56) (ty := .int) (C := RX7) (T := TX7) (N := 18) hx hb hw inAX7 tyX7 tyX7_ok nmX7 hown hK hP hD hS 7 rfl rfl 5 (by decide) (hw _ q_215) (fun _ h9 => h9) rfl (by decide +kernel) rfl rfl dX7_behindJumps_155 (fun H locs F57 eF57 hP hD hS => ?_)
            have hP : va_P D vwCl [(h_manner, .inl (cI, 4, .inl g35)), (p0, .inr (1, vL 18 F_p0_)), (h_p0_feet, .inl (cI, 12, .inl f_p0_feet)), (h_p0_weight, .inl (cI, 12, .inl f_p0_weight)), (p1, .inr (5, vL 11 F_p1_)), (h_p1_crew, .inl (cI, 4, .inl f_p1_crew)), (h_p1_yard, .inl (cI, 4, .inl f_p1_yard)), (h0, .inr (7, vL 18 F57))] H := hP
            have hD : va_D A [(h_manner, .inl (cI, 4, .inl g35)), (p0, .inr (1, vL 18 F_p0_)), (h_p0_feet, .inl (cI, 12, .inl f_p0_feet)), (h_p0_weight, .inl (cI, 12, .inl f_p0_weight)), (p1, .inr (5, vL 11 F_p1_)), (h_p1_crew, .inl (cI, 4, .inl f_p1_crew)), (h_p1_yard, .inl (cI, 4, .inl f_p1_yard)), (h0, .inr (7, vL 18 F57))] := hD
            refine lv_aload_n hx hb dX7_behindJumps_158 rfl (lv_at hl 4 rfl) ?_
            refine lv_dup hx hb dX7_behindJumps_159 rfl ?_
            have n58 : F40 12 = .int u6 := (SAME.at t42 (by decide) i15)
            have n59 : F57 12 = .int u6 := (get_ne eF57 (by decide) n58)
            refine get_f (D := D) (ci := 7) (v := .int u6) (C := RX7) (T := TX7) (N := 18) hx hb hw inAX7 hown hK hP 7 rfl rfl 12 (by decide) (hw _ q_229) (fun _ h9 => h9) n59 dX7_behindJumps_160 ?_
            refine lv_aload_n hx hb dX7_behindJumps_163 rfl (lv_at hl 5 rfl) ?_
            refine get_f (D := D) (ci := 1) (v := .ref h_p0_weight) (C := RX1) (T := TX1) (N := 18) hx hb hw inAX1 hown hK hP 1 rfl rfl 5 (by decide) (hw _ q_333) (fun _ h9 => h9) e_p0_weight dX7_behindJumps_164 ?_
            refine lv_iload hx hb dX7_behindJumps_167 (lv_at hl 2 rfl) ?_
            refine va_iald hx hb hK hP 3 0 rfl rfl (ix_k k24 (by decide) (by decide)) dX7_behindJumps_169 ?_
            refine lv_topi (fun v60 ev60 => ?_)
            refine lv_iadd hx hb dX7_behindJumps_170 ?_
            refine lv_topi (fun v61 ev61 => ?_)
            refine put_f (D := D) (ci := 7) (v := .int v61) (ty := .int) (C := RX7) (T := TX7) (N := 18) hx hb hw inAX7 tyX7 tyX7_ok nmX7 hown hK hP hD hS 7 rfl rfl 12 (by decide) (hw _ q_229) (fun _ h9 => h9) rfl (by decide +kernel) rfl rfl dX7_behindJumps_171 (fun H locs F62 eF62 hP hD hS => ?_)
            have hP : va_P D vwCl [(h_manner, .inl (cI, 4, .inl g35)), (p0, .inr (1, vL 18 F_p0_)), (h_p0_feet, .inl (cI, 12, .inl f_p0_feet)), (h_p0_weight, .inl (cI, 12, .inl f_p0_weight)), (p1, .inr (5, vL 11 F_p1_)), (h_p1_crew, .inl (cI, 4, .inl f_p1_crew)), (h_p1_yard, .inl (cI, 4, .inl f_p1_yard)), (h0, .inr (7, vL 18 F62))] H := hP
            have hD : va_D A [(h_manner, .inl (cI, 4, .inl g35)), (p0, .inr (1, vL 18 F_p0_)), (h_p0_feet, .inl (cI, 12, .inl f_p0_feet)), (h_p0_weight, .inl (cI, 12, .inl f_p0_weight)), (p1, .inr (5, vL 11 F_p1_)), (h_p1_crew, .inl (cI, 4, .inl f_p1_crew)), (h_p1_yard, .inl (cI, 4, .inl f_p1_yard)), (h0, .inr (7, vL 18 F62))] := hD
            refine lv_aload_n hx hb dX7_behindJumps_174 rfl (lv_at hl 4 rfl) ?_
            refine lv_iload_n hx hb dX7_behindJumps_175 rfl (lv_at hl 7 rfl) ?_
            refine put_f (D := D) (ci := 7) (v := .int p2) (ty := .int) (C := RX7) (T := TX7) (N := 18) hx hb hw inAX7 tyX7 tyX7_ok nmX7 hown hK hP hD hS 7 rfl rfl 13 (by decide) (hw _ q_230) (fun _ h9 => h9) rfl (by decide +kernel) rfl rfl dX7_behindJumps_176 (fun H locs F63 eF63 hP hD hS => ?_)
            have hP : va_P D vwCl [(h_manner, .inl (cI, 4, .inl g35)), (p0, .inr (1, vL 18 F_p0_)), (h_p0_feet, .inl (cI, 12, .inl f_p0_feet)), (h_p0_weight, .inl (cI, 12, .inl f_p0_weight)), (p1, .inr (5, vL 11 F_p1_)), (h_p1_crew, .inl (cI, 4, .inl f_p1_crew)), (h_p1_yard, .inl (cI, 4, .inl f_p1_yard)), (h0, .inr (7, vL 18 F63))] H := hP
            have hD : va_D A [(h_manner, .inl (cI, 4, .inl g35)), (p0, .inr (1, vL 18 F_p0_)), (h_p0_feet, .inl (cI, 12, .inl f_p0_feet)), (h_p0_weight, .inl (cI, 12, .inl f_p0_weight)), (p1, .inr (5, vL 11 F_p1_)), (h_p1_crew, .inl (cI, 4, .inl f_p1_crew)), (h_p1_yard, .inl (cI, 4, .inl f_p1_yard)), (h0, .inr (7, vL 18 F63))] := hD
            obtain ⟨v64, ev64⟩ : ∃ z : Int32, z = u1 + 1 := ⟨_, rfl⟩
            have bv64 : v64.toInt = u1.toInt + 1 := by rw [ev64]; exact add_k rfl rfl k20 ⟨Int.le_refl _, Int.le_refl _⟩ (by decide)
            have k65 : 1 ≤ v64.toInt ∧ v64.toInt ≤ 4 := add_r bv64 k20 ⟨Int.le_refl _, Int.le_refl _⟩ (by decide)
            refine lv_iinc (v := v64) (lv' := [(6, .int v64), (5, .int r50), (8, .int 0), (7, .int v23), (0, .ref h0), (1, .ref p0), (2, .ref p1), (3, .int p2), (4, .int p3)]) hx hb dX7_behindJumps_179 hl (k := 3) rfl (by rw [ev64]; rfl) (by decide) rfl (fun ls hl => ?_)
            refine lv_goto (tgt := 7) hx hb dX7_behindJumps_182 (by decide) ?_
            have n66 : F62 5 = .int v56 := (get_ne eF62 (by decide) (get_eq eF57))
            have n67 : F63 5 = .int v56 := (get_ne eF63 (by decide) n66)
            have n68 : F40 6 = .int u5 := (SAME.at t42 (by decide) i14)
            have n69 : F57 6 = .int u5 := (get_ne eF57 (by decide) n68)
            have n70 : F62 6 = .int u5 := (get_ne eF62 (by decide) n69)
            have n71 : F63 6 = .int u5 := (get_ne eF63 (by decide) n70)
            have n72 : F63 12 = .int v61 := (get_ne eF63 (by decide) (get_eq eF62))
            have n73 : F57 15 = .int y41 := (get_ne eF57 (by decide) t43)
            have n74 : F62 15 = .int y41 := (get_ne eF62 (by decide) n73)
            have n75 : F63 15 = .int y41 := (get_ne eF63 (by decide) n74)
            exact ih (v64, r50, F63, v56, u5, v61, p2, y41, g35) ⟨(ir_wk k65 (by decide) (by decide)), t51, (SAME.up eF63 (SAME.up eF62 (SAME.up eF57 (SAME.tr (SAME.tr SAME.rf i12 (by decide)) t42 (by decide)) (by decide)) (by decide)) (by decide)), n67, n71, n72, (get_eq eF63), n75⟩ (by show (4 - v64.toInt).toNat < (4 - u1.toInt).toNat; omega) _ _ _ (hP.sub [7, 0, 1, 2, 3, 4, 5, 6] rfl) (hD.sub [7, 0, 1, 2, 3, 4, 5, 6] (by decide) rfl) hS (lv_sub hl [0, 1, 4, 5, 6, 7, 8] rfl)
          · have dc46 : r39.toInt ≠ 0 := ne_i (a := r39.toInt) (b := 0) rfl rfl c46
            have k76 : 1 ≤ r39.toInt ∧ r39.toInt ≤ 1 := ⟨ne_lo dc46 t44.1 ⟨Int.le_refl _, Int.le_refl _⟩ (by decide), t44.2⟩
            refine lv_bipush (v := 10) hx hb dX7_behindJumps_133 (by decide) ?_
            refine lv_goto (tgt := 139) hx hb dX7_behindJumps_135 (by decide) ?_
            refine lv_isub hx hb dX7_behindJumps_139 ?_
            refine lv_topi (fun v77 ev77 => ?_)
            have bv77 : v77.toInt = v36.toInt - 10 := by rw [ev77]; exact sub_k rfl rfl k37 ⟨Int.le_refl _, Int.le_refl _⟩ (by decide)
            have k78 : (-2) ≤ v77.toInt ∧ v77.toInt ≤ 238 := sub_r bv77 k37 ⟨Int.le_refl _, Int.le_refl _⟩ (by decide)
            refine call_Ti (wr := [(h_manner, .inl (cI, 4, .inl g35)), (p0, .inr (1, vL 18 F_p0_)), (h_p0_feet, .inl (cI, 12, .inl f_p0_feet)), (h_p0_weight, .inl (cI, 12, .inl f_p0_weight)), (p1, .inr (5, vL 11 F_p1_)), (h_p1_crew, .inl (cI, 4, .inl f_p1_crew)), (h_p1_yard, .inl (cI, 4, .inl f_p1_yard)), (h0, .inr (7, vL 18 F40))]) (As := [.int v77]) (rest := []) hx hb hml hown hw (m_X9_bounded l D cI cJ cB cP cM cZ v77 _ ) wT_X9_bounded (hG.2.1 (.methodLinkNest "FourSledge$Ride" 93 ⟨"FourSledge", "bounded", "(I)I"⟩ "FourSledge") (by decide +kernel)) dX7_behindJumps_140 hP hD hS hA [] [0, 1, 2, 3, 4, 5, 6, 7] rfl rfl (by decide) (by decide) (by decide) GG.fb hG.at hl.1 rfl (Nat.le_of_ble_eq_true rfl) ⟨(Nat.le_of_ble_eq_true rfl), (Nat.le_of_ble_eq_true rfl)⟩ ⟨(Nat.le_of_ble_eq_true rfl), (Nat.le_of_ble_eq_true rfl)⟩ (fun r79 u H locs hp hP hD hS => ?_)
            obtain ⟨t80, rfl⟩ := hp
            have hP : va_P D vwCl [(h_manner, .inl (cI, 4, .inl g35)), (p0, .inr (1, vL 18 F_p0_)), (h_p0_feet, .inl (cI, 12, .inl f_p0_feet)), (h_p0_weight, .inl (cI, 12, .inl f_p0_weight)), (p1, .inr (5, vL 11 F_p1_)), (h_p1_crew, .inl (cI, 4, .inl f_p1_crew)), (h_p1_yard, .inl (cI, 4, .inl f_p1_yard)), (h0, .inr (7, vL 18 F40))] H := hP
            have hD : va_D A [(h_manner, .inl (cI, 4, .inl g35)), (p0, .inr (1, vL 18 F_p0_)), (h_p0_feet, .inl (cI, 12, .inl f_p0_feet)), (h_p0_weight, .inl (cI, 12, .inl f_p0_weight)), (p1, .inr (5, vL 11 F_p1_)), (h_p1_crew, .inl (cI, 4, .inl f_p1_crew)), (h_p1_yard, .inl (cI, 4, .inl f_p1_yard)), (h0, .inr (7, vL 18 F40))] := hD
            refine W.widen (k := 0) (n := 0) (Nat.le_of_ble_eq_true rfl) (Nat.le_of_ble_eq_true rfl) ?_
            refine lv_istore (lv' := [(5, .int r79), (8, .int 0), (7, .int v23), (6, .int u1), (0, .ref h0), (1, .ref p0), (2, .ref p1), (3, .int p2), (4, .int p3)]) hx hb dX7_behindJumps_143 hl (by decide) rfl (fun ls hl => ?_)
            refine lv_aload_n hx hb dX7_behindJumps_145 rfl (lv_at hl 4 rfl) ?_
            refine lv_dup hx hb dX7_behindJumps_146 rfl ?_
            have n82 : F40 5 = .int u4 := (SAME.at t42 (by decide) i13)
            refine get_f (D := D) (ci := 7) (v := .int u4) (C := RX7) (T := TX7) (N := 18) hx hb hw inAX7 hown hK hP 7 rfl rfl 5 (by decide) (hw _ q_215) (fun _ h9 => h9) n82 dX7_behindJumps_147 ?_
            refine lv_iconst (v := 1) hx hb dX7_behindJumps_150 (by decide) ?_
            refine lv_iload hx hb dX7_behindJumps_151 (lv_at hl 3 rfl) ?_
            refine lv_ishl hx hb dX7_behindJumps_153 ?_
            refine lv_topi (fun v83 ev83 => ?_)
            have k84 : 1 ≤ v83.toInt ∧ v83.toInt ≤ 8 := by rw [ev83]; exact shl1_i (Int.le_trans (by decide) k20.1) (Int.le_trans k20.2 (by decide))
            refine lv_ior hx hb dX7_behindJumps_154 ?_
            refine lv_topi (fun v85 ev85 => ?_)
            refine put_f (D := D) (ci := 7) (v := .int v85) (ty := .int) (C := RX7) (T := TX7) (N := 18) hx hb hw inAX7 tyX7 tyX7_ok nmX7 hown hK hP hD hS 7 rfl rfl 5 (by decide) (hw _ q_215) (fun _ h9 => h9) rfl (by decide +kernel) rfl rfl dX7_behindJumps_155 (fun H locs F86 eF86 hP hD hS => ?_)
            have hP : va_P D vwCl [(h_manner, .inl (cI, 4, .inl g35)), (p0, .inr (1, vL 18 F_p0_)), (h_p0_feet, .inl (cI, 12, .inl f_p0_feet)), (h_p0_weight, .inl (cI, 12, .inl f_p0_weight)), (p1, .inr (5, vL 11 F_p1_)), (h_p1_crew, .inl (cI, 4, .inl f_p1_crew)), (h_p1_yard, .inl (cI, 4, .inl f_p1_yard)), (h0, .inr (7, vL 18 F86))] H := hP
            have hD : va_D A [(h_manner, .inl (cI, 4, .inl g35)), (p0, .inr (1, vL 18 F_p0_)), (h_p0_feet, .inl (cI, 12, .inl f_p0_feet)), (h_p0_weight, .inl (cI, 12, .inl f_p0_weight)), (p1, .inr (5, vL 11 F_p1_)), (h_p1_crew, .inl (cI, 4, .inl f_p1_crew)), (h_p1_yard, .inl (cI, 4, .inl f_p1_yard)), (h0, .inr (7, vL 18 F86))] := hD
            refine lv_aload_n hx hb dX7_behindJumps_158 rfl (lv_at hl 4 rfl) ?_
            refine lv_dup hx hb dX7_behindJumps_159 rfl ?_
            have n87 : F40 12 = .int u6 := (SAME.at t42 (by decide) i15)
            have n88 : F86 12 = .int u6 := (get_ne eF86 (by decide) n87)
            refine get_f (D := D) (ci := 7) (v := .int u6) (C := RX7) (T := TX7) (N := 18) hx hb hw inAX7 hown hK hP 7 rfl rfl 12 (by decide) (hw _ q_229) (fun _ h9 => h9) n88 dX7_behindJumps_160 ?_
            refine lv_aload_n hx hb dX7_behindJumps_163 rfl (lv_at hl 5 rfl) ?_
            refine get_f (D := D) (ci := 1) (v := .ref h_p0_weight) (C := RX1) (T := TX1) (N := 18) hx hb hw inAX1 hown hK hP 1 rfl rfl 5 (by decide) (hw _ q_333) (fun _ h9 => h9) e_p0_weight dX7_behindJumps_164 ?_
            refine lv_iload hx hb dX7_behindJumps_167 (lv_at hl 2 rfl) ?_
            refine va_iald hx hb hK hP 3 0 rfl rfl (ix_k k24 (by decide) (by decide)) dX7_behindJumps_169 ?_
            refine lv_topi (fun v89 ev89 => ?_)
            refine lv_iadd hx hb dX7_behindJumps_170 ?_
            refine lv_topi (fun v90 ev90 => ?_)
            refine put_f (D := D) (ci := 7) (v := .int v90) (ty := .int) (C := RX7) (T := TX7) (N := 18) hx hb hw inAX7 tyX7 tyX7_ok nmX7 hown hK hP hD hS 7 rfl rfl 12 (by decide) (hw _ q_229) (fun _ h9 => h9) rfl (by decide +kernel) rfl rfl dX7_behindJumps_171 (fun H locs F91 eF91 hP hD hS => ?_)
            have hP : va_P D vwCl [(h_manner, .inl (cI, 4, .inl g35)), (p0, .inr (1, vL 18 F_p0_)), (h_p0_feet, .inl (cI, 12, .inl f_p0_feet)), (h_p0_weight, .inl (cI, 12, .inl f_p0_weight)), (p1, .inr (5, vL 11 F_p1_)), (h_p1_crew, .inl (cI, 4, .inl f_p1_crew)), (h_p1_yard, .inl (cI, 4, .inl f_p1_yard)), (h0, .inr (7, vL 18 F91))] H := hP
            have hD : va_D A [(h_manner, .inl (cI, 4, .inl g35)), (p0, .inr (1, vL 18 F_p0_)), (h_p0_feet, .inl (cI, 12, .inl f_p0_feet)), (h_p0_weight, .inl (cI, 12, .inl f_p0_weight)), (p1, .inr (5, vL 11 F_p1_)), (h_p1_crew, .inl (cI, 4, .inl f_p1_crew)), (h_p1_yard, .inl (cI, 4, .inl f_p1_yard)), (h0, .inr (7, vL 18 F91))] := hD
            refine lv_aload_n hx hb dX7_behindJumps_174 rfl (lv_at hl 4 rfl) ?_
            refine lv_iload_n hx hb dX7_behindJumps_175 rfl (lv_at hl 7 rfl) ?_
            refine put_f (D := D) (ci := 7) (v := .int p2) (ty := .int) (C := RX7) (T := TX7) (N := 18) hx hb hw inAX7 tyX7 tyX7_ok nmX7 hown hK hP hD hS 7 rfl rfl 13 (by decide) (hw _ q_230) (fun _ h9 => h9) rfl (by decide +kernel) rfl rfl dX7_behindJumps_176 (fun H locs F92 eF92 hP hD hS => ?_)
            have hP : va_P D vwCl [(h_manner, .inl (cI, 4, .inl g35)), (p0, .inr (1, vL 18 F_p0_)), (h_p0_feet, .inl (cI, 12, .inl f_p0_feet)), (h_p0_weight, .inl (cI, 12, .inl f_p0_weight)), (p1, .inr (5, vL 11 F_p1_)), (h_p1_crew, .inl (cI, 4, .inl f_p1_crew)), (h_p1_yard, .inl (cI, 4, .inl f_p1_yard)), (h0, .inr (7, vL 18 F92))] H := hP
            have hD : va_D A [(h_manner, .inl (cI, 4, .inl g35)), (p0, .inr (1, vL 18 F_p0_)), (h_p0_feet, .inl (cI, 12, .inl f_p0_feet)), (h_p0_weight, .inl (cI, 12, .inl f_p0_weight)), (p1, .inr (5, vL 11 F_p1_)), (h_p1_crew, .inl (cI, 4, .inl f_p1_crew)), (h_p1_yard, .inl (cI, 4, .inl f_p1_yard)), (h0, .inr (7, vL 18 F92))] := hD
            obtain ⟨v93, ev93⟩ : ∃ z : Int32, z = u1 + 1 := ⟨_, rfl⟩
            have bv93 : v93.toInt = u1.toInt + 1 := by rw [ev93]; exact add_k rfl rfl k20 ⟨Int.le_refl _, Int.le_refl _⟩ (by decide)
            have k94 : 1 ≤ v93.toInt ∧ v93.toInt ≤ 4 := add_r bv93 k20 ⟨Int.le_refl _, Int.le_refl _⟩ (by decide)
            refine lv_iinc (v := v93) (lv' := [(6, .int v93), (5, .int r79), (8, .int 0), (7, .int v23), (0, .ref h0), (1, .ref p0), (2, .ref p1), (3, .int p2), (4, .int p3)]) hx hb dX7_behindJumps_179 hl (k := 3) rfl (by rw [ev93]; rfl) (by decide) rfl (fun ls hl => ?_)
            refine lv_goto (tgt := 7) hx hb dX7_behindJumps_182 (by decide) ?_
            have n95 : F91 5 = .int v85 := (get_ne eF91 (by decide) (get_eq eF86))
            have n96 : F92 5 = .int v85 := (get_ne eF92 (by decide) n95)
            have n97 : F40 6 = .int u5 := (SAME.at t42 (by decide) i14)
            have n98 : F86 6 = .int u5 := (get_ne eF86 (by decide) n97)
            have n99 : F91 6 = .int u5 := (get_ne eF91 (by decide) n98)
            have n100 : F92 6 = .int u5 := (get_ne eF92 (by decide) n99)
            have n101 : F92 12 = .int v90 := (get_ne eF92 (by decide) (get_eq eF91))
            have n102 : F86 15 = .int y41 := (get_ne eF86 (by decide) t43)
            have n103 : F91 15 = .int y41 := (get_ne eF91 (by decide) n102)
            have n104 : F92 15 = .int y41 := (get_ne eF92 (by decide) n103)
            exact ih (v93, r79, F92, v85, u5, v90, p2, y41, g35) ⟨(ir_wk k94 (by decide) (by decide)), t80, (SAME.up eF92 (SAME.up eF91 (SAME.up eF86 (SAME.tr (SAME.tr SAME.rf i12 (by decide)) t42 (by decide)) (by decide)) (by decide)) (by decide)), n96, n100, n101, (get_eq eF92), n104⟩ (by show (4 - v93.toInt).toNat < (4 - u1.toInt).toNat; omega) _ _ _ (hP.sub [7, 0, 1, 2, 3, 4, 5, 6] rfl) (hD.sub [7, 0, 1, 2, 3, 4, 5, 6] (by decide) rfl) hS (lv_sub hl [0, 1, 4, 5, 6, 7, 8] rfl)
        · have dc31 : v30.toInt ≤ u7.toInt := nlt_i (a := u7.toInt) (b := v30.toInt) rfl rfl c31
          refine lv_iconst (v := 1) hx hb dX7_behindJumps_88 (by decide) ?_
          refine lv_goto (tgt := 93) hx hb dX7_behindJumps_89 (by decide) ?_
          refine lv_istore (lv' := [(8, .int 1), (7, .int v23), (6, .int u1), (5, .int u2), (0, .ref h0), (1, .ref p0), (2, .ref p1), (3, .int p2), (4, .int p3)]) hx hb dX7_behindJumps_93 hl (by decide) rfl (fun ls hl => ?_)
          refine lv_aload_n hx hb dX7_behindJumps_95 rfl (lv_at hl 4 rfl) ?_
          have n105 : G3 1 = .ref h_manner := (SAME.at i12 (by decide) e_manner)
          refine get_f (D := D) (ci := 7) (v := .ref h_manner) (C := RX7) (T := TX7) (N := 18) hx hb hw inAX7 hown hK hP 0 rfl rfl 1 (by decide) (hw _ q_207) (fun _ h9 => h9) n105 dX7_behindJumps_96 ?_
          refine lv_iload hx hb dX7_behindJumps_99 (lv_at hl 2 rfl) ?_
          refine lv_iload hx hb dX7_behindJumps_101 (lv_at hl 0 rfl) ?_
          refine lv_if_eq (tgt := 110) hx hb dX7_behindJumps_103 (by decide) (fun g => absurd g (by decide)) (fun _ => ?_)
          refine lv_iconst (v := 1) hx hb dX7_behindJumps_106 (by decide) ?_
          refine lv_goto (tgt := 111) hx hb dX7_behindJumps_107 (by decide) ?_
          obtain ⟨g106, eg106⟩ : ∃ z : Nat → Int32, upd w9 u1.toNatClampNeg 1 = z := ⟨_, rfl⟩
          refine iast_g hx hb hK hP hD hS 1 0 rfl rfl (ix_k k20 (by decide) (by decide)) eg106 dX7_behindJumps_111 (fun H locs hP hD hS => ?_)
          have hP : va_P D vwCl [(h0, .inr (7, vL 18 G3)), (h_manner, .inl (cI, 4, .inl g106)), (p0, .inr (1, vL 18 F_p0_)), (h_p0_feet, .inl (cI, 12, .inl f_p0_feet)), (h_p0_weight, .inl (cI, 12, .inl f_p0_weight)), (p1, .inr (5, vL 11 F_p1_)), (h_p1_crew, .inl (cI, 4, .inl f_p1_crew)), (h_p1_yard, .inl (cI, 4, .inl f_p1_yard))] H := hP
          have hD : va_D A [(h0, .inr (7, vL 18 G3)), (h_manner, .inl (cI, 4, .inl g106)), (p0, .inr (1, vL 18 F_p0_)), (h_p0_feet, .inl (cI, 12, .inl f_p0_feet)), (h_p0_weight, .inl (cI, 12, .inl f_p0_weight)), (p1, .inr (5, vL 11 F_p1_)), (h_p1_crew, .inl (cI, 4, .inl f_p1_crew)), (h_p1_yard, .inl (cI, 4, .inl f_p1_yard))] := hD
          refine lv_iload hx hb dX7_behindJumps_112 (lv_at hl 3 rfl) ?_
          refine lv_iload hx hb dX7_behindJumps_114 (lv_at hl 0 rfl) ?_
          refine lv_if_eq (tgt := 124) hx hb dX7_behindJumps_116 (by decide) (fun g => absurd g (by decide)) (fun _ => ?_)
          refine lv_bipush (v := 6) hx hb dX7_behindJumps_119 (by decide) ?_
          refine lv_goto (tgt := 125) hx hb dX7_behindJumps_121 (by decide) ?_
          refine lv_isub hx hb dX7_behindJumps_125 ?_
          refine lv_topi (fun v107 ev107 => ?_)
          have bv107 : v107.toInt = u2.toInt - 6 := by rw [ev107]; exact sub_k rfl rfl i11 ⟨Int.le_refl _, Int.le_refl _⟩ (by decide)
          have k108 : 4 ≤ v107.toInt ∧ v107.toInt ≤ 244 := sub_r bv107 i11 ⟨Int.le_refl _, Int.le_refl _⟩ (by decide)
          refine lv_aload_n hx hb dX7_behindJumps_126 rfl (lv_at hl 4 rfl) ?_
          have n109 : G3 14 = .int x_kicks := (SAME.at i12 (by decide) e_kicks)
          refine call_Vi (wr := [(h_manner, .inl (cI, 4, .inl g106)), (p0, .inr (1, vL 18 F_p0_)), (h_p0_feet, .inl (cI, 12, .inl f_p0_feet)), (h_p0_weight, .inl (cI, 12, .inl f_p0_weight)), (p1, .inr (5, vL 11 F_p1_)), (h_p1_crew, .inl (cI, 4, .inl f_p1_crew)), (h_p1_yard, .inl (cI, 4, .inl f_p1_yard))]) (As := []) (rest := [.int v107]) hx hb hml hown hw (m_X7_drawsKick l D cI cJ cB cP cM cZ h0 G3 x_kicks u8 _ n109 i_x_kicks i17) wV_X7_121_X7_drawsKick dX7_behindJumps_127 hK hP hD hS hA [0] [1, 2, 3, 4, 5, 6, 7] rfl rfl (by decide) (by decide) (by decide) 0 7 rfl rfl GG.fb hG.at hl.1 rfl (Nat.le_of_ble_eq_true rfl) ⟨(Nat.le_of_ble_eq_true rfl), (Nat.le_of_ble_eq_true rfl)⟩ ⟨(Nat.le_of_ble_eq_true rfl), (Nat.le_of_ble_eq_true rfl)⟩ (fun r110 u H locs hp hP hD hS => ?_)
          obtain ⟨F111, y112, t113, t114, t115, rfl⟩ := hp
          have hP : va_P D vwCl [(h_manner, .inl (cI, 4, .inl g106)), (p0, .inr (1, vL 18 F_p0_)), (h_p0_feet, .inl (cI, 12, .inl f_p0_feet)), (h_p0_weight, .inl (cI, 12, .inl f_p0_weight)), (p1, .inr (5, vL 11 F_p1_)), (h_p1_crew, .inl (cI, 4, .inl f_p1_crew)), (h_p1_yard, .inl (cI, 4, .inl f_p1_yard)), (h0, .inr (7, vL 18 F111))] H := hP
          have hD : va_D A [(h_manner, .inl (cI, 4, .inl g106)), (p0, .inr (1, vL 18 F_p0_)), (h_p0_feet, .inl (cI, 12, .inl f_p0_feet)), (h_p0_weight, .inl (cI, 12, .inl f_p0_weight)), (p1, .inr (5, vL 11 F_p1_)), (h_p1_crew, .inl (cI, 4, .inl f_p1_crew)), (h_p1_yard, .inl (cI, 4, .inl f_p1_yard)), (h0, .inr (7, vL 18 F111))] := hD
          refine W.widen (k := 0) (n := 0) (Nat.le_of_ble_eq_true rfl) (Nat.le_of_ble_eq_true rfl) ?_
          refine lv_if_eq (tgt := 138) hx hb dX7_behindJumps_130 (by decide) (fun c117 => ?_) (fun c117 => ?_)
          · have dc117 : r110.toInt = 0 := eq_i (a := r110.toInt) (b := 0) rfl rfl c117
            have k118 : 0 ≤ r110.toInt ∧ r110.toInt ≤ 0 := ⟨t115.1, Int.le_trans (Int.le_of_eq dc117) (Int.le_refl _)⟩
            refine lv_iconst (v := 0) hx hb dX7_behindJumps_138 (by decide) ?_
            refine lv_isub hx hb dX7_behindJumps_139 ?_
            refine lv_topi (fun v119 ev119 => ?_)
            have bv119 : v119.toInt = v107.toInt - 0 := by rw [ev119]; exact sub_k rfl rfl k108 ⟨Int.le_refl _, Int.le_refl _⟩ (by decide)
            have k120 : 4 ≤ v119.toInt ∧ v119.toInt ≤ 244 := sub_r bv119 k108 ⟨Int.le_refl _, Int.le_refl _⟩ (by decide)
            refine call_Ti (wr := [(h_manner, .inl (cI, 4, .inl g106)), (p0, .inr (1, vL 18 F_p0_)), (h_p0_feet, .inl (cI, 12, .inl f_p0_feet)), (h_p0_weight, .inl (cI, 12, .inl f_p0_weight)), (p1, .inr (5, vL 11 F_p1_)), (h_p1_crew, .inl (cI, 4, .inl f_p1_crew)), (h_p1_yard, .inl (cI, 4, .inl f_p1_yard)), (h0, .inr (7, vL 18 F111))]) (As := [.int v119]) (rest := []) hx hb hml hown hw (m_X9_bounded l D cI cJ cB cP cM cZ v119 _ ) wT_X9_bounded (hG.2.1 (.methodLinkNest "FourSledge$Ride" 93 ⟨"FourSledge", "bounded", "(I)I"⟩ "FourSledge") (by decide +kernel)) dX7_behindJumps_140 hP hD hS hA [] [0, 1, 2, 3, 4, 5, 6, 7] rfl rfl (by decide) (by decide) (by decide) GG.fb hG.at hl.1 rfl (Nat.le_of_ble_eq_true rfl) ⟨(Nat.le_of_ble_eq_true rfl), (Nat.le_of_ble_eq_true rfl)⟩ ⟨(Nat.le_of_ble_eq_true rfl), (Nat.le_of_ble_eq_true rfl)⟩ (fun r121 u H locs hp hP hD hS => ?_)
            obtain ⟨t122, rfl⟩ := hp
            have hP : va_P D vwCl [(h_manner, .inl (cI, 4, .inl g106)), (p0, .inr (1, vL 18 F_p0_)), (h_p0_feet, .inl (cI, 12, .inl f_p0_feet)), (h_p0_weight, .inl (cI, 12, .inl f_p0_weight)), (p1, .inr (5, vL 11 F_p1_)), (h_p1_crew, .inl (cI, 4, .inl f_p1_crew)), (h_p1_yard, .inl (cI, 4, .inl f_p1_yard)), (h0, .inr (7, vL 18 F111))] H := hP
            have hD : va_D A [(h_manner, .inl (cI, 4, .inl g106)), (p0, .inr (1, vL 18 F_p0_)), (h_p0_feet, .inl (cI, 12, .inl f_p0_feet)), (h_p0_weight, .inl (cI, 12, .inl f_p0_weight)), (p1, .inr (5, vL 11 F_p1_)), (h_p1_crew, .inl (cI, 4, .inl f_p1_crew)), (h_p1_yard, .inl (cI, 4, .inl f_p1_yard)), (h0, .inr (7, vL 18 F111))] := hD
            refine W.widen (k := 0) (n := 0) (Nat.le_of_ble_eq_true rfl) (Nat.le_of_ble_eq_true rfl) ?_
            refine lv_istore (lv' := [(5, .int r121), (8, .int 1), (7, .int v23), (6, .int u1), (0, .ref h0), (1, .ref p0), (2, .ref p1), (3, .int p2), (4, .int p3)]) hx hb dX7_behindJumps_143 hl (by decide) rfl (fun ls hl => ?_)
            refine lv_aload_n hx hb dX7_behindJumps_145 rfl (lv_at hl 4 rfl) ?_
            refine lv_dup hx hb dX7_behindJumps_146 rfl ?_
            have n124 : F111 5 = .int u4 := (SAME.at t113 (by decide) i13)
            refine get_f (D := D) (ci := 7) (v := .int u4) (C := RX7) (T := TX7) (N := 18) hx hb hw inAX7 hown hK hP 7 rfl rfl 5 (by decide) (hw _ q_215) (fun _ h9 => h9) n124 dX7_behindJumps_147 ?_
            refine lv_iconst (v := 1) hx hb dX7_behindJumps_150 (by decide) ?_
            refine lv_iload hx hb dX7_behindJumps_151 (lv_at hl 3 rfl) ?_
            refine lv_ishl hx hb dX7_behindJumps_153 ?_
            refine lv_topi (fun v125 ev125 => ?_)
            have k126 : 1 ≤ v125.toInt ∧ v125.toInt ≤ 8 := by rw [ev125]; exact shl1_i (Int.le_trans (by decide) k20.1) (Int.le_trans k20.2 (by decide))
            refine lv_ior hx hb dX7_behindJumps_154 ?_
            refine lv_topi (fun v127 ev127 => ?_)
            refine put_f (D := D) (ci := 7) (v := .int v127) (ty := .int) (C := RX7) (T := TX7) (N := 18) hx hb hw inAX7 tyX7 tyX7_ok nmX7 hown hK hP hD hS 7 rfl rfl 5 (by decide) (hw _ q_215) (fun _ h9 => h9) rfl (by decide +kernel) rfl rfl dX7_behindJumps_155 (fun H locs F128 eF128 hP hD hS => ?_)
            have hP : va_P D vwCl [(h_manner, .inl (cI, 4, .inl g106)), (p0, .inr (1, vL 18 F_p0_)), (h_p0_feet, .inl (cI, 12, .inl f_p0_feet)), (h_p0_weight, .inl (cI, 12, .inl f_p0_weight)), (p1, .inr (5, vL 11 F_p1_)), (h_p1_crew, .inl (cI, 4, .inl f_p1_crew)), (h_p1_yard, .inl (cI, 4, .inl f_p1_yard)), (h0, .inr (7, vL 18 F128))] H := hP
            have hD : va_D A [(h_manner, .inl (cI, 4, .inl g106)), (p0, .inr (1, vL 18 F_p0_)), (h_p0_feet, .inl (cI, 12, .inl f_p0_feet)), (h_p0_weight, .inl (cI, 12, .inl f_p0_weight)), (p1, .inr (5, vL 11 F_p1_)), (h_p1_crew, .inl (cI, 4, .inl f_p1_crew)), (h_p1_yard, .inl (cI, 4, .inl f_p1_yard)), (h0, .inr (7, vL 18 F128))] := hD
            refine lv_aload_n hx hb dX7_behindJumps_158 rfl (lv_at hl 4 rfl) ?_
            refine lv_dup hx hb dX7_behindJumps_159 rfl ?_
            have n129 : F111 12 = .int u6 := (SAME.at t113 (by decide) i15)
            have n130 : F128 12 = .int u6 := (get_ne eF128 (by decide) n129)
            refine get_f (D := D) (ci := 7) (v := .int u6) (C := RX7) (T := TX7) (N := 18) hx hb hw inAX7 hown hK hP 7 rfl rfl 12 (by decide) (hw _ q_229) (fun _ h9 => h9) n130 dX7_behindJumps_160 ?_
            refine lv_aload_n hx hb dX7_behindJumps_163 rfl (lv_at hl 5 rfl) ?_
            refine get_f (D := D) (ci := 1) (v := .ref h_p0_weight) (C := RX1) (T := TX1) (N := 18) hx hb hw inAX1 hown hK hP 1 rfl rfl 5 (by decide) (hw _ q_333) (fun _ h9 => h9) e_p0_weight dX7_behindJumps_164 ?_
            refine lv_iload hx hb dX7_behindJumps_167 (lv_at hl 2 rfl) ?_
            refine va_iald hx hb hK hP 3 0 rfl rfl (ix_k k24 (by decide) (by decide)) dX7_behindJumps_169 ?_
            refine lv_topi (fun v131 ev131 => ?_)
            refine lv_iadd hx hb dX7_behindJumps_170 ?_
            refine lv_topi (fun v132 ev132 => ?_)
            refine put_f (D := D) (ci := 7) (v := .int v132) (ty := .int) (C := RX7) (T := TX7) (N := 18) hx hb hw inAX7 tyX7 tyX7_ok nmX7 hown hK hP hD hS 7 rfl rfl 12 (by decide) (hw _ q_229) (fun _ h9 => h9) rfl (by decide +kernel) rfl rfl dX7_behindJumps_171 (fun H locs F133 eF133 hP hD hS => ?_)
            have hP : va_P D vwCl [(h_manner, .inl (cI, 4, .inl g106)), (p0, .inr (1, vL 18 F_p0_)), (h_p0_feet, .inl (cI, 12, .inl f_p0_feet)), (h_p0_weight, .inl (cI, 12, .inl f_p0_weight)), (p1, .inr (5, vL 11 F_p1_)), (h_p1_crew, .inl (cI, 4, .inl f_p1_crew)), (h_p1_yard, .inl (cI, 4, .inl f_p1_yard)), (h0, .inr (7, vL 18 F133))] H := hP
            have hD : va_D A [(h_manner, .inl (cI, 4, .inl g106)), (p0, .inr (1, vL 18 F_p0_)), (h_p0_feet, .inl (cI, 12, .inl f_p0_feet)), (h_p0_weight, .inl (cI, 12, .inl f_p0_weight)), (p1, .inr (5, vL 11 F_p1_)), (h_p1_crew, .inl (cI, 4, .inl f_p1_crew)), (h_p1_yard, .inl (cI, 4, .inl f_p1_yard)), (h0, .inr (7, vL 18 F133))] := hD
            refine lv_aload_n hx hb dX7_behindJumps_174 rfl (lv_at hl 4 rfl) ?_
            refine lv_iload_n hx hb dX7_behindJumps_175 rfl (lv_at hl 7 rfl) ?_
            refine put_f (D := D) (ci := 7) (v := .int p2) (ty := .int) (C := RX7) (T := TX7) (N := 18) hx hb hw inAX7 tyX7 tyX7_ok nmX7 hown hK hP hD hS 7 rfl rfl 13 (by decide) (hw _ q_230) (fun _ h9 => h9) rfl (by decide +kernel) rfl rfl dX7_behindJumps_176 (fun H locs F134 eF134 hP hD hS => ?_)
            have hP : va_P D vwCl [(h_manner, .inl (cI, 4, .inl g106)), (p0, .inr (1, vL 18 F_p0_)), (h_p0_feet, .inl (cI, 12, .inl f_p0_feet)), (h_p0_weight, .inl (cI, 12, .inl f_p0_weight)), (p1, .inr (5, vL 11 F_p1_)), (h_p1_crew, .inl (cI, 4, .inl f_p1_crew)), (h_p1_yard, .inl (cI, 4, .inl f_p1_yard)), (h0, .inr (7, vL 18 F134))] H := hP
            have hD : va_D A [(h_manner, .inl (cI, 4, .inl g106)), (p0, .inr (1, vL 18 F_p0_)), (h_p0_feet, .inl (cI, 12, .inl f_p0_feet)), (h_p0_weight, .inl (cI, 12, .inl f_p0_weight)), (p1, .inr (5, vL 11 F_p1_)), (h_p1_crew, .inl (cI, 4, .inl f_p1_crew)), (h_p1_yard, .inl (cI, 4, .inl f_p1_yard)), (h0, .inr (7, vL 18 F134))] := hD
            obtain ⟨v135, ev135⟩ : ∃ z : Int32, z = u1 + 1 := ⟨_, rfl⟩
            have bv135 : v135.toInt = u1.toInt + 1 := by rw [ev135]; exact add_k rfl rfl k20 ⟨Int.le_refl _, Int.le_refl _⟩ (by decide)
            have k136 : 1 ≤ v135.toInt ∧ v135.toInt ≤ 4 := add_r bv135 k20 ⟨Int.le_refl _, Int.le_refl _⟩ (by decide)
            refine lv_iinc (v := v135) (lv' := [(6, .int v135), (5, .int r121), (8, .int 1), (7, .int v23), (0, .ref h0), (1, .ref p0), (2, .ref p1), (3, .int p2), (4, .int p3)]) hx hb dX7_behindJumps_179 hl (k := 3) rfl (by rw [ev135]; rfl) (by decide) rfl (fun ls hl => ?_)
            refine lv_goto (tgt := 7) hx hb dX7_behindJumps_182 (by decide) ?_
            have n137 : F133 5 = .int v127 := (get_ne eF133 (by decide) (get_eq eF128))
            have n138 : F134 5 = .int v127 := (get_ne eF134 (by decide) n137)
            have n139 : F111 6 = .int u5 := (SAME.at t113 (by decide) i14)
            have n140 : F128 6 = .int u5 := (get_ne eF128 (by decide) n139)
            have n141 : F133 6 = .int u5 := (get_ne eF133 (by decide) n140)
            have n142 : F134 6 = .int u5 := (get_ne eF134 (by decide) n141)
            have n143 : F134 12 = .int v132 := (get_ne eF134 (by decide) (get_eq eF133))
            have n144 : F128 15 = .int y112 := (get_ne eF128 (by decide) t114)
            have n145 : F133 15 = .int y112 := (get_ne eF133 (by decide) n144)
            have n146 : F134 15 = .int y112 := (get_ne eF134 (by decide) n145)
            exact ih (v135, r121, F134, v127, u5, v132, p2, y112, g106) ⟨(ir_wk k136 (by decide) (by decide)), t122, (SAME.up eF134 (SAME.up eF133 (SAME.up eF128 (SAME.tr (SAME.tr SAME.rf i12 (by decide)) t113 (by decide)) (by decide)) (by decide)) (by decide)), n138, n142, n143, (get_eq eF134), n146⟩ (by show (4 - v135.toInt).toNat < (4 - u1.toInt).toNat; omega) _ _ _ (hP.sub [7, 0, 1, 2, 3, 4, 5, 6] rfl) (hD.sub [7, 0, 1, 2, 3, 4, 5, 6] (by decide) rfl) hS (lv_sub hl [0, 1, 4, 5, 6, 7, 8] rfl)
          · have dc117 : r110.toInt ≠ 0 := ne_i (a := r110.toInt) (b := 0) rfl rfl c117
            have k147 : 1 ≤ r110.toInt ∧ r110.toInt ≤ 1 := ⟨ne_lo dc117 t115.1 ⟨Int.le_refl _, Int.le_refl _⟩ (by decide), t115.2⟩
            refine lv_bipush (v := 10) hx hb dX7_behindJumps_133 (by decide) ?_
            refine lv_goto (tgt := 139) hx hb dX7_behindJumps_135 (by decide) ?_
            refine lv_isub hx hb dX7_behindJumps_139 ?_
            refine lv_topi (fun v148 ev148 => ?_)
            have bv148 : v148.toInt = v107.toInt - 10 := by rw [ev148]; exact sub_k rfl rfl k108 ⟨Int.le_refl _, Int.le_refl _⟩ (by decide)
            have k149 : (-6) ≤ v148.toInt ∧ v148.toInt ≤ 234 := sub_r bv148 k108 ⟨Int.le_refl _, Int.le_refl _⟩ (by decide)
            refine call_Ti (wr := [(h_manner, .inl (cI, 4, .inl g106)), (p0, .inr (1, vL 18 F_p0_)), (h_p0_feet, .inl (cI, 12, .inl f_p0_feet)), (h_p0_weight, .inl (cI, 12, .inl f_p0_weight)), (p1, .inr (5, vL 11 F_p1_)), (h_p1_crew, .inl (cI, 4, .inl f_p1_crew)), (h_p1_yard, .inl (cI, 4, .inl f_p1_yard)), (h0, .inr (7, vL 18 F111))]) (As := [.int v148]) (rest := []) hx hb hml hown hw (m_X9_bounded l D cI cJ cB cP cM cZ v148 _ ) wT_X9_bounded (hG.2.1 (.methodLinkNest "FourSledge$Ride" 93 ⟨"FourSledge", "bounded", "(I)I"⟩ "FourSledge") (by decide +kernel)) dX7_behindJumps_140 hP hD hS hA [] [0, 1, 2, 3, 4, 5, 6, 7] rfl rfl (by decide) (by decide) (by decide) GG.fb hG.at hl.1 rfl (Nat.le_of_ble_eq_true rfl) ⟨(Nat.le_of_ble_eq_true rfl), (Nat.le_of_ble_eq_true rfl)⟩ ⟨(Nat.le_of_ble_eq_true rfl), (Nat.le_of_ble_eq_true rfl)⟩ (fun r150 u H locs hp hP hD hS => ?_)
            obtain ⟨t151, rfl⟩ := hp
            have hP : va_P D vwCl [(h_manner, .inl (cI, 4, .inl g106)), (p0, .inr (1, vL 18 F_p0_)), (h_p0_feet, .inl (cI, 12, .inl f_p0_feet)), (h_p0_weight, .inl (cI, 12, .inl f_p0_weight)), (p1, .inr (5, vL 11 F_p1_)), (h_p1_crew, .inl (cI, 4, .inl f_p1_crew)), (h_p1_yard, .inl (cI, 4, .inl f_p1_yard)), (h0, .inr (7, vL 18 F111))] H := hP
            have hD : va_D A [(h_manner, .inl (cI, 4, .inl g106)), (p0, .inr (1, vL 18 F_p0_)), (h_p0_feet, .inl (cI, 12, .inl f_p0_feet)), (h_p0_weight, .inl (cI, 12, .inl f_p0_weight)), (p1, .inr (5, vL 11 F_p1_)), (h_p1_crew, .inl (cI, 4, .inl f_p1_crew)), (h_p1_yard, .inl (cI, 4, .inl f_p1_yard)), (h0, .inr (7, vL 18 F111))] := hD
            refine W.widen (k := 0) (n := 0) (Nat.le_of_ble_eq_true rfl) (Nat.le_of_ble_eq_true rfl) ?_
            refine lv_istore (lv' := [(5, .int r150), (8, .int 1), (7, .int v23), (6, .int u1), (0, .ref h0), (1, .ref p0), (2, .ref p1), (3, .int p2), (4, .int p3)]) hx hb dX7_behindJumps_143 hl (by decide) rfl (fun ls hl => ?_)
            refine lv_aload_n hx hb dX7_behindJumps_145 rfl (lv_at hl 4 rfl) ?_
            refine lv_dup hx hb dX7_behindJumps_146 rfl ?_
            have n153 : F111 5 = .int u4 := (SAME.at t113 (by decide) i13)
            refine get_f (D := D) (ci := 7) (v := .int u4) (C := RX7) (T := TX7) (N := 18) hx hb hw inAX7 hown hK hP 7 rfl rfl 5 (by decide) (hw _ q_215) (fun _ h9 => h9) n153 dX7_behindJumps_147 ?_
            refine lv_iconst (v := 1) hx hb dX7_behindJumps_150 (by decide) ?_
            refine lv_iload hx hb dX7_behindJumps_151 (lv_at hl 3 rfl) ?_
            refine lv_ishl hx hb dX7_behindJumps_153 ?_
            refine lv_topi (fun v154 ev154 => ?_)
            have k155 : 1 ≤ v154.toInt ∧ v154.toInt ≤ 8 := by rw [ev154]; exact shl1_i (Int.le_trans (by decide) k20.1) (Int.le_trans k20.2 (by decide))
            refine lv_ior hx hb dX7_behindJumps_154 ?_
            refine lv_topi (fun v156 ev156 => ?_)
            refine put_f (D := D) (ci := 7) (v := .int v156) (ty := .int) (C := RX7) (T := TX7) (N := 18) hx hb hw inAX7 tyX7 tyX7_ok nmX7 hown hK hP hD hS 7 rfl rfl 5 (by decide) (hw _ q_215) (fun _ h9 => h9) rfl (by decide +kernel) rfl rfl dX7_behindJumps_155 (fun H locs F157 eF157 hP hD hS => ?_)
            have hP : va_P D vwCl [(h_manner, .inl (cI, 4, .inl g106)), (p0, .inr (1, vL 18 F_p0_)), (h_p0_feet, .inl (cI, 12, .inl f_p0_feet)), (h_p0_weight, .inl (cI, 12, .inl f_p0_weight)), (p1, .inr (5, vL 11 F_p1_)), (h_p1_crew, .inl (cI, 4, .inl f_p1_crew)), (h_p1_yard, .inl (cI, 4, .inl f_p1_yard)), (h0, .inr (7, vL 18 F157))] H := hP
            have hD : va_D A [(h_manner, .inl (cI, 4, .inl g106)), (p0, .inr (1, vL 18 F_p0_)), (h_p0_feet, .inl (cI, 12, .inl f_p0_feet)), (h_p0_weight, .inl (cI, 12, .inl f_p0_weight)), (p1, .inr (5, vL 11 F_p1_)), (h_p1_crew, .inl (cI, 4, .inl f_p1_crew)), (h_p1_yard, .inl (cI, 4, .inl f_p1_yard)), (h0, .inr (7, vL 18 F157))] := hD
            refine lv_aload_n hx hb dX7_behindJumps_158 rfl (lv_at hl 4 rfl) ?_
            refine lv_dup hx hb dX7_behindJumps_159 rfl ?_
            have n158 : F111 12 = .int u6 := (SAME.at t113 (by decide) i15)
            have n159 : F157 12 = .int u6 := (get_ne eF157 (by decide) n158)
            refine get_f (D := D) (ci := 7) (v := .int u6) (C := RX7) (T := TX7) (N := 18) hx hb hw inAX7 hown hK hP 7 rfl rfl 12 (by decide) (hw _ q_229) (fun _ h9 => h9) n159 dX7_behindJumps_160 ?_
            refine lv_aload_n hx hb dX7_behindJumps_163 rfl (lv_at hl 5 rfl) ?_
            refine get_f (D := D) (ci := 1) (v := .ref h_p0_weight) (C := RX1) (T := TX1) (N := 18) hx hb hw inAX1 hown hK hP 1 rfl rfl 5 (by decide) (hw _ q_333) (fun _ h9 => h9) e_p0_weight dX7_behindJumps_164 ?_
            refine lv_iload hx hb dX7_behindJumps_167 (lv_at hl 2 rfl) ?_
            refine va_iald hx hb hK hP 3 0 rfl rfl (ix_k k24 (by decide) (by decide)) dX7_behindJumps_169 ?_
            refine lv_topi (fun v160 ev160 => ?_)
            refine lv_iadd hx hb dX7_behindJumps_170 ?_
            refine lv_topi (fun v161 ev161 => ?_)
            refine put_f (D := D) (ci := 7) (v := .int v161) (ty := .int) (C := RX7) (T := TX7) (N := 18) hx hb hw inAX7 tyX7 tyX7_ok nmX7 hown hK hP hD hS 7 rfl rfl 12 (by decide) (hw _ q_229) (fun _ h9 => h9) rfl (by decide +kernel) rfl rfl dX7_behindJumps_171 (fun H locs F162 eF162 hP hD hS => ?_)
            have hP : va_P D vwCl [(h_manner, .inl (cI, 4, .inl g106)), (p0, .inr (1, vL 18 F_p0_)), (h_p0_feet, .inl (cI, 12, .inl f_p0_feet)), (h_p0_weight, .inl (cI, 12, .inl f_p0_weight)), (p1, .inr (5, vL 11 F_p1_)), (h_p1_crew, .inl (cI, 4, .inl f_p1_crew)), (h_p1_yard, .inl (cI, 4, .inl f_p1_yard)), (h0, .inr (7, vL 18 F162))] H := hP
            have hD : va_D A [(h_manner, .inl (cI, 4, .inl g106)), (p0, .inr (1, vL 18 F_p0_)), (h_p0_feet, .inl (cI, 12, .inl f_p0_feet)), (h_p0_weight, .inl (cI, 12, .inl f_p0_weight)), (p1, .inr (5, vL 11 F_p1_)), (h_p1_crew, .inl (cI, 4, .inl f_p1_crew)), (h_p1_yard, .inl (cI, 4, .inl f_p1_yard)), (h0, .inr (7, vL 18 F162))] := hD
            refine lv_aload_n hx hb dX7_behindJumps_174 rfl (lv_at hl 4 rfl) ?_
            refine lv_iload_n hx hb dX7_behindJumps_175 rfl (lv_at hl 7 rfl) ?_
            refine put_f (D := D) (ci := 7) (v := .int p2) (ty := .int) (C := RX7) (T := TX7) (N := 18) hx hb hw inAX7 tyX7 tyX7_ok nmX7 hown hK hP hD hS 7 rfl rfl 13 (by decide) (hw _ q_230) (fun _ h9 => h9) rfl (by decide +kernel) rfl rfl dX7_behindJumps_176 (fun H locs F163 eF163 hP hD hS => ?_)
            have hP : va_P D vwCl [(h_manner, .inl (cI, 4, .inl g106)), (p0, .inr (1, vL 18 F_p0_)), (h_p0_feet, .inl (cI, 12, .inl f_p0_feet)), (h_p0_weight, .inl (cI, 12, .inl f_p0_weight)), (p1, .inr (5, vL 11 F_p1_)), (h_p1_crew, .inl (cI, 4, .inl f_p1_crew)), (h_p1_yard, .inl (cI, 4, .inl f_p1_yard)), (h0, .inr (7, vL 18 F163))] H := hP
            have hD : va_D A [(h_manner, .inl (cI, 4, .inl g106)), (p0, .inr (1, vL 18 F_p0_)), (h_p0_feet, .inl (cI, 12, .inl f_p0_feet)), (h_p0_weight, .inl (cI, 12, .inl f_p0_weight)), (p1, .inr (5, vL 11 F_p1_)), (h_p1_crew, .inl (cI, 4, .inl f_p1_crew)), (h_p1_yard, .inl (cI, 4, .inl f_p1_yard)), (h0, .inr (7, vL 18 F163))] := hD
            obtain ⟨v164, ev164⟩ : ∃ z : Int32, z = u1 + 1 := ⟨_, rfl⟩
            have bv164 : v164.toInt = u1.toInt + 1 := by rw [ev164]; exact add_k rfl rfl k20 ⟨Int.le_refl _, Int.le_refl _⟩ (by decide)
            have k165 : 1 ≤ v164.toInt ∧ v164.toInt ≤ 4 := add_r bv164 k20 ⟨Int.le_refl _, Int.le_refl _⟩ (by decide)
            refine lv_iinc (v := v164) (lv' := [(6, .int v164), (5, .int r150), (8, .int 1), (7, .int v23), (0, .ref h0), (1, .ref p0), (2, .ref p1), (3, .int p2), (4, .int p3)]) hx hb dX7_behindJumps_179 hl (k := 3) rfl (by rw [ev164]; rfl) (by decide) rfl (fun ls hl => ?_)
            refine lv_goto (tgt := 7) hx hb dX7_behindJumps_182 (by decide) ?_
            have n166 : F162 5 = .int v156 := (get_ne eF162 (by decide) (get_eq eF157))
            have n167 : F163 5 = .int v156 := (get_ne eF163 (by decide) n166)
            have n168 : F111 6 = .int u5 := (SAME.at t113 (by decide) i14)
            have n169 : F157 6 = .int u5 := (get_ne eF157 (by decide) n168)
            have n170 : F162 6 = .int u5 := (get_ne eF162 (by decide) n169)
            have n171 : F163 6 = .int u5 := (get_ne eF163 (by decide) n170)
            have n172 : F163 12 = .int v161 := (get_ne eF163 (by decide) (get_eq eF162))
            have n173 : F157 15 = .int y112 := (get_ne eF157 (by decide) t114)
            have n174 : F162 15 = .int y112 := (get_ne eF162 (by decide) n173)
            have n175 : F163 15 = .int y112 := (get_ne eF163 (by decide) n174)
            exact ih (v164, r150, F163, v156, u5, v161, p2, y112, g106) ⟨(ir_wk k165 (by decide) (by decide)), t151, (SAME.up eF163 (SAME.up eF162 (SAME.up eF157 (SAME.tr (SAME.tr SAME.rf i12 (by decide)) t113 (by decide)) (by decide)) (by decide)) (by decide)), n167, n171, n172, (get_eq eF163), n175⟩ (by show (4 - v164.toInt).toNat < (4 - u1.toInt).toNat; omega) _ _ _ (hP.sub [7, 0, 1, 2, 3, 4, 5, 6] rfl) (hD.sub [7, 0, 1, 2, 3, 4, 5, 6] (by decide) rfl) hS (lv_sub hl [0, 1, 4, 5, 6, 7, 8] rfl)
      · have dc28 : v27.toInt < u2.toInt := nle_i (a := u2.toInt) (b := v27.toInt) rfl rfl c28
        have k176 : (-2147483648) ≤ v27.toInt ∧ v27.toInt ≤ 249 := ⟨(ir_any _).1, up_lt dc28 i11.2 (by decide)⟩
        refine lv_aload_n hx hb dX7_behindJumps_54 rfl (lv_at hl 3 rfl) ?_
        refine lv_dup hx hb dX7_behindJumps_55 rfl ?_
        refine get_f (D := D) (ci := 7) (v := .int u5) (C := RX7) (T := TX7) (N := 18) hx hb hw inAX7 hown hK hP 0 rfl rfl 6 (by decide) (hw _ q_217) (fun _ h9 => h9) i14 dX7_behindJumps_56 ?_
        refine lv_iconst (v := 1) hx hb dX7_behindJumps_59 (by decide) ?_
        refine lv_iload hx hb dX7_behindJumps_60 (lv_at hl 1 rfl) ?_
        refine lv_ishl hx hb dX7_behindJumps_62 ?_
        refine lv_topi (fun v177 ev177 => ?_)
        have k178 : 1 ≤ v177.toInt ∧ v177.toInt ≤ 8 := by rw [ev177]; exact shl1_i (Int.le_trans (by decide) k20.1) (Int.le_trans k20.2 (by decide))
        refine lv_ior hx hb dX7_behindJumps_63 ?_
        refine lv_topi (fun v179 ev179 => ?_)
        refine put_f (D := D) (ci := 7) (v := .int v179) (ty := .int) (C := RX7) (T := TX7) (N := 18) hx hb hw inAX7 tyX7 tyX7_ok nmX7 hown hK hP hD hS 0 rfl rfl 6 (by decide) (hw _ q_217) (fun _ h9 => h9) rfl (by decide +kernel) rfl rfl dX7_behindJumps_64 (fun H locs F180 eF180 hP hD hS => ?_)
        have hP : va_P D vwCl [(h0, .inr (7, vL 18 F180)), (h_manner, .inl (cI, 4, .inl w9)), (p0, .inr (1, vL 18 F_p0_)), (h_p0_feet, .inl (cI, 12, .inl f_p0_feet)), (h_p0_weight, .inl (cI, 12, .inl f_p0_weight)), (p1, .inr (5, vL 11 F_p1_)), (h_p1_crew, .inl (cI, 4, .inl f_p1_crew)), (h_p1_yard, .inl (cI, 4, .inl f_p1_yard))] H := hP
        have hD : va_D A [(h0, .inr (7, vL 18 F180)), (h_manner, .inl (cI, 4, .inl w9)), (p0, .inr (1, vL 18 F_p0_)), (h_p0_feet, .inl (cI, 12, .inl f_p0_feet)), (h_p0_weight, .inl (cI, 12, .inl f_p0_weight)), (p1, .inr (5, vL 11 F_p1_)), (h_p1_crew, .inl (cI, 4, .inl f_p1_crew)), (h_p1_yard, .inl (cI, 4, .inl f_p1_yard))] := hD
        refine lv_aload_n hx hb dX7_behindJumps_67 rfl (lv_at hl 3 rfl) ?_
        have n181 : G3 1 = .ref h_manner := (SAME.at i12 (by decide) e_manner)
        have n182 : F180 1 = .ref h_manner := (get_ne eF180 (by decide) n181)
        refine get_f (D := D) (ci := 7) (v := .ref h_manner) (C := RX7) (T := TX7) (N := 18) hx hb hw inAX7 hown hK hP 0 rfl rfl 1 (by decide) (hw _ q_207) (fun _ h9 => h9) n182 dX7_behindJumps_68 ?_
        refine lv_iload hx hb dX7_behindJumps_71 (lv_at hl 1 rfl) ?_
        refine lv_iconst (v := 2) hx hb dX7_behindJumps_73 (by decide) ?_
        obtain ⟨g183, eg183⟩ : ∃ z : Nat → Int32, upd w9 u1.toNatClampNeg 2 = z := ⟨_, rfl⟩
        refine iast_g hx hb hK hP hD hS 1 0 rfl rfl (ix_k k20 (by decide) (by decide)) eg183 dX7_behindJumps_74 (fun H locs hP hD hS => ?_)
        have hP : va_P D vwCl [(h0, .inr (7, vL 18 F180)), (h_manner, .inl (cI, 4, .inl g183)), (p0, .inr (1, vL 18 F_p0_)), (h_p0_feet, .inl (cI, 12, .inl f_p0_feet)), (h_p0_weight, .inl (cI, 12, .inl f_p0_weight)), (p1, .inr (5, vL 11 F_p1_)), (h_p1_crew, .inl (cI, 4, .inl f_p1_crew)), (h_p1_yard, .inl (cI, 4, .inl f_p1_yard))] H := hP
        have hD : va_D A [(h0, .inr (7, vL 18 F180)), (h_manner, .inl (cI, 4, .inl g183)), (p0, .inr (1, vL 18 F_p0_)), (h_p0_feet, .inl (cI, 12, .inl f_p0_feet)), (h_p0_weight, .inl (cI, 12, .inl f_p0_weight)), (p1, .inr (5, vL 11 F_p1_)), (h_p1_crew, .inl (cI, 4, .inl f_p1_crew)), (h_p1_yard, .inl (cI, 4, .inl f_p1_yard))] := hD
        refine lv_goto (tgt := 179) hx hb dX7_behindJumps_75 (by decide) ?_
        obtain ⟨v184, ev184⟩ : ∃ z : Int32, z = u1 + 1 := ⟨_, rfl⟩
        have bv184 : v184.toInt = u1.toInt + 1 := by rw [ev184]; exact add_k rfl rfl k20 ⟨Int.le_refl _, Int.le_refl _⟩ (by decide)
        have k185 : 1 ≤ v184.toInt ∧ v184.toInt ≤ 4 := add_r bv184 k20 ⟨Int.le_refl _, Int.le_refl _⟩ (by decide)
        refine lv_iinc (v := v184) (lv' := [(6, .int v184), (7, .int v23), (5, .int u2), (0, .ref h0), (1, .ref p0), (2, .ref p1), (3, .int p2), (4, .int p3)]) hx hb dX7_behindJumps_179 hl (k := 1) rfl (by rw [ev184]; rfl) (by decide) rfl (fun ls hl => ?_)
        refine lv_goto (tgt := 7) hx hb dX7_behindJumps_182 (by decide) ?_
        have n186 : F180 5 = .int u4 := (get_ne eF180 (by decide) i13)
        have n187 : F180 12 = .int u6 := (get_ne eF180 (by decide) i15)
        have n188 : F180 13 = .int u7 := (get_ne eF180 (by decide) i16)
        have n189 : F180 15 = .int u8 := (get_ne eF180 (by decide) i17)
        exact ih (v184, u2, F180, u4, v179, u6, u7, u8, g183) ⟨(ir_wk k185 (by decide) (by decide)), i11, (SAME.up eF180 (SAME.tr SAME.rf i12 (by decide)) (by decide)), n186, (get_eq eF180), n187, n188, n189⟩ (by show (4 - v184.toInt).toNat < (4 - u1.toInt).toNat; omega) _ _ _ hP hD hS (lv_sub hl [0, 2, 3, 4, 5, 6, 7] rfl)
    · have dc22 : v21.toInt ≠ p2.toInt := ne_i (a := v21.toInt) (b := p2.toInt) rfl rfl c22
      refine lv_goto (tgt := 179) hx hb dX7_behindJumps_24 (by decide) ?_
      obtain ⟨v190, ev190⟩ : ∃ z : Int32, z = u1 + 1 := ⟨_, rfl⟩
      have bv190 : v190.toInt = u1.toInt + 1 := by rw [ev190]; exact add_k rfl rfl k20 ⟨Int.le_refl _, Int.le_refl _⟩ (by decide)
      have k191 : 1 ≤ v190.toInt ∧ v190.toInt ≤ 4 := add_r bv190 k20 ⟨Int.le_refl _, Int.le_refl _⟩ (by decide)
      refine lv_iinc (v := v190) (lv' := [(6, .int v190), (5, .int u2), (0, .ref h0), (1, .ref p0), (2, .ref p1), (3, .int p2), (4, .int p3)]) hx hb dX7_behindJumps_179 hl (k := 0) rfl (by rw [ev190]; rfl) (by decide) rfl (fun ls hl => ?_)
      refine lv_goto (tgt := 7) hx hb dX7_behindJumps_182 (by decide) ?_
      exact ih (v190, u2, G3, u4, u5, u6, u7, u8, w9) ⟨(ir_wk k191 (by decide) (by decide)), i11, (SAME.tr SAME.rf i12 (by decide)), i13, i14, i15, i16, i17⟩ (by show (4 - v190.toInt).toNat < (4 - u1.toInt).toNat; omega) _ _ _ hP hD hS (lv_sub hl [0, 1, 2, 3, 4, 5, 6] rfl)
set_option maxHeartbeats 4000000 in
set_option maxRecDepth 100000 in
theorem m_X9_timeFor (l : Launch) (D : va_G) (cI cJ cB cP cM cZ : ClassId) (p0 : Int32) (p1 : Int32) (sz : Nat)  : CI l yX9_timeFor cX9_timeFor 2 (some .int) { frames := 0, cells := 0, slots := 0, locals := 0 } (GG D cI cJ cB cP cM cZ) D [] sz [.int p0, .int p1] (fun (r : Int32) (u : va_W) => u = []) := by
  refine CI_mk (by decide) (Nat.le_of_ble_eq_true rfl) ?_
  intro p e s m below meth c A ls E hAe hG hsz hP hD hA hS hl
  obtain ⟨hx, hb, hr, hw, hown, hlocks, hml, hnm⟩ := E
  have hK := hG.1
  have hl : lv_has ls 2 [(0, .int p0), (1, .int p1)] := hl
  refine lv_iload_n hx hb dX9_timeFor_0 rfl (lv_at hl 1 rfl) ?_
  refine lv_bipush (v := 10) hx hb dX9_timeFor_1 (by decide) ?_
  refine lv_icmp_ge (tgt := 10) hx hb dX9_timeFor_3 (by decide) (fun c1 => ?_) (fun c1 => ?_)
  · have dc1 : 10 ≤ p1.toInt := le_i (a := 10) (b := p1.toInt) rfl rfl c1
    have k2 : 10 ≤ p1.toInt ∧ p1.toInt ≤ 2147483647 := ⟨Int.le_trans (Int.le_refl _) dc1, (ir_any _).2⟩
    refine lv_iload_n hx hb dX9_timeFor_10 rfl (lv_at hl 0 rfl) ?_
    refine lv_sipush (v := 3000) hx hb dX9_timeFor_11 (by decide) ?_
    refine lv_imul hx hb dX9_timeFor_14 ?_
    refine lv_topi (fun v3 ev3 => ?_)
    refine lv_iload_n hx hb dX9_timeFor_15 rfl (lv_at hl 1 rfl) ?_
    refine lv_idiv hx hb dX9_timeFor_16 (nz_k k2 (by decide)) ?_
    refine lv_topi (fun v4 ev4 => ?_)
    exact ret_i (v := v4) hx hb hr hlocks hS hP hD dX9_timeFor_17 rfl (Nat.le_of_ble_eq_true rfl) (Nat.le_of_ble_eq_true rfl) rfl
  · have dc1 : p1.toInt < 10 := nle_i (a := 10) (b := p1.toInt) rfl rfl c1
    have k5 : (-2147483648) ≤ p1.toInt ∧ p1.toInt ≤ 9 := ⟨(ir_any _).1, up_lt dc1 (Int.le_refl _) (by decide)⟩
    refine lv_iconst (v := 0) hx hb dX9_timeFor_6 (by decide) ?_
    refine lv_goto (tgt := 17) hx hb dX9_timeFor_7 (by decide) ?_
    exact ret_i (v := 0) hx hb hr hlocks hS hP hD dX9_timeFor_17 rfl (Nat.le_of_ble_eq_true rfl) (Nat.le_of_ble_eq_true rfl) rfl
set_option maxHeartbeats 4000000 in
set_option maxRecDepth 100000 in
theorem m_X7_toLine (l : Launch) (D : va_G) (cI cJ cB cP cM cZ : ClassId) (h0 : Nat) (h_paces : Nat) (h_manner : Nat) (p0 : Nat) (h_p0_settings : Nat) (h_p0_push : Nat) (h_p0_feet : Nat) (h_p0_weight : Nat) (p1 : Nat) (h_p1_crew : Nat) (h_p1_yard : Nat) (Fh : Nat → Value) (x_kicks : Int32) (x_seed : Int32) (f_paces : Nat → Int32) (f_manner : Nat → Int32) (F_p0_ : Nat → Value) (f_p0_settings : Nat → Int32) (f_p0_push : Nat → Int32) (f_p0_feet : Nat → Int32) (f_p0_weight : Nat → Int32) (F_p1_ : Nat → Value) (x_p1_lead : Int32) (f_p1_crew : Nat → Int32) (f_p1_yard : Nat → Int32) (sz : Nat) (e_paces : Fh 0 = .ref h_paces) (e_manner : Fh 1 = .ref h_manner) (e_kicks : Fh 14 = .int x_kicks) (i_x_kicks : IR 0 1 x_kicks) (e_seed : Fh 15 = .int x_seed) (e_p0_settings : F_p0_ 1 = .ref h_p0_settings) (e_p0_push : F_p0_ 3 = .ref h_p0_push) (e_p0_feet : F_p0_ 4 = .ref h_p0_feet) (e_p0_weight : F_p0_ 5 = .ref h_p0_weight) (s_p0_settings_0 : SG 0 0 5 40 f_p0_settings) (e_p1_crew : F_p1_ 0 = .ref h_p1_crew) (e_p1_yard : F_p1_ 1 = .ref h_p1_yard) (e_p1_lead : F_p1_ 4 = .int x_p1_lead) (s_p1_crew_0 : SG 0 3 0 11 f_p1_crew) : CV l yX7_toLine cX7_toLine 5 none { frames := 3, cells := 0, slots := 0, locals := 88 } (GG D cI cJ cB cP cM cZ) D [(h0, .inr (7, vL 18 Fh)), (h_paces, .inl (cI, 40, .inl f_paces)), (h_manner, .inl (cI, 4, .inl f_manner)), (p0, .inr (1, vL 18 F_p0_)), (h_p0_settings, .inl (cI, 5, .inl f_p0_settings)), (h_p0_push, .inl (cI, 12, .inl f_p0_push)), (h_p0_feet, .inl (cI, 12, .inl f_p0_feet)), (h_p0_weight, .inl (cI, 12, .inl f_p0_weight)), (p1, .inr (5, vL 11 F_p1_)), (h_p1_crew, .inl (cI, 4, .inl f_p1_crew)), (h_p1_yard, .inl (cI, 4, .inl f_p1_yard))] sz [.ref h0, .ref p0, .ref p1] (fun (u : va_W) => ∃ (Gh : Nat → Value) (y_startTime : Int32) (y_startPace : Int32) (y_in : Int32) (y_late : Int32) (y_weight : Int32) (y_weightIn : Int32) (y_latestYardIn : Int32) (y_seed : Int32) (g_paces : Nat → Int32) (g_manner : Nat → Int32), SAME [3, 4, 5, 6, 7, 12, 13, 15] Fh Gh ∧ Gh 3 = .int y_startTime ∧ Gh 4 = .int y_startPace ∧ IR 10 250 y_startPace ∧ Gh 5 = .int y_in ∧ Gh 6 = .int y_late ∧ Gh 7 = .int y_weight ∧ Gh 12 = .int y_weightIn ∧ Gh 13 = .int y_latestYardIn ∧ Gh 15 = .int y_seed ∧ u = [(h0, .inr (7, vL 18 Gh)), (h_paces, .inl (cI, 40, .inl g_paces)), (h_manner, .inl (cI, 4, .inl g_manner)), (p0, .inr (1, vL 18 F_p0_)), (h_p0_settings, .inl (cI, 5, .inl f_p0_settings)), (h_p0_push, .inl (cI, 12, .inl f_p0_push)), (h_p0_feet, .inl (cI, 12, .inl f_p0_feet)), (h_p0_weight, .inl (cI, 12, .inl f_p0_weight)), (p1, .inr (5, vL 11 F_p1_)), (h_p1_crew, .inl (cI, 4, .inl f_p1_crew)), (h_p1_yard, .inl (cI, 4, .inl f_p1_yard))]) := by
  refine CV_mk (by decide) (Nat.le_of_ble_eq_true rfl) ?_
  intro p e s m below meth c A ls E hAe hG hsz hP hD hA hS hl
  obtain ⟨hx, hb, hr, hw, hown, hlocks, hml, hnm⟩ := E
  have hK := hG.1
  have i_x_kicks : 0 ≤ x_kicks.toInt ∧ x_kicks.toInt ≤ 1 := i_x_kicks
  have hl : lv_has ls 5 [(0, .ref h0), (1, .ref p0), (2, .ref p1)] := hl
  refine lv_bipush (v := 30) hx hb dX7_toLine_0 (by decide) ?_
  refine lv_istore_n (lv' := [(3, .int 30), (0, .ref h0), (1, .ref p0), (2, .ref p1)]) hx hb dX7_toLine_2 rfl hl (by decide) rfl (fun ls hl => ?_)
  refine lv_aload_n hx hb dX7_toLine_3 rfl (lv_at hl 1 rfl) ?_
  refine lv_iconst (v := 0) hx hb dX7_toLine_4 (by decide) ?_
  refine put_f (D := D) (ci := 7) (v := .int 0) (ty := .int) (C := RX7) (T := TX7) (N := 18) hx hb hw inAX7 tyX7 tyX7_ok nmX7 hown hK hP hD hS 0 rfl rfl 3 (by decide) (hw _ q_211) (fun _ h9 => h9) rfl (by decide +kernel) rfl rfl dX7_toLine_5 (fun H locs F1 eF1 hP hD hS => ?_)
  have hP : va_P D vwCl [(h0, .inr (7, vL 18 F1)), (h_paces, .inl (cI, 40, .inl f_paces)), (h_manner, .inl (cI, 4, .inl f_manner)), (p0, .inr (1, vL 18 F_p0_)), (h_p0_settings, .inl (cI, 5, .inl f_p0_settings)), (h_p0_push, .inl (cI, 12, .inl f_p0_push)), (h_p0_feet, .inl (cI, 12, .inl f_p0_feet)), (h_p0_weight, .inl (cI, 12, .inl f_p0_weight)), (p1, .inr (5, vL 11 F_p1_)), (h_p1_crew, .inl (cI, 4, .inl f_p1_crew)), (h_p1_yard, .inl (cI, 4, .inl f_p1_yard))] H := hP
  have hD : va_D A [(h0, .inr (7, vL 18 F1)), (h_paces, .inl (cI, 40, .inl f_paces)), (h_manner, .inl (cI, 4, .inl f_manner)), (p0, .inr (1, vL 18 F_p0_)), (h_p0_settings, .inl (cI, 5, .inl f_p0_settings)), (h_p0_push, .inl (cI, 12, .inl f_p0_push)), (h_p0_feet, .inl (cI, 12, .inl f_p0_feet)), (h_p0_weight, .inl (cI, 12, .inl f_p0_weight)), (p1, .inr (5, vL 11 F_p1_)), (h_p1_crew, .inl (cI, 4, .inl f_p1_crew)), (h_p1_yard, .inl (cI, 4, .inl f_p1_yard))] := hD
  refine lv_aload_n hx hb dX7_toLine_8 rfl (lv_at hl 1 rfl) ?_
  refine lv_iconst (v := 0) hx hb dX7_toLine_9 (by decide) ?_
  refine put_f (D := D) (ci := 7) (v := .int 0) (ty := .int) (C := RX7) (T := TX7) (N := 18) hx hb hw inAX7 tyX7 tyX7_ok nmX7 hown hK hP hD hS 0 rfl rfl 5 (by decide) (hw _ q_215) (fun _ h9 => h9) rfl (by decide +kernel) rfl rfl dX7_toLine_10 (fun H locs F2 eF2 hP hD hS => ?_)
  have hP : va_P D vwCl [(h0, .inr (7, vL 18 F2)), (h_paces, .inl (cI, 40, .inl f_paces)), (h_manner, .inl (cI, 4, .inl f_manner)), (p0, .inr (1, vL 18 F_p0_)), (h_p0_settings, .inl (cI, 5, .inl f_p0_settings)), (h_p0_push, .inl (cI, 12, .inl f_p0_push)), (h_p0_feet, .inl (cI, 12, .inl f_p0_feet)), (h_p0_weight, .inl (cI, 12, .inl f_p0_weight)), (p1, .inr (5, vL 11 F_p1_)), (h_p1_crew, .inl (cI, 4, .inl f_p1_crew)), (h_p1_yard, .inl (cI, 4, .inl f_p1_yard))] H := hP
  have hD : va_D A [(h0, .inr (7, vL 18 F2)), (h_paces, .inl (cI, 40, .inl f_paces)), (h_manner, .inl (cI, 4, .inl f_manner)), (p0, .inr (1, vL 18 F_p0_)), (h_p0_settings, .inl (cI, 5, .inl f_p0_settings)), (h_p0_push, .inl (cI, 12, .inl f_p0_push)), (h_p0_feet, .inl (cI, 12, .inl f_p0_feet)), (h_p0_weight, .inl (cI, 12, .inl f_p0_weight)), (p1, .inr (5, vL 11 F_p1_)), (h_p1_crew, .inl (cI, 4, .inl f_p1_crew)), (h_p1_yard, .inl (cI, 4, .inl f_p1_yard))] := hD
  refine lv_aload_n hx hb dX7_toLine_13 rfl (lv_at hl 1 rfl) ?_
  refine lv_iconst (v := 0) hx hb dX7_toLine_14 (by decide) ?_
  refine put_f (D := D) (ci := 7) (v := .int 0) (ty := .int) (C := RX7) (T := TX7) (N := 18) hx hb hw inAX7 tyX7 tyX7_ok nmX7 hown hK hP hD hS 0 rfl rfl 6 (by decide) (hw _ q_217) (fun _ h9 => h9) rfl (by decide +kernel) rfl rfl dX7_toLine_15 (fun H locs F3 eF3 hP hD hS => ?_)
  have hP : va_P D vwCl [(h0, .inr (7, vL 18 F3)), (h_paces, .inl (cI, 40, .inl f_paces)), (h_manner, .inl (cI, 4, .inl f_manner)), (p0, .inr (1, vL 18 F_p0_)), (h_p0_settings, .inl (cI, 5, .inl f_p0_settings)), (h_p0_push, .inl (cI, 12, .inl f_p0_push)), (h_p0_feet, .inl (cI, 12, .inl f_p0_feet)), (h_p0_weight, .inl (cI, 12, .inl f_p0_weight)), (p1, .inr (5, vL 11 F_p1_)), (h_p1_crew, .inl (cI, 4, .inl f_p1_crew)), (h_p1_yard, .inl (cI, 4, .inl f_p1_yard))] H := hP
  have hD : va_D A [(h0, .inr (7, vL 18 F3)), (h_paces, .inl (cI, 40, .inl f_paces)), (h_manner, .inl (cI, 4, .inl f_manner)), (p0, .inr (1, vL 18 F_p0_)), (h_p0_settings, .inl (cI, 5, .inl f_p0_settings)), (h_p0_push, .inl (cI, 12, .inl f_p0_push)), (h_p0_feet, .inl (cI, 12, .inl f_p0_feet)), (h_p0_weight, .inl (cI, 12, .inl f_p0_weight)), (p1, .inr (5, vL 11 F_p1_)), (h_p1_crew, .inl (cI, 4, .inl f_p1_crew)), (h_p1_yard, .inl (cI, 4, .inl f_p1_yard))] := hD
  refine lv_aload_n hx hb dX7_toLine_18 rfl (lv_at hl 1 rfl) ?_
  refine lv_iconst (v := 0) hx hb dX7_toLine_19 (by decide) ?_
  refine put_f (D := D) (ci := 7) (v := .int 0) (ty := .int) (C := RX7) (T := TX7) (N := 18) hx hb hw inAX7 tyX7 tyX7_ok nmX7 hown hK hP hD hS 0 rfl rfl 12 (by decide) (hw _ q_229) (fun _ h9 => h9) rfl (by decide +kernel) rfl rfl dX7_toLine_20 (fun H locs F4 eF4 hP hD hS => ?_)
  have hP : va_P D vwCl [(h0, .inr (7, vL 18 F4)), (h_paces, .inl (cI, 40, .inl f_paces)), (h_manner, .inl (cI, 4, .inl f_manner)), (p0, .inr (1, vL 18 F_p0_)), (h_p0_settings, .inl (cI, 5, .inl f_p0_settings)), (h_p0_push, .inl (cI, 12, .inl f_p0_push)), (h_p0_feet, .inl (cI, 12, .inl f_p0_feet)), (h_p0_weight, .inl (cI, 12, .inl f_p0_weight)), (p1, .inr (5, vL 11 F_p1_)), (h_p1_crew, .inl (cI, 4, .inl f_p1_crew)), (h_p1_yard, .inl (cI, 4, .inl f_p1_yard))] H := hP
  have hD : va_D A [(h0, .inr (7, vL 18 F4)), (h_paces, .inl (cI, 40, .inl f_paces)), (h_manner, .inl (cI, 4, .inl f_manner)), (p0, .inr (1, vL 18 F_p0_)), (h_p0_settings, .inl (cI, 5, .inl f_p0_settings)), (h_p0_push, .inl (cI, 12, .inl f_p0_push)), (h_p0_feet, .inl (cI, 12, .inl f_p0_feet)), (h_p0_weight, .inl (cI, 12, .inl f_p0_weight)), (p1, .inr (5, vL 11 F_p1_)), (h_p1_crew, .inl (cI, 4, .inl f_p1_crew)), (h_p1_yard, .inl (cI, 4, .inl f_p1_yard))] := hD
  refine lv_aload_n hx hb dX7_toLine_23 rfl (lv_at hl 1 rfl) ?_
  refine lv_bipush (v := (-2)) hx hb dX7_toLine_24 (by decide) ?_
  refine put_f (D := D) (ci := 7) (v := .int (-2)) (ty := .int) (C := RX7) (T := TX7) (N := 18) hx hb hw inAX7 tyX7 tyX7_ok nmX7 hown hK hP hD hS 0 rfl rfl 13 (by decide) (hw _ q_230) (fun _ h9 => h9) rfl (by decide +kernel) rfl rfl dX7_toLine_26 (fun H locs F5 eF5 hP hD hS => ?_)
  have hP : va_P D vwCl [(h0, .inr (7, vL 18 F5)), (h_paces, .inl (cI, 40, .inl f_paces)), (h_manner, .inl (cI, 4, .inl f_manner)), (p0, .inr (1, vL 18 F_p0_)), (h_p0_settings, .inl (cI, 5, .inl f_p0_settings)), (h_p0_push, .inl (cI, 12, .inl f_p0_push)), (h_p0_feet, .inl (cI, 12, .inl f_p0_feet)), (h_p0_weight, .inl (cI, 12, .inl f_p0_weight)), (p1, .inr (5, vL 11 F_p1_)), (h_p1_crew, .inl (cI, 4, .inl f_p1_crew)), (h_p1_yard, .inl (cI, 4, .inl f_p1_yard))] H := hP
  have hD : va_D A [(h0, .inr (7, vL 18 F5)), (h_paces, .inl (cI, 40, .inl f_paces)), (h_manner, .inl (cI, 4, .inl f_manner)), (p0, .inr (1, vL 18 F_p0_)), (h_p0_settings, .inl (cI, 5, .inl f_p0_settings)), (h_p0_push, .inl (cI, 12, .inl f_p0_push)), (h_p0_feet, .inl (cI, 12, .inl f_p0_feet)), (h_p0_weight, .inl (cI, 12, .inl f_p0_weight)), (p1, .inr (5, vL 11 F_p1_)), (h_p1_crew, .inl (cI, 4, .inl f_p1_crew)), (h_p1_yard, .inl (cI, 4, .inl f_p1_yard))] := hD
  refine lv_iconst (v := 0) hx hb dX7_toLine_29 (by decide) ?_
  refine lv_istore (lv' := [(4, .int 0), (3, .int 30), (0, .ref h0), (1, .ref p0), (2, .ref p1)]) hx hb dX7_toLine_30 hl (by decide) rfl (fun ls hl => ?_)
  have n17 : F2 3 = .int 0 := (get_ne eF2 (by decide) (get_eq eF1))
  have n18 : F3 3 = .int 0 := (get_ne eF3 (by decide) n17)
  have n19 : F4 3 = .int 0 := (get_ne eF4 (by decide) n18)
  have n20 : F5 3 = .int 0 := (get_ne eF5 (by decide) n19)
  have n21 : F3 5 = .int 0 := (get_ne eF3 (by decide) (get_eq eF2))
  have n22 : F4 5 = .int 0 := (get_ne eF4 (by decide) n21)
  have n23 : F5 5 = .int 0 := (get_ne eF5 (by decide) n22)
  have n24 : F4 6 = .int 0 := (get_ne eF4 (by decide) (get_eq eF3))
  have n25 : F5 6 = .int 0 := (get_ne eF5 (by decide) n24)
  have n26 : F5 12 = .int 0 := (get_ne eF5 (by decide) (get_eq eF4))
  have n27 : F1 15 = .int x_seed := (get_ne eF1 (by decide) e_seed)
  have n28 : F2 15 = .int x_seed := (get_ne eF2 (by decide) n27)
  have n29 : F3 15 = .int x_seed := (get_ne eF3 (by decide) n28)
  have n30 : F4 15 = .int x_seed := (get_ne eF4 (by decide) n29)
  have n31 : F5 15 = .int x_seed := (get_ne eF5 (by decide) n30)
  refine mloop (α := (Int32) × (Int32) × (Nat → Value) × (Int32) × (Int32) × (Int32) × (Int32) × (Int32) × (Int32) × (Nat → Int32) × (Nat → Int32)) (nL := 5) (D := D) (A := A) (H0 := s.heap) (fun a => (40 - a.1.toInt).toNat) (fun a => IR 0 40 a.1 ∧ IR 10 250 a.2.1 ∧ SAME [3, 5, 6, 12, 13, 15] F5 a.2.2.1 ∧ a.2.2.1 3 = .int a.2.2.2.1 ∧ a.2.2.1 5 = .int a.2.2.2.2.1 ∧ a.2.2.1 6 = .int a.2.2.2.2.2.1 ∧ a.2.2.1 12 = .int a.2.2.2.2.2.2.1 ∧ a.2.2.1 13 = .int a.2.2.2.2.2.2.2.1 ∧ a.2.2.1 15 = .int a.2.2.2.2.2.2.2.2.1) (fun a => [(h0, .inr (7, vL 18 a.2.2.1)), (h_paces, .inl (cI, 40, .inl a.2.2.2.2.2.2.2.2.2.1)), (h_manner, .inl (cI, 4, .inl a.2.2.2.2.2.2.2.2.2.2)), (p0, .inr (1, vL 18 F_p0_)), (h_p0_settings, .inl (cI, 5, .inl f_p0_settings)), (h_p0_push, .inl (cI, 12, .inl f_p0_push)), (h_p0_feet, .inl (cI, 12, .inl f_p0_feet)), (h_p0_weight, .inl (cI, 12, .inl f_p0_weight)), (p1, .inr (5, vL 11 F_p1_)), (h_p1_crew, .inl (cI, 4, .inl f_p1_crew)), (h_p1_yard, .inl (cI, 4, .inl f_p1_yard))]) (fun a => [(4, .int a.1), (3, .int a.2.1), (0, .ref h0), (1, .ref p0), (2, .ref p1)]) (fun H locs ls => W p l e ({ frames := 3, cells := 0, slots := 0, locals := 88 } : Room) s m [.ref h0, .ref p0, .ref p1].toArray below meth c H locs 0 0 (MQ below (va_Qv (fun (u : va_W) => ∃ (Gh : Nat → Value) (y_startTime : Int32) (y_startPace : Int32) (y_in : Int32) (y_late : Int32) (y_weight : Int32) (y_weightIn : Int32) (y_latestYardIn : Int32) (y_seed : Int32) (g_paces : Nat → Int32) (g_manner : Nat → Int32), SAME [3, 4, 5, 6, 7, 12, 13, 15] Fh Gh ∧ Gh 3 = .int y_startTime ∧ Gh 4 = .int y_startPace ∧ IR 10 250 y_startPace ∧ Gh 5 = .int y_in ∧ Gh 6 = .int y_late ∧ Gh 7 = .int y_weight ∧ Gh 12 = .int y_weightIn ∧ Gh 13 = .int y_latestYardIn ∧ Gh 15 = .int y_seed ∧ u = [(h0, .inr (7, vL 18 Gh)), (h_paces, .inl (cI, 40, .inl g_paces)), (h_manner, .inl (cI, 4, .inl g_manner)), (p0, .inr (1, vL 18 F_p0_)), (h_p0_settings, .inl (cI, 5, .inl f_p0_settings)), (h_p0_push, .inl (cI, 12, .inl f_p0_push)), (h_p0_feet, .inl (cI, 12, .inl f_p0_feet)), (h_p0_weight, .inl (cI, 12, .inl f_p0_weight)), (p1, .inr (5, vL 11 F_p1_)), (h_p1_crew, .inl (cI, 4, .inl f_p1_crew)), (h_p1_yard, .inl (cI, 4, .inl f_p1_yard))]) (PO D A) A) [.ref h0, .ref p0, .ref p1].toArray s 0 0 A) (F0 m 32 ls [])) ?_ (0, 30, F5, 0, 0, 0, 0, (-2), x_seed, f_paces, f_manner) ⟨(show 0 ≤ (0 : Int32).toInt ∧ (0 : Int32).toInt ≤ 40 by decide), (show 10 ≤ (30 : Int32).toInt ∧ (30 : Int32).toInt ≤ 250 by decide), SAME.rf, n20, n23, n25, n26, (get_eq eF5), n31⟩ _ _ _ hP hD hS hl
  rintro ⟨u6, u7, G8, u9, u10, u11, u12, u13, u14, w15, w16⟩ ⟨i32, i33, i34, i35, i36, i37, i38, i39, i40⟩ ih H locs ls hP hD hS hl
  have i32 : 0 ≤ u6.toInt ∧ u6.toInt ≤ 40 := i32
  have i33 : 10 ≤ u7.toInt ∧ u7.toInt ≤ 250 := i33
  have hP : va_P D vwCl [(h0, .inr (7, vL 18 G8)), (h_paces, .inl (cI, 40, .inl w15)), (h_manner, .inl (cI, 4, .inl w16)), (p0, .inr (1, vL 18 F_p0_)), (h_p0_settings, .inl (cI, 5, .inl f_p0_settings)), (h_p0_push, .inl (cI, 12, .inl f_p0_push)), (h_p0_feet, .inl (cI, 12, .inl f_p0_feet)), (h_p0_weight, .inl (cI, 12, .inl f_p0_weight)), (p1, .inr (5, vL 11 F_p1_)), (h_p1_crew, .inl (cI, 4, .inl f_p1_crew)), (h_p1_yard, .inl (cI, 4, .inl f_p1_yard))] H := hP
  have hD : va_D A [(h0, .inr (7, vL 18 G8)), (h_paces, .inl (cI, 40, .inl w15)), (h_manner, .inl (cI, 4, .inl w16)), (p0, .inr (1, vL 18 F_p0_)), (h_p0_settings, .inl (cI, 5, .inl f_p0_settings)), (h_p0_push, .inl (cI, 12, .inl f_p0_push)), (h_p0_feet, .inl (cI, 12, .inl f_p0_feet)), (h_p0_weight, .inl (cI, 12, .inl f_p0_weight)), (p1, .inr (5, vL 11 F_p1_)), (h_p1_crew, .inl (cI, 4, .inl f_p1_crew)), (h_p1_yard, .inl (cI, 4, .inl f_p1_yard))] := hD
  have hl : lv_has ls 5 [(4, .int u6), (3, .int u7), (0, .ref h0), (1, .ref p0), (2, .ref p1)] := hl
  refine lv_iload hx hb dX7_toLine_32 (lv_at hl 0 rfl) ?_
  refine lv_aload_n hx hb dX7_toLine_34 rfl (lv_at hl 3 rfl) ?_
  refine get_f (D := D) (ci := 1) (v := .ref h_p0_settings) (C := RX1) (T := TX1) (N := 18) hx hb hw inAX1 hown hK hP 3 rfl rfl 1 (by decide) (hw _ q_317) (fun _ h9 => h9) e_p0_settings dX7_toLine_35 ?_
  refine lv_iconst (v := 0) hx hb dX7_toLine_38 (by decide) ?_
  refine iald_n hx hb hK hP 4 0 rfl rfl 0 rfl (Nat.le_of_ble_eq_true rfl) (Nat.le_of_ble_eq_true rfl) rfl dX7_toLine_39 ?_
  refine lv_topi (fun v41 ev41 => ?_)
  have k42 : 5 ≤ v41.toInt ∧ v41.toInt ≤ 40 := by rw [ev41]; exact s_p0_settings_0.atN 0 (by decide) (by decide)
  refine lv_icmp_ge (tgt := 111) hx hb dX7_toLine_40 (by decide) (fun c43 => ?_) (fun c43 => ?_)
  · have dc43 : v41.toInt ≤ u6.toInt := le_i (a := v41.toInt) (b := u6.toInt) rfl rfl c43
    have k44 : 5 ≤ u6.toInt ∧ u6.toInt ≤ 40 := ⟨Int.le_trans k42.1 dc43, i32.2⟩
    refine lv_aload_n hx hb dX7_toLine_111 rfl (lv_at hl 2 rfl) ?_
    refine lv_iload_n hx hb dX7_toLine_112 rfl (lv_at hl 1 rfl) ?_
    refine put_f (D := D) (ci := 7) (v := .int u7) (ty := .int) (C := RX7) (T := TX7) (N := 18) hx hb hw inAX7 tyX7 tyX7_ok nmX7 hown hK hP hD hS 0 rfl rfl 4 (by decide) (hw _ q_213) (fun _ h9 => h9) rfl (by decide +kernel) rfl rfl dX7_toLine_113 (fun H locs F45 eF45 hP hD hS => ?_)
    have hP : va_P D vwCl [(h0, .inr (7, vL 18 F45)), (h_paces, .inl (cI, 40, .inl w15)), (h_manner, .inl (cI, 4, .inl w16)), (p0, .inr (1, vL 18 F_p0_)), (h_p0_settings, .inl (cI, 5, .inl f_p0_settings)), (h_p0_push, .inl (cI, 12, .inl f_p0_push)), (h_p0_feet, .inl (cI, 12, .inl f_p0_feet)), (h_p0_weight, .inl (cI, 12, .inl f_p0_weight)), (p1, .inr (5, vL 11 F_p1_)), (h_p1_crew, .inl (cI, 4, .inl f_p1_crew)), (h_p1_yard, .inl (cI, 4, .inl f_p1_yard))] H := hP
    have hD : va_D A [(h0, .inr (7, vL 18 F45)), (h_paces, .inl (cI, 40, .inl w15)), (h_manner, .inl (cI, 4, .inl w16)), (p0, .inr (1, vL 18 F_p0_)), (h_p0_settings, .inl (cI, 5, .inl f_p0_settings)), (h_p0_push, .inl (cI, 12, .inl f_p0_push)), (h_p0_feet, .inl (cI, 12, .inl f_p0_feet)), (h_p0_weight, .inl (cI, 12, .inl f_p0_weight)), (p1, .inr (5, vL 11 F_p1_)), (h_p1_crew, .inl (cI, 4, .inl f_p1_crew)), (h_p1_yard, .inl (cI, 4, .inl f_p1_yard))] := hD
    refine lv_aload_n hx hb dX7_toLine_116 rfl (lv_at hl 2 rfl) ?_
    refine lv_aload_n hx hb dX7_toLine_117 rfl (lv_at hl 3 rfl) ?_
    refine get_f (D := D) (ci := 1) (v := .ref h_p0_settings) (C := RX1) (T := TX1) (N := 18) hx hb hw inAX1 hown hK hP 3 rfl rfl 1 (by decide) (hw _ q_317) (fun _ h9 => h9) e_p0_settings dX7_toLine_118 ?_
    refine lv_iconst (v := 1) hx hb dX7_toLine_121 (by decide) ?_
    refine iald_n hx hb hK hP 4 0 rfl rfl 1 rfl (Nat.le_of_ble_eq_true rfl) (Nat.le_of_ble_eq_true rfl) rfl dX7_toLine_122 ?_
    refine lv_topi (fun v46 ev46 => ?_)
    refine lv_aload_n hx hb dX7_toLine_123 rfl (lv_at hl 4 rfl) ?_
    refine get_f (D := D) (ci := 5) (v := .int x_p1_lead) (C := RX5) (T := TX5) (N := 11) hx hb hw inAX5 hown hK hP 8 rfl rfl 4 (by decide) (hw _ q_162) (fun _ h9 => h9) e_p1_lead dX7_toLine_124 ?_
    refine lv_iadd hx hb dX7_toLine_127 ?_
    refine lv_topi (fun v47 ev47 => ?_)
    refine lv_aload_n hx hb dX7_toLine_128 rfl (lv_at hl 2 rfl) ?_
    have n48 : F45 12 = .int u12 := (get_ne eF45 (by decide) i38)
    refine get_f (D := D) (ci := 7) (v := .int u12) (C := RX7) (T := TX7) (N := 18) hx hb hw inAX7 hown hK hP 0 rfl rfl 12 (by decide) (hw _ q_229) (fun _ h9 => h9) n48 dX7_toLine_129 ?_
    refine lv_iadd hx hb dX7_toLine_132 ?_
    refine lv_topi (fun v49 ev49 => ?_)
    refine put_f (D := D) (ci := 7) (v := .int v49) (ty := .int) (C := RX7) (T := TX7) (N := 18) hx hb hw inAX7 tyX7 tyX7_ok nmX7 hown hK hP hD hS 0 rfl rfl 7 (by decide) (hw _ q_219) (fun _ h9 => h9) rfl (by decide +kernel) rfl rfl dX7_toLine_133 (fun H locs F50 eF50 hP hD hS => ?_)
    have hP : va_P D vwCl [(h0, .inr (7, vL 18 F50)), (h_paces, .inl (cI, 40, .inl w15)), (h_manner, .inl (cI, 4, .inl w16)), (p0, .inr (1, vL 18 F_p0_)), (h_p0_settings, .inl (cI, 5, .inl f_p0_settings)), (h_p0_push, .inl (cI, 12, .inl f_p0_push)), (h_p0_feet, .inl (cI, 12, .inl f_p0_feet)), (h_p0_weight, .inl (cI, 12, .inl f_p0_weight)), (p1, .inr (5, vL 11 F_p1_)), (h_p1_crew, .inl (cI, 4, .inl f_p1_crew)), (h_p1_yard, .inl (cI, 4, .inl f_p1_yard))] H := hP
    have hD : va_D A [(h0, .inr (7, vL 18 F50)), (h_paces, .inl (cI, 40, .inl w15)), (h_manner, .inl (cI, 4, .inl w16)), (p0, .inr (1, vL 18 F_p0_)), (h_p0_settings, .inl (cI, 5, .inl f_p0_settings)), (h_p0_push, .inl (cI, 12, .inl f_p0_push)), (h_p0_feet, .inl (cI, 12, .inl f_p0_feet)), (h_p0_weight, .inl (cI, 12, .inl f_p0_weight)), (p1, .inr (5, vL 11 F_p1_)), (h_p1_crew, .inl (cI, 4, .inl f_p1_crew)), (h_p1_yard, .inl (cI, 4, .inl f_p1_yard))] := hD
    exact ret_v hx hb hr hlocks hS hP hD dX7_toLine_136 (Nat.le_of_ble_eq_true rfl) (Nat.le_of_ble_eq_true rfl) ⟨F50, u9, u7, u10, u11, v49, u12, u13, u14, w15, w16, (SAME.up eF50 (SAME.up eF45 (SAME.tr (SAME.up eF5 (SAME.up eF4 (SAME.up eF3 (SAME.up eF2 (SAME.up eF1 SAME.rf (by decide)) (by decide)) (by decide)) (by decide)) (by decide)) i34 (by decide)) (by decide)) (by decide)), (get_ne eF50 (by decide) (get_ne eF45 (by decide) i35)), (get_ne eF50 (by decide) (get_eq eF45)), i33, (get_ne eF50 (by decide) (get_ne eF45 (by decide) i36)), (get_ne eF50 (by decide) (get_ne eF45 (by decide) i37)), (get_eq eF50), (get_ne eF50 (by decide) n48), (get_ne eF50 (by decide) (get_ne eF45 (by decide) i39)), (get_ne eF50 (by decide) (get_ne eF45 (by decide) i40)), rfl⟩
  · have dc43 : u6.toInt < v41.toInt := nle_i (a := v41.toInt) (b := u6.toInt) rfl rfl c43
    have k51 : 0 ≤ u6.toInt ∧ u6.toInt ≤ 39 := ⟨i32.1, up_lt dc43 k42.2 (by decide)⟩
    refine lv_iload hx hb dX7_toLine_43 (lv_at hl 0 rfl) ?_
    refine lv_bipush (v := 40) hx hb dX7_toLine_45 (by decide) ?_
    refine lv_icmp_ge (tgt := 111) hx hb dX7_toLine_47 (by decide) (fun c52 => False.elim (bad_le (le_i (a := 40) (b := u6.toInt) rfl rfl c52) (Int.le_refl _) k51.2 (by decide))) (fun c52 => ?_)
    have dc52 : u6.toInt < 40 := nle_i (a := 40) (b := u6.toInt) rfl rfl c52
    refine lv_iload_n hx hb dX7_toLine_50 rfl (lv_at hl 1 rfl) ?_
    refine lv_aload_n hx hb dX7_toLine_51 rfl (lv_at hl 2 rfl) ?_
    refine lv_aload_n hx hb dX7_toLine_52 rfl (lv_at hl 3 rfl) ?_
    refine lv_aload_n hx hb dX7_toLine_53 rfl (lv_at hl 4 rfl) ?_
    refine lv_iload_n hx hb dX7_toLine_54 rfl (lv_at hl 1 rfl) ?_
    refine call_Vi (wr := [(h_paces, .inl (cI, 40, .inl w15)), (h_manner, .inl (cI, 4, .inl w16)), (h_p0_settings, .inl (cI, 5, .inl f_p0_settings)), (h_p0_weight, .inl (cI, 12, .inl f_p0_weight)), (h_p1_yard, .inl (cI, 4, .inl f_p1_yard))]) (As := [.ref p0, .ref p1, .int u7]) (rest := [.int u7]) hx hb hml hown hw (m_X7_pushed l D cI cJ cB cP cM cZ h0 p0 h_p0_push h_p0_feet p1 h_p1_crew G8 u10 u11 F_p0_ f_p0_push f_p0_feet F_p1_ f_p1_crew u7 _ i36 i37 e_p0_push e_p0_feet e_p1_crew s_p1_crew_0) wV_X7_89_X7_pushed dX7_toLine_55 hK hP hD hS hA [0, 3, 5, 6, 8, 9] [1, 2, 4, 7, 10] rfl rfl (by decide) (by decide) (by decide) 0 7 rfl rfl GG.fb hG.at hl.1 rfl (Nat.le_of_ble_eq_true rfl) ⟨(Nat.le_of_ble_eq_true rfl), (Nat.le_of_ble_eq_true rfl)⟩ ⟨(Nat.le_of_ble_eq_true rfl), (Nat.le_of_ble_eq_true rfl)⟩ (fun r53 u H locs hp hP hD hS => ?_)
    obtain rfl := hp
    have hP : va_P D vwCl [(h_paces, .inl (cI, 40, .inl w15)), (h_manner, .inl (cI, 4, .inl w16)), (h_p0_settings, .inl (cI, 5, .inl f_p0_settings)), (h_p0_weight, .inl (cI, 12, .inl f_p0_weight)), (h_p1_yard, .inl (cI, 4, .inl f_p1_yard)), (h0, .inr (7, vL 18 G8)), (p0, .inr (1, vL 18 F_p0_)), (h_p0_push, .inl (cI, 12, .inl f_p0_push)), (h_p0_feet, .inl (cI, 12, .inl f_p0_feet)), (p1, .inr (5, vL 11 F_p1_)), (h_p1_crew, .inl (cI, 4, .inl f_p1_crew))] H := hP
    have hD : va_D A [(h_paces, .inl (cI, 40, .inl w15)), (h_manner, .inl (cI, 4, .inl w16)), (h_p0_settings, .inl (cI, 5, .inl f_p0_settings)), (h_p0_weight, .inl (cI, 12, .inl f_p0_weight)), (h_p1_yard, .inl (cI, 4, .inl f_p1_yard)), (h0, .inr (7, vL 18 G8)), (p0, .inr (1, vL 18 F_p0_)), (h_p0_push, .inl (cI, 12, .inl f_p0_push)), (h_p0_feet, .inl (cI, 12, .inl f_p0_feet)), (p1, .inr (5, vL 11 F_p1_)), (h_p1_crew, .inl (cI, 4, .inl f_p1_crew))] := hD
    refine W.widen (k := 0) (n := 0) (Nat.le_of_ble_eq_true rfl) (Nat.le_of_ble_eq_true rfl) ?_
    refine lv_iadd hx hb dX7_toLine_58 ?_
    refine lv_topi (fun v55 ev55 => ?_)
    refine lv_iconst (v := 4) hx hb dX7_toLine_59 (by decide) ?_
    refine lv_isub hx hb dX7_toLine_60 ?_
    refine lv_topi (fun v56 ev56 => ?_)
    refine lv_aload_n hx hb dX7_toLine_61 rfl (lv_at hl 2 rfl) ?_
    refine get_f (D := D) (ci := 7) (v := .int u12) (C := RX7) (T := TX7) (N := 18) hx hb hw inAX7 hown hK hP 5 rfl rfl 12 (by decide) (hw _ q_229) (fun _ h9 => h9) i38 dX7_toLine_62 ?_
    refine lv_bipush (v := 100) hx hb dX7_toLine_65 (by decide) ?_
    refine lv_idiv hx hb dX7_toLine_67 (by decide) ?_
    refine lv_topi (fun v57 ev57 => ?_)
    refine lv_isub hx hb dX7_toLine_68 ?_
    refine lv_topi (fun v58 ev58 => ?_)
    refine call_Ti (wr := [(h_paces, .inl (cI, 40, .inl w15)), (h_manner, .inl (cI, 4, .inl w16)), (h_p0_settings, .inl (cI, 5, .inl f_p0_settings)), (h_p0_weight, .inl (cI, 12, .inl f_p0_weight)), (h_p1_yard, .inl (cI, 4, .inl f_p1_yard)), (h0, .inr (7, vL 18 G8)), (p0, .inr (1, vL 18 F_p0_)), (h_p0_push, .inl (cI, 12, .inl f_p0_push)), (h_p0_feet, .inl (cI, 12, .inl f_p0_feet)), (p1, .inr (5, vL 11 F_p1_)), (h_p1_crew, .inl (cI, 4, .inl f_p1_crew))]) (As := [.int v58]) (rest := []) hx hb hml hown hw (m_X9_bounded l D cI cJ cB cP cM cZ v58 _ ) wT_X9_bounded (hG.2.1 (.methodLinkNest "FourSledge$Ride" 93 ⟨"FourSledge", "bounded", "(I)I"⟩ "FourSledge") (by decide +kernel)) dX7_toLine_69 hP hD hS hA [] [0, 1, 2, 3, 4, 5, 6, 7, 8, 9, 10] rfl rfl (by decide) (by decide) (by decide) GG.fb hG.at hl.1 rfl (Nat.le_of_ble_eq_true rfl) ⟨(Nat.le_of_ble_eq_true rfl), (Nat.le_of_ble_eq_true rfl)⟩ ⟨(Nat.le_of_ble_eq_true rfl), (Nat.le_of_ble_eq_true rfl)⟩ (fun r59 u H locs hp hP hD hS => ?_)
    obtain ⟨t60, rfl⟩ := hp
    have hP : va_P D vwCl [(h_paces, .inl (cI, 40, .inl w15)), (h_manner, .inl (cI, 4, .inl w16)), (h_p0_settings, .inl (cI, 5, .inl f_p0_settings)), (h_p0_weight, .inl (cI, 12, .inl f_p0_weight)), (h_p1_yard, .inl (cI, 4, .inl f_p1_yard)), (h0, .inr (7, vL 18 G8)), (p0, .inr (1, vL 18 F_p0_)), (h_p0_push, .inl (cI, 12, .inl f_p0_push)), (h_p0_feet, .inl (cI, 12, .inl f_p0_feet)), (p1, .inr (5, vL 11 F_p1_)), (h_p1_crew, .inl (cI, 4, .inl f_p1_crew))] H := hP
    have hD : va_D A [(h_paces, .inl (cI, 40, .inl w15)), (h_manner, .inl (cI, 4, .inl w16)), (h_p0_settings, .inl (cI, 5, .inl f_p0_settings)), (h_p0_weight, .inl (cI, 12, .inl f_p0_weight)), (h_p1_yard, .inl (cI, 4, .inl f_p1_yard)), (h0, .inr (7, vL 18 G8)), (p0, .inr (1, vL 18 F_p0_)), (h_p0_push, .inl (cI, 12, .inl f_p0_push)), (h_p0_feet, .inl (cI, 12, .inl f_p0_feet)), (p1, .inr (5, vL 11 F_p1_)), (h_p1_crew, .inl (cI, 4, .inl f_p1_crew))] := hD
    refine W.widen (k := 0) (n := 0) (Nat.le_of_ble_eq_true rfl) (Nat.le_of_ble_eq_true rfl) ?_
    refine lv_istore_n (lv' := [(3, .int r59), (4, .int u6), (0, .ref h0), (1, .ref p0), (2, .ref p1)]) hx hb dX7_toLine_72 rfl hl (by decide) rfl (fun ls hl => ?_)
    refine lv_aload_n hx hb dX7_toLine_73 rfl (lv_at hl 2 rfl) ?_
    refine lv_aload_n hx hb dX7_toLine_74 rfl (lv_at hl 3 rfl) ?_
    refine lv_aload_n hx hb dX7_toLine_75 rfl (lv_at hl 4 rfl) ?_
    refine lv_iload hx hb dX7_toLine_76 (lv_at hl 1 rfl) ?_
    refine lv_iload_n hx hb dX7_toLine_78 rfl (lv_at hl 0 rfl) ?_
    have n62 : F1 1 = .ref h_manner := (get_ne eF1 (by decide) e_manner)
    have n63 : F2 1 = .ref h_manner := (get_ne eF2 (by decide) n62)
    have n64 : F3 1 = .ref h_manner := (get_ne eF3 (by decide) n63)
    have n65 : F4 1 = .ref h_manner := (get_ne eF4 (by decide) n64)
    have n66 : F5 1 = .ref h_manner := (get_ne eF5 (by decide) n65)
    have n67 : G8 1 = .ref h_manner := (SAME.at i34 (by decide) n66)
    have n68 : F1 14 = .int x_kicks := (get_ne eF1 (by decide) e_kicks)
    have n69 : F2 14 = .int x_kicks := (get_ne eF2 (by decide) n68)
    have n70 : F3 14 = .int x_kicks := (get_ne eF3 (by decide) n69)
    have n71 : F4 14 = .int x_kicks := (get_ne eF4 (by decide) n70)
    have n72 : F5 14 = .int x_kicks := (get_ne eF5 (by decide) n71)
    have n73 : G8 14 = .int x_kicks := (SAME.at i34 (by decide) n72)
    refine call_Vi (wr := [(h_paces, .inl (cI, 40, .inl w15)), (h_p0_settings, .inl (cI, 5, .inl f_p0_settings)), (h_p0_push, .inl (cI, 12, .inl f_p0_push))]) (As := [.ref p0, .ref p1, .int u6, .int r59]) (rest := []) hx hb hml hown hw (m_X7_behindJumps l D cI cJ cB cP cM cZ h0 h_manner p0 h_p0_feet h_p0_weight p1 h_p1_crew h_p1_yard G8 u10 u11 u12 u13 x_kicks u14 w16 F_p0_ f_p0_feet f_p0_weight F_p1_ f_p1_crew f_p1_yard u6 r59 _ n67 i36 i37 i38 i39 n73 i_x_kicks i40 e_p0_feet e_p0_weight e_p1_crew e_p1_yard s_p1_crew_0 t60) wV_X7_97_X7_behindJumps dX7_toLine_79 hK hP hD hS hA [5, 1, 6, 8, 3, 9, 10, 4] [0, 2, 7] rfl rfl (by decide) (by decide) (by decide) 0 7 rfl rfl GG.fb hG.at hl.1 rfl (Nat.le_of_ble_eq_true rfl) ⟨(Nat.le_of_ble_eq_true rfl), (Nat.le_of_ble_eq_true rfl)⟩ ⟨(Nat.le_of_ble_eq_true rfl), (Nat.le_of_ble_eq_true rfl)⟩ (fun r74 u H locs hp hP hD hS => ?_)
    obtain ⟨F75, y76, y77, y78, y79, y80, g81, t82, t83, t84, t85, t86, t87, t88, rfl⟩ := hp
    have hP : va_P D vwCl [(h_paces, .inl (cI, 40, .inl w15)), (h_p0_settings, .inl (cI, 5, .inl f_p0_settings)), (h_p0_push, .inl (cI, 12, .inl f_p0_push)), (h0, .inr (7, vL 18 F75)), (h_manner, .inl (cI, 4, .inl g81)), (p0, .inr (1, vL 18 F_p0_)), (h_p0_feet, .inl (cI, 12, .inl f_p0_feet)), (h_p0_weight, .inl (cI, 12, .inl f_p0_weight)), (p1, .inr (5, vL 11 F_p1_)), (h_p1_crew, .inl (cI, 4, .inl f_p1_crew)), (h_p1_yard, .inl (cI, 4, .inl f_p1_yard))] H := hP
    have hD : va_D A [(h_paces, .inl (cI, 40, .inl w15)), (h_p0_settings, .inl (cI, 5, .inl f_p0_settings)), (h_p0_push, .inl (cI, 12, .inl f_p0_push)), (h0, .inr (7, vL 18 F75)), (h_manner, .inl (cI, 4, .inl g81)), (p0, .inr (1, vL 18 F_p0_)), (h_p0_feet, .inl (cI, 12, .inl f_p0_feet)), (h_p0_weight, .inl (cI, 12, .inl f_p0_weight)), (p1, .inr (5, vL 11 F_p1_)), (h_p1_crew, .inl (cI, 4, .inl f_p1_crew)), (h_p1_yard, .inl (cI, 4, .inl f_p1_yard))] := hD
    refine W.widen (k := 0) (n := 0) (Nat.le_of_ble_eq_true rfl) (Nat.le_of_ble_eq_true rfl) ?_
    refine lv_istore_n (lv' := [(3, .int r74), (4, .int u6), (0, .ref h0), (1, .ref p0), (2, .ref p1)]) hx hb dX7_toLine_82 rfl hl (by decide) rfl (fun ls hl => ?_)
    refine lv_aload_n hx hb dX7_toLine_83 rfl (lv_at hl 2 rfl) ?_
    refine lv_dup hx hb dX7_toLine_84 rfl ?_
    have n90 : F75 3 = .int u9 := (SAME.at t82 (by decide) i35)
    refine get_f (D := D) (ci := 7) (v := .int u9) (C := RX7) (T := TX7) (N := 18) hx hb hw inAX7 hown hK hP 3 rfl rfl 3 (by decide) (hw _ q_211) (fun _ h9 => h9) n90 dX7_toLine_85 ?_
    refine lv_iconst (v := 1) hx hb dX7_toLine_88 (by decide) ?_
    refine lv_iload_n hx hb dX7_toLine_89 rfl (lv_at hl 0 rfl) ?_
    refine call_Ti (wr := [(h_paces, .inl (cI, 40, .inl w15)), (h_p0_settings, .inl (cI, 5, .inl f_p0_settings)), (h_p0_push, .inl (cI, 12, .inl f_p0_push)), (h0, .inr (7, vL 18 F75)), (h_manner, .inl (cI, 4, .inl g81)), (p0, .inr (1, vL 18 F_p0_)), (h_p0_feet, .inl (cI, 12, .inl f_p0_feet)), (h_p0_weight, .inl (cI, 12, .inl f_p0_weight)), (p1, .inr (5, vL 11 F_p1_)), (h_p1_crew, .inl (cI, 4, .inl f_p1_crew)), (h_p1_yard, .inl (cI, 4, .inl f_p1_yard))]) (As := [.int 1, .int r74]) (rest := [.int u9, .ref h0]) hx hb hml hown hw (m_X9_timeFor l D cI cJ cB cP cM cZ 1 r74 _ ) wT_X9_timeFor (hG.2.1 (.methodLinkNest "FourSledge$Ride" 100 ⟨"FourSledge", "timeFor", "(II)I"⟩ "FourSledge") (by decide +kernel)) dX7_toLine_90 hP hD hS hA [] [0, 1, 2, 3, 4, 5, 6, 7, 8, 9, 10] rfl rfl (by decide) (by decide) (by decide) GG.fb hG.at hl.1 rfl (Nat.le_of_ble_eq_true rfl) ⟨(Nat.le_of_ble_eq_true rfl), (Nat.le_of_ble_eq_true rfl)⟩ ⟨(Nat.le_of_ble_eq_true rfl), (Nat.le_of_ble_eq_true rfl)⟩ (fun r91 u H locs hp hP hD hS => ?_)
    have zl1 : (1 : Int32).toInt = 1 := by decide
    obtain rfl := hp
    have hP : va_P D vwCl [(h_paces, .inl (cI, 40, .inl w15)), (h_p0_settings, .inl (cI, 5, .inl f_p0_settings)), (h_p0_push, .inl (cI, 12, .inl f_p0_push)), (h0, .inr (7, vL 18 F75)), (h_manner, .inl (cI, 4, .inl g81)), (p0, .inr (1, vL 18 F_p0_)), (h_p0_feet, .inl (cI, 12, .inl f_p0_feet)), (h_p0_weight, .inl (cI, 12, .inl f_p0_weight)), (p1, .inr (5, vL 11 F_p1_)), (h_p1_crew, .inl (cI, 4, .inl f_p1_crew)), (h_p1_yard, .inl (cI, 4, .inl f_p1_yard))] H := hP
    have hD : va_D A [(h_paces, .inl (cI, 40, .inl w15)), (h_p0_settings, .inl (cI, 5, .inl f_p0_settings)), (h_p0_push, .inl (cI, 12, .inl f_p0_push)), (h0, .inr (7, vL 18 F75)), (h_manner, .inl (cI, 4, .inl g81)), (p0, .inr (1, vL 18 F_p0_)), (h_p0_feet, .inl (cI, 12, .inl f_p0_feet)), (h_p0_weight, .inl (cI, 12, .inl f_p0_weight)), (p1, .inr (5, vL 11 F_p1_)), (h_p1_crew, .inl (cI, 4, .inl f_p1_crew)), (h_p1_yard, .inl (cI, 4, .inl f_p1_yard))] := hD
    refine W.widen (k := 0) (n := 0) (Nat.le_of_ble_eq_true rfl) (Nat.le_of_ble_eq_true rfl) ?_
    refine lv_iadd hx hb dX7_toLine_93 ?_
    refine lv_topi (fun v93 ev93 => ?_)
    refine put_f (D := D) (ci := 7) (v := .int v93) (ty := .int) (C := RX7) (T := TX7) (N := 18) hx hb hw inAX7 tyX7 tyX7_ok nmX7 hown hK hP hD hS 3 rfl rfl 3 (by decide) (hw _ q_211) (fun _ h9 => h9) rfl (by decide +kernel) rfl rfl dX7_toLine_94 (fun H locs F94 eF94 hP hD hS => ?_)
    have hP : va_P D vwCl [(h_paces, .inl (cI, 40, .inl w15)), (h_p0_settings, .inl (cI, 5, .inl f_p0_settings)), (h_p0_push, .inl (cI, 12, .inl f_p0_push)), (h0, .inr (7, vL 18 F94)), (h_manner, .inl (cI, 4, .inl g81)), (p0, .inr (1, vL 18 F_p0_)), (h_p0_feet, .inl (cI, 12, .inl f_p0_feet)), (h_p0_weight, .inl (cI, 12, .inl f_p0_weight)), (p1, .inr (5, vL 11 F_p1_)), (h_p1_crew, .inl (cI, 4, .inl f_p1_crew)), (h_p1_yard, .inl (cI, 4, .inl f_p1_yard))] H := hP
    have hD : va_D A [(h_paces, .inl (cI, 40, .inl w15)), (h_p0_settings, .inl (cI, 5, .inl f_p0_settings)), (h_p0_push, .inl (cI, 12, .inl f_p0_push)), (h0, .inr (7, vL 18 F94)), (h_manner, .inl (cI, 4, .inl g81)), (p0, .inr (1, vL 18 F_p0_)), (h_p0_feet, .inl (cI, 12, .inl f_p0_feet)), (h_p0_weight, .inl (cI, 12, .inl f_p0_weight)), (p1, .inr (5, vL 11 F_p1_)), (h_p1_crew, .inl (cI, 4, .inl f_p1_crew)), (h_p1_yard, .inl (cI, 4, .inl f_p1_yard))] := hD
    refine lv_aload_n hx hb dX7_toLine_97 rfl (lv_at hl 2 rfl) ?_
    have n95 : F1 0 = .ref h_paces := (get_ne eF1 (by decide) e_paces)
    have n96 : F2 0 = .ref h_paces := (get_ne eF2 (by decide) n95)
    have n97 : F3 0 = .ref h_paces := (get_ne eF3 (by decide) n96)
    have n98 : F4 0 = .ref h_paces := (get_ne eF4 (by decide) n97)
    have n99 : F5 0 = .ref h_paces := (get_ne eF5 (by decide) n98)
    have n100 : G8 0 = .ref h_paces := (SAME.at i34 (by decide) n99)
    have n101 : F75 0 = .ref h_paces := (SAME.at t82 (by decide) n100)
    have n102 : F94 0 = .ref h_paces := (get_ne eF94 (by decide) n101)
    refine get_f (D := D) (ci := 7) (v := .ref h_paces) (C := RX7) (T := TX7) (N := 18) hx hb hw inAX7 hown hK hP 3 rfl rfl 0 (by decide) (hw _ q_205) (fun _ h9 => h9) n102 dX7_toLine_98 ?_
    refine lv_iload hx hb dX7_toLine_101 (lv_at hl 1 rfl) ?_
    refine lv_iload_n hx hb dX7_toLine_103 rfl (lv_at hl 0 rfl) ?_
    obtain ⟨g103, eg103⟩ : ∃ z : Nat → Int32, upd w15 u6.toNatClampNeg r74 = z := ⟨_, rfl⟩
    refine iast_g hx hb hK hP hD hS 0 0 rfl rfl (ix_k k51 (by decide) (by decide)) eg103 dX7_toLine_104 (fun H locs hP hD hS => ?_)
    have hP : va_P D vwCl [(h_paces, .inl (cI, 40, .inl g103)), (h_p0_settings, .inl (cI, 5, .inl f_p0_settings)), (h_p0_push, .inl (cI, 12, .inl f_p0_push)), (h0, .inr (7, vL 18 F94)), (h_manner, .inl (cI, 4, .inl g81)), (p0, .inr (1, vL 18 F_p0_)), (h_p0_feet, .inl (cI, 12, .inl f_p0_feet)), (h_p0_weight, .inl (cI, 12, .inl f_p0_weight)), (p1, .inr (5, vL 11 F_p1_)), (h_p1_crew, .inl (cI, 4, .inl f_p1_crew)), (h_p1_yard, .inl (cI, 4, .inl f_p1_yard))] H := hP
    have hD : va_D A [(h_paces, .inl (cI, 40, .inl g103)), (h_p0_settings, .inl (cI, 5, .inl f_p0_settings)), (h_p0_push, .inl (cI, 12, .inl f_p0_push)), (h0, .inr (7, vL 18 F94)), (h_manner, .inl (cI, 4, .inl g81)), (p0, .inr (1, vL 18 F_p0_)), (h_p0_feet, .inl (cI, 12, .inl f_p0_feet)), (h_p0_weight, .inl (cI, 12, .inl f_p0_weight)), (p1, .inr (5, vL 11 F_p1_)), (h_p1_crew, .inl (cI, 4, .inl f_p1_crew)), (h_p1_yard, .inl (cI, 4, .inl f_p1_yard))] := hD
    obtain ⟨v104, ev104⟩ : ∃ z : Int32, z = u6 + 1 := ⟨_, rfl⟩
    have bv104 : v104.toInt = u6.toInt + 1 := by rw [ev104]; exact add_k rfl rfl k51 ⟨Int.le_refl _, Int.le_refl _⟩ (by decide)
    have k105 : 1 ≤ v104.toInt ∧ v104.toInt ≤ 40 := add_r bv104 k51 ⟨Int.le_refl _, Int.le_refl _⟩ (by decide)
    refine lv_iinc (v := v104) (lv' := [(4, .int v104), (3, .int r74), (0, .ref h0), (1, .ref p0), (2, .ref p1)]) hx hb dX7_toLine_105 hl (k := 1) rfl (by rw [ev104]; rfl) (by decide) rfl (fun ls hl => ?_)
    refine lv_goto (tgt := 32) hx hb dX7_toLine_108 (by decide) ?_
    have n106 : F94 5 = .int y76 := (get_ne eF94 (by decide) t83)
    have n107 : F94 6 = .int y77 := (get_ne eF94 (by decide) t84)
    have n108 : F94 12 = .int y78 := (get_ne eF94 (by decide) t85)
    have n109 : F94 13 = .int y79 := (get_ne eF94 (by decide) t86)
    have n110 : F94 15 = .int y80 := (get_ne eF94 (by decide) t87)
    exact ih (v104, r74, F94, v93, y76, y77, y78, y79, y80, g103, g81) ⟨(ir_wk k105 (by decide) (by decide)), t88, (SAME.up eF94 (SAME.tr (SAME.tr SAME.rf i34 (by decide)) t82 (by decide)) (by decide)), (get_eq eF94), n106, n107, n108, n109, n110⟩ (by show (40 - v104.toInt).toNat < (40 - u6.toInt).toNat; omega) _ _ _ (hP.sub [3, 0, 4, 5, 1, 2, 6, 7, 8, 9, 10] rfl) (hD.sub [3, 0, 4, 5, 1, 2, 6, 7, 8, 9, 10] (by decide) rfl) hS (lv_sub hl [0, 1, 2, 3, 4] rfl)
set_option maxHeartbeats 4000000 in
set_option maxRecDepth 100000 in
theorem m_X7_standAtLine (l : Launch) (D : va_G) (cI cJ cB cP cM cZ : ClassId) (h0 : Nat) (Fh : Nat → Value) (p0 : Int32) (sz : Nat)  : CV l yX7_standAtLine cX7_standAtLine 2 none { frames := 0, cells := 0, slots := 0, locals := 0 } (GG D cI cJ cB cP cM cZ) D [(h0, .inr (7, vL 18 Fh))] sz [.ref h0, .int p0] (fun (u : va_W) => ∃ (Gh : Nat → Value), SAME [9, 10, 11] Fh Gh ∧ Gh 9 = .int p0 ∧ Gh 10 = .int 0 ∧ Gh 11 = .int (-1) ∧ u = [(h0, .inr (7, vL 18 Gh))]) := by
  refine CV_mk (by decide) (Nat.le_of_ble_eq_true rfl) ?_
  intro p e s m below meth c A ls E hAe hG hsz hP hD hA hS hl
  obtain ⟨hx, hb, hr, hw, hown, hlocks, hml, hnm⟩ := E
  have hK := hG.1
  have hl : lv_has ls 2 [(0, .ref h0), (1, .int p0)] := hl
  refine lv_aload_n hx hb dX7_standAtLine_0 rfl (lv_at hl 0 rfl) ?_
  refine lv_iload_n hx hb dX7_standAtLine_1 rfl (lv_at hl 1 rfl) ?_
  refine put_f (D := D) (ci := 7) (v := .int p0) (ty := .int) (C := RX7) (T := TX7) (N := 18) hx hb hw inAX7 tyX7 tyX7_ok nmX7 hown hK hP hD hS 0 rfl rfl 9 (by decide) (hw _ q_223) (fun _ h9 => h9) rfl (by decide +kernel) rfl rfl dX7_standAtLine_2 (fun H locs F1 eF1 hP hD hS => ?_)
  have hP : va_P D vwCl [(h0, .inr (7, vL 18 F1))] H := hP
  have hD : va_D A [(h0, .inr (7, vL 18 F1))] := hD
  refine lv_aload_n hx hb dX7_standAtLine_5 rfl (lv_at hl 0 rfl) ?_
  refine lv_iconst (v := 0) hx hb dX7_standAtLine_6 (by decide) ?_
  refine put_f (D := D) (ci := 7) (v := .int 0) (ty := .int) (C := RX7) (T := TX7) (N := 18) hx hb hw inAX7 tyX7 tyX7_ok nmX7 hown hK hP hD hS 0 rfl rfl 10 (by decide) (hw _ q_225) (fun _ h9 => h9) rfl (by decide +kernel) rfl rfl dX7_standAtLine_7 (fun H locs F2 eF2 hP hD hS => ?_)
  have hP : va_P D vwCl [(h0, .inr (7, vL 18 F2))] H := hP
  have hD : va_D A [(h0, .inr (7, vL 18 F2))] := hD
  refine lv_aload_n hx hb dX7_standAtLine_10 rfl (lv_at hl 0 rfl) ?_
  refine lv_iconst (v := (-1)) hx hb dX7_standAtLine_11 (by decide) ?_
  refine put_f (D := D) (ci := 7) (v := .int (-1)) (ty := .int) (C := RX7) (T := TX7) (N := 18) hx hb hw inAX7 tyX7 tyX7_ok nmX7 hown hK hP hD hS 0 rfl rfl 11 (by decide) (hw _ q_227) (fun _ h9 => h9) rfl (by decide +kernel) rfl rfl dX7_standAtLine_12 (fun H locs F3 eF3 hP hD hS => ?_)
  have hP : va_P D vwCl [(h0, .inr (7, vL 18 F3))] H := hP
  have hD : va_D A [(h0, .inr (7, vL 18 F3))] := hD
  exact ret_v hx hb hr hlocks hS hP hD dX7_standAtLine_15 (Nat.le_of_ble_eq_true rfl) (Nat.le_of_ble_eq_true rfl) ⟨F3, (SAME.up eF3 (SAME.up eF2 (SAME.up eF1 SAME.rf (by decide)) (by decide)) (by decide)), (get_ne eF3 (by decide) (get_ne eF2 (by decide) (get_eq eF1))), (get_ne eF3 (by decide) (get_eq eF2)), (get_eq eF3), rfl⟩
set_option maxHeartbeats 4000000 in
set_option maxRecDepth 100000 in
theorem m_X1_steadyChange (l : Launch) (D : va_G) (cI cJ cB cP cM cZ : ClassId) (h0 : Nat) (h_settings : Nat) (h_drop : Nat) (h_bestAt : Nat) (h_bad : Nat) (p1 : Nat) (Fh : Nat → Value) (x_runners : Int32) (f_settings : Nat → Int32) (f_drop : Nat → Int32) (f_bestAt : Nat → Int32) (f_bad : Nat → Int32) (F_p1_ : Nat → Value) (x_p1_runner : Int32) (x_p1_number : Int32) (p0 : Int32) (p2 : Int32) (sz : Nat) (e_settings : Fh 1 = .ref h_settings) (e_drop : Fh 7 = .ref h_drop) (e_bestAt : Fh 11 = .ref h_bestAt) (e_bad : Fh 12 = .ref h_bad) (e_runners : Fh 15 = .int x_runners) (i_x_runners : IR 0 6 x_runners) (s_settings_0 : SG 0 0 5 40 f_settings) (e_p1_runner : F_p1_ 5 = .int x_p1_runner) (e_p1_number : F_p1_ 6 = .int x_p1_number) (i_p0 : IR 0 11 p0) : CI l yX1_steadyChange cX1_steadyChange 4 (some .int) { frames := 2, cells := 0, slots := 0, locals := 63 } (GG D cI cJ cB cP cM cZ) D [(h0, .inr (1, vL 18 Fh)), (h_settings, .inl (cI, 5, .inl f_settings)), (h_drop, .inl (cI, 12, .inl f_drop)), (h_bestAt, .inl (cI, 6, .inl f_bestAt)), (h_bad, .inl (cI, 6, .inl f_bad)), (p1, .inr (5, vL 11 F_p1_))] sz [.ref h0, .int p0, .ref p1, .int p2] (fun (r : Int32) (u : va_W) => u = [(h0, .inr (1, vL 18 Fh)), (h_settings, .inl (cI, 5, .inl f_settings)), (h_drop, .inl (cI, 12, .inl f_drop)), (h_bestAt, .inl (cI, 6, .inl f_bestAt)), (h_bad, .inl (cI, 6, .inl f_bad)), (p1, .inr (5, vL 11 F_p1_))]) := by
  refine CI_mk (by decide) (Nat.le_of_ble_eq_true rfl) ?_
  intro p e s m below meth c A ls E hAe hG hsz hP hD hA hS hl
  obtain ⟨hx, hb, hr, hw, hown, hlocks, hml, hnm⟩ := E
  have hK := hG.1
  have i_x_runners : 0 ≤ x_runners.toInt ∧ x_runners.toInt ≤ 6 := i_x_runners
  have i_p0 : 0 ≤ p0.toInt ∧ p0.toInt ≤ 11 := i_p0
  have hl : lv_has ls 4 [(0, .ref h0), (1, .int p0), (2, .ref p1), (3, .int p2)] := hl
  refine lv_aload_n hx hb dX1_steadyChange_0 rfl (lv_at hl 0 rfl) ?_
  refine get_f (D := D) (ci := 1) (v := .ref h_drop) (C := RX1) (T := TX1) (N := 18) hx hb hw inAX1 hown hK hP 0 rfl rfl 7 (by decide) (hw _ q_340) (fun _ h9 => h9) e_drop dX1_steadyChange_1 ?_
  refine lv_iload_n hx hb dX1_steadyChange_4 rfl (lv_at hl 1 rfl) ?_
  refine va_iald hx hb hK hP 2 0 rfl rfl (ix_k i_p0 (by decide) (by decide)) dX1_steadyChange_5 ?_
  refine lv_topi (fun v1 ev1 => ?_)
  refine lv_iload_n hx hb dX1_steadyChange_6 rfl (lv_at hl 3 rfl) ?_
  refine lv_imul hx hb dX1_steadyChange_7 ?_
  refine lv_topi (fun v2 ev2 => ?_)
  refine lv_bipush (v := 100) hx hb dX1_steadyChange_8 (by decide) ?_
  refine lv_idiv hx hb dX1_steadyChange_10 (by decide) ?_
  refine lv_topi (fun v3 ev3 => ?_)
  refine lv_aload_n hx hb dX1_steadyChange_11 rfl (lv_at hl 0 rfl) ?_
  refine get_f (D := D) (ci := 1) (v := .ref h_settings) (C := RX1) (T := TX1) (N := 18) hx hb hw inAX1 hown hK hP 0 rfl rfl 1 (by decide) (hw _ q_315) (fun _ h9 => h9) e_settings dX1_steadyChange_12 ?_
  refine lv_iconst (v := 3) hx hb dX1_steadyChange_15 (by decide) ?_
  refine iald_n hx hb hK hP 1 0 rfl rfl 3 rfl (Nat.le_of_ble_eq_true rfl) (Nat.le_of_ble_eq_true rfl) rfl dX1_steadyChange_16 ?_
  refine lv_topi (fun v4 ev4 => ?_)
  refine lv_isub hx hb dX1_steadyChange_17 ?_
  refine lv_topi (fun v5 ev5 => ?_)
  refine lv_aload_n hx hb dX1_steadyChange_18 rfl (lv_at hl 2 rfl) ?_
  refine get_f (D := D) (ci := 5) (v := .int x_p1_number) (C := RX5) (T := TX5) (N := 11) hx hb hw inAX5 hown hK hP 5 rfl rfl 6 (by decide) (hw _ q_168) (fun _ h9 => h9) e_p1_number dX1_steadyChange_19 ?_
  refine lv_iconst (v := 5) hx hb dX1_steadyChange_22 (by decide) ?_
  refine lv_idiv hx hb dX1_steadyChange_23 (by decide) ?_
  refine lv_topi (fun v6 ev6 => ?_)
  refine lv_isub hx hb dX1_steadyChange_24 ?_
  refine lv_topi (fun v7 ev7 => ?_)
  refine lv_aload_n hx hb dX1_steadyChange_25 rfl (lv_at hl 0 rfl) ?_
  refine lv_aload_n hx hb dX1_steadyChange_26 rfl (lv_at hl 2 rfl) ?_
  refine get_f (D := D) (ci := 5) (v := .int x_p1_runner) (C := RX5) (T := TX5) (N := 11) hx hb hw inAX5 hown hK hP 5 rfl rfl 5 (by decide) (hw _ q_165) (fun _ h9 => h9) e_p1_runner dX1_steadyChange_27 ?_
  refine lv_aload_n hx hb dX1_steadyChange_30 rfl (lv_at hl 2 rfl) ?_
  refine get_f (D := D) (ci := 5) (v := .int x_p1_number) (C := RX5) (T := TX5) (N := 11) hx hb hw inAX5 hown hK hP 5 rfl rfl 6 (by decide) (hw _ q_168) (fun _ h9 => h9) e_p1_number dX1_steadyChange_31 ?_
  refine call_Vi (wr := [(h_drop, .inl (cI, 12, .inl f_drop)), (p1, .inr (5, vL 11 F_p1_))]) (As := [.int x_p1_runner, .int x_p1_number]) (rest := [.int v7]) hx hb hml hown hw (m_X1_runnerTakes l D cI cJ cB cP cM cZ h0 h_settings h_bestAt h_bad Fh x_runners f_settings f_bestAt f_bad x_p1_runner x_p1_number _ e_settings e_bestAt e_bad e_runners i_x_runners s_settings_0) wV_X1_94_X1_runnerTakes dX1_steadyChange_34 hK hP hD hS hA [0, 1, 3, 4] [2, 5] rfl rfl (by decide) (by decide) (by decide) 0 1 rfl rfl GG.fb hG.at hl.1 rfl (Nat.le_of_ble_eq_true rfl) ⟨(Nat.le_of_ble_eq_true rfl), (Nat.le_of_ble_eq_true rfl)⟩ ⟨(Nat.le_of_ble_eq_true rfl), (Nat.le_of_ble_eq_true rfl)⟩ (fun r8 u H locs hp hP hD hS => ?_)
  obtain rfl := hp
  have hP : va_P D vwCl [(h_drop, .inl (cI, 12, .inl f_drop)), (p1, .inr (5, vL 11 F_p1_)), (h0, .inr (1, vL 18 Fh)), (h_settings, .inl (cI, 5, .inl f_settings)), (h_bestAt, .inl (cI, 6, .inl f_bestAt)), (h_bad, .inl (cI, 6, .inl f_bad))] H := hP
  have hD : va_D A [(h_drop, .inl (cI, 12, .inl f_drop)), (p1, .inr (5, vL 11 F_p1_)), (h0, .inr (1, vL 18 Fh)), (h_settings, .inl (cI, 5, .inl f_settings)), (h_bestAt, .inl (cI, 6, .inl f_bestAt)), (h_bad, .inl (cI, 6, .inl f_bad))] := hD
  refine W.widen (k := 0) (n := 0) (Nat.le_of_ble_eq_true rfl) (Nat.le_of_ble_eq_true rfl) ?_
  refine lv_isub hx hb dX1_steadyChange_37 ?_
  refine lv_topi (fun v10 ev10 => ?_)
  exact ret_i (v := v10) hx hb hr hlocks hS (hP.sub (ws' := [(h0, .inr (1, vL 18 Fh)), (h_settings, .inl (cI, 5, .inl f_settings)), (h_drop, .inl (cI, 12, .inl f_drop)), (h_bestAt, .inl (cI, 6, .inl f_bestAt)), (h_bad, .inl (cI, 6, .inl f_bad)), (p1, .inr (5, vL 11 F_p1_))]) [2, 3, 0, 4, 5, 1] rfl) (hD.sub (ws' := [(h0, .inr (1, vL 18 Fh)), (h_settings, .inl (cI, 5, .inl f_settings)), (h_drop, .inl (cI, 12, .inl f_drop)), (h_bestAt, .inl (cI, 6, .inl f_bestAt)), (h_bad, .inl (cI, 6, .inl f_bad)), (p1, .inr (5, vL 11 F_p1_))]) [2, 3, 0, 4, 5, 1] (by decide) rfl) dX1_steadyChange_38 rfl (Nat.le_of_ble_eq_true rfl) (Nat.le_of_ble_eq_true rfl) rfl
set_option maxHeartbeats 4000000 in
set_option maxRecDepth 100000 in
theorem m_X1_heightCost (l : Launch) (D : va_G) (cI cJ cB cP cM cZ : ClassId) (h0 : Nat) (h_ideal : Nat) (Fh : Nat → Value) (f_ideal : Nat → Int32) (p0 : Int32) (p1 : Int32) (p2 : Int32) (sz : Nat) (e_ideal : Fh 8 = .ref h_ideal) (i_p0 : IR 0 11 p0) : CI l yX1_heightCost cX1_heightCost 4 (some .int) { frames := 1, cells := 0, slots := 0, locals := 40 } (GG D cI cJ cB cP cM cZ) D [(h0, .inr (1, vL 18 Fh)), (h_ideal, .inl (cI, 12, .inl f_ideal))] sz [.ref h0, .int p0, .int p1, .int p2] (fun (r : Int32) (u : va_W) => u = [(h0, .inr (1, vL 18 Fh)), (h_ideal, .inl (cI, 12, .inl f_ideal))]) := by
  refine CI_mk (by decide) (Nat.le_of_ble_eq_true rfl) ?_
  intro p e s m below meth c A ls E hAe hG hsz hP hD hA hS hl
  obtain ⟨hx, hb, hr, hw, hown, hlocks, hml, hnm⟩ := E
  have hK := hG.1
  have i_p0 : 0 ≤ p0.toInt ∧ p0.toInt ≤ 11 := i_p0
  have hl : lv_has ls 4 [(0, .ref h0), (1, .int p0), (2, .int p1), (3, .int p2)] := hl
  refine lv_iconst (v := 3) hx hb dX1_heightCost_0 (by decide) ?_
  refine lv_iload_n hx hb dX1_heightCost_1 rfl (lv_at hl 2 rfl) ?_
  refine lv_aload_n hx hb dX1_heightCost_2 rfl (lv_at hl 0 rfl) ?_
  refine get_f (D := D) (ci := 1) (v := .ref h_ideal) (C := RX1) (T := TX1) (N := 18) hx hb hw inAX1 hown hK hP 0 rfl rfl 8 (by decide) (hw _ q_342) (fun _ h9 => h9) e_ideal dX1_heightCost_3 ?_
  refine lv_iload_n hx hb dX1_heightCost_6 rfl (lv_at hl 1 rfl) ?_
  refine va_iald hx hb hK hP 1 0 rfl rfl (ix_k i_p0 (by decide) (by decide)) dX1_heightCost_7 ?_
  refine lv_topi (fun v1 ev1 => ?_)
  refine lv_isub hx hb dX1_heightCost_8 ?_
  refine lv_topi (fun v2 ev2 => ?_)
  refine va_mabs hx hb (hml.trans hl.1.symm) hown (hw _ q_756) (hw _ q_757) (hw _ q_19) (hw _ q_758) (Nat.le_of_ble_eq_true rfl) (Nat.le_of_ble_eq_true rfl) (Nat.le_of_ble_eq_true rfl) (Nat.le_of_ble_eq_true rfl) dX1_heightCost_9 ?_
  refine lv_topi (fun v3 ev3 => ?_)
  refine lv_imul hx hb dX1_heightCost_12 ?_
  refine lv_topi (fun v4 ev4 => ?_)
  refine lv_iconst (v := 2) hx hb dX1_heightCost_13 (by decide) ?_
  refine lv_iload_n hx hb dX1_heightCost_14 rfl (lv_at hl 2 rfl) ?_
  refine lv_iload_n hx hb dX1_heightCost_15 rfl (lv_at hl 3 rfl) ?_
  refine lv_isub hx hb dX1_heightCost_16 ?_
  refine lv_topi (fun v5 ev5 => ?_)
  refine va_mabs hx hb (hml.trans hl.1.symm) hown (hw _ q_756) (hw _ q_757) (hw _ q_19) (hw _ q_758) (Nat.le_of_ble_eq_true rfl) (Nat.le_of_ble_eq_true rfl) (Nat.le_of_ble_eq_true rfl) (Nat.le_of_ble_eq_true rfl) dX1_heightCost_17 ?_
  refine lv_topi (fun v6 ev6 => ?_)
  refine lv_imul hx hb dX1_heightCost_20 ?_
  refine lv_topi (fun v7 ev7 => ?_)
  refine lv_iadd hx hb dX1_heightCost_21 ?_
  refine lv_topi (fun v8 ev8 => ?_)
  exact ret_i (v := v8) hx hb hr hlocks hS hP hD dX1_heightCost_22 rfl (Nat.le_of_ble_eq_true rfl) (Nat.le_of_ble_eq_true rfl) rfl
set_option maxHeartbeats 4000000 in
set_option maxRecDepth 100000 in
theorem m_X1_turnsOver (l : Launch) (D : va_G) (cI cJ cB cP cM cZ : ClassId) (h0 : Nat) (h_over : Nat) (Fh : Nat → Value) (f_over : Nat → Int32) (p0 : Int32) (p1 : Int32) (p2 : Int32) (sz : Nat) (e_over : Fh 9 = .ref h_over) (i_p0 : IR 0 11 p0) : CI l yX1_turnsOver cX1_turnsOver 4 (some .boolean) { frames := 0, cells := 0, slots := 0, locals := 0 } (GG D cI cJ cB cP cM cZ) D [(h0, .inr (1, vL 18 Fh)), (h_over, .inl (cI, 12, .inl f_over))] sz [.ref h0, .int p0, .int p1, .int p2] (fun (r : Int32) (u : va_W) => IR 0 1 r ∧ u = [(h0, .inr (1, vL 18 Fh)), (h_over, .inl (cI, 12, .inl f_over))]) := by
  refine CI_mk (by decide) (Nat.le_of_ble_eq_true rfl) ?_
  intro p e s m below meth c A ls E hAe hG hsz hP hD hA hS hl
  obtain ⟨hx, hb, hr, hw, hown, hlocks, hml, hnm⟩ := E
  have hK := hG.1
  have i_p0 : 0 ≤ p0.toInt ∧ p0.toInt ≤ 11 := i_p0
  have hl : lv_has ls 4 [(0, .ref h0), (1, .int p0), (2, .int p1), (3, .int p2)] := hl
  refine lv_iload_n hx hb dX1_turnsOver_0 rfl (lv_at hl 2 rfl) ?_
  refine lv_iload_n hx hb dX1_turnsOver_1 rfl (lv_at hl 3 rfl) ?_
  refine lv_imul hx hb dX1_turnsOver_2 ?_
  refine lv_topi (fun v1 ev1 => ?_)
  refine lv_bipush (v := 20) hx hb dX1_turnsOver_3 (by decide) ?_
  refine lv_aload_n hx hb dX1_turnsOver_5 rfl (lv_at hl 0 rfl) ?_
  refine get_f (D := D) (ci := 1) (v := .ref h_over) (C := RX1) (T := TX1) (N := 18) hx hb hw inAX1 hown hK hP 0 rfl rfl 9 (by decide) (hw _ q_345) (fun _ h9 => h9) e_over dX1_turnsOver_6 ?_
  refine lv_iload_n hx hb dX1_turnsOver_9 rfl (lv_at hl 1 rfl) ?_
  refine va_iald hx hb hK hP 1 0 rfl rfl (ix_k i_p0 (by decide) (by decide)) dX1_turnsOver_10 ?_
  refine lv_topi (fun v2 ev2 => ?_)
  refine lv_imul hx hb dX1_turnsOver_11 ?_
  refine lv_topi (fun v3 ev3 => ?_)
  refine lv_icmp_le (tgt := 19) hx hb dX1_turnsOver_12 (by decide) (fun c4 => ?_) (fun c4 => ?_)
  · have dc4 : v1.toInt ≤ v3.toInt := le_i (a := v1.toInt) (b := v3.toInt) rfl rfl c4
    refine lv_iconst (v := 0) hx hb dX1_turnsOver_19 (by decide) ?_
    exact ret_i (v := 0) hx hb hr hlocks hS hP hD dX1_turnsOver_20 rfl (Nat.le_of_ble_eq_true rfl) (Nat.le_of_ble_eq_true rfl) ⟨(show 0 ≤ (0 : Int32).toInt ∧ (0 : Int32).toInt ≤ 1 by decide), rfl⟩
  · have dc4 : v3.toInt < v1.toInt := nle_i (a := v1.toInt) (b := v3.toInt) rfl rfl c4
    have k5 : (-2147483648) ≤ v3.toInt ∧ v3.toInt ≤ 2147483646 := ⟨(ir_any _).1, up_lt dc4 (ir_any _).2 (by decide)⟩
    have k6 : (-2147483647) ≤ v1.toInt ∧ v1.toInt ≤ 2147483647 := ⟨lo_lt dc4 (ir_any _).1 (by decide), (ir_any _).2⟩
    refine lv_iconst (v := 1) hx hb dX1_turnsOver_15 (by decide) ?_
    refine lv_goto (tgt := 20) hx hb dX1_turnsOver_16 (by decide) ?_
    exact ret_i (v := 1) hx hb hr hlocks hS hP hD dX1_turnsOver_20 rfl (Nat.le_of_ble_eq_true rfl) (Nat.le_of_ble_eq_true rfl) ⟨(show 0 ≤ (1 : Int32).toInt ∧ (1 : Int32).toInt ≤ 1 by decide), rfl⟩
set_option maxHeartbeats 4000000 in
set_option maxRecDepth 100000 in
theorem m_X7_wayDown (l : Launch) (D : va_G) (cI cJ cB cP cM cZ : ClassId) (h0 : Nat) (h_paceBehind : Nat) (p0 : Nat) (h_p0_settings : Nat) (h_p0_length : Nat) (h_p0_drop : Nat) (h_p0_ideal : Nat) (h_p0_over : Nat) (h_p0_bestAt : Nat) (h_p0_bad : Nat) (p1 : Nat) (h_p1_high : Nat) (Fh : Nat → Value) (x_touchedBend : Int32) (x_touchedBy : Int32) (f_paceBehind : Nat → Int32) (F_p0_ : Nat → Value) (x_p0_bends : Int32) (x_p0_runners : Int32) (f_p0_settings : Nat → Int32) (f_p0_length : Nat → Int32) (f_p0_drop : Nat → Int32) (f_p0_ideal : Nat → Int32) (f_p0_over : Nat → Int32) (f_p0_bestAt : Nat → Int32) (f_p0_bad : Nat → Int32) (F_p1_ : Nat → Value) (x_p1_runner : Int32) (x_p1_number : Int32) (f_p1_high : Nat → Int32) (p2 : Int32) (p3 : Int32) (sz : Nat) (e_paceBehind : Fh 2 = .ref h_paceBehind) (e_touchedBend : Fh 16 = .int x_touchedBend) (e_touchedBy : Fh 17 = .int x_touchedBy) (e_p0_settings : F_p0_ 1 = .ref h_p0_settings) (e_p0_length : F_p0_ 6 = .ref h_p0_length) (e_p0_drop : F_p0_ 7 = .ref h_p0_drop) (e_p0_ideal : F_p0_ 8 = .ref h_p0_ideal) (e_p0_over : F_p0_ 9 = .ref h_p0_over) (e_p0_bestAt : F_p0_ 11 = .ref h_p0_bestAt) (e_p0_bad : F_p0_ 12 = .ref h_p0_bad) (e_p0_bends : F_p0_ 14 = .int x_p0_bends) (i_x_p0_bends : IR 0 12 x_p0_bends) (e_p0_runners : F_p0_ 15 = .int x_p0_runners) (i_x_p0_runners : IR 0 6 x_p0_runners) (s_p0_settings_0 : SG 0 0 5 40 f_p0_settings) (e_p1_high : F_p1_ 2 = .ref h_p1_high) (e_p1_runner : F_p1_ 5 = .int x_p1_runner) (e_p1_number : F_p1_ 6 = .int x_p1_number) : CI l yX7_wayDown cX7_wayDown 10 (some .int) { frames := 3, cells := 0, slots := 0, locals := 86 } (GG D cI cJ cB cP cM cZ) D [(h0, .inr (7, vL 18 Fh)), (h_paceBehind, .inl (cI, 12, .inl f_paceBehind)), (p0, .inr (1, vL 18 F_p0_)), (h_p0_settings, .inl (cI, 5, .inl f_p0_settings)), (h_p0_length, .inl (cI, 12, .inl f_p0_length)), (h_p0_drop, .inl (cI, 12, .inl f_p0_drop)), (h_p0_ideal, .inl (cI, 12, .inl f_p0_ideal)), (h_p0_over, .inl (cI, 12, .inl f_p0_over)), (h_p0_bestAt, .inl (cI, 6, .inl f_p0_bestAt)), (h_p0_bad, .inl (cI, 6, .inl f_p0_bad)), (p1, .inr (5, vL 11 F_p1_)), (h_p1_high, .inl (cI, 12, .inl f_p1_high))] sz [.ref h0, .ref p0, .ref p1, .int p2, .int p3] (fun (r : Int32) (u : va_W) => ∃ (Gh : Nat → Value) (y_lastPace : Int32) (y_gone : Int32) (y_overAt : Int32) (g_paceBehind : Nat → Int32), SAME [9, 10, 11] Fh Gh ∧ Gh 9 = .int y_lastPace ∧ Gh 10 = .int y_gone ∧ Gh 11 = .int y_overAt ∧ IR (-1) 11 y_overAt ∧ u = [(h0, .inr (7, vL 18 Gh)), (h_paceBehind, .inl (cI, 12, .inl g_paceBehind)), (p0, .inr (1, vL 18 F_p0_)), (h_p0_settings, .inl (cI, 5, .inl f_p0_settings)), (h_p0_length, .inl (cI, 12, .inl f_p0_length)), (h_p0_drop, .inl (cI, 12, .inl f_p0_drop)), (h_p0_ideal, .inl (cI, 12, .inl f_p0_ideal)), (h_p0_over, .inl (cI, 12, .inl f_p0_over)), (h_p0_bestAt, .inl (cI, 6, .inl f_p0_bestAt)), (h_p0_bad, .inl (cI, 6, .inl f_p0_bad)), (p1, .inr (5, vL 11 F_p1_)), (h_p1_high, .inl (cI, 12, .inl f_p1_high))]) := by
  refine CI_mk (by decide) (Nat.le_of_ble_eq_true rfl) ?_
  intro p e s m below meth c A ls E hAe hG hsz hP hD hA hS hl
  obtain ⟨hx, hb, hr, hw, hown, hlocks, hml, hnm⟩ := E
  have hK := hG.1
  have i_x_p0_bends : 0 ≤ x_p0_bends.toInt ∧ x_p0_bends.toInt ≤ 12 := i_x_p0_bends
  have i_x_p0_runners : 0 ≤ x_p0_runners.toInt ∧ x_p0_runners.toInt ≤ 6 := i_x_p0_runners
  have hl : lv_has ls 10 [(0, .ref h0), (1, .ref p0), (2, .ref p1), (3, .int p2), (4, .int p3)] := hl
  refine lv_iload_n hx hb dX7_wayDown_0 rfl (lv_at hl 3 rfl) ?_
  refine lv_istore (lv' := [(5, .int p2), (0, .ref h0), (1, .ref p0), (2, .ref p1), (3, .int p2), (4, .int p3)]) hx hb dX7_wayDown_1 hl (by decide) rfl (fun ls hl => ?_)
  refine lv_iconst (v := 0) hx hb dX7_wayDown_3 (by decide) ?_
  refine lv_istore (lv' := [(6, .int 0), (5, .int p2), (0, .ref h0), (1, .ref p0), (2, .ref p1), (3, .int p2), (4, .int p3)]) hx hb dX7_wayDown_4 hl (by decide) rfl (fun ls hl => ?_)
  refine lv_iconst (v := 0) hx hb dX7_wayDown_6 (by decide) ?_
  refine lv_istore (lv' := [(7, .int 0), (6, .int 0), (5, .int p2), (0, .ref h0), (1, .ref p0), (2, .ref p1), (3, .int p2), (4, .int p3)]) hx hb dX7_wayDown_7 hl (by decide) rfl (fun ls hl => ?_)
  refine lv_aload_n hx hb dX7_wayDown_9 rfl (lv_at hl 3 rfl) ?_
  refine lv_iload_n hx hb dX7_wayDown_10 rfl (lv_at hl 6 rfl) ?_
  refine call_Vv (wr := [(h_paceBehind, .inl (cI, 12, .inl f_paceBehind)), (p0, .inr (1, vL 18 F_p0_)), (h_p0_settings, .inl (cI, 5, .inl f_p0_settings)), (h_p0_length, .inl (cI, 12, .inl f_p0_length)), (h_p0_drop, .inl (cI, 12, .inl f_p0_drop)), (h_p0_ideal, .inl (cI, 12, .inl f_p0_ideal)), (h_p0_over, .inl (cI, 12, .inl f_p0_over)), (h_p0_bestAt, .inl (cI, 6, .inl f_p0_bestAt)), (h_p0_bad, .inl (cI, 6, .inl f_p0_bad)), (p1, .inr (5, vL 11 F_p1_)), (h_p1_high, .inl (cI, 12, .inl f_p1_high))]) (As := [.int p2]) (rest := []) hx hb hml hown hw (m_X7_standAtLine l D cI cJ cB cP cM cZ h0 Fh p2 _ ) wV_X7_81_X7_standAtLine dX7_wayDown_11 hK hP hD hS hA [0] [1, 2, 3, 4, 5, 6, 7, 8, 9, 10, 11] rfl rfl (by decide) (by decide) (by decide) 0 7 rfl rfl GG.fb hG.at hl.1 rfl (Nat.le_of_ble_eq_true rfl) ⟨(Nat.le_of_ble_eq_true rfl), (Nat.le_of_ble_eq_true rfl)⟩ ⟨(Nat.le_of_ble_eq_true rfl), (Nat.le_of_ble_eq_true rfl)⟩ (fun u H locs hp hP hD hS => ?_)
  obtain ⟨F2, t3, t4, t5, t6, rfl⟩ := hp
  have hP : va_P D vwCl [(h_paceBehind, .inl (cI, 12, .inl f_paceBehind)), (p0, .inr (1, vL 18 F_p0_)), (h_p0_settings, .inl (cI, 5, .inl f_p0_settings)), (h_p0_length, .inl (cI, 12, .inl f_p0_length)), (h_p0_drop, .inl (cI, 12, .inl f_p0_drop)), (h_p0_ideal, .inl (cI, 12, .inl f_p0_ideal)), (h_p0_over, .inl (cI, 12, .inl f_p0_over)), (h_p0_bestAt, .inl (cI, 6, .inl f_p0_bestAt)), (h_p0_bad, .inl (cI, 6, .inl f_p0_bad)), (p1, .inr (5, vL 11 F_p1_)), (h_p1_high, .inl (cI, 12, .inl f_p1_high)), (h0, .inr (7, vL 18 F2))] H := hP
  have hD : va_D A [(h_paceBehind, .inl (cI, 12, .inl f_paceBehind)), (p0, .inr (1, vL 18 F_p0_)), (h_p0_settings, .inl (cI, 5, .inl f_p0_settings)), (h_p0_length, .inl (cI, 12, .inl f_p0_length)), (h_p0_drop, .inl (cI, 12, .inl f_p0_drop)), (h_p0_ideal, .inl (cI, 12, .inl f_p0_ideal)), (h_p0_over, .inl (cI, 12, .inl f_p0_over)), (h_p0_bestAt, .inl (cI, 6, .inl f_p0_bestAt)), (h_p0_bad, .inl (cI, 6, .inl f_p0_bad)), (p1, .inr (5, vL 11 F_p1_)), (h_p1_high, .inl (cI, 12, .inl f_p1_high)), (h0, .inr (7, vL 18 F2))] := hD
  refine W.widen (k := 0) (n := 0) (Nat.le_of_ble_eq_true rfl) (Nat.le_of_ble_eq_true rfl) ?_
  refine lv_iconst (v := 0) hx hb dX7_wayDown_14 (by decide) ?_
  refine lv_istore (lv' := [(8, .int 0), (7, .int 0), (6, .int 0), (5, .int p2), (0, .ref h0), (1, .ref p0), (2, .ref p1), (3, .int p2), (4, .int p3)]) hx hb dX7_wayDown_15 hl (by decide) rfl (fun ls hl => ?_)
  refine mloop (α := (Int32) × (Int32) × (Int32) × (Int32) × (Nat → Int32) × (Nat → Value) × (Int32) × (Int32) × (Int32)) (nL := 10) (D := D) (A := A) (H0 := s.heap) (fun a => (12 - a.1.toInt).toNat) (fun a => IR 0 12 a.1 ∧ SAME [9, 10, 11] F2 a.2.2.2.2.2.1 ∧ a.2.2.2.2.2.1 9 = .int a.2.2.2.2.2.2.1 ∧ a.2.2.2.2.2.1 10 = .int a.2.2.2.2.2.2.2.1 ∧ a.2.2.2.2.2.1 11 = .int a.2.2.2.2.2.2.2.2 ∧ IR (-1) (-1) a.2.2.2.2.2.2.2.2) (fun a => [(h_paceBehind, .inl (cI, 12, .inl a.2.2.2.2.1)), (p0, .inr (1, vL 18 F_p0_)), (h_p0_settings, .inl (cI, 5, .inl f_p0_settings)), (h_p0_length, .inl (cI, 12, .inl f_p0_length)), (h_p0_drop, .inl (cI, 12, .inl f_p0_drop)), (h_p0_ideal, .inl (cI, 12, .inl f_p0_ideal)), (h_p0_over, .inl (cI, 12, .inl f_p0_over)), (h_p0_bestAt, .inl (cI, 6, .inl f_p0_bestAt)), (h_p0_bad, .inl (cI, 6, .inl f_p0_bad)), (p1, .inr (5, vL 11 F_p1_)), (h_p1_high, .inl (cI, 12, .inl f_p1_high)), (h0, .inr (7, vL 18 a.2.2.2.2.2.1))]) (fun a => [(8, .int a.1), (7, .int a.2.1), (6, .int a.2.2.1), (5, .int a.2.2.2.1), (0, .ref h0), (1, .ref p0), (2, .ref p1), (3, .int p2), (4, .int p3)]) (fun H locs ls => W p l e ({ frames := 3, cells := 0, slots := 0, locals := 86 } : Room) s m [.ref h0, .ref p0, .ref p1, .int p2, .int p3].toArray below meth c H locs 0 0 (MQ below (va_Qi (fun (r : Int32) (u : va_W) => ∃ (Gh : Nat → Value) (y_lastPace : Int32) (y_gone : Int32) (y_overAt : Int32) (g_paceBehind : Nat → Int32), SAME [9, 10, 11] Fh Gh ∧ Gh 9 = .int y_lastPace ∧ Gh 10 = .int y_gone ∧ Gh 11 = .int y_overAt ∧ IR (-1) 11 y_overAt ∧ u = [(h0, .inr (7, vL 18 Gh)), (h_paceBehind, .inl (cI, 12, .inl g_paceBehind)), (p0, .inr (1, vL 18 F_p0_)), (h_p0_settings, .inl (cI, 5, .inl f_p0_settings)), (h_p0_length, .inl (cI, 12, .inl f_p0_length)), (h_p0_drop, .inl (cI, 12, .inl f_p0_drop)), (h_p0_ideal, .inl (cI, 12, .inl f_p0_ideal)), (h_p0_over, .inl (cI, 12, .inl f_p0_over)), (h_p0_bestAt, .inl (cI, 6, .inl f_p0_bestAt)), (h_p0_bad, .inl (cI, 6, .inl f_p0_bad)), (p1, .inr (5, vL 11 F_p1_)), (h_p1_high, .inl (cI, 12, .inl f_p1_high))]) (PO D A) A) [.ref h0, .ref p0, .ref p1, .int p2, .int p3].toArray s 0 0 A) (F0 m 17 ls [])) ?_ (0, 0, 0, p2, f_paceBehind, F2, p2, 0, (-1)) ⟨(show 0 ≤ (0 : Int32).toInt ∧ (0 : Int32).toInt ≤ 12 by decide), SAME.rf, t4, t5, t6, (show (-1) ≤ ((-1) : Int32).toInt ∧ ((-1) : Int32).toInt ≤ (-1) by decide)⟩ _ _ _ hP hD hS hl
  rintro ⟨u8, u9, u10, u11, w12, G13, u14, u15, u16⟩ ⟨i17, i18, i19, i20, i21, i22⟩ ih H locs ls hP hD hS hl
  have i17 : 0 ≤ u8.toInt ∧ u8.toInt ≤ 12 := i17
  have i22 : (-1) ≤ u16.toInt ∧ u16.toInt ≤ (-1) := i22
  have hP : va_P D vwCl [(h_paceBehind, .inl (cI, 12, .inl w12)), (p0, .inr (1, vL 18 F_p0_)), (h_p0_settings, .inl (cI, 5, .inl f_p0_settings)), (h_p0_length, .inl (cI, 12, .inl f_p0_length)), (h_p0_drop, .inl (cI, 12, .inl f_p0_drop)), (h_p0_ideal, .inl (cI, 12, .inl f_p0_ideal)), (h_p0_over, .inl (cI, 12, .inl f_p0_over)), (h_p0_bestAt, .inl (cI, 6, .inl f_p0_bestAt)), (h_p0_bad, .inl (cI, 6, .inl f_p0_bad)), (p1, .inr (5, vL 11 F_p1_)), (h_p1_high, .inl (cI, 12, .inl f_p1_high)), (h0, .inr (7, vL 18 G13))] H := hP
  have hD : va_D A [(h_paceBehind, .inl (cI, 12, .inl w12)), (p0, .inr (1, vL 18 F_p0_)), (h_p0_settings, .inl (cI, 5, .inl f_p0_settings)), (h_p0_length, .inl (cI, 12, .inl f_p0_length)), (h_p0_drop, .inl (cI, 12, .inl f_p0_drop)), (h_p0_ideal, .inl (cI, 12, .inl f_p0_ideal)), (h_p0_over, .inl (cI, 12, .inl f_p0_over)), (h_p0_bestAt, .inl (cI, 6, .inl f_p0_bestAt)), (h_p0_bad, .inl (cI, 6, .inl f_p0_bad)), (p1, .inr (5, vL 11 F_p1_)), (h_p1_high, .inl (cI, 12, .inl f_p1_high)), (h0, .inr (7, vL 18 G13))] := hD
  have hl : lv_has ls 10 [(8, .int u8), (7, .int u9), (6, .int u10), (5, .int u11), (0, .ref h0), (1, .ref p0), (2, .ref p1), (3, .int p2), (4, .int p3)] := hl
  refine lv_iload hx hb dX7_wayDown_17 (lv_at hl 0 rfl) ?_
  refine lv_aload_n hx hb dX7_wayDown_19 rfl (lv_at hl 5 rfl) ?_
  refine get_f (D := D) (ci := 1) (v := .int x_p0_bends) (C := RX1) (T := TX1) (N := 18) hx hb hw inAX1 hown hK hP 1 rfl rfl 14 (by decide) (hw _ q_357) (fun _ h9 => h9) e_p0_bends dX7_wayDown_20 ?_
  refine lv_icmp_ge (tgt := 159) hx hb dX7_wayDown_23 (by decide) (fun c23 => ?_) (fun c23 => ?_)
  · have dc23 : x_p0_bends.toInt ≤ u8.toInt := le_i (a := x_p0_bends.toInt) (b := u8.toInt) rfl rfl c23
    refine lv_iload hx hb dX7_wayDown_159 (lv_at hl 2 rfl) ?_
    exact ret_i (v := u10) hx hb hr hlocks hS (hP.sub (ws' := [(h0, .inr (7, vL 18 G13)), (h_paceBehind, .inl (cI, 12, .inl w12)), (p0, .inr (1, vL 18 F_p0_)), (h_p0_settings, .inl (cI, 5, .inl f_p0_settings)), (h_p0_length, .inl (cI, 12, .inl f_p0_length)), (h_p0_drop, .inl (cI, 12, .inl f_p0_drop)), (h_p0_ideal, .inl (cI, 12, .inl f_p0_ideal)), (h_p0_over, .inl (cI, 12, .inl f_p0_over)), (h_p0_bestAt, .inl (cI, 6, .inl f_p0_bestAt)), (h_p0_bad, .inl (cI, 6, .inl f_p0_bad)), (p1, .inr (5, vL 11 F_p1_)), (h_p1_high, .inl (cI, 12, .inl f_p1_high))]) [11, 0, 1, 2, 3, 4, 5, 6, 7, 8, 9, 10] rfl) (hD.sub (ws' := [(h0, .inr (7, vL 18 G13)), (h_paceBehind, .inl (cI, 12, .inl w12)), (p0, .inr (1, vL 18 F_p0_)), (h_p0_settings, .inl (cI, 5, .inl f_p0_settings)), (h_p0_length, .inl (cI, 12, .inl f_p0_length)), (h_p0_drop, .inl (cI, 12, .inl f_p0_drop)), (h_p0_ideal, .inl (cI, 12, .inl f_p0_ideal)), (h_p0_over, .inl (cI, 12, .inl f_p0_over)), (h_p0_bestAt, .inl (cI, 6, .inl f_p0_bestAt)), (h_p0_bad, .inl (cI, 6, .inl f_p0_bad)), (p1, .inr (5, vL 11 F_p1_)), (h_p1_high, .inl (cI, 12, .inl f_p1_high))]) [11, 0, 1, 2, 3, 4, 5, 6, 7, 8, 9, 10] (by decide) rfl) dX7_wayDown_161 rfl (Nat.le_of_ble_eq_true rfl) (Nat.le_of_ble_eq_true rfl) ⟨G13, u14, u15, u16, w12, (SAME.tr (SAME.tr SAME.rf t3 (by decide)) i18 (by decide)), i19, i20, i21, (ir_wk i22 (by decide) (by decide)), rfl⟩
  · have dc23 : u8.toInt < x_p0_bends.toInt := nle_i (a := x_p0_bends.toInt) (b := u8.toInt) rfl rfl c23
    have k24 : 0 ≤ u8.toInt ∧ u8.toInt ≤ 11 := ⟨i17.1, up_lt dc23 i_x_p0_bends.2 (by decide)⟩
    have k25 : 1 ≤ x_p0_bends.toInt ∧ x_p0_bends.toInt ≤ 12 := ⟨lo_lt dc23 i17.1 (by decide), i_x_p0_bends.2⟩
    refine lv_aload_n hx hb dX7_wayDown_26 rfl (lv_at hl 6 rfl) ?_
    refine get_f (D := D) (ci := 5) (v := .ref h_p1_high) (C := RX5) (T := TX5) (N := 11) hx hb hw inAX5 hown hK hP 9 rfl rfl 2 (by decide) (hw _ q_155) (fun _ h9 => h9) e_p1_high dX7_wayDown_27 ?_
    refine lv_iload hx hb dX7_wayDown_30 (lv_at hl 0 rfl) ?_
    refine va_iald hx hb hK hP 10 0 rfl rfl (ix_k k24 (by decide) (by decide)) dX7_wayDown_32 ?_
    refine lv_topi (fun v26 ev26 => ?_)
    refine lv_istore (lv' := [(9, .int v26), (8, .int u8), (7, .int u9), (6, .int u10), (5, .int u11), (0, .ref h0), (1, .ref p0), (2, .ref p1), (3, .int p2), (4, .int p3)]) hx hb dX7_wayDown_33 hl (by decide) rfl (fun ls hl => ?_)
    refine lv_iload hx hb dX7_wayDown_35 (lv_at hl 4 rfl) ?_
    refine lv_aload_n hx hb dX7_wayDown_37 rfl (lv_at hl 6 rfl) ?_
    refine lv_iload hx hb dX7_wayDown_38 (lv_at hl 1 rfl) ?_
    refine lv_aload_n hx hb dX7_wayDown_40 rfl (lv_at hl 7 rfl) ?_
    refine lv_iload hx hb dX7_wayDown_41 (lv_at hl 9 rfl) ?_
    refine call_Vi (wr := [(h_paceBehind, .inl (cI, 12, .inl w12)), (h_p0_length, .inl (cI, 12, .inl f_p0_length)), (h_p0_ideal, .inl (cI, 12, .inl f_p0_ideal)), (h_p0_over, .inl (cI, 12, .inl f_p0_over)), (h_p1_high, .inl (cI, 12, .inl f_p1_high)), (h0, .inr (7, vL 18 G13))]) (As := [.int u8, .ref p1, .int p3]) (rest := [.int u11]) hx hb hml hown hw (m_X1_steadyChange l D cI cJ cB cP cM cZ p0 h_p0_settings h_p0_drop h_p0_bestAt h_p0_bad p1 F_p0_ x_p0_runners f_p0_settings f_p0_drop f_p0_bestAt f_p0_bad F_p1_ x_p1_runner x_p1_number u8 p3 _ e_p0_settings e_p0_drop e_p0_bestAt e_p0_bad e_p0_runners i_x_p0_runners s_p0_settings_0 e_p1_runner e_p1_number k24) wV_X7_134_X1_steadyChange dX7_wayDown_43 hK hP hD hS hA [1, 2, 4, 7, 8, 9] [0, 3, 5, 6, 10, 11] rfl rfl (by decide) (by decide) (by decide) 0 1 rfl rfl GG.fb hG.at hl.1 rfl (Nat.le_of_ble_eq_true rfl) ⟨(Nat.le_of_ble_eq_true rfl), (Nat.le_of_ble_eq_true rfl)⟩ ⟨(Nat.le_of_ble_eq_true rfl), (Nat.le_of_ble_eq_true rfl)⟩ (fun r27 u H locs hp hP hD hS => ?_)
    obtain rfl := hp
    have hP : va_P D vwCl [(h_paceBehind, .inl (cI, 12, .inl w12)), (h_p0_length, .inl (cI, 12, .inl f_p0_length)), (h_p0_ideal, .inl (cI, 12, .inl f_p0_ideal)), (h_p0_over, .inl (cI, 12, .inl f_p0_over)), (h_p1_high, .inl (cI, 12, .inl f_p1_high)), (h0, .inr (7, vL 18 G13)), (p0, .inr (1, vL 18 F_p0_)), (h_p0_settings, .inl (cI, 5, .inl f_p0_settings)), (h_p0_drop, .inl (cI, 12, .inl f_p0_drop)), (h_p0_bestAt, .inl (cI, 6, .inl f_p0_bestAt)), (h_p0_bad, .inl (cI, 6, .inl f_p0_bad)), (p1, .inr (5, vL 11 F_p1_))] H := hP
    have hD : va_D A [(h_paceBehind, .inl (cI, 12, .inl w12)), (h_p0_length, .inl (cI, 12, .inl f_p0_length)), (h_p0_ideal, .inl (cI, 12, .inl f_p0_ideal)), (h_p0_over, .inl (cI, 12, .inl f_p0_over)), (h_p1_high, .inl (cI, 12, .inl f_p1_high)), (h0, .inr (7, vL 18 G13)), (p0, .inr (1, vL 18 F_p0_)), (h_p0_settings, .inl (cI, 5, .inl f_p0_settings)), (h_p0_drop, .inl (cI, 12, .inl f_p0_drop)), (h_p0_bestAt, .inl (cI, 6, .inl f_p0_bestAt)), (h_p0_bad, .inl (cI, 6, .inl f_p0_bad)), (p1, .inr (5, vL 11 F_p1_))] := hD
    refine W.widen (k := 0) (n := 0) (Nat.le_of_ble_eq_true rfl) (Nat.le_of_ble_eq_true rfl) ?_
    refine lv_iadd hx hb dX7_wayDown_46 ?_
    refine lv_topi (fun v29 ev29 => ?_)
    refine lv_aload_n hx hb dX7_wayDown_47 rfl (lv_at hl 6 rfl) ?_
    refine lv_iload hx hb dX7_wayDown_48 (lv_at hl 1 rfl) ?_
    refine lv_iload hx hb dX7_wayDown_50 (lv_at hl 0 rfl) ?_
    refine lv_iload hx hb dX7_wayDown_52 (lv_at hl 2 rfl) ?_
    refine call_Vi (wr := [(h_paceBehind, .inl (cI, 12, .inl w12)), (h_p0_length, .inl (cI, 12, .inl f_p0_length)), (h_p0_over, .inl (cI, 12, .inl f_p0_over)), (h_p1_high, .inl (cI, 12, .inl f_p1_high)), (h0, .inr (7, vL 18 G13)), (h_p0_settings, .inl (cI, 5, .inl f_p0_settings)), (h_p0_drop, .inl (cI, 12, .inl f_p0_drop)), (h_p0_bestAt, .inl (cI, 6, .inl f_p0_bestAt)), (h_p0_bad, .inl (cI, 6, .inl f_p0_bad)), (p1, .inr (5, vL 11 F_p1_))]) (As := [.int u8, .int v26, .int u9]) (rest := [.int v29]) hx hb hml hown hw (m_X1_heightCost l D cI cJ cB cP cM cZ p0 h_p0_ideal F_p0_ f_p0_ideal u8 v26 u9 _ e_p0_ideal k24) wV_X7_138_X1_heightCost dX7_wayDown_54 hK hP hD hS hA [6, 2] [0, 1, 3, 4, 5, 7, 8, 9, 10, 11] rfl rfl (by decide) (by decide) (by decide) 0 1 rfl rfl GG.fb hG.at hl.1 rfl (Nat.le_of_ble_eq_true rfl) ⟨(Nat.le_of_ble_eq_true rfl), (Nat.le_of_ble_eq_true rfl)⟩ ⟨(Nat.le_of_ble_eq_true rfl), (Nat.le_of_ble_eq_true rfl)⟩ (fun r30 u H locs hp hP hD hS => ?_)
    obtain rfl := hp
    have hP : va_P D vwCl [(h_paceBehind, .inl (cI, 12, .inl w12)), (h_p0_length, .inl (cI, 12, .inl f_p0_length)), (h_p0_over, .inl (cI, 12, .inl f_p0_over)), (h_p1_high, .inl (cI, 12, .inl f_p1_high)), (h0, .inr (7, vL 18 G13)), (h_p0_settings, .inl (cI, 5, .inl f_p0_settings)), (h_p0_drop, .inl (cI, 12, .inl f_p0_drop)), (h_p0_bestAt, .inl (cI, 6, .inl f_p0_bestAt)), (h_p0_bad, .inl (cI, 6, .inl f_p0_bad)), (p1, .inr (5, vL 11 F_p1_)), (p0, .inr (1, vL 18 F_p0_)), (h_p0_ideal, .inl (cI, 12, .inl f_p0_ideal))] H := hP
    have hD : va_D A [(h_paceBehind, .inl (cI, 12, .inl w12)), (h_p0_length, .inl (cI, 12, .inl f_p0_length)), (h_p0_over, .inl (cI, 12, .inl f_p0_over)), (h_p1_high, .inl (cI, 12, .inl f_p1_high)), (h0, .inr (7, vL 18 G13)), (h_p0_settings, .inl (cI, 5, .inl f_p0_settings)), (h_p0_drop, .inl (cI, 12, .inl f_p0_drop)), (h_p0_bestAt, .inl (cI, 6, .inl f_p0_bestAt)), (h_p0_bad, .inl (cI, 6, .inl f_p0_bad)), (p1, .inr (5, vL 11 F_p1_)), (p0, .inr (1, vL 18 F_p0_)), (h_p0_ideal, .inl (cI, 12, .inl f_p0_ideal))] := hD
    refine W.widen (k := 0) (n := 0) (Nat.le_of_ble_eq_true rfl) (Nat.le_of_ble_eq_true rfl) ?_
    refine lv_isub hx hb dX7_wayDown_57 ?_
    refine lv_topi (fun v32 ev32 => ?_)
    refine call_Ti (wr := [(h_paceBehind, .inl (cI, 12, .inl w12)), (h_p0_length, .inl (cI, 12, .inl f_p0_length)), (h_p0_over, .inl (cI, 12, .inl f_p0_over)), (h_p1_high, .inl (cI, 12, .inl f_p1_high)), (h0, .inr (7, vL 18 G13)), (h_p0_settings, .inl (cI, 5, .inl f_p0_settings)), (h_p0_drop, .inl (cI, 12, .inl f_p0_drop)), (h_p0_bestAt, .inl (cI, 6, .inl f_p0_bestAt)), (h_p0_bad, .inl (cI, 6, .inl f_p0_bad)), (p1, .inr (5, vL 11 F_p1_)), (p0, .inr (1, vL 18 F_p0_)), (h_p0_ideal, .inl (cI, 12, .inl f_p0_ideal))]) (As := [.int v32]) (rest := []) hx hb hml hown hw (m_X9_bounded l D cI cJ cB cP cM cZ v32 _ ) wT_X9_bounded (hG.2.1 (.methodLinkNest "FourSledge$Ride" 93 ⟨"FourSledge", "bounded", "(I)I"⟩ "FourSledge") (by decide +kernel)) dX7_wayDown_58 hP hD hS hA [] [0, 1, 2, 3, 4, 5, 6, 7, 8, 9, 10, 11] rfl rfl (by decide) (by decide) (by decide) GG.fb hG.at hl.1 rfl (Nat.le_of_ble_eq_true rfl) ⟨(Nat.le_of_ble_eq_true rfl), (Nat.le_of_ble_eq_true rfl)⟩ ⟨(Nat.le_of_ble_eq_true rfl), (Nat.le_of_ble_eq_true rfl)⟩ (fun r33 u H locs hp hP hD hS => ?_)
    obtain ⟨t34, rfl⟩ := hp
    have hP : va_P D vwCl [(h_paceBehind, .inl (cI, 12, .inl w12)), (h_p0_length, .inl (cI, 12, .inl f_p0_length)), (h_p0_over, .inl (cI, 12, .inl f_p0_over)), (h_p1_high, .inl (cI, 12, .inl f_p1_high)), (h0, .inr (7, vL 18 G13)), (h_p0_settings, .inl (cI, 5, .inl f_p0_settings)), (h_p0_drop, .inl (cI, 12, .inl f_p0_drop)), (h_p0_bestAt, .inl (cI, 6, .inl f_p0_bestAt)), (h_p0_bad, .inl (cI, 6, .inl f_p0_bad)), (p1, .inr (5, vL 11 F_p1_)), (p0, .inr (1, vL 18 F_p0_)), (h_p0_ideal, .inl (cI, 12, .inl f_p0_ideal))] H := hP
    have hD : va_D A [(h_paceBehind, .inl (cI, 12, .inl w12)), (h_p0_length, .inl (cI, 12, .inl f_p0_length)), (h_p0_over, .inl (cI, 12, .inl f_p0_over)), (h_p1_high, .inl (cI, 12, .inl f_p1_high)), (h0, .inr (7, vL 18 G13)), (h_p0_settings, .inl (cI, 5, .inl f_p0_settings)), (h_p0_drop, .inl (cI, 12, .inl f_p0_drop)), (h_p0_bestAt, .inl (cI, 6, .inl f_p0_bestAt)), (h_p0_bad, .inl (cI, 6, .inl f_p0_bad)), (p1, .inr (5, vL 11 F_p1_)), (p0, .inr (1, vL 18 F_p0_)), (h_p0_ideal, .inl (cI, 12, .inl f_p0_ideal))] := hD
    refine W.widen (k := 0) (n := 0) (Nat.le_of_ble_eq_true rfl) (Nat.le_of_ble_eq_true rfl) ?_
    refine lv_istore (lv' := [(5, .int r33), (9, .int v26), (8, .int u8), (7, .int u9), (6, .int u10), (0, .ref h0), (1, .ref p0), (2, .ref p1), (3, .int p2), (4, .int p3)]) hx hb dX7_wayDown_61 hl (by decide) rfl (fun ls hl => ?_)
    refine lv_aload_n hx hb dX7_wayDown_63 rfl (lv_at hl 5 rfl) ?_
    refine lv_iload hx hb dX7_wayDown_64 (lv_at hl 0 rfl) ?_
    refine put_f (D := D) (ci := 7) (v := .int r33) (ty := .int) (C := RX7) (T := TX7) (N := 18) hx hb hw inAX7 tyX7 tyX7_ok nmX7 hown hK hP hD hS 4 rfl rfl 9 (by decide) (hw _ q_223) (fun _ h9 => h9) rfl (by decide +kernel) rfl rfl dX7_wayDown_66 (fun H locs F36 eF36 hP hD hS => ?_)
    have hP : va_P D vwCl [(h_paceBehind, .inl (cI, 12, .inl w12)), (h_p0_length, .inl (cI, 12, .inl f_p0_length)), (h_p0_over, .inl (cI, 12, .inl f_p0_over)), (h_p1_high, .inl (cI, 12, .inl f_p1_high)), (h0, .inr (7, vL 18 F36)), (h_p0_settings, .inl (cI, 5, .inl f_p0_settings)), (h_p0_drop, .inl (cI, 12, .inl f_p0_drop)), (h_p0_bestAt, .inl (cI, 6, .inl f_p0_bestAt)), (h_p0_bad, .inl (cI, 6, .inl f_p0_bad)), (p1, .inr (5, vL 11 F_p1_)), (p0, .inr (1, vL 18 F_p0_)), (h_p0_ideal, .inl (cI, 12, .inl f_p0_ideal))] H := hP
    have hD : va_D A [(h_paceBehind, .inl (cI, 12, .inl w12)), (h_p0_length, .inl (cI, 12, .inl f_p0_length)), (h_p0_over, .inl (cI, 12, .inl f_p0_over)), (h_p1_high, .inl (cI, 12, .inl f_p1_high)), (h0, .inr (7, vL 18 F36)), (h_p0_settings, .inl (cI, 5, .inl f_p0_settings)), (h_p0_drop, .inl (cI, 12, .inl f_p0_drop)), (h_p0_bestAt, .inl (cI, 6, .inl f_p0_bestAt)), (h_p0_bad, .inl (cI, 6, .inl f_p0_bad)), (p1, .inr (5, vL 11 F_p1_)), (p0, .inr (1, vL 18 F_p0_)), (h_p0_ideal, .inl (cI, 12, .inl f_p0_ideal))] := hD
    refine lv_aload_n hx hb dX7_wayDown_69 rfl (lv_at hl 6 rfl) ?_
    refine lv_iload hx hb dX7_wayDown_70 (lv_at hl 2 rfl) ?_
    refine lv_iload hx hb dX7_wayDown_72 (lv_at hl 0 rfl) ?_
    refine lv_iload hx hb dX7_wayDown_74 (lv_at hl 1 rfl) ?_
    refine call_Vi (wr := [(h_paceBehind, .inl (cI, 12, .inl w12)), (h_p0_length, .inl (cI, 12, .inl f_p0_length)), (h_p1_high, .inl (cI, 12, .inl f_p1_high)), (h0, .inr (7, vL 18 F36)), (h_p0_settings, .inl (cI, 5, .inl f_p0_settings)), (h_p0_drop, .inl (cI, 12, .inl f_p0_drop)), (h_p0_bestAt, .inl (cI, 6, .inl f_p0_bestAt)), (h_p0_bad, .inl (cI, 6, .inl f_p0_bad)), (p1, .inr (5, vL 11 F_p1_)), (h_p0_ideal, .inl (cI, 12, .inl f_p0_ideal))]) (As := [.int u8, .int r33, .int v26]) (rest := []) hx hb hml hown hw (m_X1_turnsOver l D cI cJ cB cP cM cZ p0 h_p0_over F_p0_ f_p0_over u8 r33 v26 _ e_p0_over k24) wV_X7_142_X1_turnsOver dX7_wayDown_76 hK hP hD hS hA [10, 2] [0, 1, 3, 4, 5, 6, 7, 8, 9, 11] rfl rfl (by decide) (by decide) (by decide) 0 1 rfl rfl GG.fb hG.at hl.1 rfl (Nat.le_of_ble_eq_true rfl) ⟨(Nat.le_of_ble_eq_true rfl), (Nat.le_of_ble_eq_true rfl)⟩ ⟨(Nat.le_of_ble_eq_true rfl), (Nat.le_of_ble_eq_true rfl)⟩ (fun r37 u H locs hp hP hD hS => ?_)
    obtain ⟨t38, rfl⟩ := hp
    have hP : va_P D vwCl [(h_paceBehind, .inl (cI, 12, .inl w12)), (h_p0_length, .inl (cI, 12, .inl f_p0_length)), (h_p1_high, .inl (cI, 12, .inl f_p1_high)), (h0, .inr (7, vL 18 F36)), (h_p0_settings, .inl (cI, 5, .inl f_p0_settings)), (h_p0_drop, .inl (cI, 12, .inl f_p0_drop)), (h_p0_bestAt, .inl (cI, 6, .inl f_p0_bestAt)), (h_p0_bad, .inl (cI, 6, .inl f_p0_bad)), (p1, .inr (5, vL 11 F_p1_)), (h_p0_ideal, .inl (cI, 12, .inl f_p0_ideal)), (p0, .inr (1, vL 18 F_p0_)), (h_p0_over, .inl (cI, 12, .inl f_p0_over))] H := hP
    have hD : va_D A [(h_paceBehind, .inl (cI, 12, .inl w12)), (h_p0_length, .inl (cI, 12, .inl f_p0_length)), (h_p1_high, .inl (cI, 12, .inl f_p1_high)), (h0, .inr (7, vL 18 F36)), (h_p0_settings, .inl (cI, 5, .inl f_p0_settings)), (h_p0_drop, .inl (cI, 12, .inl f_p0_drop)), (h_p0_bestAt, .inl (cI, 6, .inl f_p0_bestAt)), (h_p0_bad, .inl (cI, 6, .inl f_p0_bad)), (p1, .inr (5, vL 11 F_p1_)), (h_p0_ideal, .inl (cI, 12, .inl f_p0_ideal)), (p0, .inr (1, vL 18 F_p0_)), (h_p0_over, .inl (cI, 12, .inl f_p0_over))] := hD
    refine W.widen (k := 0) (n := 0) (Nat.le_of_ble_eq_true rfl) (Nat.le_of_ble_eq_true rfl) ?_
    refine lv_if_eq (tgt := 90) hx hb dX7_wayDown_79 (by decide) (fun c40 => ?_) (fun c40 => ?_)
    · have dc40 : r37.toInt = 0 := eq_i (a := r37.toInt) (b := 0) rfl rfl c40
      have k41 : 0 ≤ r37.toInt ∧ r37.toInt ≤ 0 := ⟨t38.1, Int.le_trans (Int.le_of_eq dc40) (Int.le_refl _)⟩
      refine lv_iload hx hb dX7_wayDown_90 (lv_at hl 2 rfl) ?_
      refine lv_aload_n hx hb dX7_wayDown_92 rfl (lv_at hl 5 rfl) ?_
      have n42 : F2 16 = .int x_touchedBend := (SAME.at t3 (by decide) e_touchedBend)
      have n43 : G13 16 = .int x_touchedBend := (SAME.at i18 (by decide) n42)
      have n44 : F36 16 = .int x_touchedBend := (get_ne eF36 (by decide) n43)
      refine get_f (D := D) (ci := 7) (v := .int x_touchedBend) (C := RX7) (T := TX7) (N := 18) hx hb hw inAX7 hown hK hP 3 rfl rfl 16 (by decide) (hw _ q_233) (fun _ h9 => h9) n44 dX7_wayDown_93 ?_
      refine lv_icmp_ne (tgt := 113) hx hb dX7_wayDown_96 (by decide) (fun c45 => ?_) (fun c45 => ?_)
      · have dc45 : u8.toInt ≠ x_touchedBend.toInt := ne_i (a := u8.toInt) (b := x_touchedBend.toInt) rfl rfl c45
        refine lv_iload hx hb dX7_wayDown_113 (lv_at hl 4 rfl) ?_
        refine lv_aload_n hx hb dX7_wayDown_115 rfl (lv_at hl 6 rfl) ?_
        refine get_f (D := D) (ci := 1) (v := .ref h_p0_length) (C := RX1) (T := TX1) (N := 18) hx hb hw inAX1 hown hK hP 10 rfl rfl 6 (by decide) (hw _ q_339) (fun _ h9 => h9) e_p0_length dX7_wayDown_116 ?_
        refine lv_iload hx hb dX7_wayDown_119 (lv_at hl 2 rfl) ?_
        refine va_iald hx hb hK hP 1 0 rfl rfl (ix_k k24 (by decide) (by decide)) dX7_wayDown_121 ?_
        refine lv_topi (fun v46 ev46 => ?_)
        refine lv_iload hx hb dX7_wayDown_122 (lv_at hl 0 rfl) ?_
        refine call_Ti (wr := [(h_paceBehind, .inl (cI, 12, .inl w12)), (h_p0_length, .inl (cI, 12, .inl f_p0_length)), (h_p1_high, .inl (cI, 12, .inl f_p1_high)), (h0, .inr (7, vL 18 F36)), (h_p0_settings, .inl (cI, 5, .inl f_p0_settings)), (h_p0_drop, .inl (cI, 12, .inl f_p0_drop)), (h_p0_bestAt, .inl (cI, 6, .inl f_p0_bestAt)), (h_p0_bad, .inl (cI, 6, .inl f_p0_bad)), (p1, .inr (5, vL 11 F_p1_)), (h_p0_ideal, .inl (cI, 12, .inl f_p0_ideal)), (p0, .inr (1, vL 18 F_p0_)), (h_p0_over, .inl (cI, 12, .inl f_p0_over))]) (As := [.int v46, .int r33]) (rest := [.int u10]) hx hb hml hown hw (m_X9_timeFor l D cI cJ cB cP cM cZ v46 r33 _ ) wT_X9_timeFor (hG.2.1 (.methodLinkNest "FourSledge$Ride" 100 ⟨"FourSledge", "timeFor", "(II)I"⟩ "FourSledge") (by decide +kernel)) dX7_wayDown_124 hP hD hS hA [] [0, 1, 2, 3, 4, 5, 6, 7, 8, 9, 10, 11] rfl rfl (by decide) (by decide) (by decide) GG.fb hG.at hl.1 rfl (Nat.le_of_ble_eq_true rfl) ⟨(Nat.le_of_ble_eq_true rfl), (Nat.le_of_ble_eq_true rfl)⟩ ⟨(Nat.le_of_ble_eq_true rfl), (Nat.le_of_ble_eq_true rfl)⟩ (fun r47 u H locs hp hP hD hS => ?_)
        obtain rfl := hp
        have hP : va_P D vwCl [(h_paceBehind, .inl (cI, 12, .inl w12)), (h_p0_length, .inl (cI, 12, .inl f_p0_length)), (h_p1_high, .inl (cI, 12, .inl f_p1_high)), (h0, .inr (7, vL 18 F36)), (h_p0_settings, .inl (cI, 5, .inl f_p0_settings)), (h_p0_drop, .inl (cI, 12, .inl f_p0_drop)), (h_p0_bestAt, .inl (cI, 6, .inl f_p0_bestAt)), (h_p0_bad, .inl (cI, 6, .inl f_p0_bad)), (p1, .inr (5, vL 11 F_p1_)), (h_p0_ideal, .inl (cI, 12, .inl f_p0_ideal)), (p0, .inr (1, vL 18 F_p0_)), (h_p0_over, .inl (cI, 12, .inl f_p0_over))] H := hP
        have hD : va_D A [(h_paceBehind, .inl (cI, 12, .inl w12)), (h_p0_length, .inl (cI, 12, .inl f_p0_length)), (h_p1_high, .inl (cI, 12, .inl f_p1_high)), (h0, .inr (7, vL 18 F36)), (h_p0_settings, .inl (cI, 5, .inl f_p0_settings)), (h_p0_drop, .inl (cI, 12, .inl f_p0_drop)), (h_p0_bestAt, .inl (cI, 6, .inl f_p0_bestAt)), (h_p0_bad, .inl (cI, 6, .inl f_p0_bad)), (p1, .inr (5, vL 11 F_p1_)), (h_p0_ideal, .inl (cI, 12, .inl f_p0_ideal)), (p0, .inr (1, vL 18 F_p0_)), (h_p0_over, .inl (cI, 12, .inl f_p0_over))] := hD
        refine W.widen (k := 0) (n := 0) (Nat.le_of_ble_eq_true rfl) (Nat.le_of_ble_eq_true rfl) ?_
        refine lv_iadd hx hb dX7_wayDown_127 ?_
        refine lv_topi (fun v49 ev49 => ?_)
        refine lv_istore (lv' := [(6, .int v49), (5, .int r33), (9, .int v26), (8, .int u8), (7, .int u9), (0, .ref h0), (1, .ref p0), (2, .ref p1), (3, .int p2), (4, .int p3)]) hx hb dX7_wayDown_128 hl (by decide) rfl (fun ls hl => ?_)
        refine lv_aload_n hx hb dX7_wayDown_130 rfl (lv_at hl 5 rfl) ?_
        have n50 : F2 2 = .ref h_paceBehind := (SAME.at t3 (by decide) e_paceBehind)
        have n51 : G13 2 = .ref h_paceBehind := (SAME.at i18 (by decide) n50)
        have n52 : F36 2 = .ref h_paceBehind := (get_ne eF36 (by decide) n51)
        refine get_f (D := D) (ci := 7) (v := .ref h_paceBehind) (C := RX7) (T := TX7) (N := 18) hx hb hw inAX7 hown hK hP 3 rfl rfl 2 (by decide) (hw _ q_209) (fun _ h9 => h9) n52 dX7_wayDown_131 ?_
        refine lv_iload hx hb dX7_wayDown_134 (lv_at hl 3 rfl) ?_
        refine lv_iload hx hb dX7_wayDown_136 (lv_at hl 1 rfl) ?_
        obtain ⟨g53, eg53⟩ : ∃ z : Nat → Int32, upd w12 u8.toNatClampNeg r33 = z := ⟨_, rfl⟩
        refine iast_g hx hb hK hP hD hS 0 0 rfl rfl (ix_k k24 (by decide) (by decide)) eg53 dX7_wayDown_138 (fun H locs hP hD hS => ?_)
        have hP : va_P D vwCl [(h_paceBehind, .inl (cI, 12, .inl g53)), (h_p0_length, .inl (cI, 12, .inl f_p0_length)), (h_p1_high, .inl (cI, 12, .inl f_p1_high)), (h0, .inr (7, vL 18 F36)), (h_p0_settings, .inl (cI, 5, .inl f_p0_settings)), (h_p0_drop, .inl (cI, 12, .inl f_p0_drop)), (h_p0_bestAt, .inl (cI, 6, .inl f_p0_bestAt)), (h_p0_bad, .inl (cI, 6, .inl f_p0_bad)), (p1, .inr (5, vL 11 F_p1_)), (h_p0_ideal, .inl (cI, 12, .inl f_p0_ideal)), (p0, .inr (1, vL 18 F_p0_)), (h_p0_over, .inl (cI, 12, .inl f_p0_over))] H := hP
        have hD : va_D A [(h_paceBehind, .inl (cI, 12, .inl g53)), (h_p0_length, .inl (cI, 12, .inl f_p0_length)), (h_p1_high, .inl (cI, 12, .inl f_p1_high)), (h0, .inr (7, vL 18 F36)), (h_p0_settings, .inl (cI, 5, .inl f_p0_settings)), (h_p0_drop, .inl (cI, 12, .inl f_p0_drop)), (h_p0_bestAt, .inl (cI, 6, .inl f_p0_bestAt)), (h_p0_bad, .inl (cI, 6, .inl f_p0_bad)), (p1, .inr (5, vL 11 F_p1_)), (h_p0_ideal, .inl (cI, 12, .inl f_p0_ideal)), (p0, .inr (1, vL 18 F_p0_)), (h_p0_over, .inl (cI, 12, .inl f_p0_over))] := hD
        refine lv_iload hx hb dX7_wayDown_139 (lv_at hl 2 rfl) ?_
        refine lv_istore (lv' := [(7, .int v26), (6, .int v49), (5, .int r33), (9, .int v26), (8, .int u8), (0, .ref h0), (1, .ref p0), (2, .ref p1), (3, .int p2), (4, .int p3)]) hx hb dX7_wayDown_141 hl (by decide) rfl (fun ls hl => ?_)
        refine lv_aload_n hx hb dX7_wayDown_143 rfl (lv_at hl 5 rfl) ?_
        refine lv_dup hx hb dX7_wayDown_144 rfl ?_
        have n54 : F36 10 = .int u15 := (get_ne eF36 (by decide) i20)
        refine get_f (D := D) (ci := 7) (v := .int u15) (C := RX7) (T := TX7) (N := 18) hx hb hw inAX7 hown hK hP 3 rfl rfl 10 (by decide) (hw _ q_225) (fun _ h9 => h9) n54 dX7_wayDown_145 ?_
        refine lv_iconst (v := 1) hx hb dX7_wayDown_148 (by decide) ?_
        refine lv_iadd hx hb dX7_wayDown_149 ?_
        refine lv_topi (fun v55 ev55 => ?_)
        refine put_f (D := D) (ci := 7) (v := .int v55) (ty := .int) (C := RX7) (T := TX7) (N := 18) hx hb hw inAX7 tyX7 tyX7_ok nmX7 hown hK hP hD hS 3 rfl rfl 10 (by decide) (hw _ q_225) (fun _ h9 => h9) rfl (by decide +kernel) rfl rfl dX7_wayDown_150 (fun H locs F56 eF56 hP hD hS => ?_)
        have hP : va_P D vwCl [(h_paceBehind, .inl (cI, 12, .inl g53)), (h_p0_length, .inl (cI, 12, .inl f_p0_length)), (h_p1_high, .inl (cI, 12, .inl f_p1_high)), (h0, .inr (7, vL 18 F56)), (h_p0_settings, .inl (cI, 5, .inl f_p0_settings)), (h_p0_drop, .inl (cI, 12, .inl f_p0_drop)), (h_p0_bestAt, .inl (cI, 6, .inl f_p0_bestAt)), (h_p0_bad, .inl (cI, 6, .inl f_p0_bad)), (p1, .inr (5, vL 11 F_p1_)), (h_p0_ideal, .inl (cI, 12, .inl f_p0_ideal)), (p0, .inr (1, vL 18 F_p0_)), (h_p0_over, .inl (cI, 12, .inl f_p0_over))] H := hP
        have hD : va_D A [(h_paceBehind, .inl (cI, 12, .inl g53)), (h_p0_length, .inl (cI, 12, .inl f_p0_length)), (h_p1_high, .inl (cI, 12, .inl f_p1_high)), (h0, .inr (7, vL 18 F56)), (h_p0_settings, .inl (cI, 5, .inl f_p0_settings)), (h_p0_drop, .inl (cI, 12, .inl f_p0_drop)), (h_p0_bestAt, .inl (cI, 6, .inl f_p0_bestAt)), (h_p0_bad, .inl (cI, 6, .inl f_p0_bad)), (p1, .inr (5, vL 11 F_p1_)), (h_p0_ideal, .inl (cI, 12, .inl f_p0_ideal)), (p0, .inr (1, vL 18 F_p0_)), (h_p0_over, .inl (cI, 12, .inl f_p0_over))] := hD
        obtain ⟨v57, ev57⟩ : ∃ z : Int32, z = u8 + 1 := ⟨_, rfl⟩
        have bv57 : v57.toInt = u8.toInt + 1 := by rw [ev57]; exact add_k rfl rfl k24 ⟨Int.le_refl _, Int.le_refl _⟩ (by decide)
        have k58 : 1 ≤ v57.toInt ∧ v57.toInt ≤ 12 := add_r bv57 k24 ⟨Int.le_refl _, Int.le_refl _⟩ (by decide)
        refine lv_iinc (v := v57) (lv' := [(8, .int v57), (7, .int v26), (6, .int v49), (5, .int r33), (9, .int v26), (0, .ref h0), (1, .ref p0), (2, .ref p1), (3, .int p2), (4, .int p3)]) hx hb dX7_wayDown_153 hl (k := 4) rfl (by rw [ev57]; rfl) (by decide) rfl (fun ls hl => ?_)
        refine lv_goto (tgt := 17) hx hb dX7_wayDown_156 (by decide) ?_
        have n59 : F56 9 = .int r33 := (get_ne eF56 (by decide) (get_eq eF36))
        have n60 : F36 11 = .int u16 := (get_ne eF36 (by decide) i21)
        have n61 : F56 11 = .int u16 := (get_ne eF56 (by decide) n60)
        exact ih (v57, v26, v49, r33, g53, F56, r33, v55, u16) ⟨(ir_wk k58 (by decide) (by decide)), (SAME.up eF56 (SAME.up eF36 (SAME.tr SAME.rf i18 (by decide)) (by decide)) (by decide)), n59, (get_eq eF56), n61, i22⟩ (by show (12 - v57.toInt).toNat < (12 - u8.toInt).toNat; omega) _ _ _ (hP.sub [0, 10, 4, 1, 5, 9, 11, 6, 7, 8, 2, 3] rfl) (hD.sub [0, 10, 4, 1, 5, 9, 11, 6, 7, 8, 2, 3] (by decide) rfl) hS (lv_sub hl [0, 1, 2, 3, 5, 6, 7, 8, 9] rfl)
      · have dc45 : u8.toInt = x_touchedBend.toInt := eq_i (a := u8.toInt) (b := x_touchedBend.toInt) rfl rfl c45
        have k62 : 0 ≤ x_touchedBend.toInt ∧ x_touchedBend.toInt ≤ 11 := ⟨Int.le_trans k24.1 (Int.le_of_eq dc45), Int.le_trans (Int.le_of_eq dc45.symm) k24.2⟩
        refine lv_bipush (v := 10) hx hb dX7_wayDown_99 (by decide) ?_
        refine lv_iload hx hb dX7_wayDown_101 (lv_at hl 0 rfl) ?_
        refine lv_aload_n hx hb dX7_wayDown_103 rfl (lv_at hl 5 rfl) ?_
        have n63 : F2 17 = .int x_touchedBy := (SAME.at t3 (by decide) e_touchedBy)
        have n64 : G13 17 = .int x_touchedBy := (SAME.at i18 (by decide) n63)
        have n65 : F36 17 = .int x_touchedBy := (get_ne eF36 (by decide) n64)
        refine get_f (D := D) (ci := 7) (v := .int x_touchedBy) (C := RX7) (T := TX7) (N := 18) hx hb hw inAX7 hown hK hP 3 rfl rfl 17 (by decide) (hw _ q_234) (fun _ h9 => h9) n65 dX7_wayDown_104 ?_
        refine lv_isub hx hb dX7_wayDown_107 ?_
        refine lv_topi (fun v66 ev66 => ?_)
        refine va_mmax hx hb (hml.trans hl.1.symm) hown (hw _ q_821) (hw _ q_786) (hw _ q_19) (hw _ q_787) (Nat.le_of_ble_eq_true rfl) (Nat.le_of_ble_eq_true rfl) (Nat.le_of_ble_eq_true rfl) (Nat.le_of_ble_eq_true rfl) dX7_wayDown_108 ?_
        refine lv_topi (fun v67 ev67 => ?_)
        have k68 : 10 ≤ v67.toInt ∧ v67.toInt ≤ 2147483647 := by rw [ev67]; exact mmax_k rfl rfl ⟨Int.le_refl _, Int.le_refl _⟩ (ir_any _) (by decide)
        refine lv_istore (lv' := [(5, .int v67), (9, .int v26), (8, .int u8), (7, .int u9), (6, .int u10), (0, .ref h0), (1, .ref p0), (2, .ref p1), (3, .int p2), (4, .int p3)]) hx hb dX7_wayDown_111 hl (by decide) rfl (fun ls hl => ?_)
        refine lv_iload hx hb dX7_wayDown_113 (lv_at hl 4 rfl) ?_
        refine lv_aload_n hx hb dX7_wayDown_115 rfl (lv_at hl 6 rfl) ?_
        refine get_f (D := D) (ci := 1) (v := .ref h_p0_length) (C := RX1) (T := TX1) (N := 18) hx hb hw inAX1 hown hK hP 10 rfl rfl 6 (by decide) (hw _ q_339) (fun _ h9 => h9) e_p0_length dX7_wayDown_116 ?_
        refine lv_iload hx hb dX7_wayDown_119 (lv_at hl 2 rfl) ?_
        refine va_iald hx hb hK hP 1 0 rfl rfl (ix_k k24 (by decide) (by decide)) dX7_wayDown_121 ?_
        refine lv_topi (fun v69 ev69 => ?_)
        refine lv_iload hx hb dX7_wayDown_122 (lv_at hl 0 rfl) ?_
        refine call_Ti (wr := [(h_paceBehind, .inl (cI, 12, .inl w12)), (h_p0_length, .inl (cI, 12, .inl f_p0_length)), (h_p1_high, .inl (cI, 12, .inl f_p1_high)), (h0, .inr (7, vL 18 F36)), (h_p0_settings, .inl (cI, 5, .inl f_p0_settings)), (h_p0_drop, .inl (cI, 12, .inl f_p0_drop)), (h_p0_bestAt, .inl (cI, 6, .inl f_p0_bestAt)), (h_p0_bad, .inl (cI, 6, .inl f_p0_bad)), (p1, .inr (5, vL 11 F_p1_)), (h_p0_ideal, .inl (cI, 12, .inl f_p0_ideal)), (p0, .inr (1, vL 18 F_p0_)), (h_p0_over, .inl (cI, 12, .inl f_p0_over))]) (As := [.int v69, .int v67]) (rest := [.int u10]) hx hb hml hown hw (m_X9_timeFor l D cI cJ cB cP cM cZ v69 v67 _ ) wT_X9_timeFor (hG.2.1 (.methodLinkNest "FourSledge$Ride" 100 ⟨"FourSledge", "timeFor", "(II)I"⟩ "FourSledge") (by decide +kernel)) dX7_wayDown_124 hP hD hS hA [] [0, 1, 2, 3, 4, 5, 6, 7, 8, 9, 10, 11] rfl rfl (by decide) (by decide) (by decide) GG.fb hG.at hl.1 rfl (Nat.le_of_ble_eq_true rfl) ⟨(Nat.le_of_ble_eq_true rfl), (Nat.le_of_ble_eq_true rfl)⟩ ⟨(Nat.le_of_ble_eq_true rfl), (Nat.le_of_ble_eq_true rfl)⟩ (fun r70 u H locs hp hP hD hS => ?_)
        obtain rfl := hp
        have hP : va_P D vwCl [(h_paceBehind, .inl (cI, 12, .inl w12)), (h_p0_length, .inl (cI, 12, .inl f_p0_length)), (h_p1_high, .inl (cI, 12, .inl f_p1_high)), (h0, .inr (7, vL 18 F36)), (h_p0_settings, .inl (cI, 5, .inl f_p0_settings)), (h_p0_drop, .inl (cI, 12, .inl f_p0_drop)), (h_p0_bestAt, .inl (cI, 6, .inl f_p0_bestAt)), (h_p0_bad, .inl (cI, 6, .inl f_p0_bad)), (p1, .inr (5, vL 11 F_p1_)), (h_p0_ideal, .inl (cI, 12, .inl f_p0_ideal)), (p0, .inr (1, vL 18 F_p0_)), (h_p0_over, .inl (cI, 12, .inl f_p0_over))] H := hP
        have hD : va_D A [(h_paceBehind, .inl (cI, 12, .inl w12)), (h_p0_length, .inl (cI, 12, .inl f_p0_length)), (h_p1_high, .inl (cI, 12, .inl f_p1_high)), (h0, .inr (7, vL 18 F36)), (h_p0_settings, .inl (cI, 5, .inl f_p0_settings)), (h_p0_drop, .inl (cI, 12, .inl f_p0_drop)), (h_p0_bestAt, .inl (cI, 6, .inl f_p0_bestAt)), (h_p0_bad, .inl (cI, 6, .inl f_p0_bad)), (p1, .inr (5, vL 11 F_p1_)), (h_p0_ideal, .inl (cI, 12, .inl f_p0_ideal)), (p0, .inr (1, vL 18 F_p0_)), (h_p0_over, .inl (cI, 12, .inl f_p0_over))] := hD
        refine W.widen (k := 0) (n := 0) (Nat.le_of_ble_eq_true rfl) (Nat.le_of_ble_eq_true rfl) ?_
        refine lv_iadd hx hb dX7_wayDown_127 ?_
        refine lv_topi (fun v72 ev72 => ?_)
        refine lv_istore (lv' := [(6, .int v72), (5, .int v67), (9, .int v26), (8, .int u8), (7, .int u9), (0, .ref h0), (1, .ref p0), (2, .ref p1), (3, .int p2), (4, .int p3)]) hx hb dX7_wayDown_128 hl (by decide) rfl (fun ls hl => ?_)
        refine lv_aload_n hx hb dX7_wayDown_130 rfl (lv_at hl 5 rfl) ?_
        have n73 : F2 2 = .ref h_paceBehind := (SAME.at t3 (by decide) e_paceBehind)
        have n74 : G13 2 = .ref h_paceBehind := (SAME.at i18 (by decide) n73)
        have n75 : F36 2 = .ref h_paceBehind := (get_ne eF36 (by decide) n74)
        refine get_f (D := D) (ci := 7) (v := .ref h_paceBehind) (C := RX7) (T := TX7) (N := 18) hx hb hw inAX7 hown hK hP 3 rfl rfl 2 (by decide) (hw _ q_209) (fun _ h9 => h9) n75 dX7_wayDown_131 ?_
        refine lv_iload hx hb dX7_wayDown_134 (lv_at hl 3 rfl) ?_
        refine lv_iload hx hb dX7_wayDown_136 (lv_at hl 1 rfl) ?_
        obtain ⟨g76, eg76⟩ : ∃ z : Nat → Int32, upd w12 u8.toNatClampNeg v67 = z := ⟨_, rfl⟩
        refine iast_g hx hb hK hP hD hS 0 0 rfl rfl (ix_k k24 (by decide) (by decide)) eg76 dX7_wayDown_138 (fun H locs hP hD hS => ?_)
        have hP : va_P D vwCl [(h_paceBehind, .inl (cI, 12, .inl g76)), (h_p0_length, .inl (cI, 12, .inl f_p0_length)), (h_p1_high, .inl (cI, 12, .inl f_p1_high)), (h0, .inr (7, vL 18 F36)), (h_p0_settings, .inl (cI, 5, .inl f_p0_settings)), (h_p0_drop, .inl (cI, 12, .inl f_p0_drop)), (h_p0_bestAt, .inl (cI, 6, .inl f_p0_bestAt)), (h_p0_bad, .inl (cI, 6, .inl f_p0_bad)), (p1, .inr (5, vL 11 F_p1_)), (h_p0_ideal, .inl (cI, 12, .inl f_p0_ideal)), (p0, .inr (1, vL 18 F_p0_)), (h_p0_over, .inl (cI, 12, .inl f_p0_over))] H := hP
        have hD : va_D A [(h_paceBehind, .inl (cI, 12, .inl g76)), (h_p0_length, .inl (cI, 12, .inl f_p0_length)), (h_p1_high, .inl (cI, 12, .inl f_p1_high)), (h0, .inr (7, vL 18 F36)), (h_p0_settings, .inl (cI, 5, .inl f_p0_settings)), (h_p0_drop, .inl (cI, 12, .inl f_p0_drop)), (h_p0_bestAt, .inl (cI, 6, .inl f_p0_bestAt)), (h_p0_bad, .inl (cI, 6, .inl f_p0_bad)), (p1, .inr (5, vL 11 F_p1_)), (h_p0_ideal, .inl (cI, 12, .inl f_p0_ideal)), (p0, .inr (1, vL 18 F_p0_)), (h_p0_over, .inl (cI, 12, .inl f_p0_over))] := hD
        refine lv_iload hx hb dX7_wayDown_139 (lv_at hl 2 rfl) ?_
        refine lv_istore (lv' := [(7, .int v26), (6, .int v72), (5, .int v67), (9, .int v26), (8, .int u8), (0, .ref h0), (1, .ref p0), (2, .ref p1), (3, .int p2), (4, .int p3)]) hx hb dX7_wayDown_141 hl (by decide) rfl (fun ls hl => ?_)
        refine lv_aload_n hx hb dX7_wayDown_143 rfl (lv_at hl 5 rfl) ?_
        refine lv_dup hx hb dX7_wayDown_144 rfl ?_
        have n77 : F36 10 = .int u15 := (get_ne eF36 (by decide) i20)
        refine get_f (D := D) (ci := 7) (v := .int u15) (C := RX7) (T := TX7) (N := 18) hx hb hw inAX7 hown hK hP 3 rfl rfl 10 (by decide) (hw _ q_225) (fun _ h9 => h9) n77 dX7_wayDown_145 ?_
        refine lv_iconst (v := 1) hx hb dX7_wayDown_148 (by decide) ?_
        refine lv_iadd hx hb dX7_wayDown_149 ?_
        refine lv_topi (fun v78 ev78 => ?_)
        refine put_f (D := D) (ci := 7) (v := .int v78) (ty := .int) (C := RX7) (T := TX7) (N := 18) hx hb hw inAX7 tyX7 tyX7_ok nmX7 hown hK hP hD hS 3 rfl rfl 10 (by decide) (hw _ q_225) (fun _ h9 => h9) rfl (by decide +kernel) rfl rfl dX7_wayDown_150 (fun H locs F79 eF79 hP hD hS => ?_)
        have hP : va_P D vwCl [(h_paceBehind, .inl (cI, 12, .inl g76)), (h_p0_length, .inl (cI, 12, .inl f_p0_length)), (h_p1_high, .inl (cI, 12, .inl f_p1_high)), (h0, .inr (7, vL 18 F79)), (h_p0_settings, .inl (cI, 5, .inl f_p0_settings)), (h_p0_drop, .inl (cI, 12, .inl f_p0_drop)), (h_p0_bestAt, .inl (cI, 6, .inl f_p0_bestAt)), (h_p0_bad, .inl (cI, 6, .inl f_p0_bad)), (p1, .inr (5, vL 11 F_p1_)), (h_p0_ideal, .inl (cI, 12, .inl f_p0_ideal)), (p0, .inr (1, vL 18 F_p0_)), (h_p0_over, .inl (cI, 12, .inl f_p0_over))] H := hP
        have hD : va_D A [(h_paceBehind, .inl (cI, 12, .inl g76)), (h_p0_length, .inl (cI, 12, .inl f_p0_length)), (h_p1_high, .inl (cI, 12, .inl f_p1_high)), (h0, .inr (7, vL 18 F79)), (h_p0_settings, .inl (cI, 5, .inl f_p0_settings)), (h_p0_drop, .inl (cI, 12, .inl f_p0_drop)), (h_p0_bestAt, .inl (cI, 6, .inl f_p0_bestAt)), (h_p0_bad, .inl (cI, 6, .inl f_p0_bad)), (p1, .inr (5, vL 11 F_p1_)), (h_p0_ideal, .inl (cI, 12, .inl f_p0_ideal)), (p0, .inr (1, vL 18 F_p0_)), (h_p0_over, .inl (cI, 12, .inl f_p0_over))] := hD
        obtain ⟨v80, ev80⟩ : ∃ z : Int32, z = u8 + 1 := ⟨_, rfl⟩
        have bv80 : v80.toInt = u8.toInt + 1 := by rw [ev80]; exact add_k rfl rfl k24 ⟨Int.le_refl _, Int.le_refl _⟩ (by decide)
        have k81 : 1 ≤ v80.toInt ∧ v80.toInt ≤ 12 := add_r bv80 k24 ⟨Int.le_refl _, Int.le_refl _⟩ (by decide)
        refine lv_iinc (v := v80) (lv' := [(8, .int v80), (7, .int v26), (6, .int v72), (5, .int v67), (9, .int v26), (0, .ref h0), (1, .ref p0), (2, .ref p1), (3, .int p2), (4, .int p3)]) hx hb dX7_wayDown_153 hl (k := 4) rfl (by rw [ev80]; rfl) (by decide) rfl (fun ls hl => ?_)
        refine lv_goto (tgt := 17) hx hb dX7_wayDown_156 (by decide) ?_
        have n82 : F79 9 = .int r33 := (get_ne eF79 (by decide) (get_eq eF36))
        have n83 : F36 11 = .int u16 := (get_ne eF36 (by decide) i21)
        have n84 : F79 11 = .int u16 := (get_ne eF79 (by decide) n83)
        exact ih (v80, v26, v72, v67, g76, F79, r33, v78, u16) ⟨(ir_wk k81 (by decide) (by decide)), (SAME.up eF79 (SAME.up eF36 (SAME.tr SAME.rf i18 (by decide)) (by decide)) (by decide)), n82, (get_eq eF79), n84, i22⟩ (by show (12 - v80.toInt).toNat < (12 - u8.toInt).toNat; omega) _ _ _ (hP.sub [0, 10, 4, 1, 5, 9, 11, 6, 7, 8, 2, 3] rfl) (hD.sub [0, 10, 4, 1, 5, 9, 11, 6, 7, 8, 2, 3] (by decide) rfl) hS (lv_sub hl [0, 1, 2, 3, 5, 6, 7, 8, 9] rfl)
    · have dc40 : r37.toInt ≠ 0 := ne_i (a := r37.toInt) (b := 0) rfl rfl c40
      have k85 : 1 ≤ r37.toInt ∧ r37.toInt ≤ 1 := ⟨ne_lo dc40 t38.1 ⟨Int.le_refl _, Int.le_refl _⟩ (by decide), t38.2⟩
      refine lv_aload_n hx hb dX7_wayDown_82 rfl (lv_at hl 5 rfl) ?_
      refine lv_iload hx hb dX7_wayDown_83 (lv_at hl 2 rfl) ?_
      refine put_f (D := D) (ci := 7) (v := .int u8) (ty := .int) (C := RX7) (T := TX7) (N := 18) hx hb hw inAX7 tyX7 tyX7_ok nmX7 hown hK hP hD hS 3 rfl rfl 11 (by decide) (hw _ q_227) (fun _ h9 => h9) rfl (by decide +kernel) rfl rfl dX7_wayDown_85 (fun H locs F86 eF86 hP hD hS => ?_)
      have hP : va_P D vwCl [(h_paceBehind, .inl (cI, 12, .inl w12)), (h_p0_length, .inl (cI, 12, .inl f_p0_length)), (h_p1_high, .inl (cI, 12, .inl f_p1_high)), (h0, .inr (7, vL 18 F86)), (h_p0_settings, .inl (cI, 5, .inl f_p0_settings)), (h_p0_drop, .inl (cI, 12, .inl f_p0_drop)), (h_p0_bestAt, .inl (cI, 6, .inl f_p0_bestAt)), (h_p0_bad, .inl (cI, 6, .inl f_p0_bad)), (p1, .inr (5, vL 11 F_p1_)), (h_p0_ideal, .inl (cI, 12, .inl f_p0_ideal)), (p0, .inr (1, vL 18 F_p0_)), (h_p0_over, .inl (cI, 12, .inl f_p0_over))] H := hP
      have hD : va_D A [(h_paceBehind, .inl (cI, 12, .inl w12)), (h_p0_length, .inl (cI, 12, .inl f_p0_length)), (h_p1_high, .inl (cI, 12, .inl f_p1_high)), (h0, .inr (7, vL 18 F86)), (h_p0_settings, .inl (cI, 5, .inl f_p0_settings)), (h_p0_drop, .inl (cI, 12, .inl f_p0_drop)), (h_p0_bestAt, .inl (cI, 6, .inl f_p0_bestAt)), (h_p0_bad, .inl (cI, 6, .inl f_p0_bad)), (p1, .inr (5, vL 11 F_p1_)), (h_p0_ideal, .inl (cI, 12, .inl f_p0_ideal)), (p0, .inr (1, vL 18 F_p0_)), (h_p0_over, .inl (cI, 12, .inl f_p0_over))] := hD
      refine lv_iconst (v := (-1)) hx hb dX7_wayDown_88 (by decide) ?_
      exact ret_i (v := (-1)) hx hb hr hlocks hS (hP.sub (ws' := [(h0, .inr (7, vL 18 F86)), (h_paceBehind, .inl (cI, 12, .inl w12)), (p0, .inr (1, vL 18 F_p0_)), (h_p0_settings, .inl (cI, 5, .inl f_p0_settings)), (h_p0_length, .inl (cI, 12, .inl f_p0_length)), (h_p0_drop, .inl (cI, 12, .inl f_p0_drop)), (h_p0_ideal, .inl (cI, 12, .inl f_p0_ideal)), (h_p0_over, .inl (cI, 12, .inl f_p0_over)), (h_p0_bestAt, .inl (cI, 6, .inl f_p0_bestAt)), (h_p0_bad, .inl (cI, 6, .inl f_p0_bad)), (p1, .inr (5, vL 11 F_p1_)), (h_p1_high, .inl (cI, 12, .inl f_p1_high))]) [3, 0, 10, 4, 1, 5, 9, 11, 6, 7, 8, 2] rfl) (hD.sub (ws' := [(h0, .inr (7, vL 18 F86)), (h_paceBehind, .inl (cI, 12, .inl w12)), (p0, .inr (1, vL 18 F_p0_)), (h_p0_settings, .inl (cI, 5, .inl f_p0_settings)), (h_p0_length, .inl (cI, 12, .inl f_p0_length)), (h_p0_drop, .inl (cI, 12, .inl f_p0_drop)), (h_p0_ideal, .inl (cI, 12, .inl f_p0_ideal)), (h_p0_over, .inl (cI, 12, .inl f_p0_over)), (h_p0_bestAt, .inl (cI, 6, .inl f_p0_bestAt)), (h_p0_bad, .inl (cI, 6, .inl f_p0_bad)), (p1, .inr (5, vL 11 F_p1_)), (h_p1_high, .inl (cI, 12, .inl f_p1_high))]) [3, 0, 10, 4, 1, 5, 9, 11, 6, 7, 8, 2] (by decide) rfl) dX7_wayDown_89 rfl (Nat.le_of_ble_eq_true rfl) (Nat.le_of_ble_eq_true rfl) ⟨F86, r33, u15, u8, w12, (SAME.up eF86 (SAME.up eF36 (SAME.tr (SAME.tr SAME.rf t3 (by decide)) i18 (by decide)) (by decide)) (by decide)), (get_ne eF86 (by decide) (get_eq eF36)), (get_ne eF86 (by decide) (get_ne eF36 (by decide) i20)), (get_eq eF86), (ir_wk k24 (by decide) (by decide)), rfl⟩
