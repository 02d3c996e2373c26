set_option maxHeartbeats 4000000 in
set_option maxRecDepth 100000 in
theorem m_X10_sentence (l : Launch) (D : va_G) (cI cJ cB cP cM cZ : ClassId) (h0 : Nat) (h_tape : Nat) (h_s : Nat) (h_read : Nat) (h_names : Nat) (h_reserved : Nat) (h_stack : Nat) (Fh : Nat → Value) (x_length : Int32) (x_token : Int32) (x_at : Int32) (x_number : Int32) (x_faultAt : Int32) (x_word : Int64) (x_codes : Int32) (x_ones : Int32) (x_top : Int32) (x_isWhole : Int32) (f_tape : Nat → Int32) (f_s : Nat → Int32) (f_read : Nat → Int32) (f_names : Nat → Int64) (f_reserved : Nat → Int64) (f_stack : Nat → Int32) (sz : Nat) (e_tape : Fh 1 = .ref h_tape) (e_length : Fh 2 = .int x_length) (i_x_length : IR 0 940 x_length) (e_s : Fh 6 = .ref h_s) (e_read : Fh 8 = .ref h_read) (e_names : Fh 9 = .ref h_names) (e_reserved : Fh 10 = .ref h_reserved) (e_token : Fh 11 = .int x_token) (i_x_token : IR 0 4 x_token) (e_at : Fh 12 = .int x_at) (e_number : Fh 14 = .int x_number) (e_faultAt : Fh 16 = .int x_faultAt) (e_word : Fh 18 = .long x_word) (e_stack : Fh 57 = .ref h_stack) (e_codes : Fh 58 = .int x_codes) (i_x_codes : IR 0 45 x_codes) (e_ones : Fh 59 = .int x_ones) (i_x_ones : IR 0 20 x_ones) (e_top : Fh 60 = .int x_top) (i_x_top : IR 0 45 x_top) (e_isWhole : Fh 62 = .int x_isWhole) (i_x_isWhole : IR 0 1 x_isWhole) (s_s_K0 : KW 0 f_s) (s_s_0 : SG 0 0 0 40 f_s) (s_s_105 : SG 105 108 0 11 f_s) (s_s_114 : SG 114 114 0 5 f_s) (s_s_130 : SG 130 133 0 11 f_s) (s_s_139 : SG 139 139 0 5 f_s) (s_s_153 : SG 153 153 0 44 f_s) (s_s_44 : SG 44 55 0 9 f_s) (s_s_5 : SG 5 5 0 12 f_s) (s_s_6 : SG 6 6 0 12 f_s) (s_s_7 : SG 7 7 0 6 f_s) (s_reserved_KR : KRN f_reserved) (o_0 : (x_token.toInt = 2 → 0 ≤ x_number.toInt ∧ x_number.toInt ≤ 999)) (o_1 : x_top.toInt + x_codes.toInt + x_isWhole.toInt ≤ 2 * x_ones.toInt) : CI l yX10_sentence cX10_sentence 3 (some .int) { frames := 3, cells := 0, slots := 0, locals := 67 } (GG D cI cJ cB cP cM cZ) D [(h0, .inr (10, vL 67 Fh)), (h_tape, .inl (cB, 940, .inl f_tape)), (h_s, .inl (cI, 335, .inl f_s)), (h_read, .inl (cI, 135, .inl f_read)), (h_names, .inl (cJ, 36, .inr (.inl f_names))), (h_reserved, .inl (cJ, 23, .inr (.inl f_reserved))), (h_stack, .inl (cI, 45, .inl f_stack))] sz [.ref h0] (fun (r : Int32) (u : va_W) => ∃ (Gh : Nat → Value) (y_p : Int32) (y_token : Int32) (y_at : Int32) (y_span : Int32) (y_number : Int32) (y_fault : Int32) (y_faultAt : Int32) (y_word : Int64) (y_codes : Int32) (y_ones : Int32) (y_top : Int32) (y_deep : Int32) (y_isWhole : Int32) (g_s : Nat → Int32) (g_read : Nat → Int32) (g_stack : Nat → Int32), SAME [0, 2, 3, 4, 5, 11, 12, 13, 14, 15, 16, 18, 58, 59, 60, 61, 62] Fh Gh ∧ Gh 0 = .int 0 ∧ Gh 2 = .int 0 ∧ Gh 3 = .int x_length ∧ Gh 4 = .int y_p ∧ IR 0 940 y_p ∧ Gh 5 = .int 200 ∧ Gh 11 = .int y_token ∧ IR 0 4 y_token ∧ Gh 12 = .int y_at ∧ Gh 13 = .int y_span ∧ Gh 14 = .int y_number ∧ Gh 15 = .int y_fault ∧ Gh 16 = .int y_faultAt ∧ Gh 18 = .long y_word ∧ Gh 58 = .int y_codes ∧ IR 0 45 y_codes ∧ Gh 59 = .int y_ones ∧ IR 0 20 y_ones ∧ Gh 60 = .int y_top ∧ IR 0 45 y_top ∧ Gh 61 = .int y_deep ∧ Gh 62 = .int y_isWhole ∧ IR 0 1 y_isWhole ∧ SG 153 153 0 44 g_s ∧ SG 0 0 0 40 g_s ∧ SG 5 5 0 12 g_s ∧ SG 6 6 0 12 g_s ∧ SG 7 7 0 6 g_s ∧ SG 44 55 0 9 g_s ∧ KW 0 g_s ∧ SG 105 108 0 11 g_s ∧ SG 114 114 0 5 g_s ∧ SG 130 133 0 11 g_s ∧ SG 139 139 0 5 g_s ∧ ((y_token.toInt = 2 → 0 ≤ y_number.toInt ∧ y_number.toInt ≤ 999)) ∧ (y_top.toInt + y_codes.toInt + y_isWhole.toInt ≤ 2 * y_ones.toInt) ∧ u = [(h0, .inr (10, vL 67 Gh)), (h_tape, .inl (cB, 940, .inl f_tape)), (h_s, .inl (cI, 335, .inl g_s)), (h_read, .inl (cI, 135, .inl g_read)), (h_names, .inl (cJ, 36, .inr (.inl f_names))), (h_reserved, .inl (cJ, 23, .inr (.inl f_reserved))), (h_stack, .inl (cI, 45, .inl g_stack))]) := by
  refine CI_mk (by decide) (Nat.le_of_ble_eq_true rfl) ?_
  intro p e s m below meth c A ls E hAe hG hsz hP hD hA hS hl
  obtain ⟨hx, hb, hr, hw, hown, hlocks, hml, hnm⟩ := E
  have hK := hG.1
  have i_x_length : 0 ≤ x_length.toInt ∧ x_length.toInt ≤ 940 := i_x_length
  have i_x_token : 0 ≤ x_token.toInt ∧ x_token.toInt ≤ 4 := i_x_token
  have i_x_codes : 0 ≤ x_codes.toInt ∧ x_codes.toInt ≤ 45 := i_x_codes
  have i_x_ones : 0 ≤ x_ones.toInt ∧ x_ones.toInt ≤ 20 := i_x_ones
  have i_x_top : 0 ≤ x_top.toInt ∧ x_top.toInt ≤ 45 := i_x_top
  have i_x_isWhole : 0 ≤ x_isWhole.toInt ∧ x_isWhole.toInt ≤ 1 := i_x_isWhole
  have hl : lv_has ls 3 [(0, .ref h0)] := hl
  refine lv_aload_n hx hb dX10_sentence_0 rfl (lv_at hl 0 rfl) ?_
  refine lv_iconst (v := 0) hx hb dX10_sentence_1 (by decide) ?_
  refine put_f (D := D) (ci := 10) (v := .int 0) (ty := .int) (C := RX10) (T := TX10) (N := 67) hx hb hw inAX10 tyX10 tyX10_ok nmX10 hown hK hP hD hS 0 rfl rfl 0 (by decide) (hw _ q_1261) (fun _ h9 => h9) rfl (by decide +kernel) rfl rfl dX10_sentence_2 (fun H locs F1 eF1 hP hD hS => ?_)
  have hP : va_P D vwCl [(h0, .inr (10, vL 67 F1)), (h_tape, .inl (cB, 940, .inl f_tape)), (h_s, .inl (cI, 335, .inl f_s)), (h_read, .inl (cI, 135, .inl f_read)), (h_names, .inl (cJ, 36, .inr (.inl f_names))), (h_reserved, .inl (cJ, 23, .inr (.inl f_reserved))), (h_stack, .inl (cI, 45, .inl f_stack))] H := hP
  have hD : va_D A [(h0, .inr (10, vL 67 F1)), (h_tape, .inl (cB, 940, .inl f_tape)), (h_s, .inl (cI, 335, .inl f_s)), (h_read, .inl (cI, 135, .inl f_read)), (h_names, .inl (cJ, 36, .inr (.inl f_names))), (h_reserved, .inl (cJ, 23, .inr (.inl f_reserved))), (h_stack, .inl (cI, 45, .inl f_stack))] := hD
  refine lv_aload_n hx hb dX10_sentence_5 rfl (lv_at hl 0 rfl) ?_
  refine lv_sipush (v := 200) hx hb dX10_sentence_6 (by decide) ?_
  have n2 : F1 2 = .int x_length := (get_ne eF1 (by decide) e_length)
  refine call_Vv (wr := [(h_tape, .inl (cB, 940, .inl f_tape)), (h_s, .inl (cI, 335, .inl f_s)), (h_read, .inl (cI, 135, .inl f_read)), (h_names, .inl (cJ, 36, .inr (.inl f_names))), (h_reserved, .inl (cJ, 23, .inr (.inl f_reserved))), (h_stack, .inl (cI, 45, .inl f_stack))]) (As := [.int 200]) (rest := []) hx hb hml hown hw (m_X10_taken l D cI cJ cB cP cM cZ h0 F1 x_length 200 _ n2 i_x_length (show 200 ≤ (200 : Int32).toInt ∧ (200 : Int32).toInt ≤ 940 by decide)) wV_X10_248_X10_taken dX10_sentence_9 hK hP hD hS hA [0] [1, 2, 3, 4, 5, 6] rfl rfl (by decide) (by decide) (by decide) 0 10 rfl rfl GG.fb hG.at hl.1 rfl (Nat.le_of_ble_eq_true rfl) ⟨(Nat.le_of_ble_eq_true rfl), (Nat.le_of_ble_eq_true rfl)⟩ ⟨(Nat.le_of_ble_eq_true rfl), (Nat.le_of_ble_eq_true rfl)⟩ (fun u H locs hp hP hD hS => ?_)
  have zl200 : (200 : Int32).toInt = 200 := by decide
  obtain ⟨F4, t5, t6, t7, t8, t9, rfl⟩ := hp
  have hP : va_P D vwCl [(h_tape, .inl (cB, 940, .inl f_tape)), (h_s, .inl (cI, 335, .inl f_s)), (h_read, .inl (cI, 135, .inl f_read)), (h_names, .inl (cJ, 36, .inr (.inl f_names))), (h_reserved, .inl (cJ, 23, .inr (.inl f_reserved))), (h_stack, .inl (cI, 45, .inl f_stack)), (h0, .inr (10, vL 67 F4))] H := hP
  have hD : va_D A [(h_tape, .inl (cB, 940, .inl f_tape)), (h_s, .inl (cI, 335, .inl f_s)), (h_read, .inl (cI, 135, .inl f_read)), (h_names, .inl (cJ, 36, .inr (.inl f_names))), (h_reserved, .inl (cJ, 23, .inr (.inl f_reserved))), (h_stack, .inl (cI, 45, .inl f_stack)), (h0, .inr (10, vL 67 F4))] := hD
  refine W.widen (k := 0) (n := 0) (Nat.le_of_ble_eq_true rfl) (Nat.le_of_ble_eq_true rfl) ?_
  refine lv_aload_n hx hb dX10_sentence_12 rfl (lv_at hl 0 rfl) ?_
  refine lv_iconst (v := 0) hx hb dX10_sentence_13 (by decide) ?_
  refine put_f (D := D) (ci := 10) (v := .int 0) (ty := .int) (C := RX10) (T := TX10) (N := 67) hx hb hw inAX10 tyX10 tyX10_ok nmX10 hown hK hP hD hS 6 rfl rfl 15 (by decide) (hw _ q_1276) (fun _ h9 => h9) rfl (by decide +kernel) rfl rfl dX10_sentence_14 (fun H locs F11 eF11 hP hD hS => ?_)
  have hP : va_P D vwCl [(h_tape, .inl (cB, 940, .inl f_tape)), (h_s, .inl (cI, 335, .inl f_s)), (h_read, .inl (cI, 135, .inl f_read)), (h_names, .inl (cJ, 36, .inr (.inl f_names))), (h_reserved, .inl (cJ, 23, .inr (.inl f_reserved))), (h_stack, .inl (cI, 45, .inl f_stack)), (h0, .inr (10, vL 67 F11))] H := hP
  have hD : va_D A [(h_tape, .inl (cB, 940, .inl f_tape)), (h_s, .inl (cI, 335, .inl f_s)), (h_read, .inl (cI, 135, .inl f_read)), (h_names, .inl (cJ, 36, .inr (.inl f_names))), (h_reserved, .inl (cJ, 23, .inr (.inl f_reserved))), (h_stack, .inl (cI, 45, .inl f_stack)), (h0, .inr (10, vL 67 F11))] := hD
  refine lv_aload_n hx hb dX10_sentence_17 rfl (lv_at hl 0 rfl) ?_
  refine lv_iconst (v := 0) hx hb dX10_sentence_18 (by decide) ?_
  refine put_f (D := D) (ci := 10) (v := .int 0) (ty := .int) (C := RX10) (T := TX10) (N := 67) hx hb hw inAX10 tyX10 tyX10_ok nmX10 hown hK hP hD hS 6 rfl rfl 58 (by decide) (hw _ q_1319) (fun _ h9 => h9) rfl (by decide +kernel) rfl rfl dX10_sentence_19 (fun H locs F12 eF12 hP hD hS => ?_)
  have hP : va_P D vwCl [(h_tape, .inl (cB, 940, .inl f_tape)), (h_s, .inl (cI, 335, .inl f_s)), (h_read, .inl (cI, 135, .inl f_read)), (h_names, .inl (cJ, 36, .inr (.inl f_names))), (h_reserved, .inl (cJ, 23, .inr (.inl f_reserved))), (h_stack, .inl (cI, 45, .inl f_stack)), (h0, .inr (10, vL 67 F12))] H := hP
  have hD : va_D A [(h_tape, .inl (cB, 940, .inl f_tape)), (h_s, .inl (cI, 335, .inl f_s)), (h_read, .inl (cI, 135, .inl f_read)), (h_names, .inl (cJ, 36, .inr (.inl f_names))), (h_reserved, .inl (cJ, 23, .inr (.inl f_reserved))), (h_stack, .inl (cI, 45, .inl f_stack)), (h0, .inr (10, vL 67 F12))] := hD
  refine lv_aload_n hx hb dX10_sentence_22 rfl (lv_at hl 0 rfl) ?_
  refine lv_iconst (v := 0) hx hb dX10_sentence_23 (by decide) ?_
  refine put_f (D := D) (ci := 10) (v := .int 0) (ty := .int) (C := RX10) (T := TX10) (N := 67) hx hb hw inAX10 tyX10 tyX10_ok nmX10 hown hK hP hD hS 6 rfl rfl 59 (by decide) (hw _ q_1320) (fun _ h9 => h9) rfl (by decide +kernel) rfl rfl dX10_sentence_24 (fun H locs F13 eF13 hP hD hS => ?_)
  have hP : va_P D vwCl [(h_tape, .inl (cB, 940, .inl f_tape)), (h_s, .inl (cI, 335, .inl f_s)), (h_read, .inl (cI, 135, .inl f_read)), (h_names, .inl (cJ, 36, .inr (.inl f_names))), (h_reserved, .inl (cJ, 23, .inr (.inl f_reserved))), (h_stack, .inl (cI, 45, .inl f_stack)), (h0, .inr (10, vL 67 F13))] H := hP
  have hD : va_D A [(h_tape, .inl (cB, 940, .inl f_tape)), (h_s, .inl (cI, 335, .inl f_s)), (h_read, .inl (cI, 135, .inl f_read)), (h_names, .inl (cJ, 36, .inr (.inl f_names))), (h_reserved, .inl (cJ, 23, .inr (.inl f_reserved))), (h_stack, .inl (cI, 45, .inl f_stack)), (h0, .inr (10, vL 67 F13))] := hD
  refine lv_aload_n hx hb dX10_sentence_27 rfl (lv_at hl 0 rfl) ?_
  refine lv_iconst (v := 0) hx hb dX10_sentence_28 (by decide) ?_
  refine put_f (D := D) (ci := 10) (v := .int 0) (ty := .int) (C := RX10) (T := TX10) (N := 67) hx hb hw inAX10 tyX10 tyX10_ok nmX10 hown hK hP hD hS 6 rfl rfl 60 (by decide) (hw _ q_1321) (fun _ h9 => h9) rfl (by decide +kernel) rfl rfl dX10_sentence_29 (fun H locs F14 eF14 hP hD hS => ?_)
  have hP : va_P D vwCl [(h_tape, .inl (cB, 940, .inl f_tape)), (h_s, .inl (cI, 335, .inl f_s)), (h_read, .inl (cI, 135, .inl f_read)), (h_names, .inl (cJ, 36, .inr (.inl f_names))), (h_reserved, .inl (cJ, 23, .inr (.inl f_reserved))), (h_stack, .inl (cI, 45, .inl f_stack)), (h0, .inr (10, vL 67 F14))] H := hP
  have hD : va_D A [(h_tape, .inl (cB, 940, .inl f_tape)), (h_s, .inl (cI, 335, .inl f_s)), (h_read, .inl (cI, 135, .inl f_read)), (h_names, .inl (cJ, 36, .inr (.inl f_names))), (h_reserved, .inl (cJ, 23, .inr (.inl f_reserved))), (h_stack, .inl (cI, 45, .inl f_stack)), (h0, .inr (10, vL 67 F14))] := hD
  refine lv_aload_n hx hb dX10_sentence_32 rfl (lv_at hl 0 rfl) ?_
  refine lv_iconst (v := 1) hx hb dX10_sentence_33 (by decide) ?_
  refine put_f (D := D) (ci := 10) (v := .int 1) (ty := .int) (C := RX10) (T := TX10) (N := 67) hx hb hw inAX10 tyX10 tyX10_ok nmX10 hown hK hP hD hS 6 rfl rfl 61 (by decide) (hw _ q_1322) (fun _ h9 => h9) rfl (by decide +kernel) rfl rfl dX10_sentence_34 (fun H locs F15 eF15 hP hD hS => ?_)
  have hP : va_P D vwCl [(h_tape, .inl (cB, 940, .inl f_tape)), (h_s, .inl (cI, 335, .inl f_s)), (h_read, .inl (cI, 135, .inl f_read)), (h_names, .inl (cJ, 36, .inr (.inl f_names))), (h_reserved, .inl (cJ, 23, .inr (.inl f_reserved))), (h_stack, .inl (cI, 45, .inl f_stack)), (h0, .inr (10, vL 67 F15))] H := hP
  have hD : va_D A [(h_tape, .inl (cB, 940, .inl f_tape)), (h_s, .inl (cI, 335, .inl f_s)), (h_read, .inl (cI, 135, .inl f_read)), (h_names, .inl (cJ, 36, .inr (.inl f_names))), (h_reserved, .inl (cJ, 23, .inr (.inl f_reserved))), (h_stack, .inl (cI, 45, .inl f_stack)), (h0, .inr (10, vL 67 F15))] := hD
  refine lv_aload_n hx hb dX10_sentence_37 rfl (lv_at hl 0 rfl) ?_
  refine lv_iconst (v := 0) hx hb dX10_sentence_38 (by decide) ?_
  refine put_f (D := D) (ci := 10) (v := .int 0) (ty := .boolean) (C := RX10) (T := TX10) (N := 67) hx hb hw inAX10 tyX10 tyX10_ok nmX10 hown hK hP hD hS 6 rfl rfl 62 (by decide) (hw _ q_1323) (fun _ h9 => h9) rfl (by decide +kernel) rfl rfl dX10_sentence_39 (fun H locs F16 eF16 hP hD hS => ?_)
  have hP : va_P D vwCl [(h_tape, .inl (cB, 940, .inl f_tape)), (h_s, .inl (cI, 335, .inl f_s)), (h_read, .inl (cI, 135, .inl f_read)), (h_names, .inl (cJ, 36, .inr (.inl f_names))), (h_reserved, .inl (cJ, 23, .inr (.inl f_reserved))), (h_stack, .inl (cI, 45, .inl f_stack)), (h0, .inr (10, vL 67 F16))] H := hP
  have hD : va_D A [(h_tape, .inl (cB, 940, .inl f_tape)), (h_s, .inl (cI, 335, .inl f_s)), (h_read, .inl (cI, 135, .inl f_read)), (h_names, .inl (cJ, 36, .inr (.inl f_names))), (h_reserved, .inl (cJ, 23, .inr (.inl f_reserved))), (h_stack, .inl (cI, 45, .inl f_stack)), (h0, .inr (10, vL 67 F16))] := hD
  refine lv_aload_n hx hb dX10_sentence_42 rfl (lv_at hl 0 rfl) ?_
  have n17 : F1 1 = .ref h_tape := (get_ne eF1 (by decide) e_tape)
  have n18 : F4 1 = .ref h_tape := (SAME.at t5 (by decide) n17)
  have n19 : F11 1 = .ref h_tape := (get_ne eF11 (by decide) n18)
  have n20 : F12 1 = .ref h_tape := (get_ne eF12 (by decide) n19)
  have n21 : F13 1 = .ref h_tape := (get_ne eF13 (by decide) n20)
  have n22 : F14 1 = .ref h_tape := (get_ne eF14 (by decide) n21)
  have n23 : F15 1 = .ref h_tape := (get_ne eF15 (by decide) n22)
  have n24 : F16 1 = .ref h_tape := (get_ne eF16 (by decide) n23)
  have n25 : F11 3 = .int x_length := (get_ne eF11 (by decide) t7)
  have n26 : F12 3 = .int x_length := (get_ne eF12 (by decide) n25)
  have n27 : F13 3 = .int x_length := (get_ne eF13 (by decide) n26)
  have n28 : F14 3 = .int x_length := (get_ne eF14 (by decide) n27)
  have n29 : F15 3 = .int x_length := (get_ne eF15 (by decide) n28)
  have n30 : F16 3 = .int x_length := (get_ne eF16 (by decide) n29)
  have n31 : F11 4 = .int 0 := (get_ne eF11 (by decide) t8)
  have n32 : F12 4 = .int 0 := (get_ne eF12 (by decide) n31)
  have n33 : F13 4 = .int 0 := (get_ne eF13 (by decide) n32)
  have n34 : F14 4 = .int 0 := (get_ne eF14 (by decide) n33)
  have n35 : F15 4 = .int 0 := (get_ne eF15 (by decide) n34)
  have n36 : F16 4 = .int 0 := (get_ne eF16 (by decide) n35)
  have n37 : F11 5 = .int 200 := (get_ne eF11 (by decide) t9)
  have n38 : F12 5 = .int 200 := (get_ne eF12 (by decide) n37)
  have n39 : F13 5 = .int 200 := (get_ne eF13 (by decide) n38)
  have n40 : F14 5 = .int 200 := (get_ne eF14 (by decide) n39)
  have n41 : F15 5 = .int 200 := (get_ne eF15 (by decide) n40)
  have n42 : F16 5 = .int 200 := (get_ne eF16 (by decide) n41)
  have n43 : F1 11 = .int x_token := (get_ne eF1 (by decide) e_token)
  have n44 : F4 11 = .int x_token := (SAME.at t5 (by decide) n43)
  have n45 : F11 11 = .int x_token := (get_ne eF11 (by decide) n44)
  have n46 : F12 11 = .int x_token := (get_ne eF12 (by decide) n45)
  have n47 : F13 11 = .int x_token := (get_ne eF13 (by decide) n46)
  have n48 : F14 11 = .int x_token := (get_ne eF14 (by decide) n47)
  have n49 : F15 11 = .int x_token := (get_ne eF15 (by decide) n48)
  have n50 : F16 11 = .int x_token := (get_ne eF16 (by decide) n49)
  have n51 : F1 12 = .int x_at := (get_ne eF1 (by decide) e_at)
  have n52 : F4 12 = .int x_at := (SAME.at t5 (by decide) n51)
  have n53 : F11 12 = .int x_at := (get_ne eF11 (by decide) n52)
  have n54 : F12 12 = .int x_at := (get_ne eF12 (by decide) n53)
  have n55 : F13 12 = .int x_at := (get_ne eF13 (by decide) n54)
  have n56 : F14 12 = .int x_at := (get_ne eF14 (by decide) n55)
  have n57 : F15 12 = .int x_at := (get_ne eF15 (by decide) n56)
  have n58 : F16 12 = .int x_at := (get_ne eF16 (by decide) n57)
  have n59 : F1 14 = .int x_number := (get_ne eF1 (by decide) e_number)
  have n60 : F4 14 = .int x_number := (SAME.at t5 (by decide) n59)
  have n61 : F11 14 = .int x_number := (get_ne eF11 (by decide) n60)
  have n62 : F12 14 = .int x_number := (get_ne eF12 (by decide) n61)
  have n63 : F13 14 = .int x_number := (get_ne eF13 (by decide) n62)
  have n64 : F14 14 = .int x_number := (get_ne eF14 (by decide) n63)
  have n65 : F15 14 = .int x_number := (get_ne eF15 (by decide) n64)
  have n66 : F16 14 = .int x_number := (get_ne eF16 (by decide) n65)
  have n67 : F1 18 = .long x_word := (get_ne eF1 (by decide) e_word)
  have n68 : F4 18 = .long x_word := (SAME.at t5 (by decide) n67)
  have n69 : F11 18 = .long x_word := (get_ne eF11 (by decide) n68)
  have n70 : F12 18 = .long x_word := (get_ne eF12 (by decide) n69)
  have n71 : F13 18 = .long x_word := (get_ne eF13 (by decide) n70)
  have n72 : F14 18 = .long x_word := (get_ne eF14 (by decide) n71)
  have n73 : F15 18 = .long x_word := (get_ne eF15 (by decide) n72)
  have n74 : F16 18 = .long x_word := (get_ne eF16 (by decide) n73)
  refine call_Vv (wr := [(h_s, .inl (cI, 335, .inl f_s)), (h_read, .inl (cI, 135, .inl f_read)), (h_names, .inl (cJ, 36, .inr (.inl f_names))), (h_reserved, .inl (cJ, 23, .inr (.inl f_reserved))), (h_stack, .inl (cI, 45, .inl f_stack))]) (As := []) (rest := []) hx hb hml hown hw (m_X10_next l D cI cJ cB cP cM cZ h0 h_tape F16 x_length 0 200 x_token x_at x_number x_word f_tape _ n24 n30 i_x_length n36 (show 0 ≤ (0 : Int32).toInt ∧ (0 : Int32).toInt ≤ 940 by decide) n42 (show 200 ≤ (200 : Int32).toInt ∧ (200 : Int32).toInt ≤ 940 by decide) n50 i_x_token n58 n66 n74 (by omega)) wV_X10_208_X10_next dX10_sentence_43 hK hP hD hS hA [6, 0] [1, 2, 3, 4, 5] rfl rfl (by decide) (by decide) (by decide) 0 10 rfl rfl GG.fb hG.at hl.1 rfl (Nat.le_of_ble_eq_true rfl) ⟨(Nat.le_of_ble_eq_true rfl), (Nat.le_of_ble_eq_true rfl)⟩ ⟨(Nat.le_of_ble_eq_true rfl), (Nat.le_of_ble_eq_true rfl)⟩ (fun u H locs hp hP hD hS => ?_)
  have zl0 : (0 : Int32).toInt = 0 := by decide
  obtain ⟨F76, y77, y78, y79, y80, y81, y82, t83, t84, t85, t86, t87, t88, t89, t90, t91, t92, t93, t94, t95, t96, t97, t98, rfl⟩ := hp
  have hP : va_P D vwCl [(h_s, .inl (cI, 335, .inl f_s)), (h_read, .inl (cI, 135, .inl f_read)), (h_names, .inl (cJ, 36, .inr (.inl f_names))), (h_reserved, .inl (cJ, 23, .inr (.inl f_reserved))), (h_stack, .inl (cI, 45, .inl f_stack)), (h0, .inr (10, vL 67 F76)), (h_tape, .inl (cB, 940, .inl f_tape))] H := hP
  have hD : va_D A [(h_s, .inl (cI, 335, .inl f_s)), (h_read, .inl (cI, 135, .inl f_read)), (h_names, .inl (cJ, 36, .inr (.inl f_names))), (h_reserved, .inl (cJ, 23, .inr (.inl f_reserved))), (h_stack, .inl (cI, 45, .inl f_stack)), (h0, .inr (10, vL 67 F76)), (h_tape, .inl (cB, 940, .inl f_tape))] := hD
  refine W.widen (k := 0) (n := 0) (Nat.le_of_ble_eq_true rfl) (Nat.le_of_ble_eq_true rfl) ?_
  refine lv_iconst (v := 1) hx hb dX10_sentence_46 (by decide) ?_
  refine lv_istore_n (lv' := [(1, .int 1), (0, .ref h0)]) hx hb dX10_sentence_47 rfl hl (by decide) rfl (fun ls hl => ?_)
  have n117 : F12 15 = .int 0 := (get_ne eF12 (by decide) (get_eq eF11))
  have n118 : F13 15 = .int 0 := (get_ne eF13 (by decide) n117)
  have n119 : F14 15 = .int 0 := (get_ne eF14 (by decide) n118)
  have n120 : F15 15 = .int 0 := (get_ne eF15 (by decide) n119)
  have n121 : F16 15 = .int 0 := (get_ne eF16 (by decide) n120)
  have n122 : F76 15 = .int 0 := (SAME.at t83 (by decide) n121)
  have n123 : F1 16 = .int x_faultAt := (get_ne eF1 (by decide) e_faultAt)
  have n124 : F4 16 = .int x_faultAt := (SAME.at t5 (by decide) n123)
  have n125 : F11 16 = .int x_faultAt := (get_ne eF11 (by decide) n124)
  have n126 : F12 16 = .int x_faultAt := (get_ne eF12 (by decide) n125)
  have n127 : F13 16 = .int x_faultAt := (get_ne eF13 (by decide) n126)
  have n128 : F14 16 = .int x_faultAt := (get_ne eF14 (by decide) n127)
  have n129 : F15 16 = .int x_faultAt := (get_ne eF15 (by decide) n128)
  have n130 : F16 16 = .int x_faultAt := (get_ne eF16 (by decide) n129)
  have n131 : F76 16 = .int x_faultAt := (SAME.at t83 (by decide) n130)
  have n132 : F13 58 = .int 0 := (get_ne eF13 (by decide) (get_eq eF12))
  have n133 : F14 58 = .int 0 := (get_ne eF14 (by decide) n132)
  have n134 : F15 58 = .int 0 := (get_ne eF15 (by decide) n133)
  have n135 : F16 58 = .int 0 := (get_ne eF16 (by decide) n134)
  have n136 : F76 58 = .int 0 := (SAME.at t83 (by decide) n135)
  have n137 : F14 59 = .int 0 := (get_ne eF14 (by decide) (get_eq eF13))
  have n138 : F15 59 = .int 0 := (get_ne eF15 (by decide) n137)
  have n139 : F16 59 = .int 0 := (get_ne eF16 (by decide) n138)
  have n140 : F76 59 = .int 0 := (SAME.at t83 (by decide) n139)
  have n141 : F15 60 = .int 0 := (get_ne eF15 (by decide) (get_eq eF14))
  have n142 : F16 60 = .int 0 := (get_ne eF16 (by decide) n141)
  have n143 : F76 60 = .int 0 := (SAME.at t83 (by decide) n142)
  have n144 : F16 61 = .int 1 := (get_ne eF16 (by decide) (get_eq eF15))
  have n145 : F76 61 = .int 1 := (SAME.at t83 (by decide) n144)
  have n146 : F76 62 = .int 0 := (SAME.at t83 (by decide) (get_eq eF16))
  refine mloop (α := (Int32) × (Nat → Int32) × (Nat → Int32) × (Nat → Value) × (Int32) × (Int32) × (Int32) × (Int32) × (Int32) × (Int32) × (Int32) × (Int64) × (Int32) × (Int32) × (Int32) × (Int32) × (Int32)) (nL := 3) (D := D) (A := A) (H0 := s.heap) (fun a => (3 * (940 - a.2.2.2.2.1.toInt) + min a.2.2.2.2.2.1.toInt (4 - a.2.2.2.2.2.1.toInt) + a.1.toInt).toNat) (fun a => IR 0 1 a.1 ∧ SAME [4, 11, 12, 13, 14, 15, 16, 18, 58, 59, 60, 61, 62] F76 a.2.2.2.1 ∧ a.2.2.2.1 4 = .int a.2.2.2.2.1 ∧ a.2.2.2.1 11 = .int a.2.2.2.2.2.1 ∧ a.2.2.2.1 12 = .int a.2.2.2.2.2.2.1 ∧ a.2.2.2.1 13 = .int a.2.2.2.2.2.2.2.1 ∧ a.2.2.2.1 14 = .int a.2.2.2.2.2.2.2.2.1 ∧ a.2.2.2.1 15 = .int a.2.2.2.2.2.2.2.2.2.1 ∧ a.2.2.2.1 16 = .int a.2.2.2.2.2.2.2.2.2.2.1 ∧ a.2.2.2.1 18 = .long a.2.2.2.2.2.2.2.2.2.2.2.1 ∧ a.2.2.2.1 58 = .int a.2.2.2.2.2.2.2.2.2.2.2.2.1 ∧ a.2.2.2.1 59 = .int a.2.2.2.2.2.2.2.2.2.2.2.2.2.1 ∧ a.2.2.2.1 60 = .int a.2.2.2.2.2.2.2.2.2.2.2.2.2.2.1 ∧ a.2.2.2.1 61 = .int a.2.2.2.2.2.2.2.2.2.2.2.2.2.2.2.1 ∧ a.2.2.2.1 62 = .int a.2.2.2.2.2.2.2.2.2.2.2.2.2.2.2.2 ∧ IR 0 940 a.2.2.2.2.1 ∧ IR 0 4 a.2.2.2.2.2.1 ∧ IR 0 45 a.2.2.2.2.2.2.2.2.2.2.2.2.1 ∧ IR 0 20 a.2.2.2.2.2.2.2.2.2.2.2.2.2.1 ∧ IR 0 45 a.2.2.2.2.2.2.2.2.2.2.2.2.2.2.1 ∧ IR 0 1 a.2.2.2.2.2.2.2.2.2.2.2.2.2.2.2.2 ∧ (SMI a.2.1 a.2.2.1 a.2.2.2.2.2.2.2.2.2.2.2.2.1.toInt a.2.2.2.2.2.2.2.2.2.2.2.2.2.2.1.toInt a.2.2.2.2.2.2.2.2.2.2.2.2.2.2.2.2.toInt) ∧ ((a.1.toInt = 0 → a.2.2.2.2.2.2.2.2.2.2.2.2.2.2.1.toInt = 0 ∧ a.2.2.2.2.2.2.2.2.2.2.2.2.2.2.2.2.toInt = 1)) ∧ ((VWF a.2.2.2.2.2.1.toInt a.2.2.2.2.2.2.2.2.2.2.2.1.toInt)) ∧ ((a.2.2.2.2.2.1.toInt = 2 → 0 ≤ a.2.2.2.2.2.2.2.2.1.toInt ∧ a.2.2.2.2.2.2.2.2.1.toInt ≤ 999)) ∧ (a.2.2.2.2.2.2.2.2.2.2.2.2.2.2.1.toInt + a.2.2.2.2.2.2.2.2.2.2.2.2.1.toInt + a.2.2.2.2.2.2.2.2.2.2.2.2.2.2.2.2.toInt ≤ 2 * a.2.2.2.2.2.2.2.2.2.2.2.2.2.1.toInt)) (fun a => [(h_s, .inl (cI, 335, .inl f_s)), (h_read, .inl (cI, 135, .inl a.2.1)), (h_names, .inl (cJ, 36, .inr (.inl f_names))), (h_reserved, .inl (cJ, 23, .inr (.inl f_reserved))), (h_stack, .inl (cI, 45, .inl a.2.2.1)), (h0, .inr (10, vL 67 a.2.2.2.1)), (h_tape, .inl (cB, 940, .inl f_tape))]) (fun a => [(1, .int a.1), (0, .ref h0)]) (fun H locs ls => W p l e ({ frames := 3, cells := 0, slots := 0, locals := 67 } : Room) s m [.ref h0].toArray below meth c H locs 0 0 (MQ below (va_Qi (fun (r : Int32) (u : va_W) => ∃ (Gh : Nat → Value) (y_p : Int32) (y_token : Int32) (y_at : Int32) (y_span : Int32) (y_number : Int32) (y_fault : Int32) (y_faultAt : Int32) (y_word : Int64) (y_codes : Int32) (y_ones : Int32) (y_top : Int32) (y_deep : Int32) (y_isWhole : Int32) (g_s : Nat → Int32) (g_read : Nat → Int32) (g_stack : Nat → Int32), SAME [0, 2, 3, 4, 5, 11, 12, 13, 14, 15, 16, 18, 58, 59, 60, 61, 62] Fh Gh ∧ Gh 0 = .int 0 ∧ Gh 2 = .int 0 ∧ Gh 3 = .int x_length ∧ Gh 4 = .int y_p ∧ IR 0 940 y_p ∧ Gh 5 = .int 200 ∧ Gh 11 = .int y_token ∧ IR 0 4 y_token ∧ Gh 12 = .int y_at ∧ Gh 13 = .int y_span ∧ Gh 14 = .int y_number ∧ Gh 15 = .int y_fault ∧ Gh 16 = .int y_faultAt ∧ Gh 18 = .long y_word ∧ Gh 58 = .int y_codes ∧ IR 0 45 y_codes ∧ Gh 59 = .int y_ones ∧ IR 0 20 y_ones ∧ Gh 60 = .int y_top ∧ IR 0 45 y_top ∧ Gh 61 = .int y_deep ∧ Gh 62 = .int y_isWhole ∧ IR 0 1 y_isWhole ∧ SG 153 153 0 44 g_s ∧ SG 0 0 0 40 g_s ∧ SG 5 5 0 12 g_s ∧ SG 6 6 0 12 g_s ∧ SG 7 7 0 6 g_s ∧ SG 44 55 0 9 g_s ∧ KW 0 g_s ∧ SG 105 108 0 11 g_s ∧ SG 114 114 0 5 g_s ∧ SG 130 133 0 11 g_s ∧ SG 139 139 0 5 g_s ∧ ((y_token.toInt = 2 → 0 ≤ y_number.toInt ∧ y_number.toInt ≤ 999)) ∧ (y_top.toInt + y_codes.toInt + y_isWhole.toInt ≤ 2 * y_ones.toInt) ∧ u = [(h0, .inr (10, vL 67 Gh)), (h_tape, .inl (cB, 940, .inl f_tape)), (h_s, .inl (cI, 335, .inl g_s)), (h_read, .inl (cI, 135, .inl g_read)), (h_names, .inl (cJ, 36, .inr (.inl f_names))), (h_reserved, .inl (cJ, 23, .inr (.inl f_reserved))), (h_stack, .inl (cI, 45, .inl g_stack))]) (PO D A) A) [.ref h0].toArray s 0 0 A) (F0 m 48 ls [])) ?_ (1, f_read, f_stack, F76, y77, y78, y79, y80, y81, 0, x_faultAt, y82, 0, 0, 0, 1, 0) ⟨(show 0 ≤ (1 : Int32).toInt ∧ (1 : Int32).toInt ≤ 1 by decide), SAME.rf, t84, t86, t88, t90, t92, n122, n131, t93, n136, n140, n143, n145, n146, t85, t87, (show 0 ≤ (0 : Int32).toInt ∧ (0 : Int32).toInt ≤ 45 by decide), (show 0 ≤ (0 : Int32).toInt ∧ (0 : Int32).toInt ≤ 20 by decide), (show 0 ≤ (0 : Int32).toInt ∧ (0 : Int32).toInt ≤ 45 by decide), (show 0 ≤ (0 : Int32).toInt ∧ (0 : Int32).toInt ≤ 1 by decide), (show SMI f_read f_stack 0 0 0 from SMI.zero), (by show (1 = 0 → 0 = 0 ∧ 0 = 1); omega), (show (VWF y78.toInt y82.toInt) from t97), (by show (y78.toInt = 2 → 0 ≤ y81.toInt ∧ y81.toInt ≤ 999); omega), (by show 0 + 0 + 0 ≤ 2 * 0; omega)⟩ _ _ _ hP hD hS hl
  rintro ⟨u100, w101, w102, G103, u104, u105, u106, u107, u108, u109, u110, u111, u112, u113, u114, u115, u116⟩ ⟨i147, i148, i149, i150, i151, i152, i153, i154, i155, i156, i157, i158, i159, i160, i161, i162, i163, i164, i165, i166, i167, i168, i169, i170, i171, i172⟩ ih H locs ls hP hD hS hl
  have i147 : 0 ≤ u100.toInt ∧ u100.toInt ≤ 1 := i147
  have i162 : 0 ≤ u104.toInt ∧ u104.toInt ≤ 940 := i162
  have i163 : 0 ≤ u105.toInt ∧ u105.toInt ≤ 4 := i163
  have i164 : 0 ≤ u112.toInt ∧ u112.toInt ≤ 45 := i164
  have i165 : 0 ≤ u113.toInt ∧ u113.toInt ≤ 20 := i165
  have i166 : 0 ≤ u114.toInt ∧ u114.toInt ≤ 45 := i166
  have i167 : 0 ≤ u116.toInt ∧ u116.toInt ≤ 1 := i167
  have i168 : SMI w101 w102 u112.toInt u114.toInt u116.toInt := i168
  have i169 : (u100.toInt = 0 → u114.toInt = 0 ∧ u116.toInt = 1) := i169
  have i170 : (VWF u105.toInt u111.toInt) := i170
  have i171 : (u105.toInt = 2 → 0 ≤ u108.toInt ∧ u108.toInt ≤ 999) := i171
  have i172 : u114.toInt + u112.toInt + u116.toInt ≤ 2 * u113.toInt := i172
  have hP : va_P D vwCl [(h_s, .inl (cI, 335, .inl f_s)), (h_read, .inl (cI, 135, .inl w101)), (h_names, .inl (cJ, 36, .inr (.inl f_names))), (h_reserved, .inl (cJ, 23, .inr (.inl f_reserved))), (h_stack, .inl (cI, 45, .inl w102)), (h0, .inr (10, vL 67 G103)), (h_tape, .inl (cB, 940, .inl f_tape))] H := hP
  have hD : va_D A [(h_s, .inl (cI, 335, .inl f_s)), (h_read, .inl (cI, 135, .inl w101)), (h_names, .inl (cJ, 36, .inr (.inl f_names))), (h_reserved, .inl (cJ, 23, .inr (.inl f_reserved))), (h_stack, .inl (cI, 45, .inl w102)), (h0, .inr (10, vL 67 G103)), (h_tape, .inl (cB, 940, .inl f_tape))] := hD
  have hl : lv_has ls 3 [(1, .int u100), (0, .ref h0)] := hl
  refine lv_iload_n hx hb dX10_sentence_48 rfl (lv_at hl 0 rfl) ?_
  refine lv_if_eq (tgt := 132) hx hb dX10_sentence_49 (by decide) (fun c173 => ?_) (fun c173 => ?_)
  · have dc173 : u100.toInt = 0 := eq_i (a := u100.toInt) (b := 0) rfl rfl c173
    have k174 : 0 ≤ u100.toInt ∧ u100.toInt ≤ 0 := ⟨i147.1, Int.le_trans (Int.le_of_eq dc173) (Int.le_refl _)⟩
    refine lv_aload_n hx hb dX10_sentence_132 rfl (lv_at hl 1 rfl) ?_
    have n175 : F1 6 = .ref h_s := (get_ne eF1 (by decide) e_s)
    have n176 : F4 6 = .ref h_s := (SAME.at t5 (by decide) n175)
    have n177 : F11 6 = .ref h_s := (get_ne eF11 (by decide) n176)
    have n178 : F12 6 = .ref h_s := (get_ne eF12 (by decide) n177)
    have n179 : F13 6 = .ref h_s := (get_ne eF13 (by decide) n178)
    have n180 : F14 6 = .ref h_s := (get_ne eF14 (by decide) n179)
    have n181 : F15 6 = .ref h_s := (get_ne eF15 (by decide) n180)
    have n182 : F16 6 = .ref h_s := (get_ne eF16 (by decide) n181)
    have n183 : F76 6 = .ref h_s := (SAME.at t83 (by decide) n182)
    have n184 : G103 6 = .ref h_s := (SAME.at i148 (by decide) n183)
    refine get_f (D := D) (ci := 10) (v := .ref h_s) (C := RX10) (T := TX10) (N := 67) hx hb hw inAX10 hown hK hP 5 rfl rfl 6 (by decide) (hw _ q_1267) (fun _ h9 => h9) n184 dX10_sentence_133 ?_
    refine lv_sipush (v := 153) hx hb dX10_sentence_136 (by decide) ?_
    refine lv_aload_n hx hb dX10_sentence_139 rfl (lv_at hl 1 rfl) ?_
    refine get_f (D := D) (ci := 10) (v := .int u112) (C := RX10) (T := TX10) (N := 67) hx hb hw inAX10 hown hK hP 5 rfl rfl 58 (by decide) (hw _ q_1319) (fun _ h9 => h9) i157 dX10_sentence_140 ?_
    obtain ⟨g185, eg185⟩ : ∃ z : Nat → Int32, upd f_s 153 u112 = z := ⟨_, rfl⟩
    have r187 : SG 0 0 0 40 g185 := by rw [← eg185]; exact s_s_0.upN (Or.inr (Or.inl (by decide)))
    have r188 : SG 105 108 0 11 g185 := by rw [← eg185]; exact s_s_105.upN (Or.inr (Or.inl (by decide)))
    have r189 : SG 114 114 0 5 g185 := by rw [← eg185]; exact s_s_114.upN (Or.inr (Or.inl (by decide)))
    have r190 : SG 130 133 0 11 g185 := by rw [← eg185]; exact s_s_130.upN (Or.inr (Or.inl (by decide)))
    have r191 : SG 139 139 0 5 g185 := by rw [← eg185]; exact s_s_139.upN (Or.inr (Or.inl (by decide)))
    have r192 : SG 153 153 0 44 g185 := by rw [← eg185]; exact s_s_153.upN (by omega)
    have r193 : SG 44 55 0 9 g185 := by rw [← eg185]; exact s_s_44.upN (Or.inr (Or.inl (by decide)))
    have r194 : SG 5 5 0 12 g185 := by rw [← eg185]; exact s_s_5.upN (Or.inr (Or.inl (by decide)))
    have r195 : SG 6 6 0 12 g185 := by rw [← eg185]; exact s_s_6.upN (Or.inr (Or.inl (by decide)))
    have r196 : SG 7 7 0 6 g185 := by rw [← eg185]; exact s_s_7.upN (Or.inr (Or.inl (by decide)))
    refine iast_n hx hb hK hP hD hS 0 0 rfl rfl 153 rfl (Nat.le_of_ble_eq_true rfl) (Nat.le_of_ble_eq_true rfl) eg185 dX10_sentence_143 (fun H locs hP hD hS => ?_)
    have hP : va_P D vwCl [(h_s, .inl (cI, 335, .inl g185)), (h_read, .inl (cI, 135, .inl w101)), (h_names, .inl (cJ, 36, .inr (.inl f_names))), (h_reserved, .inl (cJ, 23, .inr (.inl f_reserved))), (h_stack, .inl (cI, 45, .inl w102)), (h0, .inr (10, vL 67 G103)), (h_tape, .inl (cB, 940, .inl f_tape))] H := hP
    have hD : va_D A [(h_s, .inl (cI, 335, .inl g185)), (h_read, .inl (cI, 135, .inl w101)), (h_names, .inl (cJ, 36, .inr (.inl f_names))), (h_reserved, .inl (cJ, 23, .inr (.inl f_reserved))), (h_stack, .inl (cI, 45, .inl w102)), (h0, .inr (10, vL 67 G103)), (h_tape, .inl (cB, 940, .inl f_tape))] := hD
    refine lv_iconst (v := 0) hx hb dX10_sentence_144 (by decide) ?_
    refine lv_istore_n (lv' := [(2, .int 0), (1, .int u100), (0, .ref h0)]) hx hb dX10_sentence_145 rfl hl (by decide) rfl (fun ls hl => ?_)
    refine mloop (α := (Int32) × (Nat → Int32)) (nL := 3) (D := D) (A := A) (H0 := s.heap) (fun a => (135 - a.1.toInt).toNat) (fun a => IR 0 135 a.1 ∧ SG 0 0 0 40 a.2 ∧ SG 105 108 0 11 a.2 ∧ SG 114 114 0 5 a.2 ∧ SG 130 133 0 11 a.2 ∧ SG 139 139 0 5 a.2 ∧ SG 153 153 0 44 a.2 ∧ SG 44 55 0 9 a.2 ∧ SG 5 5 0 12 a.2 ∧ SG 6 6 0 12 a.2 ∧ SG 7 7 0 6 a.2 ∧ ((a.2 153).toInt = u112.toInt) ∧ (CPY a.2 154 w101 0 (a.1.toInt))) (fun a => [(h_s, .inl (cI, 335, .inl a.2)), (h_read, .inl (cI, 135, .inl w101)), (h_names, .inl (cJ, 36, .inr (.inl f_names))), (h_reserved, .inl (cJ, 23, .inr (.inl f_reserved))), (h_stack, .inl (cI, 45, .inl w102)), (h0, .inr (10, vL 67 G103)), (h_tape, .inl (cB, 940, .inl f_tape))]) (fun a => [(2, .int a.1), (1, .int u100), (0, .ref h0)]) (fun H locs ls => W p l e ({ frames := 3, cells := 0, slots := 0, locals := 67 } : Room) s m [.ref h0].toArray below meth c H locs 0 0 (MQ below (va_Qi (fun (r : Int32) (u : va_W) => ∃ (Gh : Nat → Value) (y_p : Int32) (y_token : Int32) (y_at : Int32) (y_span : Int32) (y_number : Int32) (y_fault : Int32) (y_faultAt : Int32) (y_word : Int64) (y_codes : Int32) (y_ones : Int32) (y_top : Int32) (y_deep : Int32) (y_isWhole : Int32) (g_s : Nat → Int32) (g_read : Nat → Int32) (g_stack : Nat → Int32), SAME [0, 2, 3, 4, 5, 11, 12, 13, 14, 15, 16, 18, 58, 59, 60, 61, 62] Fh Gh ∧ Gh 0 = .int 0 ∧ Gh 2 = .int 0 ∧ Gh 3 = .int x_length ∧ Gh 4 = .int y_p ∧ IR 0 940 y_p ∧ Gh 5 = .int 200 ∧ Gh 11 = .int y_token ∧ IR 0 4 y_token ∧ Gh 12 = .int y_at ∧ Gh 13 = .int y_span ∧ Gh 14 = .int y_number ∧ Gh 15 = .int y_fault ∧ Gh 16 = .int y_faultAt ∧ Gh 18 = .long y_word ∧ Gh 58 = .int y_codes ∧ IR 0 45 y_codes ∧ Gh 59 = .int y_ones ∧ IR 0 20 y_ones ∧ Gh 60 = .int y_top ∧ IR 0 45 y_top ∧ Gh 61 = .int y_deep ∧ Gh 62 = .int y_isWhole ∧ IR 0 1 y_isWhole ∧ SG 153 153 0 44 g_s ∧ SG 0 0 0 40 g_s ∧ SG 5 5 0 12 g_s ∧ SG 6 6 0 12 g_s ∧ SG 7 7 0 6 g_s ∧ SG 44 55 0 9 g_s ∧ KW 0 g_s ∧ SG 105 108 0 11 g_s ∧ SG 114 114 0 5 g_s ∧ SG 130 133 0 11 g_s ∧ SG 139 139 0 5 g_s ∧ ((y_token.toInt = 2 → 0 ≤ y_number.toInt ∧ y_number.toInt ≤ 999)) ∧ (y_top.toInt + y_codes.toInt + y_isWhole.toInt ≤ 2 * y_ones.toInt) ∧ u = [(h0, .inr (10, vL 67 Gh)), (h_tape, .inl (cB, 940, .inl f_tape)), (h_s, .inl (cI, 335, .inl g_s)), (h_read, .inl (cI, 135, .inl g_read)), (h_names, .inl (cJ, 36, .inr (.inl f_names))), (h_reserved, .inl (cJ, 23, .inr (.inl f_reserved))), (h_stack, .inl (cI, 45, .inl g_stack))]) (PO D A) A) [.ref h0].toArray s 0 0 A) (F0 m 146 ls [])) ?_ (0, g185) ⟨(show 0 ≤ (0 : Int32).toInt ∧ (0 : Int32).toInt ≤ 135 by decide), r187, r188, r189, r190, r191, r192, r193, r194, r195, r196, (show (g185 153).toInt = u112.toInt from (by rw [← eg185, pk_us])), (show CPY g185 154 w101 0 (0) from (CPY.zero (by decide)))⟩ _ _ _ hP hD hS hl
    rintro ⟨u197, w198⟩ ⟨i199, i200, i201, i202, i203, i204, i205, i206, i207, i208, i209, i210, i211⟩ ih_146 H locs ls hP hD hS hl
    have i199 : 0 ≤ u197.toInt ∧ u197.toInt ≤ 135 := i199
    have i210 : (w198 153).toInt = u112.toInt := i210
    have i211 : CPY w198 154 w101 0 (u197.toInt) := i211
    have hP : va_P D vwCl [(h_s, .inl (cI, 335, .inl w198)), (h_read, .inl (cI, 135, .inl w101)), (h_names, .inl (cJ, 36, .inr (.inl f_names))), (h_reserved, .inl (cJ, 23, .inr (.inl f_reserved))), (h_stack, .inl (cI, 45, .inl w102)), (h0, .inr (10, vL 67 G103)), (h_tape, .inl (cB, 940, .inl f_tape))] H := hP
    have hD : va_D A [(h_s, .inl (cI, 335, .inl w198)), (h_read, .inl (cI, 135, .inl w101)), (h_names, .inl (cJ, 36, .inr (.inl f_names))), (h_reserved, .inl (cJ, 23, .inr (.inl f_reserved))), (h_stack, .inl (cI, 45, .inl w102)), (h0, .inr (10, vL 67 G103)), (h_tape, .inl (cB, 940, .inl f_tape))] := hD
    have hl : lv_has ls 3 [(2, .int u197), (1, .int u100), (0, .ref h0)] := hl
    refine lv_iload_n hx hb dX10_sentence_146 rfl (lv_at hl 0 rfl) ?_
    refine lv_iconst (v := 3) hx hb dX10_sentence_147 (by decide) ?_
    refine lv_aload_n hx hb dX10_sentence_148 rfl (lv_at hl 2 rfl) ?_
    refine get_f (D := D) (ci := 10) (v := .int u112) (C := RX10) (T := TX10) (N := 67) hx hb hw inAX10 hown hK hP 5 rfl rfl 58 (by decide) (hw _ q_1319) (fun _ h9 => h9) i157 dX10_sentence_149 ?_
    refine lv_imul hx hb dX10_sentence_152 ?_
    refine lv_topi (fun v212 ev212 => ?_)
    have bv212 : v212.toInt = 3 * u112.toInt := by rw [ev212]; exact kmul_k rfl rfl (by decide) i164 (by decide)
    have k213 : 0 ≤ v212.toInt ∧ v212.toInt ≤ 135 := kmul_r bv212 (by decide) i164 (by decide)
    refine lv_icmp_ge (tgt := 178) hx hb dX10_sentence_153 (by decide) (fun c214 => ?_) (fun c214 => ?_)
    · have dc214 : v212.toInt ≤ u197.toInt := le_i (a := v212.toInt) (b := u197.toInt) rfl rfl c214
      have r215 : KW 0 w198 := KW.sent (c := u112.toInt) ⟨by omega, by omega⟩ i168.2.2.1 i210 (CPY.mn i211 (by omega))
      refine lv_aload_n hx hb dX10_sentence_178 rfl (lv_at hl 2 rfl) ?_
      refine get_f (D := D) (ci := 10) (v := .int u113) (C := RX10) (T := TX10) (N := 67) hx hb hw inAX10 hown hK hP 5 rfl rfl 59 (by decide) (hw _ q_1320) (fun _ h9 => h9) i158 dX10_sentence_179 ?_
      exact ret_i (v := u113) hx hb hr hlocks hS (hP.sub (ws' := [(h0, .inr (10, vL 67 G103)), (h_tape, .inl (cB, 940, .inl f_tape)), (h_s, .inl (cI, 335, .inl w198)), (h_read, .inl (cI, 135, .inl w101)), (h_names, .inl (cJ, 36, .inr (.inl f_names))), (h_reserved, .inl (cJ, 23, .inr (.inl f_reserved))), (h_stack, .inl (cI, 45, .inl w102))]) [5, 6, 0, 1, 2, 3, 4] rfl) (hD.sub (ws' := [(h0, .inr (10, vL 67 G103)), (h_tape, .inl (cB, 940, .inl f_tape)), (h_s, .inl (cI, 335, .inl w198)), (h_read, .inl (cI, 135, .inl w101)), (h_names, .inl (cJ, 36, .inr (.inl f_names))), (h_reserved, .inl (cJ, 23, .inr (.inl f_reserved))), (h_stack, .inl (cI, 45, .inl w102))]) [5, 6, 0, 1, 2, 3, 4] (by decide) rfl) dX10_sentence_182 rfl (Nat.le_of_ble_eq_true rfl) (Nat.le_of_ble_eq_true rfl) ⟨G103, u104, u105, u106, u107, u108, u109, u110, u111, u112, u113, u114, u115, u116, w198, w101, w102, (SAME.tr (SAME.tr (SAME.up eF16 (SAME.up eF15 (SAME.up eF14 (SAME.up eF13 (SAME.up eF12 (SAME.up eF11 (SAME.tr (SAME.up eF1 SAME.rf (by decide)) t5 (by decide)) (by decide)) (by decide)) (by decide)) (by decide)) (by decide)) (by decide)) t83 (by decide)) i148 (by decide)), (SAME.at i148 (by decide) (SAME.at t83 (by decide) (get_ne eF16 (by decide) (get_ne eF15 (by decide) (get_ne eF14 (by decide) (get_ne eF13 (by decide) (get_ne eF12 (by decide) (get_ne eF11 (by decide) (SAME.at t5 (by decide) (get_eq eF1)))))))))), (SAME.at i148 (by decide) (SAME.at t83 (by decide) (get_ne eF16 (by decide) (get_ne eF15 (by decide) (get_ne eF14 (by decide) (get_ne eF13 (by decide) (get_ne eF12 (by decide) (get_ne eF11 (by decide) t6)))))))), (SAME.at i148 (by decide) (SAME.at t83 (by decide) n30)), i149, i162, (SAME.at i148 (by decide) (SAME.at t83 (by decide) n42)), i150, i163, i151, i152, i153, i154, i155, i156, i157, i164, i158, i165, i159, i166, i160, i161, i167, i205, i200, i207, i208, i209, i206, r215, i201, i202, i203, i204, (by omega), (by omega), rfl⟩
    · have dc214 : u197.toInt < v212.toInt := nle_i (a := v212.toInt) (b := u197.toInt) rfl rfl c214
      have k216 : 0 ≤ u197.toInt ∧ u197.toInt ≤ 134 := ⟨i199.1, up_lt dc214 k213.2 (by decide)⟩
      have k217 : 1 ≤ v212.toInt ∧ v212.toInt ≤ 135 := ⟨lo_lt dc214 i199.1 (by decide), k213.2⟩
      refine lv_aload_n hx hb dX10_sentence_156 rfl (lv_at hl 2 rfl) ?_
      refine get_f (D := D) (ci := 10) (v := .ref h_s) (C := RX10) (T := TX10) (N := 67) hx hb hw inAX10 hown hK hP 5 rfl rfl 6 (by decide) (hw _ q_1267) (fun _ h9 => h9) n184 dX10_sentence_157 ?_
      refine lv_sipush (v := 154) hx hb dX10_sentence_160 (by decide) ?_
      refine lv_iload_n hx hb dX10_sentence_163 rfl (lv_at hl 0 rfl) ?_
      refine lv_iadd hx hb dX10_sentence_164 ?_
      refine lv_topi (fun v218 ev218 => ?_)
      have bv218 : v218.toInt = 154 + u197.toInt := by rw [ev218]; exact add_k rfl rfl ⟨Int.le_refl _, Int.le_refl _⟩ k216 (by decide)
      have k219 : 154 ≤ v218.toInt ∧ v218.toInt ≤ 288 := add_r bv218 ⟨Int.le_refl _, Int.le_refl _⟩ k216 (by decide)
      refine lv_aload_n hx hb dX10_sentence_165 rfl (lv_at hl 2 rfl) ?_
      have n220 : F1 8 = .ref h_read := (get_ne eF1 (by decide) e_read)
      have n221 : F4 8 = .ref h_read := (SAME.at t5 (by decide) n220)
      have n222 : F11 8 = .ref h_read := (get_ne eF11 (by decide) n221)
      have n223 : F12 8 = .ref h_read := (get_ne eF12 (by decide) n222)
      have n224 : F13 8 = .ref h_read := (get_ne eF13 (by decide) n223)
      have n225 : F14 8 = .ref h_read := (get_ne eF14 (by decide) n224)
      have n226 : F15 8 = .ref h_read := (get_ne eF15 (by decide) n225)
      have n227 : F16 8 = .ref h_read := (get_ne eF16 (by decide) n226)
      have n228 : F76 8 = .ref h_read := (SAME.at t83 (by decide) n227)
      have n229 : G103 8 = .ref h_read := (SAME.at i148 (by decide) n228)
      refine get_f (D := D) (ci := 10) (v := .ref h_read) (C := RX10) (T := TX10) (N := 67) hx hb hw inAX10 hown hK hP 5 rfl rfl 8 (by decide) (hw _ q_1269) (fun _ h9 => h9) n229 dX10_sentence_166 ?_
      refine lv_iload_n hx hb dX10_sentence_169 rfl (lv_at hl 0 rfl) ?_
      refine va_iald hx hb hK hP 1 0 rfl rfl (ix_k k216 (by decide) (by decide)) dX10_sentence_170 ?_
      refine lv_topi (fun v230 ev230 => ?_)
      obtain ⟨g231, eg231⟩ : ∃ z : Nat → Int32, upd w198 v218.toNatClampNeg v230 = z := ⟨_, rfl⟩
      have r232 : SG 0 0 0 40 g231 := by rw [← eg231]; exact i200.up (Int.le_trans (by decide) k219.1) (Or.inr (Or.inl (dec_lt k219.1 (by decide))))
      have r233 : SG 105 108 0 11 g231 := by rw [← eg231]; exact i201.up (Int.le_trans (by decide) k219.1) (Or.inr (Or.inl (dec_lt k219.1 (by decide))))
      have r234 : SG 114 114 0 5 g231 := by rw [← eg231]; exact i202.up (Int.le_trans (by decide) k219.1) (Or.inr (Or.inl (dec_lt k219.1 (by decide))))
      have r235 : SG 130 133 0 11 g231 := by rw [← eg231]; exact i203.up (Int.le_trans (by decide) k219.1) (Or.inr (Or.inl (dec_lt k219.1 (by decide))))
      have r236 : SG 139 139 0 5 g231 := by rw [← eg231]; exact i204.up (Int.le_trans (by decide) k219.1) (Or.inr (Or.inl (dec_lt k219.1 (by decide))))
      have r237 : SG 153 153 0 44 g231 := by rw [← eg231]; exact i205.up (Int.le_trans (by decide) k219.1) (Or.inr (Or.inl (dec_lt k219.1 (by decide))))
      have r238 : SG 44 55 0 9 g231 := by rw [← eg231]; exact i206.up (Int.le_trans (by decide) k219.1) (Or.inr (Or.inl (dec_lt k219.1 (by decide))))
      have r239 : SG 5 5 0 12 g231 := by rw [← eg231]; exact i207.up (Int.le_trans (by decide) k219.1) (Or.inr (Or.inl (dec_lt k219.1 (by decide))))
      have r240 : SG 6 6 0 12 g231 := by rw [← eg231]; exact i208.up (Int.le_trans (by decide) k219.1) (Or.inr (Or.inl (dec_lt k219.1 (by decide))))
      have r241 : SG 7 7 0 6 g231 := by rw [← eg231]; exact i209.up (Int.le_trans (by decide) k219.1) (Or.inr (Or.inl (dec_lt k219.1 (by decide))))
      refine iast_g hx hb hK hP hD hS 0 0 rfl rfl (ix_k k219 (by decide) (by decide)) eg231 dX10_sentence_171 (fun H locs hP hD hS => ?_)
      have hP : va_P D vwCl [(h_s, .inl (cI, 335, .inl g231)), (h_read, .inl (cI, 135, .inl w101)), (h_names, .inl (cJ, 36, .inr (.inl f_names))), (h_reserved, .inl (cJ, 23, .inr (.inl f_reserved))), (h_stack, .inl (cI, 45, .inl w102)), (h0, .inr (10, vL 67 G103)), (h_tape, .inl (cB, 940, .inl f_tape))] H := hP
      have hD : va_D A [(h_s, .inl (cI, 335, .inl g231)), (h_read, .inl (cI, 135, .inl w101)), (h_names, .inl (cJ, 36, .inr (.inl f_names))), (h_reserved, .inl (cJ, 23, .inr (.inl f_reserved))), (h_stack, .inl (cI, 45, .inl w102)), (h0, .inr (10, vL 67 G103)), (h_tape, .inl (cB, 940, .inl f_tape))] := hD
      obtain ⟨v242, ev242⟩ : ∃ z : Int32, z = u197 + 1 := ⟨_, rfl⟩
      have bv242 : v242.toInt = u197.toInt + 1 := by rw [ev242]; exact add_k rfl rfl k216 ⟨Int.le_refl _, Int.le_refl _⟩ (by decide)
      have k243 : 1 ≤ v242.toInt ∧ v242.toInt ≤ 135 := add_r bv242 k216 ⟨Int.le_refl _, Int.le_refl _⟩ (by decide)
      refine lv_iinc (v := v242) (lv' := [(2, .int v242), (1, .int u100), (0, .ref h0)]) hx hb dX10_sentence_172 hl (k := 0) rfl (by rw [ev242]; rfl) (by decide) rfl (fun ls hl => ?_)
      refine lv_goto (tgt := 146) hx hb dX10_sentence_175 (by decide) ?_
      exact ih_146 (v242, g231) ⟨(ir_wk k243 (by decide) (by decide)), r232, r233, r234, r235, r236, r237, r238, r239, r240, r241, (show (g231 153).toInt = u112.toInt from (u153 i210 eg231 (by omega))), (show CPY g231 154 w101 0 (v242.toInt) from (CPY.step i211 eg231 ev230 (by omega) (by omega) (by omega)))⟩ (by show (135 - v242.toInt).toNat < (135 - u197.toInt).toNat; omega) _ _ _ hP hD hS (lv_sub hl [0, 1, 2] rfl)
  · have dc173 : u100.toInt ≠ 0 := ne_i (a := u100.toInt) (b := 0) rfl rfl c173
    have k244 : 1 ≤ u100.toInt ∧ u100.toInt ≤ 1 := ⟨ne_lo dc173 i147.1 ⟨Int.le_refl _, Int.le_refl _⟩ (by decide), i147.2⟩
    refine lv_aload_n hx hb dX10_sentence_52 rfl (lv_at hl 1 rfl) ?_
    refine get_f (D := D) (ci := 10) (v := .int u116) (C := RX10) (T := TX10) (N := 67) hx hb hw inAX10 hown hK hP 5 rfl rfl 62 (by decide) (hw _ q_1323) (fun _ h9 => h9) i161 dX10_sentence_53 ?_
    refine lv_if_eq (tgt := 101) hx hb dX10_sentence_56 (by decide) (fun c245 => ?_) (fun c245 => ?_)
    · have dc245 : u116.toInt = 0 := eq_i (a := u116.toInt) (b := 0) rfl rfl c245
      have k246 : 0 ≤ u116.toInt ∧ u116.toInt ≤ 0 := ⟨i167.1, Int.le_trans (Int.le_of_eq dc245) (Int.le_refl _)⟩
      refine lv_aload_n hx hb dX10_sentence_101 rfl (lv_at hl 1 rfl) ?_
      refine get_f (D := D) (ci := 10) (v := .int u116) (C := RX10) (T := TX10) (N := 67) hx hb hw inAX10 hown hK hP 5 rfl rfl 62 (by decide) (hw _ q_1323) (fun _ h9 => h9) i161 dX10_sentence_102 ?_
      refine lv_if_eq (tgt := 118) hx hb dX10_sentence_105 (by decide) (fun c247 => ?_) (fun c247 => False.elim (bad_ne (ne_i (a := u116.toInt) (b := 0) rfl rfl c247) k246 ⟨Int.le_refl _, Int.le_refl _⟩ (by decide)))
      have dc247 : u116.toInt = 0 := eq_i (a := u116.toInt) (b := 0) rfl rfl c247
      refine lv_aload_n hx hb dX10_sentence_118 rfl (lv_at hl 1 rfl) ?_
      have n248 : F76 1 = .ref h_tape := (SAME.at t83 (by decide) n24)
      have n249 : G103 1 = .ref h_tape := (SAME.at i148 (by decide) n248)
      have n250 : F76 3 = .int x_length := (SAME.at t83 (by decide) n30)
      have n251 : G103 3 = .int x_length := (SAME.at i148 (by decide) n250)
      have n252 : F76 5 = .int 200 := (SAME.at t83 (by decide) n42)
      have n253 : G103 5 = .int 200 := (SAME.at i148 (by decide) n252)
      have n254 : F1 6 = .ref h_s := (get_ne eF1 (by decide) e_s)
      have n255 : F4 6 = .ref h_s := (SAME.at t5 (by decide) n254)
      have n256 : F11 6 = .ref h_s := (get_ne eF11 (by decide) n255)
      have n257 : F12 6 = .ref h_s := (get_ne eF12 (by decide) n256)
      have n258 : F13 6 = .ref h_s := (get_ne eF13 (by decide) n257)
      have n259 : F14 6 = .ref h_s := (get_ne eF14 (by decide) n258)
      have n260 : F15 6 = .ref h_s := (get_ne eF15 (by decide) n259)
      have n261 : F16 6 = .ref h_s := (get_ne eF16 (by decide) n260)
      have n262 : F76 6 = .ref h_s := (SAME.at t83 (by decide) n261)
      have n263 : G103 6 = .ref h_s := (SAME.at i148 (by decide) n262)
      have n264 : F1 8 = .ref h_read := (get_ne eF1 (by decide) e_read)
      have n265 : F4 8 = .ref h_read := (SAME.at t5 (by decide) n264)
      have n266 : F11 8 = .ref h_read := (get_ne eF11 (by decide) n265)
      have n267 : F12 8 = .ref h_read := (get_ne eF12 (by decide) n266)
      have n268 : F13 8 = .ref h_read := (get_ne eF13 (by decide) n267)
      have n269 : F14 8 = .ref h_read := (get_ne eF14 (by decide) n268)
      have n270 : F15 8 = .ref h_read := (get_ne eF15 (by decide) n269)
      have n271 : F16 8 = .ref h_read := (get_ne eF16 (by decide) n270)
      have n272 : F76 8 = .ref h_read := (SAME.at t83 (by decide) n271)
      have n273 : G103 8 = .ref h_read := (SAME.at i148 (by decide) n272)
      have n274 : F1 9 = .ref h_names := (get_ne eF1 (by decide) e_names)
      have n275 : F4 9 = .ref h_names := (SAME.at t5 (by decide) n274)
      have n276 : F11 9 = .ref h_names := (get_ne eF11 (by decide) n275)
      have n277 : F12 9 = .ref h_names := (get_ne eF12 (by decide) n276)
      have n278 : F13 9 = .ref h_names := (get_ne eF13 (by decide) n277)
      have n279 : F14 9 = .ref h_names := (get_ne eF14 (by decide) n278)
      have n280 : F15 9 = .ref h_names := (get_ne eF15 (by decide) n279)
      have n281 : F16 9 = .ref h_names := (get_ne eF16 (by decide) n280)
      have n282 : F76 9 = .ref h_names := (SAME.at t83 (by decide) n281)
      have n283 : G103 9 = .ref h_names := (SAME.at i148 (by decide) n282)
      have n284 : F1 10 = .ref h_reserved := (get_ne eF1 (by decide) e_reserved)
      have n285 : F4 10 = .ref h_reserved := (SAME.at t5 (by decide) n284)
      have n286 : F11 10 = .ref h_reserved := (get_ne eF11 (by decide) n285)
      have n287 : F12 10 = .ref h_reserved := (get_ne eF12 (by decide) n286)
      have n288 : F13 10 = .ref h_reserved := (get_ne eF13 (by decide) n287)
      have n289 : F14 10 = .ref h_reserved := (get_ne eF14 (by decide) n288)
      have n290 : F15 10 = .ref h_reserved := (get_ne eF15 (by decide) n289)
      have n291 : F16 10 = .ref h_reserved := (get_ne eF16 (by decide) n290)
      have n292 : F76 10 = .ref h_reserved := (SAME.at t83 (by decide) n291)
      have n293 : G103 10 = .ref h_reserved := (SAME.at i148 (by decide) n292)
      have n294 : F1 57 = .ref h_stack := (get_ne eF1 (by decide) e_stack)
      have n295 : F4 57 = .ref h_stack := (SAME.at t5 (by decide) n294)
      have n296 : F11 57 = .ref h_stack := (get_ne eF11 (by decide) n295)
      have n297 : F12 57 = .ref h_stack := (get_ne eF12 (by decide) n296)
      have n298 : F13 57 = .ref h_stack := (get_ne eF13 (by decide) n297)
      have n299 : F14 57 = .ref h_stack := (get_ne eF14 (by decide) n298)
      have n300 : F15 57 = .ref h_stack := (get_ne eF15 (by decide) n299)
      have n301 : F16 57 = .ref h_stack := (get_ne eF16 (by decide) n300)
      have n302 : F76 57 = .ref h_stack := (SAME.at t83 (by decide) n301)
      have n303 : G103 57 = .ref h_stack := (SAME.at i148 (by decide) n302)
      refine call_Vi (wr := []) (As := []) (rest := []) hx hb hml hown hw (m_X10_operand l D cI cJ cB cP cM cZ h0 h_tape h_s h_read h_names h_reserved h_stack G103 x_length u104 200 u105 u106 u107 u108 u109 u110 u111 u112 u113 u114 u115 u116 f_tape f_s w101 f_names f_reserved w102 _ n249 n251 i_x_length i149 i162 n253 (show 200 ≤ (200 : Int32).toInt ∧ (200 : Int32).toInt ≤ 940 by decide) n263 n273 n283 n293 i150 i163 i151 i152 i153 i154 i155 i156 n303 i157 i164 i158 i165 i159 i166 i160 i161 (ir_wk k246 (by decide) (by decide)) s_s_K0 s_s_0 s_s_105 s_s_114 s_s_130 s_s_139 s_s_153 s_s_44 s_s_5 s_s_6 s_s_7 s_reserved_KR (by omega) (SMI.w i168 (by omega)) i170 (by omega) (by omega)) wV_X10_472_X10_operand dX10_sentence_119 hK hP hD hS hA [5, 6, 0, 1, 2, 3, 4] [] rfl rfl (by decide) (by decide) (by decide) 0 10 rfl rfl GG.fb hG.at hl.1 rfl (Nat.le_of_ble_eq_true rfl) ⟨(Nat.le_of_ble_eq_true rfl), (Nat.le_of_ble_eq_true rfl)⟩ ⟨(Nat.le_of_ble_eq_true rfl), (Nat.le_of_ble_eq_true rfl)⟩ (fun r304 u H locs hp hP hD hS => ?_)
      refine hp.elim (fun F305 h9z0 => h9z0.elim (fun y306 h9z1 => h9z1.elim (fun y307 h9z2 => h9z2.elim (fun y308 h9z3 => h9z3.elim (fun y309 h9z4 => h9z4.elim (fun y310 h9z5 => h9z5.elim (fun y311 h9z6 => h9z6.elim (fun y312 h9z7 => h9z7.elim (fun y313 h9z8 => h9z8.elim (fun y314 h9z9 => h9z9.elim (fun y315 h9z10 => h9z10.elim (fun y316 h9z11 => h9z11.elim (fun y317 h9z12 => h9z12.elim (fun y318 h9z13 => h9z13.elim (fun g319 h9z14 => h9z14.elim (fun g320 h9z15 => h9z15.elim (fun t321 h9z16 => h9z16.elim (fun t322 h9z17 => h9z17.elim (fun t323 h9z18 => h9z18.elim (fun t324 h9z19 => h9z19.elim (fun t325 h9z20 => h9z20.elim (fun t326 h9z21 => h9z21.elim (fun t327 h9z22 => h9z22.elim (fun t328 h9z23 => h9z23.elim (fun t329 h9z24 => h9z24.elim (fun t330 h9z25 => h9z25.elim (fun t331 h9z26 => h9z26.elim (fun t332 h9z27 => h9z27.elim (fun t333 h9z28 => h9z28.elim (fun t334 h9z29 => h9z29.elim (fun t335 h9z30 => h9z30.elim (fun t336 h9z31 => h9z31.elim (fun t337 h9z32 => h9z32.elim (fun t338 h9z33 => h9z33.elim (fun t339 h9z34 => h9z34.elim (fun t340 h9z35 => h9z35.elim (fun t341 h9z36 => h9z36.elim (fun t342 h9z37 => h9z37.elim (fun t343 h9z38 => h9z38.elim (fun t344 h9z39 => h9z39.elim (fun t345 h9z40 => h9z40.elim (fun t346 h9z41 => ?_))))))))))))))))))))))))))))))))))))))))))
      clear h9z0 h9z1 h9z2 h9z3 h9z4 h9z5 h9z6 h9z7 h9z8 h9z9 h9z10 h9z11 h9z12 h9z13 h9z14 h9z15 h9z16 h9z17 h9z18 h9z19 h9z20 h9z21 h9z22 h9z23 h9z24 h9z25 h9z26 h9z27 h9z28 h9z29 h9z30 h9z31 h9z32 h9z33 h9z34 h9z35 h9z36 h9z37 h9z38 h9z39 h9z40
      subst h9z41
      clear t95 t98
      have hP : va_P D vwCl [(h0, .inr (10, vL 67 F305)), (h_tape, .inl (cB, 940, .inl f_tape)), (h_s, .inl (cI, 335, .inl f_s)), (h_read, .inl (cI, 135, .inl g319)), (h_names, .inl (cJ, 36, .inr (.inl f_names))), (h_reserved, .inl (cJ, 23, .inr (.inl f_reserved))), (h_stack, .inl (cI, 45, .inl g320))] H := hP
      have hD : va_D A [(h0, .inr (10, vL 67 F305)), (h_tape, .inl (cB, 940, .inl f_tape)), (h_s, .inl (cI, 335, .inl f_s)), (h_read, .inl (cI, 135, .inl g319)), (h_names, .inl (cJ, 36, .inr (.inl f_names))), (h_reserved, .inl (cJ, 23, .inr (.inl f_reserved))), (h_stack, .inl (cI, 45, .inl g320))] := hD
      refine W.widen (k := 0) (n := 0) (Nat.le_of_ble_eq_true rfl) (Nat.le_of_ble_eq_true rfl) ?_
      refine lv_if_ne (tgt := 48) hx hb dX10_sentence_122 (by decide) (fun c348 => ?_) (fun c348 => ?_)
      · have dc348 : r304.toInt ≠ 0 := ne_i (a := r304.toInt) (b := 0) rfl rfl c348
        have k349 : 1 ≤ r304.toInt ∧ r304.toInt ≤ 1 := ⟨ne_lo dc348 t341.1 ⟨Int.le_refl _, Int.le_refl _⟩ (by decide), t341.2⟩
        exact ih (u100, g319, g320, F305, y306, y307, y308, y309, y310, y311, y312, y313, y314, y315, y316, y317, y318) ⟨(ir_wk k244 (by decide) (by decide)), (SAME.tr (SAME.tr SAME.rf i148 (by decide)) t321 (by decide)), t322, t324, t326, t327, t328, t329, t330, t331, t332, t334, t336, t338, t339, t323, t325, t333, t335, t337, t340, (show SMI g319 g320 y314.toInt y316.toInt y318.toInt from (t343 (by omega))), (by show (u100.toInt = 0 → y316.toInt = 0 ∧ y318.toInt = 1); omega), (show (VWF y307.toInt y313.toInt) from (t344 (by omega))), (by show (y307.toInt = 2 → 0 ≤ y310.toInt ∧ y310.toInt ≤ 999); omega), (by show y316.toInt + y314.toInt + y318.toInt ≤ 2 * y315.toInt; omega)⟩ (by show (3 * (940 - y306.toInt) + min y307.toInt (4 - y307.toInt) + u100.toInt).toNat < (3 * (940 - u104.toInt) + min u105.toInt (4 - u105.toInt) + u100.toInt).toNat; omega) _ _ _ (hP.sub [2, 3, 4, 5, 6, 0, 1] rfl) (hD.sub [2, 3, 4, 5, 6, 0, 1] (by decide) rfl) hS (lv_sub hl [0, 1] rfl)
      · have dc348 : r304.toInt = 0 := eq_i (a := r304.toInt) (b := 0) rfl rfl c348
        have k350 : 0 ≤ r304.toInt ∧ r304.toInt ≤ 0 := ⟨t341.1, Int.le_trans (Int.le_of_eq dc348) (Int.le_refl _)⟩
        refine lv_iconst (v := (-1)) hx hb dX10_sentence_125 (by decide) ?_
        refine lv_aload_n hx hb dX10_sentence_126 rfl (lv_at hl 1 rfl) ?_
        refine get_f (D := D) (ci := 10) (v := .int y312) (C := RX10) (T := TX10) (N := 67) hx hb hw inAX10 hown hK hP 0 rfl rfl 16 (by decide) (hw _ q_1277) (fun _ h9 => h9) t330 dX10_sentence_127 ?_
        refine lv_isub hx hb dX10_sentence_130 ?_
        refine lv_topi (fun v351 ev351 => ?_)
        have bv351 : v351.toInt = (-1) - y312.toInt := by rw [ev351]; exact sub_k rfl rfl ⟨Int.le_refl _, Int.le_refl _⟩ (ir_any _) (by decide)
        have k352 : (-2147483648) ≤ v351.toInt ∧ v351.toInt ≤ 2147483647 := sub_r bv351 ⟨Int.le_refl _, Int.le_refl _⟩ (ir_any _) (by decide)
        exact ret_i (v := v351) hx hb hr hlocks hS hP hD dX10_sentence_131 rfl (Nat.le_of_ble_eq_true rfl) (Nat.le_of_ble_eq_true rfl) ⟨F305, y306, y307, y308, y309, y310, y311, y312, y313, y314, y315, y316, y317, y318, f_s, g319, g320, (SAME.tr (SAME.tr (SAME.tr (SAME.up eF16 (SAME.up eF15 (SAME.up eF14 (SAME.up eF13 (SAME.up eF12 (SAME.up eF11 (SAME.tr (SAME.up eF1 SAME.rf (by decide)) t5 (by decide)) (by decide)) (by decide)) (by decide)) (by decide)) (by decide)) (by decide)) t83 (by decide)) i148 (by decide)) t321 (by decide)), (SAME.at t321 (by decide) (SAME.at i148 (by decide) (SAME.at t83 (by decide) (get_ne eF16 (by decide) (get_ne eF15 (by decide) (get_ne eF14 (by decide) (get_ne eF13 (by decide) (get_ne eF12 (by decide) (get_ne eF11 (by decide) (SAME.at t5 (by decide) (get_eq eF1))))))))))), (SAME.at t321 (by decide) (SAME.at i148 (by decide) (SAME.at t83 (by decide) (get_ne eF16 (by decide) (get_ne eF15 (by decide) (get_ne eF14 (by decide) (get_ne eF13 (by decide) (get_ne eF12 (by decide) (get_ne eF11 (by decide) t6))))))))), (SAME.at t321 (by decide) n251), t322, t323, (SAME.at t321 (by decide) n253), t324, t325, t326, t327, t328, t329, t330, t331, t332, t333, t334, t335, t336, t337, t338, t339, t340, s_s_153, s_s_0, s_s_5, s_s_6, s_s_7, s_s_44, s_s_K0, s_s_105, s_s_114, s_s_130, s_s_139, (by omega), (by omega), rfl⟩
    · have dc245 : u116.toInt ≠ 0 := ne_i (a := u116.toInt) (b := 0) rfl rfl c245
      have k353 : 1 ≤ u116.toInt ∧ u116.toInt ≤ 1 := ⟨ne_lo dc245 i167.1 ⟨Int.le_refl _, Int.le_refl _⟩ (by decide), i167.2⟩
      refine lv_aload_n hx hb dX10_sentence_59 rfl (lv_at hl 1 rfl) ?_
      refine get_f (D := D) (ci := 10) (v := .int u105) (C := RX10) (T := TX10) (N := 67) hx hb hw inAX10 hown hK hP 5 rfl rfl 11 (by decide) (hw _ q_1272) (fun _ h9 => h9) i150 dX10_sentence_60 ?_
      refine lv_if_ne (tgt := 101) hx hb dX10_sentence_63 (by decide) (fun c354 => ?_) (fun c354 => ?_)
      · have dc354 : u105.toInt ≠ 0 := ne_i (a := u105.toInt) (b := 0) rfl rfl c354
        have k355 : 1 ≤ u105.toInt ∧ u105.toInt ≤ 4 := ⟨ne_lo dc354 i163.1 ⟨Int.le_refl _, Int.le_refl _⟩ (by decide), i163.2⟩
        refine lv_aload_n hx hb dX10_sentence_101 rfl (lv_at hl 1 rfl) ?_
        refine get_f (D := D) (ci := 10) (v := .int u116) (C := RX10) (T := TX10) (N := 67) hx hb hw inAX10 hown hK hP 5 rfl rfl 62 (by decide) (hw _ q_1323) (fun _ h9 => h9) i161 dX10_sentence_102 ?_
        refine lv_if_eq (tgt := 118) hx hb dX10_sentence_105 (by decide) (fun c356 => False.elim (bad_le (Int.le_of_eq (eq_i (a := u116.toInt) (b := 0) rfl rfl c356)) k353.1 (Int.le_refl _) (by decide))) (fun c356 => ?_)
        have dc356 : u116.toInt ≠ 0 := ne_i (a := u116.toInt) (b := 0) rfl rfl c356
        refine lv_aload_n hx hb dX10_sentence_108 rfl (lv_at hl 1 rfl) ?_
        have n357 : F76 1 = .ref h_tape := (SAME.at t83 (by decide) n24)
        have n358 : G103 1 = .ref h_tape := (SAME.at i148 (by decide) n357)
        have n359 : F76 3 = .int x_length := (SAME.at t83 (by decide) n30)
        have n360 : G103 3 = .int x_length := (SAME.at i148 (by decide) n359)
        have n361 : F76 5 = .int 200 := (SAME.at t83 (by decide) n42)
        have n362 : G103 5 = .int 200 := (SAME.at i148 (by decide) n361)
        have n363 : F1 8 = .ref h_read := (get_ne eF1 (by decide) e_read)
        have n364 : F4 8 = .ref h_read := (SAME.at t5 (by decide) n363)
        have n365 : F11 8 = .ref h_read := (get_ne eF11 (by decide) n364)
        have n366 : F12 8 = .ref h_read := (get_ne eF12 (by decide) n365)
        have n367 : F13 8 = .ref h_read := (get_ne eF13 (by decide) n366)
        have n368 : F14 8 = .ref h_read := (get_ne eF14 (by decide) n367)
        have n369 : F15 8 = .ref h_read := (get_ne eF15 (by decide) n368)
        have n370 : F16 8 = .ref h_read := (get_ne eF16 (by decide) n369)
        have n371 : F76 8 = .ref h_read := (SAME.at t83 (by decide) n370)
        have n372 : G103 8 = .ref h_read := (SAME.at i148 (by decide) n371)
        have n373 : F1 57 = .ref h_stack := (get_ne eF1 (by decide) e_stack)
        have n374 : F4 57 = .ref h_stack := (SAME.at t5 (by decide) n373)
        have n375 : F11 57 = .ref h_stack := (get_ne eF11 (by decide) n374)
        have n376 : F12 57 = .ref h_stack := (get_ne eF12 (by decide) n375)
        have n377 : F13 57 = .ref h_stack := (get_ne eF13 (by decide) n376)
        have n378 : F14 57 = .ref h_stack := (get_ne eF14 (by decide) n377)
        have n379 : F15 57 = .ref h_stack := (get_ne eF15 (by decide) n378)
        have n380 : F16 57 = .ref h_stack := (get_ne eF16 (by decide) n379)
        have n381 : F76 57 = .ref h_stack := (SAME.at t83 (by decide) n380)
        have n382 : G103 57 = .ref h_stack := (SAME.at i148 (by decide) n381)
        refine call_Vi (wr := [(h_s, .inl (cI, 335, .inl f_s)), (h_names, .inl (cJ, 36, .inr (.inl f_names))), (h_reserved, .inl (cJ, 23, .inr (.inl f_reserved)))]) (As := []) (rest := []) hx hb hml hown hw (m_X10_behind_ l D cI cJ cB cP cM cZ h0 h_tape h_read h_stack G103 x_length u104 200 u105 u106 u107 u108 u109 u110 u111 u112 u113 u114 u115 u116 f_tape w101 w102 _ n358 n360 i_x_length i149 i162 n362 (show 200 ≤ (200 : Int32).toInt ∧ (200 : Int32).toInt ≤ 940 by decide) n372 i150 (ir_wk k355 (by decide) (by decide)) i151 i152 i153 i154 i155 i156 n382 i157 i164 i158 i165 i159 i166 i160 i161 (ir_wk k353 (by decide) (by decide)) (by omega) (SMI.w i168 (by omega)) i170 (by omega) (by omega)) wV_X10_469_X10_behind_ dX10_sentence_109 hK hP hD hS hA [5, 6, 1, 4] [0, 2, 3] rfl rfl (by decide) (by decide) (by decide) 0 10 rfl rfl GG.fb hG.at hl.1 rfl (Nat.le_of_ble_eq_true rfl) ⟨(Nat.le_of_ble_eq_true rfl), (Nat.le_of_ble_eq_true rfl)⟩ ⟨(Nat.le_of_ble_eq_true rfl), (Nat.le_of_ble_eq_true rfl)⟩ (fun r383 u H locs hp hP hD hS => ?_)
        refine hp.elim (fun F384 h9z0 => h9z0.elim (fun y385 h9z1 => h9z1.elim (fun y386 h9z2 => h9z2.elim (fun y387 h9z3 => h9z3.elim (fun y388 h9z4 => h9z4.elim (fun y389 h9z5 => h9z5.elim (fun y390 h9z6 => h9z6.elim (fun y391 h9z7 => h9z7.elim (fun y392 h9z8 => h9z8.elim (fun y393 h9z9 => h9z9.elim (fun y394 h9z10 => h9z10.elim (fun y395 h9z11 => h9z11.elim (fun y396 h9z12 => h9z12.elim (fun g397 h9z13 => h9z13.elim (fun g398 h9z14 => h9z14.elim (fun t399 h9z15 => h9z15.elim (fun t400 h9z16 => h9z16.elim (fun t401 h9z17 => h9z17.elim (fun t402 h9z18 => h9z18.elim (fun t403 h9z19 => h9z19.elim (fun t404 h9z20 => h9z20.elim (fun t405 h9z21 => h9z21.elim (fun t406 h9z22 => h9z22.elim (fun t407 h9z23 => h9z23.elim (fun t408 h9z24 => h9z24.elim (fun t409 h9z25 => h9z25.elim (fun t410 h9z26 => h9z26.elim (fun t411 h9z27 => h9z27.elim (fun t412 h9z28 => h9z28.elim (fun t413 h9z29 => h9z29.elim (fun t414 h9z30 => h9z30.elim (fun t415 h9z31 => h9z31.elim (fun t416 h9z32 => h9z32.elim (fun t417 h9z33 => h9z33.elim (fun t418 h9z34 => h9z34.elim (fun t419 h9z35 => h9z35.elim (fun t420 h9z36 => h9z36.elim (fun t421 h9z37 => h9z37.elim (fun t422 h9z38 => ?_)))))))))))))))))))))))))))))))))))))))
        clear h9z0 h9z1 h9z2 h9z3 h9z4 h9z5 h9z6 h9z7 h9z8 h9z9 h9z10 h9z11 h9z12 h9z13 h9z14 h9z15 h9z16 h9z17 h9z18 h9z19 h9z20 h9z21 h9z22 h9z23 h9z24 h9z25 h9z26 h9z27 h9z28 h9z29 h9z30 h9z31 h9z32 h9z33 h9z34 h9z35 h9z36 h9z37
        subst h9z38
        clear t95 t98
        have hP : va_P D vwCl [(h_s, .inl (cI, 335, .inl f_s)), (h_names, .inl (cJ, 36, .inr (.inl f_names))), (h_reserved, .inl (cJ, 23, .inr (.inl f_reserved))), (h0, .inr (10, vL 67 F384)), (h_tape, .inl (cB, 940, .inl f_tape)), (h_read, .inl (cI, 135, .inl g397)), (h_stack, .inl (cI, 45, .inl g398))] H := hP
        have hD : va_D A [(h_s, .inl (cI, 335, .inl f_s)), (h_names, .inl (cJ, 36, .inr (.inl f_names))), (h_reserved, .inl (cJ, 23, .inr (.inl f_reserved))), (h0, .inr (10, vL 67 F384)), (h_tape, .inl (cB, 940, .inl f_tape)), (h_read, .inl (cI, 135, .inl g397)), (h_stack, .inl (cI, 45, .inl g398))] := hD
        refine W.widen (k := 0) (n := 0) (Nat.le_of_ble_eq_true rfl) (Nat.le_of_ble_eq_true rfl) ?_
        refine lv_if_ne (tgt := 48) hx hb dX10_sentence_112 (by decide) (fun c424 => ?_) (fun c424 => ?_)
        · have dc424 : r383.toInt ≠ 0 := ne_i (a := r383.toInt) (b := 0) rfl rfl c424
          have k425 : 1 ≤ r383.toInt ∧ r383.toInt ≤ 1 := ⟨ne_lo dc424 t417.1 ⟨Int.le_refl _, Int.le_refl _⟩ (by decide), t417.2⟩
          have n426 : F384 59 = .int u113 := (SAME.at t399 (by decide) i158)
          exact ih (u100, g397, g398, F384, y385, y386, y387, y388, y389, y390, y391, y392, y393, u113, y394, y395, y396) ⟨(ir_wk k244 (by decide) (by decide)), (SAME.tr (SAME.tr SAME.rf i148 (by decide)) t399 (by decide)), t400, t402, t404, t405, t406, t407, t408, t409, t410, n426, t412, t414, t415, t401, t403, t411, i165, t413, t416, (show SMI g397 g398 y393.toInt y394.toInt y396.toInt from (t419 (by omega))), (by show (u100.toInt = 0 → y394.toInt = 0 ∧ y396.toInt = 1); omega), (show (VWF y386.toInt y392.toInt) from (t420 (by omega))), (by show (y386.toInt = 2 → 0 ≤ y389.toInt ∧ y389.toInt ≤ 999); omega), (by show y394.toInt + y393.toInt + y396.toInt ≤ 2 * u113.toInt; omega)⟩ (by show (3 * (940 - y385.toInt) + min y386.toInt (4 - y386.toInt) + u100.toInt).toNat < (3 * (940 - u104.toInt) + min u105.toInt (4 - u105.toInt) + u100.toInt).toNat; omega) _ _ _ (hP.sub [0, 5, 1, 2, 6, 3, 4] rfl) (hD.sub [0, 5, 1, 2, 6, 3, 4] (by decide) rfl) hS (lv_sub hl [0, 1] rfl)
        · have dc424 : r383.toInt = 0 := eq_i (a := r383.toInt) (b := 0) rfl rfl c424
          have k427 : 0 ≤ r383.toInt ∧ r383.toInt ≤ 0 := ⟨t417.1, Int.le_trans (Int.le_of_eq dc424) (Int.le_refl _)⟩
          refine lv_goto (tgt := 125) hx hb dX10_sentence_115 (by decide) ?_
          refine lv_iconst (v := (-1)) hx hb dX10_sentence_125 (by decide) ?_
          refine lv_aload_n hx hb dX10_sentence_126 rfl (lv_at hl 1 rfl) ?_
          refine get_f (D := D) (ci := 10) (v := .int y391) (C := RX10) (T := TX10) (N := 67) hx hb hw inAX10 hown hK hP 3 rfl rfl 16 (by decide) (hw _ q_1277) (fun _ h9 => h9) t408 dX10_sentence_127 ?_
          refine lv_isub hx hb dX10_sentence_130 ?_
          refine lv_topi (fun v428 ev428 => ?_)
          have bv428 : v428.toInt = (-1) - y391.toInt := by rw [ev428]; exact sub_k rfl rfl ⟨Int.le_refl _, Int.le_refl _⟩ (ir_any _) (by decide)
          have k429 : (-2147483648) ≤ v428.toInt ∧ v428.toInt ≤ 2147483647 := sub_r bv428 ⟨Int.le_refl _, Int.le_refl _⟩ (ir_any _) (by decide)
          exact ret_i (v := v428) hx hb hr hlocks hS (hP.sub (ws' := [(h0, .inr (10, vL 67 F384)), (h_tape, .inl (cB, 940, .inl f_tape)), (h_s, .inl (cI, 335, .inl f_s)), (h_read, .inl (cI, 135, .inl g397)), (h_names, .inl (cJ, 36, .inr (.inl f_names))), (h_reserved, .inl (cJ, 23, .inr (.inl f_reserved))), (h_stack, .inl (cI, 45, .inl g398))]) [3, 4, 0, 5, 1, 2, 6] rfl) (hD.sub (ws' := [(h0, .inr (10, vL 67 F384)), (h_tape, .inl (cB, 940, .inl f_tape)), (h_s, .inl (cI, 335, .inl f_s)), (h_read, .inl (cI, 135, .inl g397)), (h_names, .inl (cJ, 36, .inr (.inl f_names))), (h_reserved, .inl (cJ, 23, .inr (.inl f_reserved))), (h_stack, .inl (cI, 45, .inl g398))]) [3, 4, 0, 5, 1, 2, 6] (by decide) rfl) dX10_sentence_131 rfl (Nat.le_of_ble_eq_true rfl) (Nat.le_of_ble_eq_true rfl) ⟨F384, y385, y386, y387, y388, y389, y390, y391, y392, y393, u113, y394, y395, y396, f_s, g397, g398, (SAME.tr (SAME.tr (SAME.tr (SAME.up eF16 (SAME.up eF15 (SAME.up eF14 (SAME.up eF13 (SAME.up eF12 (SAME.up eF11 (SAME.tr (SAME.up eF1 SAME.rf (by decide)) t5 (by decide)) (by decide)) (by decide)) (by decide)) (by decide)) (by decide)) (by decide)) t83 (by decide)) i148 (by decide)) t399 (by decide)), (SAME.at t399 (by decide) (SAME.at i148 (by decide) (SAME.at t83 (by decide) (get_ne eF16 (by decide) (get_ne eF15 (by decide) (get_ne eF14 (by decide) (get_ne eF13 (by decide) (get_ne eF12 (by decide) (get_ne eF11 (by decide) (SAME.at t5 (by decide) (get_eq eF1))))))))))), (SAME.at t399 (by decide) (SAME.at i148 (by decide) (SAME.at t83 (by decide) (get_ne eF16 (by decide) (get_ne eF15 (by decide) (get_ne eF14 (by decide) (get_ne eF13 (by decide) (get_ne eF12 (by decide) (get_ne eF11 (by decide) t6))))))))), (SAME.at t399 (by decide) n360), t400, t401, (SAME.at t399 (by decide) n362), t402, t403, t404, t405, t406, t407, t408, t409, t410, t411, (SAME.at t399 (by decide) i158), i165, t412, t413, t414, t415, t416, s_s_153, s_s_0, s_s_5, s_s_6, s_s_7, s_s_44, s_s_K0, s_s_105, s_s_114, s_s_130, s_s_139, (by omega), (by omega), rfl⟩
      · have dc354 : u105.toInt = 0 := eq_i (a := u105.toInt) (b := 0) rfl rfl c354
        have k430 : 0 ≤ u105.toInt ∧ u105.toInt ≤ 0 := ⟨i163.1, Int.le_trans (Int.le_of_eq dc354) (Int.le_refl _)⟩
        refine lv_aload_n hx hb dX10_sentence_66 rfl (lv_at hl 1 rfl) ?_
        have n431 : F1 8 = .ref h_read := (get_ne eF1 (by decide) e_read)
        have n432 : F4 8 = .ref h_read := (SAME.at t5 (by decide) n431)
        have n433 : F11 8 = .ref h_read := (get_ne eF11 (by decide) n432)
        have n434 : F12 8 = .ref h_read := (get_ne eF12 (by decide) n433)
        have n435 : F13 8 = .ref h_read := (get_ne eF13 (by decide) n434)
        have n436 : F14 8 = .ref h_read := (get_ne eF14 (by decide) n435)
        have n437 : F15 8 = .ref h_read := (get_ne eF15 (by decide) n436)
        have n438 : F16 8 = .ref h_read := (get_ne eF16 (by decide) n437)
        have n439 : F76 8 = .ref h_read := (SAME.at t83 (by decide) n438)
        have n440 : G103 8 = .ref h_read := (SAME.at i148 (by decide) n439)
        have n441 : F1 57 = .ref h_stack := (get_ne eF1 (by decide) e_stack)
        have n442 : F4 57 = .ref h_stack := (SAME.at t5 (by decide) n441)
        have n443 : F11 57 = .ref h_stack := (get_ne eF11 (by decide) n442)
        have n444 : F12 57 = .ref h_stack := (get_ne eF12 (by decide) n443)
        have n445 : F13 57 = .ref h_stack := (get_ne eF13 (by decide) n444)
        have n446 : F14 57 = .ref h_stack := (get_ne eF14 (by decide) n445)
        have n447 : F15 57 = .ref h_stack := (get_ne eF15 (by decide) n446)
        have n448 : F16 57 = .ref h_stack := (get_ne eF16 (by decide) n447)
        have n449 : F76 57 = .ref h_stack := (SAME.at t83 (by decide) n448)
        have n450 : G103 57 = .ref h_stack := (SAME.at i148 (by decide) n449)
        refine call_Vv (wr := [(h_s, .inl (cI, 335, .inl f_s)), (h_names, .inl (cJ, 36, .inr (.inl f_names))), (h_reserved, .inl (cJ, 23, .inr (.inl f_reserved))), (h_tape, .inl (cB, 940, .inl f_tape))]) (As := []) (rest := []) hx hb hml hown hw (m_X10_nots l D cI cJ cB cP cM cZ h0 h_read h_stack G103 u112 u113 u114 u115 u116 w101 w102 _ n440 n450 i157 i164 i158 i165 i159 i166 i160 i161 (ir_wk k353 (by decide) (by decide)) (by omega) (SMI.w i168 (by omega)) (by omega)) wV_X10_463_X10_nots dX10_sentence_67 hK hP hD hS hA [5, 1, 4] [0, 2, 3, 6] rfl rfl (by decide) (by decide) (by decide) 0 10 rfl rfl GG.fb hG.at hl.1 rfl (Nat.le_of_ble_eq_true rfl) ⟨(Nat.le_of_ble_eq_true rfl), (Nat.le_of_ble_eq_true rfl)⟩ ⟨(Nat.le_of_ble_eq_true rfl), (Nat.le_of_ble_eq_true rfl)⟩ (fun u H locs hp hP hD hS => ?_)
        obtain ⟨F452, y453, y454, y455, g456, t457, t458, t459, t460, t461, t462, t463, t464, rfl⟩ := hp
        have hP : va_P D vwCl [(h_s, .inl (cI, 335, .inl f_s)), (h_names, .inl (cJ, 36, .inr (.inl f_names))), (h_reserved, .inl (cJ, 23, .inr (.inl f_reserved))), (h_tape, .inl (cB, 940, .inl f_tape)), (h0, .inr (10, vL 67 F452)), (h_read, .inl (cI, 135, .inl g456)), (h_stack, .inl (cI, 45, .inl w102))] H := hP
        have hD : va_D A [(h_s, .inl (cI, 335, .inl f_s)), (h_names, .inl (cJ, 36, .inr (.inl f_names))), (h_reserved, .inl (cJ, 23, .inr (.inl f_reserved))), (h_tape, .inl (cB, 940, .inl f_tape)), (h0, .inr (10, vL 67 F452)), (h_read, .inl (cI, 135, .inl g456)), (h_stack, .inl (cI, 45, .inl w102))] := hD
        refine W.widen (k := 0) (n := 0) (Nat.le_of_ble_eq_true rfl) (Nat.le_of_ble_eq_true rfl) ?_
        refine lv_aload_n hx hb dX10_sentence_70 rfl (lv_at hl 1 rfl) ?_
        refine lv_bipush (v := 22) hx hb dX10_sentence_71 (by decide) ?_
        have n466 : F452 8 = .ref h_read := (SAME.at t457 (by decide) n440)
        have n467 : F452 57 = .ref h_stack := (SAME.at t457 (by decide) n450)
        have n468 : F452 59 = .int u113 := (SAME.at t457 (by decide) i158)
        have n469 : F452 62 = .int u116 := (SAME.at t457 (by decide) i161)
        refine call_Vv (wr := [(h_s, .inl (cI, 335, .inl f_s)), (h_names, .inl (cJ, 36, .inr (.inl f_names))), (h_reserved, .inl (cJ, 23, .inr (.inl f_reserved))), (h_tape, .inl (cB, 940, .inl f_tape))]) (As := [.int 22]) (rest := []) hx hb hml hown hw (m_X10_joins l D cI cJ cB cP cM cZ h0 h_read h_stack F452 y453 u113 y454 u116 g456 w102 22 _ n466 n467 t458 t459 n468 i165 t460 t461 n469 (ir_wk k353 (by decide) (by decide)) (by omega) (SMI.w t463 (by omega)) (by omega)) wV_X10_466_X10_joins dX10_sentence_73 hK hP hD hS hA [4, 5, 6] [0, 1, 2, 3] rfl rfl (by decide) (by decide) (by decide) 0 10 rfl rfl GG.fb hG.at hl.1 rfl (Nat.le_of_ble_eq_true rfl) ⟨(Nat.le_of_ble_eq_true rfl), (Nat.le_of_ble_eq_true rfl)⟩ ⟨(Nat.le_of_ble_eq_true rfl), (Nat.le_of_ble_eq_true rfl)⟩ (fun u H locs hp hP hD hS => ?_)
        have zl22 : (22 : Int32).toInt = 22 := by decide
        obtain ⟨F471, y472, y473, g474, t475, t476, t477, t478, t479, t480, t481, t482, rfl⟩ := hp
        have hP : va_P D vwCl [(h_s, .inl (cI, 335, .inl f_s)), (h_names, .inl (cJ, 36, .inr (.inl f_names))), (h_reserved, .inl (cJ, 23, .inr (.inl f_reserved))), (h_tape, .inl (cB, 940, .inl f_tape)), (h0, .inr (10, vL 67 F471)), (h_read, .inl (cI, 135, .inl g474)), (h_stack, .inl (cI, 45, .inl w102))] H := hP
        have hD : va_D A [(h_s, .inl (cI, 335, .inl f_s)), (h_names, .inl (cJ, 36, .inr (.inl f_names))), (h_reserved, .inl (cJ, 23, .inr (.inl f_reserved))), (h_tape, .inl (cB, 940, .inl f_tape)), (h0, .inr (10, vL 67 F471)), (h_read, .inl (cI, 135, .inl g474)), (h_stack, .inl (cI, 45, .inl w102))] := hD
        refine W.widen (k := 0) (n := 0) (Nat.le_of_ble_eq_true rfl) (Nat.le_of_ble_eq_true rfl) ?_
        refine lv_aload_n hx hb dX10_sentence_76 rfl (lv_at hl 1 rfl) ?_
        refine get_f (D := D) (ci := 10) (v := .int y473) (C := RX10) (T := TX10) (N := 67) hx hb hw inAX10 hown hK hP 4 rfl rfl 60 (by decide) (hw _ q_1321) (fun _ h9 => h9) t478 dX10_sentence_77 ?_
        refine lv_if_le (tgt := 96) hx hb dX10_sentence_80 (by decide) (fun c484 => ?_) (fun c484 => ?_)
        · have dc484 : y473.toInt ≤ 0 := le_i (a := y473.toInt) (b := 0) rfl rfl c484
          have k485 : 0 ≤ y473.toInt ∧ y473.toInt ≤ 0 := ⟨t479.1, Int.le_trans dc484 (Int.le_refl _)⟩
          refine lv_iconst (v := 0) hx hb dX10_sentence_96 (by decide) ?_
          refine lv_istore_n (lv' := [(1, .int 0), (0, .ref h0)]) hx hb dX10_sentence_97 rfl hl (by decide) rfl (fun ls hl => ?_)
          refine lv_goto (tgt := 48) hx hb dX10_sentence_98 (by decide) ?_
          have n486 : F452 4 = .int u104 := (SAME.at t457 (by decide) i149)
          have n487 : F471 4 = .int u104 := (SAME.at t475 (by decide) n486)
          have n488 : F452 11 = .int u105 := (SAME.at t457 (by decide) i150)
          have n489 : F471 11 = .int u105 := (SAME.at t475 (by decide) n488)
          have n490 : F452 12 = .int u106 := (SAME.at t457 (by decide) i151)
          have n491 : F471 12 = .int u106 := (SAME.at t475 (by decide) n490)
          have n492 : F452 13 = .int u107 := (SAME.at t457 (by decide) i152)
          have n493 : F471 13 = .int u107 := (SAME.at t475 (by decide) n492)
          have n494 : F452 14 = .int u108 := (SAME.at t457 (by decide) i153)
          have n495 : F471 14 = .int u108 := (SAME.at t475 (by decide) n494)
          have n496 : F452 15 = .int u109 := (SAME.at t457 (by decide) i154)
          have n497 : F471 15 = .int u109 := (SAME.at t475 (by decide) n496)
          have n498 : F452 16 = .int u110 := (SAME.at t457 (by decide) i155)
          have n499 : F471 16 = .int u110 := (SAME.at t475 (by decide) n498)
          have n500 : F452 18 = .long u111 := (SAME.at t457 (by decide) i156)
          have n501 : F471 18 = .long u111 := (SAME.at t475 (by decide) n500)
          have n502 : F471 59 = .int u113 := (SAME.at t475 (by decide) n468)
          have n503 : F471 61 = .int y455 := (SAME.at t475 (by decide) t462)
          have n504 : F471 62 = .int u116 := (SAME.at t475 (by decide) n469)
          exact ih (0, g474, w102, F471, u104, u105, u106, u107, u108, u109, u110, u111, y472, u113, y473, y455, u116) ⟨(show 0 ≤ (0 : Int32).toInt ∧ (0 : Int32).toInt ≤ 1 by decide), (SAME.tr (SAME.tr (SAME.tr SAME.rf i148 (by decide)) t457 (by decide)) t475 (by decide)), n487, n489, n491, n493, n495, n497, n499, n501, t476, n502, t478, n503, n504, i162, (ir_wk k430 (by decide) (by decide)), t477, i165, (ir_wk k485 (by decide) (by decide)), (ir_wk k353 (by decide) (by decide)), (show SMI g474 w102 y472.toInt y473.toInt u116.toInt from (SMI.w t480 (by omega))), (by show (0 = 0 → y473.toInt = 0 ∧ u116.toInt = 1); omega), (show (VWF u105.toInt u111.toInt) from i170), (by show (u105.toInt = 2 → 0 ≤ u108.toInt ∧ u108.toInt ≤ 999); omega), (by show y473.toInt + y472.toInt + u116.toInt ≤ 2 * u113.toInt; omega)⟩ (by show (3 * (940 - u104.toInt) + min u105.toInt (4 - u105.toInt) + 0).toNat < (3 * (940 - u104.toInt) + min u105.toInt (4 - u105.toInt) + u100.toInt).toNat; omega) _ _ _ (hP.sub [0, 5, 1, 2, 6, 4, 3] rfl) (hD.sub [0, 5, 1, 2, 6, 4, 3] (by decide) rfl) hS (lv_sub hl [0, 1] rfl)
        · have dc484 : 0 < y473.toInt := nle_i (a := y473.toInt) (b := 0) rfl rfl c484
          have k505 : 1 ≤ y473.toInt ∧ y473.toInt ≤ 45 := ⟨lo_lt dc484 (Int.le_refl _) (by decide), t479.2⟩
          refine lv_aload_n hx hb dX10_sentence_83 rfl (lv_at hl 1 rfl) ?_
          refine lv_iconst (v := 1) hx hb dX10_sentence_84 (by decide) ?_
          have n506 : F452 12 = .int u106 := (SAME.at t457 (by decide) i151)
          have n507 : F471 12 = .int u106 := (SAME.at t475 (by decide) n506)
          refine call_Vi (wr := [(h_s, .inl (cI, 335, .inl f_s)), (h_names, .inl (cJ, 36, .inr (.inl f_names))), (h_reserved, .inl (cJ, 23, .inr (.inl f_reserved))), (h_tape, .inl (cB, 940, .inl f_tape)), (h_read, .inl (cI, 135, .inl g474)), (h_stack, .inl (cI, 45, .inl w102))]) (As := [.int 1]) (rest := []) hx hb hml hown hw (m_X10_bad l D cI cJ cB cP cM cZ h0 F471 u106 1 _ n507) wV_X10_205_X10_bad dX10_sentence_85 hK hP hD hS hA [4] [0, 1, 2, 3, 5, 6] rfl rfl (by decide) (by decide) (by decide) 0 10 rfl rfl GG.fb hG.at hl.1 rfl (Nat.le_of_ble_eq_true rfl) ⟨(Nat.le_of_ble_eq_true rfl), (Nat.le_of_ble_eq_true rfl)⟩ ⟨(Nat.le_of_ble_eq_true rfl), (Nat.le_of_ble_eq_true rfl)⟩ (fun r508 u H locs hp hP hD hS => ?_)
          have zl1 : (1 : Int32).toInt = 1 := by decide
          obtain ⟨F509, t510, t511, t512, rfl, rfl⟩ := hp
          have hP : va_P D vwCl [(h_s, .inl (cI, 335, .inl f_s)), (h_names, .inl (cJ, 36, .inr (.inl f_names))), (h_reserved, .inl (cJ, 23, .inr (.inl f_reserved))), (h_tape, .inl (cB, 940, .inl f_tape)), (h_read, .inl (cI, 135, .inl g474)), (h_stack, .inl (cI, 45, .inl w102)), (h0, .inr (10, vL 67 F509))] H := hP
          have hD : va_D A [(h_s, .inl (cI, 335, .inl f_s)), (h_names, .inl (cJ, 36, .inr (.inl f_names))), (h_reserved, .inl (cJ, 23, .inr (.inl f_reserved))), (h_tape, .inl (cB, 940, .inl f_tape)), (h_read, .inl (cI, 135, .inl g474)), (h_stack, .inl (cI, 45, .inl w102)), (h0, .inr (10, vL 67 F509))] := hD
          refine W.widen (k := 0) (n := 0) (Nat.le_of_ble_eq_true rfl) (Nat.le_of_ble_eq_true rfl) ?_
          refine lv_pop hx hb dX10_sentence_88 rfl ?_
          refine lv_iconst (v := (-1)) hx hb dX10_sentence_89 (by decide) ?_
          refine lv_aload_n hx hb dX10_sentence_90 rfl (lv_at hl 1 rfl) ?_
          refine get_f (D := D) (ci := 10) (v := .int u106) (C := RX10) (T := TX10) (N := 67) hx hb hw inAX10 hown hK hP 6 rfl rfl 16 (by decide) (hw _ q_1277) (fun _ h9 => h9) t512 dX10_sentence_91 ?_
          refine lv_isub hx hb dX10_sentence_94 ?_
          refine lv_topi (fun v514 ev514 => ?_)
          have bv514 : v514.toInt = (-1) - u106.toInt := by rw [ev514]; exact sub_k rfl rfl ⟨Int.le_refl _, Int.le_refl _⟩ (ir_any _) (by decide)
          have k515 : (-2147483648) ≤ v514.toInt ∧ v514.toInt ≤ 2147483647 := sub_r bv514 ⟨Int.le_refl _, Int.le_refl _⟩ (ir_any _) (by decide)
          exact ret_i (v := v514) hx hb hr hlocks hS (hP.sub (ws' := [(h0, .inr (10, vL 67 F509)), (h_tape, .inl (cB, 940, .inl f_tape)), (h_s, .inl (cI, 335, .inl f_s)), (h_read, .inl (cI, 135, .inl g474)), (h_names, .inl (cJ, 36, .inr (.inl f_names))), (h_reserved, .inl (cJ, 23, .inr (.inl f_reserved))), (h_stack, .inl (cI, 45, .inl w102))]) [6, 3, 0, 4, 1, 2, 5] rfl) (hD.sub (ws' := [(h0, .inr (10, vL 67 F509)), (h_tape, .inl (cB, 940, .inl f_tape)), (h_s, .inl (cI, 335, .inl f_s)), (h_read, .inl (cI, 135, .inl g474)), (h_names, .inl (cJ, 36, .inr (.inl f_names))), (h_reserved, .inl (cJ, 23, .inr (.inl f_reserved))), (h_stack, .inl (cI, 45, .inl w102))]) [6, 3, 0, 4, 1, 2, 5] (by decide) rfl) dX10_sentence_95 rfl (Nat.le_of_ble_eq_true rfl) (Nat.le_of_ble_eq_true rfl) ⟨F509, u104, u105, u106, u107, u108, 1, u106, u111, y472, u113, y473, y455, u116, f_s, g474, w102, (SAME.tr (SAME.tr (SAME.tr (SAME.tr (SAME.tr (SAME.up eF16 (SAME.up eF15 (SAME.up eF14 (SAME.up eF13 (SAME.up eF12 (SAME.up eF11 (SAME.tr (SAME.up eF1 SAME.rf (by decide)) t5 (by decide)) (by decide)) (by decide)) (by decide)) (by decide)) (by decide)) (by decide)) t83 (by decide)) i148 (by decide)) t457 (by decide)) t475 (by decide)) t510 (by decide)), (SAME.at t510 (by decide) (SAME.at t475 (by decide) (SAME.at t457 (by decide) (SAME.at i148 (by decide) (SAME.at t83 (by decide) (get_ne eF16 (by decide) (get_ne eF15 (by decide) (get_ne eF14 (by decide) (get_ne eF13 (by decide) (get_ne eF12 (by decide) (get_ne eF11 (by decide) (SAME.at t5 (by decide) (get_eq eF1))))))))))))), (SAME.at t510 (by decide) (SAME.at t475 (by decide) (SAME.at t457 (by decide) (SAME.at i148 (by decide) (SAME.at t83 (by decide) (get_ne eF16 (by decide) (get_ne eF15 (by decide) (get_ne eF14 (by decide) (get_ne eF13 (by decide) (get_ne eF12 (by decide) (get_ne eF11 (by decide) t6))))))))))), (SAME.at t510 (by decide) (SAME.at t475 (by decide) (SAME.at t457 (by decide) (SAME.at i148 (by decide) (SAME.at t83 (by decide) n30))))), (SAME.at t510 (by decide) (SAME.at t475 (by decide) (SAME.at t457 (by decide) i149))), i162, (SAME.at t510 (by decide) (SAME.at t475 (by decide) (SAME.at t457 (by decide) (SAME.at i148 (by decide) (SAME.at t83 (by decide) n42))))), (SAME.at t510 (by decide) (SAME.at t475 (by decide) (SAME.at t457 (by decide) i150))), (ir_wk k430 (by decide) (by decide)), (SAME.at t510 (by decide) n507), (SAME.at t510 (by decide) (SAME.at t475 (by decide) (SAME.at t457 (by decide) i152))), (SAME.at t510 (by decide) (SAME.at t475 (by decide) (SAME.at t457 (by decide) i153))), t511, t512, (SAME.at t510 (by decide) (SAME.at t475 (by decide) (SAME.at t457 (by decide) i156))), (SAME.at t510 (by decide) t476), t477, (SAME.at t510 (by decide) (SAME.at t475 (by decide) n468)), i165, (SAME.at t510 (by decide) t478), (ir_wk k505 (by decide) (by decide)), (SAME.at t510 (by decide) (SAME.at t475 (by decide) t462)), (SAME.at t510 (by decide) (SAME.at t475 (by decide) n469)), (ir_wk k353 (by decide) (by decide)), s_s_153, s_s_0, s_s_5, s_s_6, s_s_7, s_s_44, s_s_K0, s_s_105, s_s_114, s_s_130, s_s_139, (by have zl1 : (1 : Int32).toInt = 1 := (by decide); omega), (by have zl1 : (1 : Int32).toInt = 1 := (by decide); omega), rfl⟩
set_option maxHeartbeats 4000000 in
set_option maxRecDepth 100000 in
theorem m_X10_isLeaf (l : Launch) (D : va_G) (cI cJ cB cP cM cZ : ClassId) (h0 : Nat) (h_s : Nat) (h_paceAt : Nat) (h_kindOf : Nat) (Fh : Nat → Value) (x_lineTime : Int32) (x_linePace : Int32) (x_inside : Int32) (x_late : Int32) (x_seed : Int32) (x_kicks : Int32) (f_s : Nat → Int32) (f_paceAt : Nat → Int32) (f_kindOf : Nat → Int32) (p0 : Int32) (p1 : Int32) (p2 : Int32) (p3 : Int32) (sz : Nat) (e_s : Fh 6 = .ref h_s) (e_paceAt : Fh 25 = .ref h_paceAt) (e_kindOf : Fh 26 = .ref h_kindOf) (e_lineTime : Fh 27 = .int x_lineTime) (e_linePace : Fh 28 = .int x_linePace) (e_inside : Fh 29 = .int x_inside) (i_x_inside : IR 0 15 x_inside) (e_late : Fh 30 = .int x_late) (i_x_late : IR 0 15 x_late) (e_seed : Fh 31 = .int x_seed) (e_kicks : Fh 32 = .int x_kicks) (i_x_kicks : IR 0 1 x_kicks) (s_s_K0 : KW 0 f_s) (s_s_0 : SG 0 0 0 40 f_s) (s_s_105 : SG 105 108 0 11 f_s) (s_s_114 : SG 114 114 0 5 f_s) (s_s_130 : SG 130 133 0 11 f_s) (s_s_139 : SG 139 139 0 5 f_s) (s_s_153 : SG 153 153 0 44 f_s) (s_s_44 : SG 44 55 0 9 f_s) (s_s_5 : SG 5 5 0 12 f_s) (s_s_6 : SG 6 6 0 12 f_s) (s_s_7 : SG 7 7 0 6 f_s) (i_p0 : IR 0 11 p0) : CI l yX10_isLeaf cX10_isLeaf 7 (some .boolean) { frames := 4, cells := 0, slots := 0, locals := 94 } (GG D cI cJ cB cP cM cZ) D [(h0, .inr (10, vL 67 Fh)), (h_s, .inl (cI, 335, .inl f_s)), (h_paceAt, .inl (cI, 40, .inl f_paceAt)), (h_kindOf, .inl (cI, 4, .inl f_kindOf))] sz [.ref h0, .int p0, .int p1, .int p2, .int p3] (fun (r : Int32) (u : va_W) => ∃ (Gh : Nat → Value) (y_lineTime : Int32) (y_linePace : Int32) (y_inside : Int32) (y_late : Int32) (y_seed : Int32) (g_paceAt : Nat → Int32) (g_kindOf : Nat → Int32), SAME [27, 28, 29, 30, 31] Fh Gh ∧ Gh 27 = .int y_lineTime ∧ Gh 28 = .int y_linePace ∧ Gh 29 = .int y_inside ∧ IR 0 15 y_inside ∧ Gh 30 = .int y_late ∧ IR 0 15 y_late ∧ Gh 31 = .int y_seed ∧ IR 0 1 r ∧ u = [(h0, .inr (10, vL 67 Gh)), (h_s, .inl (cI, 335, .inl f_s)), (h_paceAt, .inl (cI, 40, .inl g_paceAt)), (h_kindOf, .inl (cI, 4, .inl g_kindOf))]) := by
  refine CI_mk (by decide) (Nat.le_of_ble_eq_true rfl) ?_
  intro p e s m below meth c A ls E hAe hG hsz hP hD hA hS hl
  obtain ⟨hx, hb, hr, hw, hown, hlocks, hml, hnm⟩ := E
  have hK := hG.1
  have i_x_inside : 0 ≤ x_inside.toInt ∧ x_inside.toInt ≤ 15 := i_x_inside
  have i_x_late : 0 ≤ x_late.toInt ∧ x_late.toInt ≤ 15 := i_x_late
  have i_x_kicks : 0 ≤ x_kicks.toInt ∧ x_kicks.toInt ≤ 1 := i_x_kicks
  have i_p0 : 0 ≤ p0.toInt ∧ p0.toInt ≤ 11 := i_p0
  have hl : lv_has ls 7 [(0, .ref h0), (1, .int p0), (2, .int p1), (3, .int p2), (4, .int p3)] := hl
  refine lv_aload_n hx hb dX10_isLeaf_0 rfl (lv_at hl 0 rfl) ?_
  refine lv_iload_n hx hb dX10_isLeaf_1 rfl (lv_at hl 1 rfl) ?_
  refine call_Vi (wr := [(h_paceAt, .inl (cI, 40, .inl f_paceAt)), (h_kindOf, .inl (cI, 4, .inl f_kindOf))]) (As := [.int p0]) (rest := []) hx hb hml hown hw (m_X10_placeOf l D cI cJ cB cP cM cZ h0 h_s Fh f_s p0 _ e_s s_s_K0 s_s_0 s_s_105 s_s_114 s_s_130 s_s_139 s_s_153 s_s_44 s_s_5 s_s_6 s_s_7) wV_X10_288_X10_placeOf dX10_isLeaf_2 hK hP hD hS hA [0, 1] [2, 3] rfl rfl (by decide) (by decide) (by decide) 0 10 rfl rfl GG.fb hG.at hl.1 rfl (Nat.le_of_ble_eq_true rfl) ⟨(Nat.le_of_ble_eq_true rfl), (Nat.le_of_ble_eq_true rfl)⟩ ⟨(Nat.le_of_ble_eq_true rfl), (Nat.le_of_ble_eq_true rfl)⟩ (fun r1 u H locs hp hP hD hS => ?_)
  obtain ⟨t2, rfl⟩ := hp
  have hP : va_P D vwCl [(h_paceAt, .inl (cI, 40, .inl f_paceAt)), (h_kindOf, .inl (cI, 4, .inl f_kindOf)), (h0, .inr (10, vL 67 Fh)), (h_s, .inl (cI, 335, .inl f_s))] H := hP
  have hD : va_D A [(h_paceAt, .inl (cI, 40, .inl f_paceAt)), (h_kindOf, .inl (cI, 4, .inl f_kindOf)), (h0, .inr (10, vL 67 Fh)), (h_s, .inl (cI, 335, .inl f_s))] := hD
  refine W.widen (k := 0) (n := 0) (Nat.le_of_ble_eq_true rfl) (Nat.le_of_ble_eq_true rfl) ?_
  refine lv_istore (lv' := [(5, .int r1), (0, .ref h0), (1, .int p0), (2, .int p1), (3, .int p2), (4, .int p3)]) hx hb dX10_isLeaf_5 hl (by decide) rfl (fun ls hl => ?_)
  refine lv_iload_n hx hb dX10_isLeaf_7 rfl (lv_at hl 3 rfl) ?_
  refine lv_if_ne (tgt := 22) hx hb dX10_isLeaf_8 (by decide) (fun c4 => ?_) (fun c4 => ?_)
  · have dc4 : p1.toInt ≠ 0 := ne_i (a := p1.toInt) (b := 0) rfl rfl c4
    refine lv_iload_n hx hb dX10_isLeaf_22 rfl (lv_at hl 3 rfl) ?_
    refine lv_iconst (v := 1) hx hb dX10_isLeaf_23 (by decide) ?_
    refine lv_icmp_ne (tgt := 48) hx hb dX10_isLeaf_24 (by decide) (fun c5 => ?_) (fun c5 => ?_)
    · have dc5 : p1.toInt ≠ 1 := ne_i (a := p1.toInt) (b := 1) rfl rfl c5
      refine lv_iload_n hx hb dX10_isLeaf_48 rfl (lv_at hl 3 rfl) ?_
      refine lv_iconst (v := 2) hx hb dX10_isLeaf_49 (by decide) ?_
      refine lv_icmp_ne (tgt := 100) hx hb dX10_isLeaf_50 (by decide) (fun c6 => ?_) (fun c6 => ?_)
      · have dc6 : p1.toInt ≠ 2 := ne_i (a := p1.toInt) (b := 2) rfl rfl c6
        refine lv_iload_n hx hb dX10_isLeaf_100 rfl (lv_at hl 3 rfl) ?_
        refine lv_iconst (v := 3) hx hb dX10_isLeaf_101 (by decide) ?_
        refine lv_icmp_ne (tgt := 117) hx hb dX10_isLeaf_102 (by decide) (fun c7 => ?_) (fun c7 => ?_)
        · have dc7 : p1.toInt ≠ 3 := ne_i (a := p1.toInt) (b := 3) rfl rfl c7
          refine lv_iload_n hx hb dX10_isLeaf_117 rfl (lv_at hl 3 rfl) ?_
          refine lv_iconst (v := 4) hx hb dX10_isLeaf_118 (by decide) ?_
          refine lv_icmp_ne (tgt := 134) hx hb dX10_isLeaf_119 (by decide) (fun c8 => ?_) (fun c8 => ?_)
          · have dc8 : p1.toInt ≠ 4 := ne_i (a := p1.toInt) (b := 4) rfl rfl c8
            refine lv_iload_n hx hb dX10_isLeaf_134 rfl (lv_at hl 3 rfl) ?_
            refine lv_iconst (v := 5) hx hb dX10_isLeaf_135 (by decide) ?_
            refine lv_icmp_ne (tgt := 151) hx hb dX10_isLeaf_136 (by decide) (fun c9 => ?_) (fun c9 => ?_)
            · have dc9 : p1.toInt ≠ 5 := ne_i (a := p1.toInt) (b := 5) rfl rfl c9
              refine lv_iload_n hx hb dX10_isLeaf_151 rfl (lv_at hl 2 rfl) ?_
              refine lv_istore (lv' := [(6, .int p0), (5, .int r1), (0, .ref h0), (1, .int p0), (2, .int p1), (3, .int p2), (4, .int p3)]) hx hb dX10_isLeaf_152 hl (by decide) rfl (fun ls hl => ?_)
              refine lv_iload_n hx hb dX10_isLeaf_154 rfl (lv_at hl 5 rfl) ?_
              refine lv_bipush (v := 60) hx hb dX10_isLeaf_155 (by decide) ?_
              refine lv_icmp_ne (tgt := 175) hx hb dX10_isLeaf_157 (by decide) (fun c10 => ?_) (fun c10 => ?_)
              · have dc10 : p2.toInt ≠ 60 := ne_i (a := p2.toInt) (b := 60) rfl rfl c10
                refine lv_iload_n hx hb dX10_isLeaf_175 rfl (lv_at hl 5 rfl) ?_
                refine lv_bipush (v := 61) hx hb dX10_isLeaf_176 (by decide) ?_
                refine lv_icmp_ne (tgt := 196) hx hb dX10_isLeaf_178 (by decide) (fun c11 => ?_) (fun c11 => ?_)
                · have dc11 : p2.toInt ≠ 61 := ne_i (a := p2.toInt) (b := 61) rfl rfl c11
                  refine lv_iload hx hb dX10_isLeaf_196 (lv_at hl 0 rfl) ?_
                  refine lv_iload hx hb dX10_isLeaf_198 (lv_at hl 6 rfl) ?_
                  refine lv_icmp_le (tgt := 207) hx hb dX10_isLeaf_200 (by decide) (fun c12 => ?_) (fun c12 => ?_)
                  · have dc12 : p0.toInt ≤ p3.toInt := le_i (a := p0.toInt) (b := p3.toInt) rfl rfl c12
                    have k13 : 0 ≤ p3.toInt ∧ p3.toInt ≤ 2147483647 := ⟨Int.le_trans i_p0.1 dc12, (ir_any _).2⟩
                    refine lv_iconst (v := 0) hx hb dX10_isLeaf_207 (by decide) ?_
                    exact ret_i (v := 0) hx hb hr hlocks hS (hP.sub (ws' := [(h0, .inr (10, vL 67 Fh)), (h_s, .inl (cI, 335, .inl f_s)), (h_paceAt, .inl (cI, 40, .inl f_paceAt)), (h_kindOf, .inl (cI, 4, .inl f_kindOf))]) [2, 3, 0, 1] rfl) (hD.sub (ws' := [(h0, .inr (10, vL 67 Fh)), (h_s, .inl (cI, 335, .inl f_s)), (h_paceAt, .inl (cI, 40, .inl f_paceAt)), (h_kindOf, .inl (cI, 4, .inl f_kindOf))]) [2, 3, 0, 1] (by decide) rfl) dX10_isLeaf_208 rfl (Nat.le_of_ble_eq_true rfl) (Nat.le_of_ble_eq_true rfl) ⟨Fh, x_lineTime, x_linePace, x_inside, x_late, x_seed, f_paceAt, f_kindOf, SAME.rf, e_lineTime, e_linePace, e_inside, i_x_inside, e_late, i_x_late, e_seed, (show 0 ≤ (0 : Int32).toInt ∧ (0 : Int32).toInt ≤ 1 by decide), rfl⟩
                  · have dc12 : p3.toInt < p0.toInt := nle_i (a := p0.toInt) (b := p3.toInt) rfl rfl c12
                    have k14 : (-2147483648) ≤ p3.toInt ∧ p3.toInt ≤ 10 := ⟨(ir_any _).1, up_lt dc12 i_p0.2 (by decide)⟩
                    refine lv_iconst (v := 1) hx hb dX10_isLeaf_203 (by decide) ?_
                    refine lv_goto (tgt := 208) hx hb dX10_isLeaf_204 (by decide) ?_
                    exact ret_i (v := 1) hx hb hr hlocks hS (hP.sub (ws' := [(h0, .inr (10, vL 67 Fh)), (h_s, .inl (cI, 335, .inl f_s)), (h_paceAt, .inl (cI, 40, .inl f_paceAt)), (h_kindOf, .inl (cI, 4, .inl f_kindOf))]) [2, 3, 0, 1] rfl) (hD.sub (ws' := [(h0, .inr (10, vL 67 Fh)), (h_s, .inl (cI, 335, .inl f_s)), (h_paceAt, .inl (cI, 40, .inl f_paceAt)), (h_kindOf, .inl (cI, 4, .inl f_kindOf))]) [2, 3, 0, 1] (by decide) rfl) dX10_isLeaf_208 rfl (Nat.le_of_ble_eq_true rfl) (Nat.le_of_ble_eq_true rfl) ⟨Fh, x_lineTime, x_linePace, x_inside, x_late, x_seed, f_paceAt, f_kindOf, SAME.rf, e_lineTime, e_linePace, e_inside, i_x_inside, e_late, i_x_late, e_seed, (show 0 ≤ (1 : Int32).toInt ∧ (1 : Int32).toInt ≤ 1 by decide), rfl⟩
                · have dc11 : p2.toInt = 61 := eq_i (a := p2.toInt) (b := 61) rfl rfl c11
                  have k15 : 61 ≤ p2.toInt ∧ p2.toInt ≤ 61 := ⟨Int.le_trans (Int.le_refl _) (Int.le_of_eq dc11.symm), Int.le_trans (Int.le_of_eq dc11) (Int.le_refl _)⟩
                  refine lv_iload hx hb dX10_isLeaf_181 (lv_at hl 0 rfl) ?_
                  refine lv_iload hx hb dX10_isLeaf_183 (lv_at hl 6 rfl) ?_
                  refine lv_icmp_ne (tgt := 192) hx hb dX10_isLeaf_185 (by decide) (fun c16 => ?_) (fun c16 => ?_)
                  · have dc16 : p0.toInt ≠ p3.toInt := ne_i (a := p0.toInt) (b := p3.toInt) rfl rfl c16
                    refine lv_iconst (v := 0) hx hb dX10_isLeaf_192 (by decide) ?_
                    refine lv_goto (tgt := 208) hx hb dX10_isLeaf_193 (by decide) ?_
                    exact ret_i (v := 0) hx hb hr hlocks hS (hP.sub (ws' := [(h0, .inr (10, vL 67 Fh)), (h_s, .inl (cI, 335, .inl f_s)), (h_paceAt, .inl (cI, 40, .inl f_paceAt)), (h_kindOf, .inl (cI, 4, .inl f_kindOf))]) [2, 3, 0, 1] rfl) (hD.sub (ws' := [(h0, .inr (10, vL 67 Fh)), (h_s, .inl (cI, 335, .inl f_s)), (h_paceAt, .inl (cI, 40, .inl f_paceAt)), (h_kindOf, .inl (cI, 4, .inl f_kindOf))]) [2, 3, 0, 1] (by decide) rfl) dX10_isLeaf_208 rfl (Nat.le_of_ble_eq_true rfl) (Nat.le_of_ble_eq_true rfl) ⟨Fh, x_lineTime, x_linePace, x_inside, x_late, x_seed, f_paceAt, f_kindOf, SAME.rf, e_lineTime, e_linePace, e_inside, i_x_inside, e_late, i_x_late, e_seed, (show 0 ≤ (0 : Int32).toInt ∧ (0 : Int32).toInt ≤ 1 by decide), rfl⟩
                  · have dc16 : p0.toInt = p3.toInt := eq_i (a := p0.toInt) (b := p3.toInt) rfl rfl c16
                    have k17 : 0 ≤ p3.toInt ∧ p3.toInt ≤ 11 := ⟨Int.le_trans i_p0.1 (Int.le_of_eq dc16), Int.le_trans (Int.le_of_eq dc16.symm) i_p0.2⟩
                    refine lv_iconst (v := 1) hx hb dX10_isLeaf_188 (by decide) ?_
                    refine lv_goto (tgt := 208) hx hb dX10_isLeaf_189 (by decide) ?_
                    exact ret_i (v := 1) hx hb hr hlocks hS (hP.sub (ws' := [(h0, .inr (10, vL 67 Fh)), (h_s, .inl (cI, 335, .inl f_s)), (h_paceAt, .inl (cI, 40, .inl f_paceAt)), (h_kindOf, .inl (cI, 4, .inl f_kindOf))]) [2, 3, 0, 1] rfl) (hD.sub (ws' := [(h0, .inr (10, vL 67 Fh)), (h_s, .inl (cI, 335, .inl f_s)), (h_paceAt, .inl (cI, 40, .inl f_paceAt)), (h_kindOf, .inl (cI, 4, .inl f_kindOf))]) [2, 3, 0, 1] (by decide) rfl) dX10_isLeaf_208 rfl (Nat.le_of_ble_eq_true rfl) (Nat.le_of_ble_eq_true rfl) ⟨Fh, x_lineTime, x_linePace, x_inside, x_late, x_seed, f_paceAt, f_kindOf, SAME.rf, e_lineTime, e_linePace, e_inside, i_x_inside, e_late, i_x_late, e_seed, (show 0 ≤ (1 : Int32).toInt ∧ (1 : Int32).toInt ≤ 1 by decide), rfl⟩
              · have dc10 : p2.toInt = 60 := eq_i (a := p2.toInt) (b := 60) rfl rfl c10
                have k18 : 60 ≤ p2.toInt ∧ p2.toInt ≤ 60 := ⟨Int.le_trans (Int.le_refl _) (Int.le_of_eq dc10.symm), Int.le_trans (Int.le_of_eq dc10) (Int.le_refl _)⟩
                refine lv_iload hx hb dX10_isLeaf_160 (lv_at hl 0 rfl) ?_
                refine lv_iload hx hb dX10_isLeaf_162 (lv_at hl 6 rfl) ?_
                refine lv_icmp_ge (tgt := 171) hx hb dX10_isLeaf_164 (by decide) (fun c19 => ?_) (fun c19 => ?_)
                · have dc19 : p3.toInt ≤ p0.toInt := le_i (a := p3.toInt) (b := p0.toInt) rfl rfl c19
                  have k20 : (-2147483648) ≤ p3.toInt ∧ p3.toInt ≤ 11 := ⟨(ir_any _).1, Int.le_trans dc19 i_p0.2⟩
                  refine lv_iconst (v := 0) hx hb dX10_isLeaf_171 (by decide) ?_
                  refine lv_goto (tgt := 208) hx hb dX10_isLeaf_172 (by decide) ?_
                  exact ret_i (v := 0) hx hb hr hlocks hS (hP.sub (ws' := [(h0, .inr (10, vL 67 Fh)), (h_s, .inl (cI, 335, .inl f_s)), (h_paceAt, .inl (cI, 40, .inl f_paceAt)), (h_kindOf, .inl (cI, 4, .inl f_kindOf))]) [2, 3, 0, 1] rfl) (hD.sub (ws' := [(h0, .inr (10, vL 67 Fh)), (h_s, .inl (cI, 335, .inl f_s)), (h_paceAt, .inl (cI, 40, .inl f_paceAt)), (h_kindOf, .inl (cI, 4, .inl f_kindOf))]) [2, 3, 0, 1] (by decide) rfl) dX10_isLeaf_208 rfl (Nat.le_of_ble_eq_true rfl) (Nat.le_of_ble_eq_true rfl) ⟨Fh, x_lineTime, x_linePace, x_inside, x_late, x_seed, f_paceAt, f_kindOf, SAME.rf, e_lineTime, e_linePace, e_inside, i_x_inside, e_late, i_x_late, e_seed, (show 0 ≤ (0 : Int32).toInt ∧ (0 : Int32).toInt ≤ 1 by decide), rfl⟩
                · have dc19 : p0.toInt < p3.toInt := nle_i (a := p3.toInt) (b := p0.toInt) rfl rfl c19
                  have k21 : 1 ≤ p3.toInt ∧ p3.toInt ≤ 2147483647 := ⟨lo_lt dc19 i_p0.1 (by decide), (ir_any _).2⟩
                  refine lv_iconst (v := 1) hx hb dX10_isLeaf_167 (by decide) ?_
                  refine lv_goto (tgt := 208) hx hb dX10_isLeaf_168 (by decide) ?_
                  exact ret_i (v := 1) hx hb hr hlocks hS (hP.sub (ws' := [(h0, .inr (10, vL 67 Fh)), (h_s, .inl (cI, 335, .inl f_s)), (h_paceAt, .inl (cI, 40, .inl f_paceAt)), (h_kindOf, .inl (cI, 4, .inl f_kindOf))]) [2, 3, 0, 1] rfl) (hD.sub (ws' := [(h0, .inr (10, vL 67 Fh)), (h_s, .inl (cI, 335, .inl f_s)), (h_paceAt, .inl (cI, 40, .inl f_paceAt)), (h_kindOf, .inl (cI, 4, .inl f_kindOf))]) [2, 3, 0, 1] (by decide) rfl) dX10_isLeaf_208 rfl (Nat.le_of_ble_eq_true rfl) (Nat.le_of_ble_eq_true rfl) ⟨Fh, x_lineTime, x_linePace, x_inside, x_late, x_seed, f_paceAt, f_kindOf, SAME.rf, e_lineTime, e_linePace, e_inside, i_x_inside, e_late, i_x_late, e_seed, (show 0 ≤ (1 : Int32).toInt ∧ (1 : Int32).toInt ≤ 1 by decide), rfl⟩
            · have dc9 : p1.toInt = 5 := eq_i (a := p1.toInt) (b := 5) rfl rfl c9
              have k22 : 5 ≤ p1.toInt ∧ p1.toInt ≤ 5 := ⟨Int.le_trans (Int.le_refl _) (Int.le_of_eq dc9.symm), Int.le_trans (Int.le_of_eq dc9) (Int.le_refl _)⟩
              refine lv_aload_n hx hb dX10_isLeaf_139 rfl (lv_at hl 1 rfl) ?_
              refine get_f (D := D) (ci := 10) (v := .ref h_s) (C := RX10) (T := TX10) (N := 67) hx hb hw inAX10 hown hK hP 2 rfl rfl 6 (by decide) (hw _ q_1267) (fun _ h9 => h9) e_s dX10_isLeaf_140 ?_
              refine lv_bipush (v := 32) hx hb dX10_isLeaf_143 (by decide) ?_
              refine lv_iload_n hx hb dX10_isLeaf_145 rfl (lv_at hl 2 rfl) ?_
              refine lv_iadd hx hb dX10_isLeaf_146 ?_
              refine lv_topi (fun v23 ev23 => ?_)
              have bv23 : v23.toInt = 32 + p0.toInt := by rw [ev23]; exact add_k rfl rfl ⟨Int.le_refl _, Int.le_refl _⟩ i_p0 (by decide)
              have k24 : 32 ≤ v23.toInt ∧ v23.toInt ≤ 43 := add_r bv23 ⟨Int.le_refl _, Int.le_refl _⟩ i_p0 (by decide)
              refine va_iald hx hb hK hP 3 0 rfl rfl (ix_k k24 (by decide) (by decide)) dX10_isLeaf_147 ?_
              refine lv_topi (fun v25 ev25 => ?_)
              refine lv_goto (tgt := 152) hx hb dX10_isLeaf_148 (by decide) ?_
              refine lv_istore (lv' := [(6, .int v25), (5, .int r1), (0, .ref h0), (1, .int p0), (2, .int p1), (3, .int p2), (4, .int p3)]) hx hb dX10_isLeaf_152 hl (by decide) rfl (fun ls hl => ?_)
              refine lv_iload_n hx hb dX10_isLeaf_154 rfl (lv_at hl 5 rfl) ?_
              refine lv_bipush (v := 60) hx hb dX10_isLeaf_155 (by decide) ?_
              refine lv_icmp_ne (tgt := 175) hx hb dX10_isLeaf_157 (by decide) (fun c26 => ?_) (fun c26 => ?_)
              · have dc26 : p2.toInt ≠ 60 := ne_i (a := p2.toInt) (b := 60) rfl rfl c26
                refine lv_iload_n hx hb dX10_isLeaf_175 rfl (lv_at hl 5 rfl) ?_
                refine lv_bipush (v := 61) hx hb dX10_isLeaf_176 (by decide) ?_
                refine lv_icmp_ne (tgt := 196) hx hb dX10_isLeaf_178 (by decide) (fun c27 => ?_) (fun c27 => ?_)
                · have dc27 : p2.toInt ≠ 61 := ne_i (a := p2.toInt) (b := 61) rfl rfl c27
                  refine lv_iload hx hb dX10_isLeaf_196 (lv_at hl 0 rfl) ?_
                  refine lv_iload hx hb dX10_isLeaf_198 (lv_at hl 6 rfl) ?_
                  refine lv_icmp_le (tgt := 207) hx hb dX10_isLeaf_200 (by decide) (fun c28 => ?_) (fun c28 => ?_)
                  · have dc28 : v25.toInt ≤ p3.toInt := le_i (a := v25.toInt) (b := p3.toInt) rfl rfl c28
                    refine lv_iconst (v := 0) hx hb dX10_isLeaf_207 (by decide) ?_
                    exact ret_i (v := 0) hx hb hr hlocks hS (hP.sub (ws' := [(h0, .inr (10, vL 67 Fh)), (h_s, .inl (cI, 335, .inl f_s)), (h_paceAt, .inl (cI, 40, .inl f_paceAt)), (h_kindOf, .inl (cI, 4, .inl f_kindOf))]) [2, 3, 0, 1] rfl) (hD.sub (ws' := [(h0, .inr (10, vL 67 Fh)), (h_s, .inl (cI, 335, .inl f_s)), (h_paceAt, .inl (cI, 40, .inl f_paceAt)), (h_kindOf, .inl (cI, 4, .inl f_kindOf))]) [2, 3, 0, 1] (by decide) rfl) dX10_isLeaf_208 rfl (Nat.le_of_ble_eq_true rfl) (Nat.le_of_ble_eq_true rfl) ⟨Fh, x_lineTime, x_linePace, x_inside, x_late, x_seed, f_paceAt, f_kindOf, SAME.rf, e_lineTime, e_linePace, e_inside, i_x_inside, e_late, i_x_late, e_seed, (show 0 ≤ (0 : Int32).toInt ∧ (0 : Int32).toInt ≤ 1 by decide), rfl⟩
                  · have dc28 : p3.toInt < v25.toInt := nle_i (a := v25.toInt) (b := p3.toInt) rfl rfl c28
                    have k29 : (-2147483648) ≤ p3.toInt ∧ p3.toInt ≤ 2147483646 := ⟨(ir_any _).1, up_lt dc28 (ir_any _).2 (by decide)⟩
                    have k30 : (-2147483647) ≤ v25.toInt ∧ v25.toInt ≤ 2147483647 := ⟨lo_lt dc28 (ir_any _).1 (by decide), (ir_any _).2⟩
                    refine lv_iconst (v := 1) hx hb dX10_isLeaf_203 (by decide) ?_
                    refine lv_goto (tgt := 208) hx hb dX10_isLeaf_204 (by decide) ?_
                    exact ret_i (v := 1) hx hb hr hlocks hS (hP.sub (ws' := [(h0, .inr (10, vL 67 Fh)), (h_s, .inl (cI, 335, .inl f_s)), (h_paceAt, .inl (cI, 40, .inl f_paceAt)), (h_kindOf, .inl (cI, 4, .inl f_kindOf))]) [2, 3, 0, 1] rfl) (hD.sub (ws' := [(h0, .inr (10, vL 67 Fh)), (h_s, .inl (cI, 335, .inl f_s)), (h_paceAt, .inl (cI, 40, .inl f_paceAt)), (h_kindOf, .inl (cI, 4, .inl f_kindOf))]) [2, 3, 0, 1] (by decide) rfl) dX10_isLeaf_208 rfl (Nat.le_of_ble_eq_true rfl) (Nat.le_of_ble_eq_true rfl) ⟨Fh, x_lineTime, x_linePace, x_inside, x_late, x_seed, f_paceAt, f_kindOf, SAME.rf, e_lineTime, e_linePace, e_inside, i_x_inside, e_late, i_x_late, e_seed, (show 0 ≤ (1 : Int32).toInt ∧ (1 : Int32).toInt ≤ 1 by decide), rfl⟩
                · have dc27 : p2.toInt = 61 := eq_i (a := p2.toInt) (b := 61) rfl rfl c27
                  have k31 : 61 ≤ p2.toInt ∧ p2.toInt ≤ 61 := ⟨Int.le_trans (Int.le_refl _) (Int.le_of_eq dc27.symm), Int.le_trans (Int.le_of_eq dc27) (Int.le_refl _)⟩
                  refine lv_iload hx hb dX10_isLeaf_181 (lv_at hl 0 rfl) ?_
                  refine lv_iload hx hb dX10_isLeaf_183 (lv_at hl 6 rfl) ?_
                  refine lv_icmp_ne (tgt := 192) hx hb dX10_isLeaf_185 (by decide) (fun c32 => ?_) (fun c32 => ?_)
                  · have dc32 : v25.toInt ≠ p3.toInt := ne_i (a := v25.toInt) (b := p3.toInt) rfl rfl c32
                    refine lv_iconst (v := 0) hx hb dX10_isLeaf_192 (by decide) ?_
                    refine lv_goto (tgt := 208) hx hb dX10_isLeaf_193 (by decide) ?_
                    exact ret_i (v := 0) hx hb hr hlocks hS (hP.sub (ws' := [(h0, .inr (10, vL 67 Fh)), (h_s, .inl (cI, 335, .inl f_s)), (h_paceAt, .inl (cI, 40, .inl f_paceAt)), (h_kindOf, .inl (cI, 4, .inl f_kindOf))]) [2, 3, 0, 1] rfl) (hD.sub (ws' := [(h0, .inr (10, vL 67 Fh)), (h_s, .inl (cI, 335, .inl f_s)), (h_paceAt, .inl (cI, 40, .inl f_paceAt)), (h_kindOf, .inl (cI, 4, .inl f_kindOf))]) [2, 3, 0, 1] (by decide) rfl) dX10_isLeaf_208 rfl (Nat.le_of_ble_eq_true rfl) (Nat.le_of_ble_eq_true rfl) ⟨Fh, x_lineTime, x_linePace, x_inside, x_late, x_seed, f_paceAt, f_kindOf, SAME.rf, e_lineTime, e_linePace, e_inside, i_x_inside, e_late, i_x_late, e_seed, (show 0 ≤ (0 : Int32).toInt ∧ (0 : Int32).toInt ≤ 1 by decide), rfl⟩
                  · have dc32 : v25.toInt = p3.toInt := eq_i (a := v25.toInt) (b := p3.toInt) rfl rfl c32
                    refine lv_iconst (v := 1) hx hb dX10_isLeaf_188 (by decide) ?_
                    refine lv_goto (tgt := 208) hx hb dX10_isLeaf_189 (by decide) ?_
                    exact ret_i (v := 1) hx hb hr hlocks hS (hP.sub (ws' := [(h0, .inr (10, vL 67 Fh)), (h_s, .inl (cI, 335, .inl f_s)), (h_paceAt, .inl (cI, 40, .inl f_paceAt)), (h_kindOf, .inl (cI, 4, .inl f_kindOf))]) [2, 3, 0, 1] rfl) (hD.sub (ws' := [(h0, .inr (10, vL 67 Fh)), (h_s, .inl (cI, 335, .inl f_s)), (h_paceAt, .inl (cI, 40, .inl f_paceAt)), (h_kindOf, .inl (cI, 4, .inl f_kindOf))]) [2, 3, 0, 1] (by decide) rfl) dX10_isLeaf_208 rfl (Nat.le_of_ble_eq_true rfl) (Nat.le_of_ble_eq_true rfl) ⟨Fh, x_lineTime, x_linePace, x_inside, x_late, x_seed, f_paceAt, f_kindOf, SAME.rf, e_lineTime, e_linePace, e_inside, i_x_inside, e_late, i_x_late, e_seed, (show 0 ≤ (1 : Int32).toInt ∧ (1 : Int32).toInt ≤ 1 by decide), rfl⟩
              · have dc26 : p2.toInt = 60 := eq_i (a := p2.toInt) (b := 60) rfl rfl c26
                have k33 : 60 ≤ p2.toInt ∧ p2.toInt ≤ 60 := ⟨Int.le_trans (Int.le_refl _) (Int.le_of_eq dc26.symm), Int.le_trans (Int.le_of_eq dc26) (Int.le_refl _)⟩
                refine lv_iload hx hb dX10_isLeaf_160 (lv_at hl 0 rfl) ?_
                refine lv_iload hx hb dX10_isLeaf_162 (lv_at hl 6 rfl) ?_
                refine lv_icmp_ge (tgt := 171) hx hb dX10_isLeaf_164 (by decide) (fun c34 => ?_) (fun c34 => ?_)
                · have dc34 : p3.toInt ≤ v25.toInt := le_i (a := p3.toInt) (b := v25.toInt) rfl rfl c34
                  refine lv_iconst (v := 0) hx hb dX10_isLeaf_171 (by decide) ?_
                  refine lv_goto (tgt := 208) hx hb dX10_isLeaf_172 (by decide) ?_
                  exact ret_i (v := 0) hx hb hr hlocks hS (hP.sub (ws' := [(h0, .inr (10, vL 67 Fh)), (h_s, .inl (cI, 335, .inl f_s)), (h_paceAt, .inl (cI, 40, .inl f_paceAt)), (h_kindOf, .inl (cI, 4, .inl f_kindOf))]) [2, 3, 0, 1] rfl) (hD.sub (ws' := [(h0, .inr (10, vL 67 Fh)), (h_s, .inl (cI, 335, .inl f_s)), (h_paceAt, .inl (cI, 40, .inl f_paceAt)), (h_kindOf, .inl (cI, 4, .inl f_kindOf))]) [2, 3, 0, 1] (by decide) rfl) dX10_isLeaf_208 rfl (Nat.le_of_ble_eq_true rfl) (Nat.le_of_ble_eq_true rfl) ⟨Fh, x_lineTime, x_linePace, x_inside, x_late, x_seed, f_paceAt, f_kindOf, SAME.rf, e_lineTime, e_linePace, e_inside, i_x_inside, e_late, i_x_late, e_seed, (show 0 ≤ (0 : Int32).toInt ∧ (0 : Int32).toInt ≤ 1 by decide), rfl⟩
                · have dc34 : v25.toInt < p3.toInt := nle_i (a := p3.toInt) (b := v25.toInt) rfl rfl c34
                  have k35 : (-2147483648) ≤ v25.toInt ∧ v25.toInt ≤ 2147483646 := ⟨(ir_any _).1, up_lt dc34 (ir_any _).2 (by decide)⟩
                  have k36 : (-2147483647) ≤ p3.toInt ∧ p3.toInt ≤ 2147483647 := ⟨lo_lt dc34 (ir_any _).1 (by decide), (ir_any _).2⟩
                  refine lv_iconst (v := 1) hx hb dX10_isLeaf_167 (by decide) ?_
                  refine lv_goto (tgt := 208) hx hb dX10_isLeaf_168 (by decide) ?_
                  exact ret_i (v := 1) hx hb hr hlocks hS (hP.sub (ws' := [(h0, .inr (10, vL 67 Fh)), (h_s, .inl (cI, 335, .inl f_s)), (h_paceAt, .inl (cI, 40, .inl f_paceAt)), (h_kindOf, .inl (cI, 4, .inl f_kindOf))]) [2, 3, 0, 1] rfl) (hD.sub (ws' := [(h0, .inr (10, vL 67 Fh)), (h_s, .inl (cI, 335, .inl f_s)), (h_paceAt, .inl (cI, 40, .inl f_paceAt)), (h_kindOf, .inl (cI, 4, .inl f_kindOf))]) [2, 3, 0, 1] (by decide) rfl) dX10_isLeaf_208 rfl (Nat.le_of_ble_eq_true rfl) (Nat.le_of_ble_eq_true rfl) ⟨Fh, x_lineTime, x_linePace, x_inside, x_late, x_seed, f_paceAt, f_kindOf, SAME.rf, e_lineTime, e_linePace, e_inside, i_x_inside, e_late, i_x_late, e_seed, (show 0 ≤ (1 : Int32).toInt ∧ (1 : Int32).toInt ≤ 1 by decide), rfl⟩
          · have dc8 : p1.toInt = 4 := eq_i (a := p1.toInt) (b := 4) rfl rfl c8
            have k37 : 4 ≤ p1.toInt ∧ p1.toInt ≤ 4 := ⟨Int.le_trans (Int.le_refl _) (Int.le_of_eq dc8.symm), Int.le_trans (Int.le_of_eq dc8) (Int.le_refl _)⟩
            refine lv_aload_n hx hb dX10_isLeaf_122 rfl (lv_at hl 1 rfl) ?_
            refine get_f (D := D) (ci := 10) (v := .ref h_s) (C := RX10) (T := TX10) (N := 67) hx hb hw inAX10 hown hK hP 2 rfl rfl 6 (by decide) (hw _ q_1267) (fun _ h9 => h9) e_s dX10_isLeaf_123 ?_
            refine lv_bipush (v := 20) hx hb dX10_isLeaf_126 (by decide) ?_
            refine lv_iload_n hx hb dX10_isLeaf_128 rfl (lv_at hl 2 rfl) ?_
            refine lv_iadd hx hb dX10_isLeaf_129 ?_
            refine lv_topi (fun v38 ev38 => ?_)
            have bv38 : v38.toInt = 20 + p0.toInt := by rw [ev38]; exact add_k rfl rfl ⟨Int.le_refl _, Int.le_refl _⟩ i_p0 (by decide)
            have k39 : 20 ≤ v38.toInt ∧ v38.toInt ≤ 31 := add_r bv38 ⟨Int.le_refl _, Int.le_refl _⟩ i_p0 (by decide)
            refine va_iald hx hb hK hP 3 0 rfl rfl (ix_k k39 (by decide) (by decide)) dX10_isLeaf_130 ?_
            refine lv_topi (fun v40 ev40 => ?_)
            refine lv_goto (tgt := 152) hx hb dX10_isLeaf_131 (by decide) ?_
            refine lv_istore (lv' := [(6, .int v40), (5, .int r1), (0, .ref h0), (1, .int p0), (2, .int p1), (3, .int p2), (4, .int p3)]) hx hb dX10_isLeaf_152 hl (by decide) rfl (fun ls hl => ?_)
            refine lv_iload_n hx hb dX10_isLeaf_154 rfl (lv_at hl 5 rfl) ?_
            refine lv_bipush (v := 60) hx hb dX10_isLeaf_155 (by decide) ?_
            refine lv_icmp_ne (tgt := 175) hx hb dX10_isLeaf_157 (by decide) (fun c41 => ?_) (fun c41 => ?_)
            · have dc41 : p2.toInt ≠ 60 := ne_i (a := p2.toInt) (b := 60) rfl rfl c41
              refine lv_iload_n hx hb dX10_isLeaf_175 rfl (lv_at hl 5 rfl) ?_
              refine lv_bipush (v := 61) hx hb dX10_isLeaf_176 (by decide) ?_
              refine lv_icmp_ne (tgt := 196) hx hb dX10_isLeaf_178 (by decide) (fun c42 => ?_) (fun c42 => ?_)
              · have dc42 : p2.toInt ≠ 61 := ne_i (a := p2.toInt) (b := 61) rfl rfl c42
                refine lv_iload hx hb dX10_isLeaf_196 (lv_at hl 0 rfl) ?_
                refine lv_iload hx hb dX10_isLeaf_198 (lv_at hl 6 rfl) ?_
                refine lv_icmp_le (tgt := 207) hx hb dX10_isLeaf_200 (by decide) (fun c43 => ?_) (fun c43 => ?_)
                · have dc43 : v40.toInt ≤ p3.toInt := le_i (a := v40.toInt) (b := p3.toInt) rfl rfl c43
                  refine lv_iconst (v := 0) hx hb dX10_isLeaf_207 (by decide) ?_
                  exact ret_i (v := 0) hx hb hr hlocks hS (hP.sub (ws' := [(h0, .inr (10, vL 67 Fh)), (h_s, .inl (cI, 335, .inl f_s)), (h_paceAt, .inl (cI, 40, .inl f_paceAt)), (h_kindOf, .inl (cI, 4, .inl f_kindOf))]) [2, 3, 0, 1] rfl) (hD.sub (ws' := [(h0, .inr (10, vL 67 Fh)), (h_s, .inl (cI, 335, .inl f_s)), (h_paceAt, .inl (cI, 40, .inl f_paceAt)), (h_kindOf, .inl (cI, 4, .inl f_kindOf))]) [2, 3, 0, 1] (by decide) rfl) dX10_isLeaf_208 rfl (Nat.le_of_ble_eq_true rfl) (Nat.le_of_ble_eq_true rfl) ⟨Fh, x_lineTime, x_linePace, x_inside, x_late, x_seed, f_paceAt, f_kindOf, SAME.rf, e_lineTime, e_linePace, e_inside, i_x_inside, e_late, i_x_late, e_seed, (show 0 ≤ (0 : Int32).toInt ∧ (0 : Int32).toInt ≤ 1 by decide), rfl⟩
                · have dc43 : p3.toInt < v40.toInt := nle_i (a := v40.toInt) (b := p3.toInt) rfl rfl c43
                  have k44 : (-2147483648) ≤ p3.toInt ∧ p3.toInt ≤ 2147483646 := ⟨(ir_any _).1, up_lt dc43 (ir_any _).2 (by decide)⟩
                  have k45 : (-2147483647) ≤ v40.toInt ∧ v40.toInt ≤ 2147483647 := ⟨lo_lt dc43 (ir_any _).1 (by decide), (ir_any _).2⟩
                  refine lv_iconst (v := 1) hx hb dX10_isLeaf_203 (by decide) ?_
                  refine lv_goto (tgt := 208) hx hb dX10_isLeaf_204 (by decide) ?_
                  exact ret_i (v := 1) hx hb hr hlocks hS (hP.sub (ws' := [(h0, .inr (10, vL 67 Fh)), (h_s, .inl (cI, 335, .inl f_s)), (h_paceAt, .inl (cI, 40, .inl f_paceAt)), (h_kindOf, .inl (cI, 4, .inl f_kindOf))]) [2, 3, 0, 1] rfl) (hD.sub (ws' := [(h0, .inr (10, vL 67 Fh)), (h_s, .inl (cI, 335, .inl f_s)), (h_paceAt, .inl (cI, 40, .inl f_paceAt)), (h_kindOf, .inl (cI, 4, .inl f_kindOf))]) [2, 3, 0, 1] (by decide) rfl) dX10_isLeaf_208 rfl (Nat.le_of_ble_eq_true rfl) (Nat.le_of_ble_eq_true rfl) ⟨Fh, x_lineTime, x_linePace, x_inside, x_late, x_seed, f_paceAt, f_kindOf, SAME.rf, e_lineTime, e_linePace, e_inside, i_x_inside, e_late, i_x_late, e_seed, (show 0 ≤ (1 : Int32).toInt ∧ (1 : Int32).toInt ≤ 1 by decide), rfl⟩
              · have dc42 : p2.toInt = 61 := eq_i (a := p2.toInt) (b := 61) rfl rfl c42
                have k46 : 61 ≤ p2.toInt ∧ p2.toInt ≤ 61 := ⟨Int.le_trans (Int.le_refl _) (Int.le_of_eq dc42.symm), Int.le_trans (Int.le_of_eq dc42) (Int.le_refl _)⟩
                refine lv_iload hx hb dX10_isLeaf_181 (lv_at hl 0 rfl) ?_
                refine lv_iload hx hb dX10_isLeaf_183 (lv_at hl 6 rfl) ?_
                refine lv_icmp_ne (tgt := 192) hx hb dX10_isLeaf_185 (by decide) (fun c47 => ?_) (fun c47 => ?_)
                · have dc47 : v40.toInt ≠ p3.toInt := ne_i (a := v40.toInt) (b := p3.toInt) rfl rfl c47
                  refine lv_iconst (v := 0) hx hb dX10_isLeaf_192 (by decide) ?_
                  refine lv_goto (tgt := 208) hx hb dX10_isLeaf_193 (by decide) ?_
                  exact ret_i (v := 0) hx hb hr hlocks hS (hP.sub (ws' := [(h0, .inr (10, vL 67 Fh)), (h_s, .inl (cI, 335, .inl f_s)), (h_paceAt, .inl (cI, 40, .inl f_paceAt)), (h_kindOf, .inl (cI, 4, .inl f_kindOf))]) [2, 3, 0, 1] rfl) (hD.sub (ws' := [(h0, .inr (10, vL 67 Fh)), (h_s, .inl (cI, 335, .inl f_s)), (h_paceAt, .inl (cI, 40, .inl f_paceAt)), (h_kindOf, .inl (cI, 4, .inl f_kindOf))]) [2, 3, 0, 1] (by decide) rfl) dX10_isLeaf_208 rfl (Nat.le_of_ble_eq_true rfl) (Nat.le_of_ble_eq_true rfl) ⟨Fh, x_lineTime, x_linePace, x_inside, x_late, x_seed, f_paceAt, f_kindOf, SAME.rf, e_lineTime, e_linePace, e_inside, i_x_inside, e_late, i_x_late, e_seed, (show 0 ≤ (0 : Int32).toInt ∧ (0 : Int32).toInt ≤ 1 by decide), rfl⟩
                · have dc47 : v40.toInt = p3.toInt := eq_i (a := v40.toInt) (b := p3.toInt) rfl rfl c47
                  refine lv_iconst (v := 1) hx hb dX10_isLeaf_188 (by decide) ?_
                  refine lv_goto (tgt := 208) hx hb dX10_isLeaf_189 (by decide) ?_
                  exact ret_i (v := 1) hx hb hr hlocks hS (hP.sub (ws' := [(h0, .inr (10, vL 67 Fh)), (h_s, .inl (cI, 335, .inl f_s)), (h_paceAt, .inl (cI, 40, .inl f_paceAt)), (h_kindOf, .inl (cI, 4, .inl f_kindOf))]) [2, 3, 0, 1] rfl) (hD.sub (ws' := [(h0, .inr (10, vL 67 Fh)), (h_s, .inl (cI, 335, .inl f_s)), (h_paceAt, .inl (cI, 40, .inl f_paceAt)), (h_kindOf, .inl (cI, 4, .inl f_kindOf))]) [2, 3, 0, 1] (by decide) rfl) dX10_isLeaf_208 rfl (Nat.le_of_ble_eq_true rfl) (Nat.le_of_ble_eq_true rfl) ⟨Fh, x_lineTime, x_linePace, x_inside, x_late, x_seed, f_paceAt, f_kindOf, SAME.rf, e_lineTime, e_linePace, e_inside, i_x_inside, e_late, i_x_late, e_seed, (show 0 ≤ (1 : Int32).toInt ∧ (1 : Int32).toInt ≤ 1 by decide), rfl⟩
            · have dc41 : p2.toInt = 60 := eq_i (a := p2.toInt) (b := 60) rfl rfl c41
              have k48 : 60 ≤ p2.toInt ∧ p2.toInt ≤ 60 := ⟨Int.le_trans (Int.le_refl _) (Int.le_of_eq dc41.symm), Int.le_trans (Int.le_of_eq dc41) (Int.le_refl _)⟩
              refine lv_iload hx hb dX10_isLeaf_160 (lv_at hl 0 rfl) ?_
              refine lv_iload hx hb dX10_isLeaf_162 (lv_at hl 6 rfl) ?_
              refine lv_icmp_ge (tgt := 171) hx hb dX10_isLeaf_164 (by decide) (fun c49 => ?_) (fun c49 => ?_)
              · have dc49 : p3.toInt ≤ v40.toInt := le_i (a := p3.toInt) (b := v40.toInt) rfl rfl c49
                refine lv_iconst (v := 0) hx hb dX10_isLeaf_171 (by decide) ?_
                refine lv_goto (tgt := 208) hx hb dX10_isLeaf_172 (by decide) ?_
                exact ret_i (v := 0) hx hb hr hlocks hS (hP.sub (ws' := [(h0, .inr (10, vL 67 Fh)), (h_s, .inl (cI, 335, .inl f_s)), (h_paceAt, .inl (cI, 40, .inl f_paceAt)), (h_kindOf, .inl (cI, 4, .inl f_kindOf))]) [2, 3, 0, 1] rfl) (hD.sub (ws' := [(h0, .inr (10, vL 67 Fh)), (h_s, .inl (cI, 335, .inl f_s)), (h_paceAt, .inl (cI, 40, .inl f_paceAt)), (h_kindOf, .inl (cI, 4, .inl f_kindOf))]) [2, 3, 0, 1] (by decide) rfl) dX10_isLeaf_208 rfl (Nat.le_of_ble_eq_true rfl) (Nat.le_of_ble_eq_true rfl) ⟨Fh, x_lineTime, x_linePace, x_inside, x_late, x_seed, f_paceAt, f_kindOf, SAME.rf, e_lineTime, e_linePace, e_inside, i_x_inside, e_late, i_x_late, e_seed, (show 0 ≤ (0 : Int32).toInt ∧ (0 : Int32).toInt ≤ 1 by decide), rfl⟩
              · have dc49 : v40.toInt < p3.toInt := nle_i (a := p3.toInt) (b := v40.toInt) rfl rfl c49
                have k50 : (-2147483648) ≤ v40.toInt ∧ v40.toInt ≤ 2147483646 := ⟨(ir_any _).1, up_lt dc49 (ir_any _).2 (by decide)⟩
                have k51 : (-2147483647) ≤ p3.toInt ∧ p3.toInt ≤ 2147483647 := ⟨lo_lt dc49 (ir_any _).1 (by decide), (ir_any _).2⟩
                refine lv_iconst (v := 1) hx hb dX10_isLeaf_167 (by decide) ?_
                refine lv_goto (tgt := 208) hx hb dX10_isLeaf_168 (by decide) ?_
                exact ret_i (v := 1) hx hb hr hlocks hS (hP.sub (ws' := [(h0, .inr (10, vL 67 Fh)), (h_s, .inl (cI, 335, .inl f_s)), (h_paceAt, .inl (cI, 40, .inl f_paceAt)), (h_kindOf, .inl (cI, 4, .inl f_kindOf))]) [2, 3, 0, 1] rfl) (hD.sub (ws' := [(h0, .inr (10, vL 67 Fh)), (h_s, .inl (cI, 335, .inl f_s)), (h_paceAt, .inl (cI, 40, .inl f_paceAt)), (h_kindOf, .inl (cI, 4, .inl f_kindOf))]) [2, 3, 0, 1] (by decide) rfl) dX10_isLeaf_208 rfl (Nat.le_of_ble_eq_true rfl) (Nat.le_of_ble_eq_true rfl) ⟨Fh, x_lineTime, x_linePace, x_inside, x_late, x_seed, f_paceAt, f_kindOf, SAME.rf, e_lineTime, e_linePace, e_inside, i_x_inside, e_late, i_x_late, e_seed, (show 0 ≤ (1 : Int32).toInt ∧ (1 : Int32).toInt ≤ 1 by decide), rfl⟩
        · have dc7 : p1.toInt = 3 := eq_i (a := p1.toInt) (b := 3) rfl rfl c7
          have k52 : 3 ≤ p1.toInt ∧ p1.toInt ≤ 3 := ⟨Int.le_trans (Int.le_refl _) (Int.le_of_eq dc7.symm), Int.le_trans (Int.le_of_eq dc7) (Int.le_refl _)⟩
          refine lv_aload_n hx hb dX10_isLeaf_105 rfl (lv_at hl 1 rfl) ?_
          refine get_f (D := D) (ci := 10) (v := .ref h_s) (C := RX10) (T := TX10) (N := 67) hx hb hw inAX10 hown hK hP 2 rfl rfl 6 (by decide) (hw _ q_1267) (fun _ h9 => h9) e_s dX10_isLeaf_106 ?_
          refine lv_bipush (v := 8) hx hb dX10_isLeaf_109 (by decide) ?_
          refine lv_iload_n hx hb dX10_isLeaf_111 rfl (lv_at hl 2 rfl) ?_
          refine lv_iadd hx hb dX10_isLeaf_112 ?_
          refine lv_topi (fun v53 ev53 => ?_)
          have bv53 : v53.toInt = 8 + p0.toInt := by rw [ev53]; exact add_k rfl rfl ⟨Int.le_refl _, Int.le_refl _⟩ i_p0 (by decide)
          have k54 : 8 ≤ v53.toInt ∧ v53.toInt ≤ 19 := add_r bv53 ⟨Int.le_refl _, Int.le_refl _⟩ i_p0 (by decide)
          refine va_iald hx hb hK hP 3 0 rfl rfl (ix_k k54 (by decide) (by decide)) dX10_isLeaf_113 ?_
          refine lv_topi (fun v55 ev55 => ?_)
          refine lv_goto (tgt := 152) hx hb dX10_isLeaf_114 (by decide) ?_
          refine lv_istore (lv' := [(6, .int v55), (5, .int r1), (0, .ref h0), (1, .int p0), (2, .int p1), (3, .int p2), (4, .int p3)]) hx hb dX10_isLeaf_152 hl (by decide) rfl (fun ls hl => ?_)
          refine lv_iload_n hx hb dX10_isLeaf_154 rfl (lv_at hl 5 rfl) ?_
          refine lv_bipush (v := 60) hx hb dX10_isLeaf_155 (by decide) ?_
          refine lv_icmp_ne (tgt := 175) hx hb dX10_isLeaf_157 (by decide) (fun c56 => ?_) (fun c56 => ?_)
          · have dc56 : p2.toInt ≠ 60 := ne_i (a := p2.toInt) (b := 60) rfl rfl c56
            refine lv_iload_n hx hb dX10_isLeaf_175 rfl (lv_at hl 5 rfl) ?_
            refine lv_bipush (v := 61) hx hb dX10_isLeaf_176 (by decide) ?_
            refine lv_icmp_ne (tgt := 196) hx hb dX10_isLeaf_178 (by decide) (fun c57 => ?_) (fun c57 => ?_)
            · have dc57 : p2.toInt ≠ 61 := ne_i (a := p2.toInt) (b := 61) rfl rfl c57
              refine lv_iload hx hb dX10_isLeaf_196 (lv_at hl 0 rfl) ?_
              refine lv_iload hx hb dX10_isLeaf_198 (lv_at hl 6 rfl) ?_
              refine lv_icmp_le (tgt := 207) hx hb dX10_isLeaf_200 (by decide) (fun c58 => ?_) (fun c58 => ?_)
              · have dc58 : v55.toInt ≤ p3.toInt := le_i (a := v55.toInt) (b := p3.toInt) rfl rfl c58
                refine lv_iconst (v := 0) hx hb dX10_isLeaf_207 (by decide) ?_
                exact ret_i (v := 0) hx hb hr hlocks hS (hP.sub (ws' := [(h0, .inr (10, vL 67 Fh)), (h_s, .inl (cI, 335, .inl f_s)), (h_paceAt, .inl (cI, 40, .inl f_paceAt)), (h_kindOf, .inl (cI, 4, .inl f_kindOf))]) [2, 3, 0, 1] rfl) (hD.sub (ws' := [(h0, .inr (10, vL 67 Fh)), (h_s, .inl (cI, 335, .inl f_s)), (h_paceAt, .inl (cI, 40, .inl f_paceAt)), (h_kindOf, .inl (cI, 4, .inl f_kindOf))]) [2, 3, 0, 1] (by decide) rfl) dX10_isLeaf_208 rfl (Nat.le_of_ble_eq_true rfl) (Nat.le_of_ble_eq_true rfl) ⟨Fh, x_lineTime, x_linePace, x_inside, x_late, x_seed, f_paceAt, f_kindOf, SAME.rf, e_lineTime, e_linePace, e_inside, i_x_inside, e_late, i_x_late, e_seed, (show 0 ≤ (0 : Int32).toInt ∧ (0 : Int32).toInt ≤ 1 by decide), rfl⟩
              · have dc58 : p3.toInt < v55.toInt := nle_i (a := v55.toInt) (b := p3.toInt) rfl rfl c58
                have k59 : (-2147483648) ≤ p3.toInt ∧ p3.toInt ≤ 2147483646 := ⟨(ir_any _).1, up_lt dc58 (ir_any _).2 (by decide)⟩
                have k60 : (-2147483647) ≤ v55.toInt ∧ v55.toInt ≤ 2147483647 := ⟨lo_lt dc58 (ir_any _).1 (by decide), (ir_any _).2⟩
                refine lv_iconst (v := 1) hx hb dX10_isLeaf_203 (by decide) ?_
                refine lv_goto (tgt := 208) hx hb dX10_isLeaf_204 (by decide) ?_
                exact ret_i (v := 1) hx hb hr hlocks hS (hP.sub (ws' := [(h0, .inr (10, vL 67 Fh)), (h_s, .inl (cI, 335, .inl f_s)), (h_paceAt, .inl (cI, 40, .inl f_paceAt)), (h_kindOf, .inl (cI, 4, .inl f_kindOf))]) [2, 3, 0, 1] rfl) (hD.sub (ws' := [(h0, .inr (10, vL 67 Fh)), (h_s, .inl (cI, 335, .inl f_s)), (h_paceAt, .inl (cI, 40, .inl f_paceAt)), (h_kindOf, .inl (cI, 4, .inl f_kindOf))]) [2, 3, 0, 1] (by decide) rfl) dX10_isLeaf_208 rfl (Nat.le_of_ble_eq_true rfl) (Nat.le_of_ble_eq_true rfl) ⟨Fh, x_lineTime, x_linePace, x_inside, x_late, x_seed, f_paceAt, f_kindOf, SAME.rf, e_lineTime, e_linePace, e_inside, i_x_inside, e_late, i_x_late, e_seed, (show 0 ≤ (1 : Int32).toInt ∧ (1 : Int32).toInt ≤ 1 by decide), rfl⟩
            · have dc57 : p2.toInt = 61 := eq_i (a := p2.toInt) (b := 61) rfl rfl c57
              have k61 : 61 ≤ p2.toInt ∧ p2.toInt ≤ 61 := ⟨Int.le_trans (Int.le_refl _) (Int.le_of_eq dc57.symm), Int.le_trans (Int.le_of_eq dc57) (Int.le_refl _)⟩
              refine lv_iload hx hb dX10_isLeaf_181 (lv_at hl 0 rfl) ?_
              refine lv_iload hx hb dX10_isLeaf_183 (lv_at hl 6 rfl) ?_
              refine lv_icmp_ne (tgt := 192) hx hb dX10_isLeaf_185 (by decide) (fun c62 => ?_) (fun c62 => ?_)
              · have dc62 : v55.toInt ≠ p3.toInt := ne_i (a := v55.toInt) (b := p3.toInt) rfl rfl c62
                refine lv_iconst (v := 0) hx hb dX10_isLeaf_192 (by decide) ?_
                refine lv_goto (tgt := 208) hx hb dX10_isLeaf_193 (by decide) ?_
                exact ret_i (v := 0) hx hb hr hlocks hS (hP.sub (ws' := [(h0, .inr (10, vL 67 Fh)), (h_s, .inl (cI, 335, .inl f_s)), (h_paceAt, .inl (cI, 40, .inl f_paceAt)), (h_kindOf, .inl (cI, 4, .inl f_kindOf))]) [2, 3, 0, 1] rfl) (hD.sub (ws' := [(h0, .inr (10, vL 67 Fh)), (h_s, .inl (cI, 335, .inl f_s)), (h_paceAt, .inl (cI, 40, .inl f_paceAt)), (h_kindOf, .inl (cI, 4, .inl f_kindOf))]) [2, 3, 0, 1] (by decide) rfl) dX10_isLeaf_208 rfl (Nat.le_of_ble_eq_true rfl) (Nat.le_of_ble_eq_true rfl) ⟨Fh, x_lineTime, x_linePace, x_inside, x_late, x_seed, f_paceAt, f_kindOf, SAME.rf, e_lineTime, e_linePace, e_inside, i_x_inside, e_late, i_x_late, e_seed, (show 0 ≤ (0 : Int32).toInt ∧ (0 : Int32).toInt ≤ 1 by decide), rfl⟩
              · have dc62 : v55.toInt = p3.toInt := eq_i (a := v55.toInt) (b := p3.toInt) rfl rfl c62
                refine lv_iconst (v := 1) hx hb dX10_isLeaf_188 (by decide) ?_
                refine lv_goto (tgt := 208) hx hb dX10_isLeaf_189 (by decide) ?_
                exact ret_i (v := 1) hx hb hr hlocks hS (hP.sub (ws' := [(h0, .inr (10, vL 67 Fh)), (h_s, .inl (cI, 335, .inl f_s)), (h_paceAt, .inl (cI, 40, .inl f_paceAt)), (h_kindOf, .inl (cI, 4, .inl f_kindOf))]) [2, 3, 0, 1] rfl) (hD.sub (ws' := [(h0, .inr (10, vL 67 Fh)), (h_s, .inl (cI, 335, .inl f_s)), (h_paceAt, .inl (cI, 40, .inl f_paceAt)), (h_kindOf, .inl (cI, 4, .inl f_kindOf))]) [2, 3, 0, 1] (by decide) rfl) dX10_isLeaf_208 rfl (Nat.le_of_ble_eq_true rfl) (Nat.le_of_ble_eq_true rfl) ⟨Fh, x_lineTime, x_linePace, x_inside, x_late, x_seed, f_paceAt, f_kindOf, SAME.rf, e_lineTime, e_linePace, e_inside, i_x_inside, e_late, i_x_late, e_seed, (show 0 ≤ (1 : Int32).toInt ∧ (1 : Int32).toInt ≤ 1 by decide), rfl⟩
          · have dc56 : p2.toInt = 60 := eq_i (a := p2.toInt) (b := 60) rfl rfl c56
            have k63 : 60 ≤ p2.toInt ∧ p2.toInt ≤ 60 := ⟨Int.le_trans (Int.le_refl _) (Int.le_of_eq dc56.symm), Int.le_trans (Int.le_of_eq dc56) (Int.le_refl _)⟩
            refine lv_iload hx hb dX10_isLeaf_160 (lv_at hl 0 rfl) ?_
            refine lv_iload hx hb dX10_isLeaf_162 (lv_at hl 6 rfl) ?_
            refine lv_icmp_ge (tgt := 171) hx hb dX10_isLeaf_164 (by decide) (fun c64 => ?_) (fun c64 => ?_)
            · have dc64 : p3.toInt ≤ v55.toInt := le_i (a := p3.toInt) (b := v55.toInt) rfl rfl c64
              refine lv_iconst (v := 0) hx hb dX10_isLeaf_171 (by decide) ?_
              refine lv_goto (tgt := 208) hx hb dX10_isLeaf_172 (by decide) ?_
              exact ret_i (v := 0) hx hb hr hlocks hS (hP.sub (ws' := [(h0, .inr (10, vL 67 Fh)), (h_s, .inl (cI, 335, .inl f_s)), (h_paceAt, .inl (cI, 40, .inl f_paceAt)), (h_kindOf, .inl (cI, 4, .inl f_kindOf))]) [2, 3, 0, 1] rfl) (hD.sub (ws' := [(h0, .inr (10, vL 67 Fh)), (h_s, .inl (cI, 335, .inl f_s)), (h_paceAt, .inl (cI, 40, .inl f_paceAt)), (h_kindOf, .inl (cI, 4, .inl f_kindOf))]) [2, 3, 0, 1] (by decide) rfl) dX10_isLeaf_208 rfl (Nat.le_of_ble_eq_true rfl) (Nat.le_of_ble_eq_true rfl) ⟨Fh, x_lineTime, x_linePace, x_inside, x_late, x_seed, f_paceAt, f_kindOf, SAME.rf, e_lineTime, e_linePace, e_inside, i_x_inside, e_late, i_x_late, e_seed, (show 0 ≤ (0 : Int32).toInt ∧ (0 : Int32).toInt ≤ 1 by decide), rfl⟩
            · have dc64 : v55.toInt < p3.toInt := nle_i (a := p3.toInt) (b := v55.toInt) rfl rfl c64
              have k65 : (-2147483648) ≤ v55.toInt ∧ v55.toInt ≤ 2147483646 := ⟨(ir_any _).1, up_lt dc64 (ir_any _).2 (by decide)⟩
              have k66 : (-2147483647) ≤ p3.toInt ∧ p3.toInt ≤ 2147483647 := ⟨lo_lt dc64 (ir_any _).1 (by decide), (ir_any _).2⟩
              refine lv_iconst (v := 1) hx hb dX10_isLeaf_167 (by decide) ?_
              refine lv_goto (tgt := 208) hx hb dX10_isLeaf_168 (by decide) ?_
              exact ret_i (v := 1) hx hb hr hlocks hS (hP.sub (ws' := [(h0, .inr (10, vL 67 Fh)), (h_s, .inl (cI, 335, .inl f_s)), (h_paceAt, .inl (cI, 40, .inl f_paceAt)), (h_kindOf, .inl (cI, 4, .inl f_kindOf))]) [2, 3, 0, 1] rfl) (hD.sub (ws' := [(h0, .inr (10, vL 67 Fh)), (h_s, .inl (cI, 335, .inl f_s)), (h_paceAt, .inl (cI, 40, .inl f_paceAt)), (h_kindOf, .inl (cI, 4, .inl f_kindOf))]) [2, 3, 0, 1] (by decide) rfl) dX10_isLeaf_208 rfl (Nat.le_of_ble_eq_true rfl) (Nat.le_of_ble_eq_true rfl) ⟨Fh, x_lineTime, x_linePace, x_inside, x_late, x_seed, f_paceAt, f_kindOf, SAME.rf, e_lineTime, e_linePace, e_inside, i_x_inside, e_late, i_x_late, e_seed, (show 0 ≤ (1 : Int32).toInt ∧ (1 : Int32).toInt ≤ 1 by decide), rfl⟩
      · have dc6 : p1.toInt = 2 := eq_i (a := p1.toInt) (b := 2) rfl rfl c6
        have k67 : 2 ≤ p1.toInt ∧ p1.toInt ≤ 2 := ⟨Int.le_trans (Int.le_refl _) (Int.le_of_eq dc6.symm), Int.le_trans (Int.le_of_eq dc6) (Int.le_refl _)⟩
        refine lv_iload hx hb dX10_isLeaf_53 (lv_at hl 0 rfl) ?_
        refine lv_if_lt (tgt := 98) hx hb dX10_isLeaf_55 (by decide) (fun c68 => ?_) (fun c68 => ?_)
        · have dc68 : r1.toInt < 0 := lt_i (a := r1.toInt) (b := 0) rfl rfl c68
          have k69 : (-1) ≤ r1.toInt ∧ r1.toInt ≤ (-1) := ⟨t2.1, up_lt dc68 (Int.le_refl _) (by decide)⟩
          refine lv_iconst (v := 0) hx hb dX10_isLeaf_98 (by decide) ?_
          exact ret_i (v := 0) hx hb hr hlocks hS (hP.sub (ws' := [(h0, .inr (10, vL 67 Fh)), (h_s, .inl (cI, 335, .inl f_s)), (h_paceAt, .inl (cI, 40, .inl f_paceAt)), (h_kindOf, .inl (cI, 4, .inl f_kindOf))]) [2, 3, 0, 1] rfl) (hD.sub (ws' := [(h0, .inr (10, vL 67 Fh)), (h_s, .inl (cI, 335, .inl f_s)), (h_paceAt, .inl (cI, 40, .inl f_paceAt)), (h_kindOf, .inl (cI, 4, .inl f_kindOf))]) [2, 3, 0, 1] (by decide) rfl) dX10_isLeaf_99 rfl (Nat.le_of_ble_eq_true rfl) (Nat.le_of_ble_eq_true rfl) ⟨Fh, x_lineTime, x_linePace, x_inside, x_late, x_seed, f_paceAt, f_kindOf, SAME.rf, e_lineTime, e_linePace, e_inside, i_x_inside, e_late, i_x_late, e_seed, (show 0 ≤ (0 : Int32).toInt ∧ (0 : Int32).toInt ≤ 1 by decide), rfl⟩
        · have dc68 : 0 ≤ r1.toInt := nlt_i (a := r1.toInt) (b := 0) rfl rfl c68
          have k70 : 0 ≤ r1.toInt ∧ r1.toInt ≤ 3 := ⟨Int.le_trans (Int.le_refl _) dc68, t2.2⟩
          refine lv_aload_n hx hb dX10_isLeaf_58 rfl (lv_at hl 1 rfl) ?_
          refine lv_iload hx hb dX10_isLeaf_59 (lv_at hl 5 rfl) ?_
          refine call_Vi (wr := [(h_paceAt, .inl (cI, 40, .inl f_paceAt)), (h_kindOf, .inl (cI, 4, .inl f_kindOf))]) (As := [.int p3]) (rest := []) hx hb hml hown hw (m_X10_placeOf l D cI cJ cB cP cM cZ h0 h_s Fh f_s p3 _ e_s s_s_K0 s_s_0 s_s_105 s_s_114 s_s_130 s_s_139 s_s_153 s_s_44 s_s_5 s_s_6 s_s_7) wV_X10_288_X10_placeOf dX10_isLeaf_61 hK hP hD hS hA [2, 3] [0, 1] rfl rfl (by decide) (by decide) (by decide) 0 10 rfl rfl GG.fb hG.at hl.1 rfl (Nat.le_of_ble_eq_true rfl) ⟨(Nat.le_of_ble_eq_true rfl), (Nat.le_of_ble_eq_true rfl)⟩ ⟨(Nat.le_of_ble_eq_true rfl), (Nat.le_of_ble_eq_true rfl)⟩ (fun r71 u H locs hp hP hD hS => ?_)
          obtain ⟨t72, rfl⟩ := hp
          have hP : va_P D vwCl [(h_paceAt, .inl (cI, 40, .inl f_paceAt)), (h_kindOf, .inl (cI, 4, .inl f_kindOf)), (h0, .inr (10, vL 67 Fh)), (h_s, .inl (cI, 335, .inl f_s))] H := hP
          have hD : va_D A [(h_paceAt, .inl (cI, 40, .inl f_paceAt)), (h_kindOf, .inl (cI, 4, .inl f_kindOf)), (h0, .inr (10, vL 67 Fh)), (h_s, .inl (cI, 335, .inl f_s))] := hD
          refine W.widen (k := 0) (n := 0) (Nat.le_of_ble_eq_true rfl) (Nat.le_of_ble_eq_true rfl) ?_
          refine lv_if_lt (tgt := 98) hx hb dX10_isLeaf_64 (by decide) (fun c74 => ?_) (fun c74 => ?_)
          · have dc74 : r71.toInt < 0 := lt_i (a := r71.toInt) (b := 0) rfl rfl c74
            have k75 : (-1) ≤ r71.toInt ∧ r71.toInt ≤ (-1) := ⟨t72.1, up_lt dc74 (Int.le_refl _) (by decide)⟩
            refine lv_iconst (v := 0) hx hb dX10_isLeaf_98 (by decide) ?_
            exact ret_i (v := 0) hx hb hr hlocks hS (hP.sub (ws' := [(h0, .inr (10, vL 67 Fh)), (h_s, .inl (cI, 335, .inl f_s)), (h_paceAt, .inl (cI, 40, .inl f_paceAt)), (h_kindOf, .inl (cI, 4, .inl f_kindOf))]) [2, 3, 0, 1] rfl) (hD.sub (ws' := [(h0, .inr (10, vL 67 Fh)), (h_s, .inl (cI, 335, .inl f_s)), (h_paceAt, .inl (cI, 40, .inl f_paceAt)), (h_kindOf, .inl (cI, 4, .inl f_kindOf))]) [2, 3, 0, 1] (by decide) rfl) dX10_isLeaf_99 rfl (Nat.le_of_ble_eq_true rfl) (Nat.le_of_ble_eq_true rfl) ⟨Fh, x_lineTime, x_linePace, x_inside, x_late, x_seed, f_paceAt, f_kindOf, SAME.rf, e_lineTime, e_linePace, e_inside, i_x_inside, e_late, i_x_late, e_seed, (show 0 ≤ (0 : Int32).toInt ∧ (0 : Int32).toInt ≤ 1 by decide), rfl⟩
          · have dc74 : 0 ≤ r71.toInt := nlt_i (a := r71.toInt) (b := 0) rfl rfl c74
            have k76 : 0 ≤ r71.toInt ∧ r71.toInt ≤ 3 := ⟨Int.le_trans (Int.le_refl _) dc74, t72.2⟩
            refine lv_aload_n hx hb dX10_isLeaf_67 rfl (lv_at hl 1 rfl) ?_
            refine get_f (D := D) (ci := 10) (v := .ref h_s) (C := RX10) (T := TX10) (N := 67) hx hb hw inAX10 hown hK hP 2 rfl rfl 6 (by decide) (hw _ q_1267) (fun _ h9 => h9) e_s dX10_isLeaf_68 ?_
            refine lv_bipush (v := 109) hx hb dX10_isLeaf_71 (by decide) ?_
            refine lv_iload hx hb dX10_isLeaf_73 (lv_at hl 0 rfl) ?_
            refine lv_iadd hx hb dX10_isLeaf_75 ?_
            refine lv_topi (fun v77 ev77 => ?_)
            have bv77 : v77.toInt = 109 + r1.toInt := by rw [ev77]; exact add_k rfl rfl ⟨Int.le_refl _, Int.le_refl _⟩ k70 (by decide)
            have k78 : 109 ≤ v77.toInt ∧ v77.toInt ≤ 112 := add_r bv77 ⟨Int.le_refl _, Int.le_refl _⟩ k70 (by decide)
            refine va_iald hx hb hK hP 3 0 rfl rfl (ix_k k78 (by decide) (by decide)) dX10_isLeaf_76 ?_
            refine lv_topi (fun v79 ev79 => ?_)
            refine lv_aload_n hx hb dX10_isLeaf_77 rfl (lv_at hl 1 rfl) ?_
            refine get_f (D := D) (ci := 10) (v := .ref h_s) (C := RX10) (T := TX10) (N := 67) hx hb hw inAX10 hown hK hP 2 rfl rfl 6 (by decide) (hw _ q_1267) (fun _ h9 => h9) e_s dX10_isLeaf_78 ?_
            refine lv_bipush (v := 109) hx hb dX10_isLeaf_81 (by decide) ?_
            refine lv_aload_n hx hb dX10_isLeaf_83 rfl (lv_at hl 1 rfl) ?_
            refine lv_iload hx hb dX10_isLeaf_84 (lv_at hl 5 rfl) ?_
            refine call_Vi (wr := [(h_paceAt, .inl (cI, 40, .inl f_paceAt)), (h_kindOf, .inl (cI, 4, .inl f_kindOf))]) (As := [.int p3]) (rest := [.int 109, .ref h_s, .int v79]) hx hb hml hown hw (m_X10_placeOf l D cI cJ cB cP cM cZ h0 h_s Fh f_s p3 _ e_s s_s_K0 s_s_0 s_s_105 s_s_114 s_s_130 s_s_139 s_s_153 s_s_44 s_s_5 s_s_6 s_s_7) wV_X10_288_X10_placeOf dX10_isLeaf_86 hK hP hD hS hA [2, 3] [0, 1] rfl rfl (by decide) (by decide) (by decide) 0 10 rfl rfl GG.fb hG.at hl.1 rfl (Nat.le_of_ble_eq_true rfl) ⟨(Nat.le_of_ble_eq_true rfl), (Nat.le_of_ble_eq_true rfl)⟩ ⟨(Nat.le_of_ble_eq_true rfl), (Nat.le_of_ble_eq_true rfl)⟩ (fun r80 u H locs hp hP hD hS => ?_)
            obtain ⟨t81, rfl⟩ := hp
            have hP : va_P D vwCl [(h_paceAt, .inl (cI, 40, .inl f_paceAt)), (h_kindOf, .inl (cI, 4, .inl f_kindOf)), (h0, .inr (10, vL 67 Fh)), (h_s, .inl (cI, 335, .inl f_s))] H := hP
            have hD : va_D A [(h_paceAt, .inl (cI, 40, .inl f_paceAt)), (h_kindOf, .inl (cI, 4, .inl f_kindOf)), (h0, .inr (10, vL 67 Fh)), (h_s, .inl (cI, 335, .inl f_s))] := hD
            refine W.widen (k := 0) (n := 0) (Nat.le_of_ble_eq_true rfl) (Nat.le_of_ble_eq_true rfl) ?_
            refine lv_iadd hx hb dX10_isLeaf_89 ?_
            refine lv_topi (fun v83 ev83 => ?_)
            have bv83 : v83.toInt = 109 + r80.toInt := by rw [ev83]; exact add_k rfl rfl ⟨Int.le_refl _, Int.le_refl _⟩ t81 (by decide)
            have k84 : 108 ≤ v83.toInt ∧ v83.toInt ≤ 112 := add_r bv83 ⟨Int.le_refl _, Int.le_refl _⟩ t81 (by decide)
            refine va_iald hx hb hK hP 3 0 rfl rfl (ix_k k84 (by decide) (by decide)) dX10_isLeaf_90 ?_
            refine lv_topi (fun v85 ev85 => ?_)
            have r86 : IMP (105 ≤ v83.toInt → v83.toInt ≤ 108 → 0 ≤ v85.toInt ∧ v85.toInt ≤ 11) := IMP.mk (fun q1 q2 => by rw [ev85]; exact s_s_105.at _ q1 q2)
            refine lv_icmp_ge (tgt := 98) hx hb dX10_isLeaf_91 (by decide) (fun c87 => ?_) (fun c87 => ?_)
            · have dc87 : v85.toInt ≤ v79.toInt := le_i (a := v85.toInt) (b := v79.toInt) rfl rfl c87
              refine lv_iconst (v := 0) hx hb dX10_isLeaf_98 (by decide) ?_
              exact ret_i (v := 0) hx hb hr hlocks hS (hP.sub (ws' := [(h0, .inr (10, vL 67 Fh)), (h_s, .inl (cI, 335, .inl f_s)), (h_paceAt, .inl (cI, 40, .inl f_paceAt)), (h_kindOf, .inl (cI, 4, .inl f_kindOf))]) [2, 3, 0, 1] rfl) (hD.sub (ws' := [(h0, .inr (10, vL 67 Fh)), (h_s, .inl (cI, 335, .inl f_s)), (h_paceAt, .inl (cI, 40, .inl f_paceAt)), (h_kindOf, .inl (cI, 4, .inl f_kindOf))]) [2, 3, 0, 1] (by decide) rfl) dX10_isLeaf_99 rfl (Nat.le_of_ble_eq_true rfl) (Nat.le_of_ble_eq_true rfl) ⟨Fh, x_lineTime, x_linePace, x_inside, x_late, x_seed, f_paceAt, f_kindOf, SAME.rf, e_lineTime, e_linePace, e_inside, i_x_inside, e_late, i_x_late, e_seed, (show 0 ≤ (0 : Int32).toInt ∧ (0 : Int32).toInt ≤ 1 by decide), rfl⟩
            · have dc87 : v79.toInt < v85.toInt := nle_i (a := v85.toInt) (b := v79.toInt) rfl rfl c87
              have k88 : (-2147483648) ≤ v79.toInt ∧ v79.toInt ≤ 2147483646 := ⟨(ir_any _).1, up_lt dc87 (ir_any _).2 (by decide)⟩
              have k89 : (-2147483647) ≤ v85.toInt ∧ v85.toInt ≤ 2147483647 := ⟨lo_lt dc87 (ir_any _).1 (by decide), (ir_any _).2⟩
              refine lv_iconst (v := 1) hx hb dX10_isLeaf_94 (by decide) ?_
              refine lv_goto (tgt := 99) hx hb dX10_isLeaf_95 (by decide) ?_
              exact ret_i (v := 1) hx hb hr hlocks hS (hP.sub (ws' := [(h0, .inr (10, vL 67 Fh)), (h_s, .inl (cI, 335, .inl f_s)), (h_paceAt, .inl (cI, 40, .inl f_paceAt)), (h_kindOf, .inl (cI, 4, .inl f_kindOf))]) [2, 3, 0, 1] rfl) (hD.sub (ws' := [(h0, .inr (10, vL 67 Fh)), (h_s, .inl (cI, 335, .inl f_s)), (h_paceAt, .inl (cI, 40, .inl f_paceAt)), (h_kindOf, .inl (cI, 4, .inl f_kindOf))]) [2, 3, 0, 1] (by decide) rfl) dX10_isLeaf_99 rfl (Nat.le_of_ble_eq_true rfl) (Nat.le_of_ble_eq_true rfl) ⟨Fh, x_lineTime, x_linePace, x_inside, x_late, x_seed, f_paceAt, f_kindOf, SAME.rf, e_lineTime, e_linePace, e_inside, i_x_inside, e_late, i_x_late, e_seed, (show 0 ≤ (1 : Int32).toInt ∧ (1 : Int32).toInt ≤ 1 by decide), rfl⟩
    · have dc5 : p1.toInt = 1 := eq_i (a := p1.toInt) (b := 1) rfl rfl c5
      have k90 : 1 ≤ p1.toInt ∧ p1.toInt ≤ 1 := ⟨Int.le_trans (Int.le_refl _) (Int.le_of_eq dc5.symm), Int.le_trans (Int.le_of_eq dc5) (Int.le_refl _)⟩
      refine lv_iload hx hb dX10_isLeaf_27 (lv_at hl 0 rfl) ?_
      refine lv_if_ge (tgt := 34) hx hb dX10_isLeaf_29 (by decide) (fun c91 => ?_) (fun c91 => ?_)
      · have dc91 : 0 ≤ r1.toInt := le_i (a := 0) (b := r1.toInt) rfl rfl c91
        have k92 : 0 ≤ r1.toInt ∧ r1.toInt ≤ 3 := ⟨Int.le_trans (Int.le_refl _) dc91, t2.2⟩
        refine lv_aload_n hx hb dX10_isLeaf_34 rfl (lv_at hl 1 rfl) ?_
        refine call_Vv (wr := []) (As := []) (rest := []) hx hb hml hown hw (m_X10_starts l D cI cJ cB cP cM cZ h0 h_s h_paceAt h_kindOf Fh x_seed x_kicks f_s f_paceAt f_kindOf _ e_s e_paceAt e_kindOf e_seed e_kicks i_x_kicks s_s_K0 s_s_0 s_s_105 s_s_114 s_s_130 s_s_139 s_s_153 s_s_44 s_s_5 s_s_6 s_s_7) wV_X10_340_X10_starts dX10_isLeaf_35 hK hP hD hS hA [2, 3, 0, 1] [] rfl rfl (by decide) (by decide) (by decide) 0 10 rfl rfl GG.fb hG.at hl.1 rfl (Nat.le_of_ble_eq_true rfl) ⟨(Nat.le_of_ble_eq_true rfl), (Nat.le_of_ble_eq_true rfl)⟩ ⟨(Nat.le_of_ble_eq_true rfl), (Nat.le_of_ble_eq_true rfl)⟩ (fun u H locs hp hP hD hS => ?_)
        obtain ⟨F94, y95, y96, y97, y98, y99, g100, g101, t102, t103, t104, t105, t106, t107, t108, t109, t110, rfl⟩ := hp
        have hP : va_P D vwCl [(h0, .inr (10, vL 67 F94)), (h_s, .inl (cI, 335, .inl f_s)), (h_paceAt, .inl (cI, 40, .inl g100)), (h_kindOf, .inl (cI, 4, .inl g101))] H := hP
        have hD : va_D A [(h0, .inr (10, vL 67 F94)), (h_s, .inl (cI, 335, .inl f_s)), (h_paceAt, .inl (cI, 40, .inl g100)), (h_kindOf, .inl (cI, 4, .inl g101))] := hD
        refine W.widen (k := 0) (n := 0) (Nat.le_of_ble_eq_true rfl) (Nat.le_of_ble_eq_true rfl) ?_
        refine lv_aload_n hx hb dX10_isLeaf_38 rfl (lv_at hl 1 rfl) ?_
        refine get_f (D := D) (ci := 10) (v := .int y97) (C := RX10) (T := TX10) (N := 67) hx hb hw inAX10 hown hK hP 0 rfl rfl 29 (by decide) (hw _ q_1290) (fun _ h9 => h9) t106 dX10_isLeaf_39 ?_
        refine lv_iload hx hb dX10_isLeaf_42 (lv_at hl 0 rfl) ?_
        refine call_Si (wr := [(h0, .inr (10, vL 67 F94)), (h_s, .inl (cI, 335, .inl f_s)), (h_paceAt, .inl (cI, 40, .inl g100)), (h_kindOf, .inl (cI, 4, .inl g101))]) (As := [.int y97, .int r1]) (rest := []) hx hb hml hown hw (m_X10_bitOf l D cI cJ cB cP cM cZ y97 r1 _ ) wS_X10_232_X10_bitOf dX10_isLeaf_44 hP hD hS hA [] [0, 1, 2, 3] rfl rfl (by decide) (by decide) (by decide) GG.fb hG.at hl.1 rfl (Nat.le_of_ble_eq_true rfl) ⟨(Nat.le_of_ble_eq_true rfl), (Nat.le_of_ble_eq_true rfl)⟩ ⟨(Nat.le_of_ble_eq_true rfl), (Nat.le_of_ble_eq_true rfl)⟩ (fun r112 u H locs hp hP hD hS => ?_)
        rcases hp with ⟨t113, rfl, rfl⟩ | ⟨t114, rfl, rfl⟩
        · have hP : va_P D vwCl [(h0, .inr (10, vL 67 F94)), (h_s, .inl (cI, 335, .inl f_s)), (h_paceAt, .inl (cI, 40, .inl g100)), (h_kindOf, .inl (cI, 4, .inl g101))] H := hP
          have hD : va_D A [(h0, .inr (10, vL 67 F94)), (h_s, .inl (cI, 335, .inl f_s)), (h_paceAt, .inl (cI, 40, .inl g100)), (h_kindOf, .inl (cI, 4, .inl g101))] := hD
          refine W.widen (k := 0) (n := 0) (Nat.le_of_ble_eq_true rfl) (Nat.le_of_ble_eq_true rfl) ?_
          exact ret_i (v := 0) hx hb hr hlocks hS hP hD dX10_isLeaf_47 rfl (Nat.le_of_ble_eq_true rfl) (Nat.le_of_ble_eq_true rfl) ⟨F94, y95, y96, y97, y98, y99, g100, g101, (SAME.tr SAME.rf t102 (by decide)), t103, t104, t106, t107, t108, t109, t110, (show 0 ≤ (0 : Int32).toInt ∧ (0 : Int32).toInt ≤ 1 by decide), rfl⟩
        · have hP : va_P D vwCl [(h0, .inr (10, vL 67 F94)), (h_s, .inl (cI, 335, .inl f_s)), (h_paceAt, .inl (cI, 40, .inl g100)), (h_kindOf, .inl (cI, 4, .inl g101))] H := hP
          have hD : va_D A [(h0, .inr (10, vL 67 F94)), (h_s, .inl (cI, 335, .inl f_s)), (h_paceAt, .inl (cI, 40, .inl g100)), (h_kindOf, .inl (cI, 4, .inl g101))] := hD
          refine W.widen (k := 0) (n := 0) (Nat.le_of_ble_eq_true rfl) (Nat.le_of_ble_eq_true rfl) ?_
          exact ret_i (v := 1) hx hb hr hlocks hS hP hD dX10_isLeaf_47 rfl (Nat.le_of_ble_eq_true rfl) (Nat.le_of_ble_eq_true rfl) ⟨F94, y95, y96, y97, y98, y99, g100, g101, (SAME.tr SAME.rf t102 (by decide)), t103, t104, t106, t107, t108, t109, t110, (show 0 ≤ (1 : Int32).toInt ∧ (1 : Int32).toInt ≤ 1 by decide), rfl⟩
      · have dc91 : r1.toInt < 0 := nle_i (a := 0) (b := r1.toInt) rfl rfl c91
        have k116 : (-1) ≤ r1.toInt ∧ r1.toInt ≤ (-1) := ⟨t2.1, up_lt dc91 (Int.le_refl _) (by decide)⟩
        refine lv_iconst (v := 0) hx hb dX10_isLeaf_32 (by decide) ?_
        exact ret_i (v := 0) hx hb hr hlocks hS (hP.sub (ws' := [(h0, .inr (10, vL 67 Fh)), (h_s, .inl (cI, 335, .inl f_s)), (h_paceAt, .inl (cI, 40, .inl f_paceAt)), (h_kindOf, .inl (cI, 4, .inl f_kindOf))]) [2, 3, 0, 1] rfl) (hD.sub (ws' := [(h0, .inr (10, vL 67 Fh)), (h_s, .inl (cI, 335, .inl f_s)), (h_paceAt, .inl (cI, 40, .inl f_paceAt)), (h_kindOf, .inl (cI, 4, .inl f_kindOf))]) [2, 3, 0, 1] (by decide) rfl) dX10_isLeaf_33 rfl (Nat.le_of_ble_eq_true rfl) (Nat.le_of_ble_eq_true rfl) ⟨Fh, x_lineTime, x_linePace, x_inside, x_late, x_seed, f_paceAt, f_kindOf, SAME.rf, e_lineTime, e_linePace, e_inside, i_x_inside, e_late, i_x_late, e_seed, (show 0 ≤ (0 : Int32).toInt ∧ (0 : Int32).toInt ≤ 1 by decide), rfl⟩
  · have dc4 : p1.toInt = 0 := eq_i (a := p1.toInt) (b := 0) rfl rfl c4
    have k117 : 0 ≤ p1.toInt ∧ p1.toInt ≤ 0 := ⟨Int.le_trans (Int.le_refl _) (Int.le_of_eq dc4.symm), Int.le_trans (Int.le_of_eq dc4) (Int.le_refl _)⟩
    refine lv_iload hx hb dX10_isLeaf_11 (lv_at hl 0 rfl) ?_
    refine lv_if_lt (tgt := 20) hx hb dX10_isLeaf_13 (by decide) (fun c118 => ?_) (fun c118 => ?_)
    · have dc118 : r1.toInt < 0 := lt_i (a := r1.toInt) (b := 0) rfl rfl c118
      have k119 : (-1) ≤ r1.toInt ∧ r1.toInt ≤ (-1) := ⟨t2.1, up_lt dc118 (Int.le_refl _) (by decide)⟩
      refine lv_iconst (v := 0) hx hb dX10_isLeaf_20 (by decide) ?_
      exact ret_i (v := 0) hx hb hr hlocks hS (hP.sub (ws' := [(h0, .inr (10, vL 67 Fh)), (h_s, .inl (cI, 335, .inl f_s)), (h_paceAt, .inl (cI, 40, .inl f_paceAt)), (h_kindOf, .inl (cI, 4, .inl f_kindOf))]) [2, 3, 0, 1] rfl) (hD.sub (ws' := [(h0, .inr (10, vL 67 Fh)), (h_s, .inl (cI, 335, .inl f_s)), (h_paceAt, .inl (cI, 40, .inl f_paceAt)), (h_kindOf, .inl (cI, 4, .inl f_kindOf))]) [2, 3, 0, 1] (by decide) rfl) dX10_isLeaf_21 rfl (Nat.le_of_ble_eq_true rfl) (Nat.le_of_ble_eq_true rfl) ⟨Fh, x_lineTime, x_linePace, x_inside, x_late, x_seed, f_paceAt, f_kindOf, SAME.rf, e_lineTime, e_linePace, e_inside, i_x_inside, e_late, i_x_late, e_seed, (show 0 ≤ (0 : Int32).toInt ∧ (0 : Int32).toInt ≤ 1 by decide), rfl⟩
    · have dc118 : 0 ≤ r1.toInt := nlt_i (a := r1.toInt) (b := 0) rfl rfl c118
      have k120 : 0 ≤ r1.toInt ∧ r1.toInt ≤ 3 := ⟨Int.le_trans (Int.le_refl _) dc118, t2.2⟩
      refine lv_iconst (v := 1) hx hb dX10_isLeaf_16 (by decide) ?_
      refine lv_goto (tgt := 21) hx hb dX10_isLeaf_17 (by decide) ?_
      exact ret_i (v := 1) hx hb hr hlocks hS (hP.sub (ws' := [(h0, .inr (10, vL 67 Fh)), (h_s, .inl (cI, 335, .inl f_s)), (h_paceAt, .inl (cI, 40, .inl f_paceAt)), (h_kindOf, .inl (cI, 4, .inl f_kindOf))]) [2, 3, 0, 1] rfl) (hD.sub (ws' := [(h0, .inr (10, vL 67 Fh)), (h_s, .inl (cI, 335, .inl f_s)), (h_paceAt, .inl (cI, 40, .inl f_paceAt)), (h_kindOf, .inl (cI, 4, .inl f_kindOf))]) [2, 3, 0, 1] (by decide) rfl) dX10_isLeaf_21 rfl (Nat.le_of_ble_eq_true rfl) (Nat.le_of_ble_eq_true rfl) ⟨Fh, x_lineTime, x_linePace, x_inside, x_late, x_seed, f_paceAt, f_kindOf, SAME.rf, e_lineTime, e_linePace, e_inside, i_x_inside, e_late, i_x_late, e_seed, (show 0 ≤ (1 : Int32).toInt ∧ (1 : Int32).toInt ≤ 1 by decide), rfl⟩
set_option maxHeartbeats 4000000 in
set_option maxRecDepth 100000 in
theorem m_X10_isSaid (l : Launch) (D : va_G) (cI cJ cB cP cM cZ : ClassId) (h0 : Nat) (h_s : Nat) (h_paceAt : Nat) (h_kindOf : Nat) (h_truths : Nat) (Fh : Nat → Value) (x_lineTime : Int32) (x_linePace : Int32) (x_inside : Int32) (x_late : Int32) (x_seed : Int32) (x_kicks : Int32) (f_s : Nat → Int32) (f_paceAt : Nat → Int32) (f_kindOf : Nat → Int32) (f_truths : Nat → Int32) (p0 : Int32) (sz : Nat) (e_s : Fh 6 = .ref h_s) (e_paceAt : Fh 25 = .ref h_paceAt) (e_kindOf : Fh 26 = .ref h_kindOf) (e_lineTime : Fh 27 = .int x_lineTime) (e_linePace : Fh 28 = .int x_linePace) (e_inside : Fh 29 = .int x_inside) (i_x_inside : IR 0 15 x_inside) (e_late : Fh 30 = .int x_late) (i_x_late : IR 0 15 x_late) (e_seed : Fh 31 = .int x_seed) (e_kicks : Fh 32 = .int x_kicks) (i_x_kicks : IR 0 1 x_kicks) (e_truths : Fh 63 = .ref h_truths) (s_s_K0 : KW 0 f_s) (s_s_0 : SG 0 0 0 40 f_s) (s_s_105 : SG 105 108 0 11 f_s) (s_s_114 : SG 114 114 0 5 f_s) (s_s_130 : SG 130 133 0 11 f_s) (s_s_139 : SG 139 139 0 5 f_s) (s_s_153 : SG 153 153 0 44 f_s) (s_s_44 : SG 44 55 0 9 f_s) (s_s_5 : SG 5 5 0 12 f_s) (s_s_6 : SG 6 6 0 12 f_s) (s_s_7 : SG 7 7 0 6 f_s) (s_truths_0 : SG 0 44 0 1 f_truths) (i_p0 : IR 0 11 p0) : CI l yX10_isSaid cX10_isSaid 5 (some .boolean) { frames := 5, cells := 0, slots := 0, locals := 120 } (GG D cI cJ cB cP cM cZ) D [(h0, .inr (10, vL 67 Fh)), (h_s, .inl (cI, 335, .inl f_s)), (h_paceAt, .inl (cI, 40, .inl f_paceAt)), (h_kindOf, .inl (cI, 4, .inl f_kindOf)), (h_truths, .inl (cZ, 45, .inl f_truths))] sz [.ref h0, .int p0] (fun (r : Int32) (u : va_W) => ∃ (Gh : Nat → Value) (y_lineTime : Int32) (y_linePace : Int32) (y_inside : Int32) (y_late : Int32) (y_seed : Int32) (g_paceAt : Nat → Int32) (g_kindOf : Nat → Int32) (g_truths : Nat → Int32), SAME [27, 28, 29, 30, 31] Fh Gh ∧ Gh 27 = .int y_lineTime ∧ Gh 28 = .int y_linePace ∧ Gh 29 = .int y_inside ∧ IR 0 15 y_inside ∧ Gh 30 = .int y_late ∧ IR 0 15 y_late ∧ Gh 31 = .int y_seed ∧ SG 0 44 0 1 g_truths ∧ IR 0 1 r ∧ u = [(h0, .inr (10, vL 67 Gh)), (h_s, .inl (cI, 335, .inl f_s)), (h_paceAt, .inl (cI, 40, .inl g_paceAt)), (h_kindOf, .inl (cI, 4, .inl g_kindOf)), (h_truths, .inl (cZ, 45, .inl g_truths))]) := by
  refine CI_mk (by decide) (Nat.le_of_ble_eq_true rfl) ?_
  intro p e s m below meth c A ls E hAe hG hsz hP hD hA hS hl
  obtain ⟨hx, hb, hr, hw, hown, hlocks, hml, hnm⟩ := E
  have hK := hG.1
  have i_x_inside : 0 ≤ x_inside.toInt ∧ x_inside.toInt ≤ 15 := i_x_inside
  have i_x_late : 0 ≤ x_late.toInt ∧ x_late.toInt ≤ 15 := i_x_late
  have i_x_kicks : 0 ≤ x_kicks.toInt ∧ x_kicks.toInt ≤ 1 := i_x_kicks
  have i_p0 : 0 ≤ p0.toInt ∧ p0.toInt ≤ 11 := i_p0
  have hl : lv_has ls 5 [(0, .ref h0), (1, .int p0)] := hl
  refine lv_iconst (v := 0) hx hb dX10_isSaid_0 (by decide) ?_
  refine lv_istore_n (lv' := [(2, .int 0), (0, .ref h0), (1, .int p0)]) hx hb dX10_isSaid_1 rfl hl (by decide) rfl (fun ls hl => ?_)
  refine lv_iconst (v := 0) hx hb dX10_isSaid_2 (by decide) ?_
  refine lv_istore_n (lv' := [(3, .int 0), (2, .int 0), (0, .ref h0), (1, .int p0)]) hx hb dX10_isSaid_3 rfl hl (by decide) rfl (fun ls hl => ?_)
  refine mloop (α := (Int32) × (Int32) × (Nat → Value) × (Int32) × (Int32) × (Int32) × (Int32) × (Int32) × (Nat → Int32) × (Nat → Int32) × (Nat → Int32)) (nL := 5) (D := D) (A := A) (H0 := s.heap) (fun a => (44 - a.1.toInt).toNat) (fun a => IR 0 44 a.1 ∧ IR (-1) 45 a.2.1 ∧ SAME [27, 28, 29, 30, 31] Fh a.2.2.1 ∧ a.2.2.1 27 = .int a.2.2.2.1 ∧ a.2.2.1 28 = .int a.2.2.2.2.1 ∧ a.2.2.1 29 = .int a.2.2.2.2.2.1 ∧ a.2.2.1 30 = .int a.2.2.2.2.2.2.1 ∧ a.2.2.1 31 = .int a.2.2.2.2.2.2.2.1 ∧ IR 0 15 a.2.2.2.2.2.1 ∧ IR 0 15 a.2.2.2.2.2.2.1 ∧ SG 0 44 0 1 a.2.2.2.2.2.2.2.2.2.2 ∧ ((a.2.1.toInt : Int) = dep f_s 154 (a.1.toInt : Int).toNat) ∧ (0 ≤ a.2.1.toInt)) (fun a => [(h0, .inr (10, vL 67 a.2.2.1)), (h_s, .inl (cI, 335, .inl f_s)), (h_paceAt, .inl (cI, 40, .inl a.2.2.2.2.2.2.2.2.1)), (h_kindOf, .inl (cI, 4, .inl a.2.2.2.2.2.2.2.2.2.1)), (h_truths, .inl (cZ, 45, .inl a.2.2.2.2.2.2.2.2.2.2))]) (fun a => [(3, .int a.1), (2, .int a.2.1), (0, .ref h0), (1, .int p0)]) (fun H locs ls => W p l e ({ frames := 5, cells := 0, slots := 0, locals := 120 } : Room) s m [.ref h0, .int p0].toArray below meth c H locs 0 0 (MQ below (va_Qi (fun (r : Int32) (u : va_W) => ∃ (Gh : Nat → Value) (y_lineTime : Int32) (y_linePace : Int32) (y_inside : Int32) (y_late : Int32) (y_seed : Int32) (g_paceAt : Nat → Int32) (g_kindOf : Nat → Int32) (g_truths : Nat → Int32), SAME [27, 28, 29, 30, 31] Fh Gh ∧ Gh 27 = .int y_lineTime ∧ Gh 28 = .int y_linePace ∧ Gh 29 = .int y_inside ∧ IR 0 15 y_inside ∧ Gh 30 = .int y_late ∧ IR 0 15 y_late ∧ Gh 31 = .int y_seed ∧ SG 0 44 0 1 g_truths ∧ IR 0 1 r ∧ u = [(h0, .inr (10, vL 67 Gh)), (h_s, .inl (cI, 335, .inl f_s)), (h_paceAt, .inl (cI, 40, .inl g_paceAt)), (h_kindOf, .inl (cI, 4, .inl g_kindOf)), (h_truths, .inl (cZ, 45, .inl g_truths))]) (PO D A) A) [.ref h0, .int p0].toArray s 0 0 A) (F0 m 4 ls [])) ?_ (0, 0, Fh, x_lineTime, x_linePace, x_inside, x_late, x_seed, f_paceAt, f_kindOf, f_truths) ⟨(show 0 ≤ (0 : Int32).toInt ∧ (0 : Int32).toInt ≤ 44 by decide), (show (-1) ≤ (0 : Int32).toInt ∧ (0 : Int32).toInt ≤ 45 by decide), SAME.rf, e_lineTime, e_linePace, e_inside, e_late, e_seed, i_x_inside, i_x_late, s_truths_0, (show (0 : Int) = dep f_s 154 (0 : Int).toNat from rfl), (by show 0 ≤ 0; omega)⟩ _ _ _ hP hD hS hl
  rintro ⟨u1, u2, G3, u4, u5, u6, u7, u8, w9, w10, w11⟩ ⟨i12, i13, i14, i15, i16, i17, i18, i19, i20, i21, i22, i23, i24⟩ ih H locs ls hP hD hS hl
  have i12 : 0 ≤ u1.toInt ∧ u1.toInt ≤ 44 := i12
  have i13 : (-1) ≤ u2.toInt ∧ u2.toInt ≤ 45 := i13
  have i20 : 0 ≤ u6.toInt ∧ u6.toInt ≤ 15 := i20
  have i21 : 0 ≤ u7.toInt ∧ u7.toInt ≤ 15 := i21
  have i23 : (u2.toInt : Int) = dep f_s 154 (u1.toInt : Int).toNat := i23
  have i24 : 0 ≤ u2.toInt := i24
  have hP : va_P D vwCl [(h0, .inr (10, vL 67 G3)), (h_s, .inl (cI, 335, .inl f_s)), (h_paceAt, .inl (cI, 40, .inl w9)), (h_kindOf, .inl (cI, 4, .inl w10)), (h_truths, .inl (cZ, 45, .inl w11))] H := hP
  have hD : va_D A [(h0, .inr (10, vL 67 G3)), (h_s, .inl (cI, 335, .inl f_s)), (h_paceAt, .inl (cI, 40, .inl w9)), (h_kindOf, .inl (cI, 4, .inl w10)), (h_truths, .inl (cZ, 45, .inl w11))] := hD
  have hl : lv_has ls 5 [(3, .int u1), (2, .int u2), (0, .ref h0), (1, .int p0)] := hl
  refine lv_iload_n hx hb dX10_isSaid_4 rfl (lv_at hl 0 rfl) ?_
  refine lv_aload_n hx hb dX10_isSaid_5 rfl (lv_at hl 2 rfl) ?_
  have n25 : G3 6 = .ref h_s := (SAME.at i14 (by decide) e_s)
  refine get_f (D := D) (ci := 10) (v := .ref h_s) (C := RX10) (T := TX10) (N := 67) hx hb hw inAX10 hown hK hP 0 rfl rfl 6 (by decide) (hw _ q_1267) (fun _ h9 => h9) n25 dX10_isSaid_6 ?_
  refine lv_sipush (v := 153) hx hb dX10_isSaid_9 (by decide) ?_
  refine iald_n hx hb hK hP 1 0 rfl rfl 153 rfl (Nat.le_of_ble_eq_true rfl) (Nat.le_of_ble_eq_true rfl) rfl dX10_isSaid_12 ?_
  refine lv_topi (fun v26 ev26 => ?_)
  have k27 : 0 ≤ v26.toInt ∧ v26.toInt ≤ 44 := by rw [ev26]; exact s_s_153.atN 153 (by decide) (by decide)
  refine lv_icmp_ge (tgt := 212) hx hb dX10_isSaid_13 (by decide) (fun c28 => ?_) (fun c28 => ?_)
  · have dc28 : v26.toInt ≤ u1.toInt := le_i (a := v26.toInt) (b := u1.toInt) rfl rfl c28
    refine lv_aload_n hx hb dX10_isSaid_212 rfl (lv_at hl 2 rfl) ?_
    have n29 : G3 63 = .ref h_truths := (SAME.at i14 (by decide) e_truths)
    refine get_f (D := D) (ci := 10) (v := .ref h_truths) (C := RX10) (T := TX10) (N := 67) hx hb hw inAX10 hown hK hP 0 rfl rfl 63 (by decide) (hw _ q_1324) (fun _ h9 => h9) n29 dX10_isSaid_213 ?_
    refine lv_iconst (v := 0) hx hb dX10_isSaid_216 (by decide) ?_
    refine zald_n hx hb hK hP 4 5 rfl rfl 0 rfl (Nat.le_of_ble_eq_true rfl) (Nat.le_of_ble_eq_true rfl) rfl dX10_isSaid_217 ?_
    refine lv_topi (fun v30 ev30 => ?_)
    have k31 : 0 ≤ v30.toInt ∧ v30.toInt ≤ 1 := by rw [ev30]; exact i22.atN 0 (by decide) (by decide)
    exact ret_i (v := v30) hx hb hr hlocks hS hP hD dX10_isSaid_218 (nz_i k31.1 k31.2) (Nat.le_of_ble_eq_true rfl) (Nat.le_of_ble_eq_true rfl) ⟨G3, u4, u5, u6, u7, u8, w9, w10, w11, (SAME.tr SAME.rf i14 (by decide)), i15, i16, i17, i20, i18, i21, i19, i22, k31, rfl⟩
  · have dc28 : u1.toInt < v26.toInt := nle_i (a := v26.toInt) (b := u1.toInt) rfl rfl c28
    have k32 : 0 ≤ u1.toInt ∧ u1.toInt ≤ 43 := ⟨i12.1, up_lt dc28 k27.2 (by decide)⟩
    have k33 : 1 ≤ v26.toInt ∧ v26.toInt ≤ 44 := ⟨lo_lt dc28 i12.1 (by decide), k27.2⟩
    refine lv_sipush (v := 154) hx hb dX10_isSaid_16 (by decide) ?_
    refine lv_iconst (v := 3) hx hb dX10_isSaid_19 (by decide) ?_
    refine lv_iload_n hx hb dX10_isSaid_20 rfl (lv_at hl 0 rfl) ?_
    refine lv_imul hx hb dX10_isSaid_21 ?_
    refine lv_topi (fun v34 ev34 => ?_)
    have bv34 : v34.toInt = 3 * u1.toInt := by rw [ev34]; exact kmul_k rfl rfl (by decide) k32 (by decide)
    have k35 : 0 ≤ v34.toInt ∧ v34.toInt ≤ 129 := kmul_r bv34 (by decide) k32 (by decide)
    refine lv_iadd hx hb dX10_isSaid_22 ?_
    refine lv_topi (fun v36 ev36 => ?_)
    have bv36 : v36.toInt = 154 + v34.toInt := by rw [ev36]; exact add_k rfl rfl ⟨Int.le_refl _, Int.le_refl _⟩ k35 (by decide)
    have k37 : 154 ≤ v36.toInt ∧ v36.toInt ≤ 283 := add_r bv36 ⟨Int.le_refl _, Int.le_refl _⟩ k35 (by decide)
    refine lv_istore (lv' := [(4, .int v36), (3, .int u1), (2, .int u2), (0, .ref h0), (1, .int p0)]) hx hb dX10_isSaid_23 hl (by decide) rfl (fun ls hl => ?_)
    refine lv_aload_n hx hb dX10_isSaid_25 rfl (lv_at hl 3 rfl) ?_
    refine get_f (D := D) (ci := 10) (v := .ref h_s) (C := RX10) (T := TX10) (N := 67) hx hb hw inAX10 hown hK hP 0 rfl rfl 6 (by decide) (hw _ q_1267) (fun _ h9 => h9) n25 dX10_isSaid_26 ?_
    refine lv_iload hx hb dX10_isSaid_29 (lv_at hl 0 rfl) ?_
    refine va_iald hx hb hK hP 1 0 rfl rfl (ix_k k37 (by decide) (by decide)) dX10_isSaid_31 ?_
    refine lv_topi (fun v38 ev38 => ?_)
    have h39 := KW.g s_s_K0 (i := u1) ev38 (by omega) (by omega) (congrArg Int32.toInt ev26.symm) (by omega)
    have h40 := stp_ca v38.toInt
    have h41 := dep_le f_s 154 u1.toInt.toNat
    have dh41 := dep_st (i := u1) ev38 (by omega) (by omega) (rfl : u1.toInt + 1 = u1.toInt + 1)
    refine lv_bipush (v := 20) hx hb dX10_isSaid_32 (by decide) ?_
    refine lv_icmp_ne (tgt := 64) hx hb dX10_isSaid_34 (by decide) (fun c42 => ?_) (fun c42 => ?_)
    · have dc42 : v38.toInt ≠ 20 := ne_i (a := v38.toInt) (b := 20) rfl rfl c42
      refine lv_aload_n hx hb dX10_isSaid_64 rfl (lv_at hl 3 rfl) ?_
      refine get_f (D := D) (ci := 10) (v := .ref h_s) (C := RX10) (T := TX10) (N := 67) hx hb hw inAX10 hown hK hP 0 rfl rfl 6 (by decide) (hw _ q_1267) (fun _ h9 => h9) n25 dX10_isSaid_65 ?_
      refine lv_iload hx hb dX10_isSaid_68 (lv_at hl 0 rfl) ?_
      refine va_iald hx hb hK hP 1 0 rfl rfl (ix_k k37 (by decide) (by decide)) dX10_isSaid_70 ?_
      refine lv_ci (y := v38) ev38.symm ?_
      refine lv_bipush (v := 21) hx hb dX10_isSaid_71 (by decide) ?_
      refine lv_icmp_eq (tgt := 88) hx hb dX10_isSaid_73 (by decide) (fun c43 => ?_) (fun c43 => ?_)
      · have dc43 : v38.toInt = 21 := eq_i (a := v38.toInt) (b := 21) rfl rfl c43
        have k44 : 21 ≤ v38.toInt ∧ v38.toInt ≤ 21 := ⟨Int.le_trans (Int.le_refl _) (Int.le_of_eq dc43.symm), Int.le_trans (Int.le_of_eq dc43) (Int.le_refl _)⟩
        obtain ⟨v45, ev45⟩ : ∃ z : Int32, z = u2 + (-1) := ⟨_, rfl⟩
        have bv45 : v45.toInt = u2.toInt + (-1) := by rw [ev45]; exact add_k rfl rfl i13 ⟨Int.le_refl _, Int.le_refl _⟩ (by decide)
        have k46 : (-2) ≤ v45.toInt ∧ v45.toInt ≤ 44 := add_r bv45 i13 ⟨Int.le_refl _, Int.le_refl _⟩ (by decide)
        refine lv_iinc (v := v45) (lv' := [(2, .int v45), (4, .int v36), (3, .int u1), (0, .ref h0), (1, .int p0)]) hx hb dX10_isSaid_88 hl (k := 2) rfl (by rw [ev45]; rfl) (by decide) rfl (fun ls hl => ?_)
        refine lv_aload_n hx hb dX10_isSaid_91 rfl (lv_at hl 3 rfl) ?_
        have n47 : G3 63 = .ref h_truths := (SAME.at i14 (by decide) e_truths)
        refine get_f (D := D) (ci := 10) (v := .ref h_truths) (C := RX10) (T := TX10) (N := 67) hx hb hw inAX10 hown hK hP 0 rfl rfl 63 (by decide) (hw _ q_1324) (fun _ h9 => h9) n47 dX10_isSaid_92 ?_
        refine lv_iload_n hx hb dX10_isSaid_95 rfl (lv_at hl 0 rfl) ?_
        refine lv_iconst (v := 1) hx hb dX10_isSaid_96 (by decide) ?_
        refine lv_isub hx hb dX10_isSaid_97 ?_
        refine lv_topi (fun v48 ev48 => ?_)
        have bv48 : v48.toInt = v45.toInt - 1 := by rw [ev48]; exact sub_k rfl rfl k46 ⟨Int.le_refl _, Int.le_refl _⟩ (by decide)
        have k49 : (-3) ≤ v48.toInt ∧ v48.toInt ≤ 43 := sub_r bv48 k46 ⟨Int.le_refl _, Int.le_refl _⟩ (by decide)
        refine lv_aload_n hx hb dX10_isSaid_98 rfl (lv_at hl 3 rfl) ?_
        refine get_f (D := D) (ci := 10) (v := .ref h_s) (C := RX10) (T := TX10) (N := 67) hx hb hw inAX10 hown hK hP 0 rfl rfl 6 (by decide) (hw _ q_1267) (fun _ h9 => h9) n25 dX10_isSaid_99 ?_
        refine lv_iload hx hb dX10_isSaid_102 (lv_at hl 1 rfl) ?_
        refine va_iald hx hb hK hP 1 0 rfl rfl (ix_k k37 (by decide) (by decide)) dX10_isSaid_104 ?_
        refine lv_ci (y := v38) ev38.symm ?_
        refine lv_bipush (v := 21) hx hb dX10_isSaid_105 (by decide) ?_
        refine lv_icmp_ne (tgt := 138) hx hb dX10_isSaid_107 (by decide) (fun c50 => False.elim (bad_ne (ne_i (a := v38.toInt) (b := 21) rfl rfl c50) k44 ⟨Int.le_refl _, Int.le_refl _⟩ (by decide))) (fun c50 => ?_)
        have dc50 : v38.toInt = 21 := eq_i (a := v38.toInt) (b := 21) rfl rfl c50
        refine lv_aload_n hx hb dX10_isSaid_110 rfl (lv_at hl 3 rfl) ?_
        refine get_f (D := D) (ci := 10) (v := .ref h_truths) (C := RX10) (T := TX10) (N := 67) hx hb hw inAX10 hown hK hP 0 rfl rfl 63 (by decide) (hw _ q_1324) (fun _ h9 => h9) n47 dX10_isSaid_111 ?_
        refine lv_iload_n hx hb dX10_isSaid_114 rfl (lv_at hl 0 rfl) ?_
        refine lv_iconst (v := 1) hx hb dX10_isSaid_115 (by decide) ?_
        refine lv_isub hx hb dX10_isSaid_116 ?_
        refine lv_ci (y := v48) ev48.symm ?_
        refine va_zald hx hb hK hP 4 5 rfl rfl (ix_i (by omega) (by omega)) dX10_isSaid_117 ?_
        refine lv_topi (fun v51 ev51 => ?_)
        have r52 : IMP (0 ≤ v48.toInt → v48.toInt ≤ 44 → 0 ≤ v51.toInt ∧ v51.toInt ≤ 1) := IMP.mk (fun q1 q2 => by rw [ev51]; exact i22.at _ q1 q2)
        refine lv_if_eq (tgt := 134) hx hb dX10_isSaid_118 (by decide) (fun c53 => ?_) (fun c53 => ?_)
        · have dc53 : v51.toInt = 0 := eq_i (a := v51.toInt) (b := 0) rfl rfl c53
          have k54 : 0 ≤ v51.toInt ∧ v51.toInt ≤ 0 := ⟨Int.le_trans (Int.le_refl _) (Int.le_of_eq dc53.symm), Int.le_trans (Int.le_of_eq dc53) (Int.le_refl _)⟩
          refine lv_iconst (v := 0) hx hb dX10_isSaid_134 (by decide) ?_
          refine lv_goto (tgt := 163) hx hb dX10_isSaid_135 (by decide) ?_
          obtain ⟨g55, eg55⟩ : ∃ z : Nat → Int32, upd w11 v48.toNatClampNeg (vp_nar .boolean 0) = z := ⟨_, rfl⟩
          have r56 : SG 0 44 0 1 g55 := by rw [← eg55, zn_k (show 0 ≤ (0 : Int32).toInt ∧ (0 : Int32).toInt ≤ 1 by decide)]; exact i22.up (by omega) (Or.inr (Or.inr ⟨by decide, by decide⟩))
          refine zast_g hx hb hK hP hD hS 4 5 rfl rfl (ix_i (by omega) (by omega)) eg55 dX10_isSaid_163 (fun H locs hP hD hS => ?_)
          have hP : va_P D vwCl [(h0, .inr (10, vL 67 G3)), (h_s, .inl (cI, 335, .inl f_s)), (h_paceAt, .inl (cI, 40, .inl w9)), (h_kindOf, .inl (cI, 4, .inl w10)), (h_truths, .inl (cZ, 45, .inl g55))] H := hP
          have hD : va_D A [(h0, .inr (10, vL 67 G3)), (h_s, .inl (cI, 335, .inl f_s)), (h_paceAt, .inl (cI, 40, .inl w9)), (h_kindOf, .inl (cI, 4, .inl w10)), (h_truths, .inl (cZ, 45, .inl g55))] := hD
          refine lv_goto (tgt := 206) hx hb dX10_isSaid_164 (by decide) ?_
          obtain ⟨v57, ev57⟩ : ∃ z : Int32, z = u1 + 1 := ⟨_, rfl⟩
          have bv57 : v57.toInt = u1.toInt + 1 := by rw [ev57]; exact add_k rfl rfl k32 ⟨Int.le_refl _, Int.le_refl _⟩ (by decide)
          have k58 : 1 ≤ v57.toInt ∧ v57.toInt ≤ 44 := add_r bv57 k32 ⟨Int.le_refl _, Int.le_refl _⟩ (by decide)
          refine lv_iinc (v := v57) (lv' := [(3, .int v57), (2, .int v45), (4, .int v36), (0, .ref h0), (1, .int p0)]) hx hb dX10_isSaid_206 hl (k := 2) rfl (by rw [ev57]; rfl) (by decide) rfl (fun ls hl => ?_)
          refine lv_goto (tgt := 4) hx hb dX10_isSaid_209 (by decide) ?_
          exact ih (v57, v45, G3, u4, u5, u6, u7, u8, w9, w10, g55) ⟨(ir_wk k58 (by decide) (by decide)), (show (-1) ≤ v45.toInt ∧ v45.toInt ≤ 45 from ⟨by omega, by omega⟩), (SAME.tr SAME.rf i14 (by decide)), i15, i16, i17, i18, i19, i20, i21, r56, (show (v45.toInt : Int) = dep f_s 154 (v57.toInt : Int).toNat from (by rw [bv57]; omega)), (by show 0 ≤ v45.toInt; omega)⟩ (by show (44 - v57.toInt).toNat < (44 - u1.toInt).toNat; omega) _ _ _ hP hD hS (lv_sub hl [0, 1, 3, 4] rfl)
        · have dc53 : v51.toInt ≠ 0 := ne_i (a := v51.toInt) (b := 0) rfl rfl c53
          refine lv_aload_n hx hb dX10_isSaid_121 rfl (lv_at hl 3 rfl) ?_
          refine get_f (D := D) (ci := 10) (v := .ref h_truths) (C := RX10) (T := TX10) (N := 67) hx hb hw inAX10 hown hK hP 0 rfl rfl 63 (by decide) (hw _ q_1324) (fun _ h9 => h9) n47 dX10_isSaid_122 ?_
          refine lv_iload_n hx hb dX10_isSaid_125 rfl (lv_at hl 0 rfl) ?_
          refine va_zald hx hb hK hP 4 5 rfl rfl (ix_i (by omega) (by omega)) dX10_isSaid_126 ?_
          refine lv_topi (fun v59 ev59 => ?_)
          have r60 : IMP (0 ≤ v45.toInt → v45.toInt ≤ 44 → 0 ≤ v59.toInt ∧ v59.toInt ≤ 1) := IMP.mk (fun q1 q2 => by rw [ev59]; exact i22.at _ q1 q2)
          refine lv_if_eq (tgt := 134) hx hb dX10_isSaid_127 (by decide) (fun c61 => ?_) (fun c61 => ?_)
          · have dc61 : v59.toInt = 0 := eq_i (a := v59.toInt) (b := 0) rfl rfl c61
            have k62 : 0 ≤ v59.toInt ∧ v59.toInt ≤ 0 := ⟨Int.le_trans (Int.le_refl _) (Int.le_of_eq dc61.symm), Int.le_trans (Int.le_of_eq dc61) (Int.le_refl _)⟩
            refine lv_iconst (v := 0) hx hb dX10_isSaid_134 (by decide) ?_
            refine lv_goto (tgt := 163) hx hb dX10_isSaid_135 (by decide) ?_
            obtain ⟨g63, eg63⟩ : ∃ z : Nat → Int32, upd w11 v48.toNatClampNeg (vp_nar .boolean 0) = z := ⟨_, rfl⟩
            have r64 : SG 0 44 0 1 g63 := by rw [← eg63, zn_k (show 0 ≤ (0 : Int32).toInt ∧ (0 : Int32).toInt ≤ 1 by decide)]; exact i22.up (by omega) (Or.inr (Or.inr ⟨by decide, by decide⟩))
            refine zast_g hx hb hK hP hD hS 4 5 rfl rfl (ix_i (by omega) (by omega)) eg63 dX10_isSaid_163 (fun H locs hP hD hS => ?_)
            have hP : va_P D vwCl [(h0, .inr (10, vL 67 G3)), (h_s, .inl (cI, 335, .inl f_s)), (h_paceAt, .inl (cI, 40, .inl w9)), (h_kindOf, .inl (cI, 4, .inl w10)), (h_truths, .inl (cZ, 45, .inl g63))] H := hP
            have hD : va_D A [(h0, .inr (10, vL 67 G3)), (h_s, .inl (cI, 335, .inl f_s)), (h_paceAt, .inl (cI, 40, .inl w9)), (h_kindOf, .inl (cI, 4, .inl w10)), (h_truths, .inl (cZ, 45, .inl g63))] := hD
            refine lv_goto (tgt := 206) hx hb dX10_isSaid_164 (by decide) ?_
            obtain ⟨v65, ev65⟩ : ∃ z : Int32, z = u1 + 1 := ⟨_, rfl⟩
            have bv65 : v65.toInt = u1.toInt + 1 := by rw [ev65]; exact add_k rfl rfl k32 ⟨Int.le_refl _, Int.le_refl _⟩ (by decide)
            have k66 : 1 ≤ v65.toInt ∧ v65.toInt ≤ 44 := add_r bv65 k32 ⟨Int.le_refl _, Int.le_refl _⟩ (by decide)
            refine lv_iinc (v := v65) (lv' := [(3, .int v65), (2, .int v45), (4, .int v36), (0, .ref h0), (1, .int p0)]) hx hb dX10_isSaid_206 hl (k := 2) rfl (by rw [ev65]; rfl) (by decide) rfl (fun ls hl => ?_)
            refine lv_goto (tgt := 4) hx hb dX10_isSaid_209 (by decide) ?_
            exact ih (v65, v45, G3, u4, u5, u6, u7, u8, w9, w10, g63) ⟨(ir_wk k66 (by decide) (by decide)), (show (-1) ≤ v45.toInt ∧ v45.toInt ≤ 45 from ⟨by omega, by omega⟩), (SAME.tr SAME.rf i14 (by decide)), i15, i16, i17, i18, i19, i20, i21, r64, (show (v45.toInt : Int) = dep f_s 154 (v65.toInt : Int).toNat from (by rw [bv65]; omega)), (by show 0 ≤ v45.toInt; omega)⟩ (by show (44 - v65.toInt).toNat < (44 - u1.toInt).toNat; omega) _ _ _ hP hD hS (lv_sub hl [0, 1, 3, 4] rfl)
          · have dc61 : v59.toInt ≠ 0 := ne_i (a := v59.toInt) (b := 0) rfl rfl c61
            refine lv_iconst (v := 1) hx hb dX10_isSaid_130 (by decide) ?_
            refine lv_goto (tgt := 163) hx hb dX10_isSaid_131 (by decide) ?_
            obtain ⟨g67, eg67⟩ : ∃ z : Nat → Int32, upd w11 v48.toNatClampNeg (vp_nar .boolean 1) = z := ⟨_, rfl⟩
            have r68 : SG 0 44 0 1 g67 := by rw [← eg67, zn_k (show 0 ≤ (1 : Int32).toInt ∧ (1 : Int32).toInt ≤ 1 by decide)]; exact i22.up (by omega) (Or.inr (Or.inr ⟨by decide, by decide⟩))
            refine zast_g hx hb hK hP hD hS 4 5 rfl rfl (ix_i (by omega) (by omega)) eg67 dX10_isSaid_163 (fun H locs hP hD hS => ?_)
            have hP : va_P D vwCl [(h0, .inr (10, vL 67 G3)), (h_s, .inl (cI, 335, .inl f_s)), (h_paceAt, .inl (cI, 40, .inl w9)), (h_kindOf, .inl (cI, 4, .inl w10)), (h_truths, .inl (cZ, 45, .inl g67))] H := hP
            have hD : va_D A [(h0, .inr (10, vL 67 G3)), (h_s, .inl (cI, 335, .inl f_s)), (h_paceAt, .inl (cI, 40, .inl w9)), (h_kindOf, .inl (cI, 4, .inl w10)), (h_truths, .inl (cZ, 45, .inl g67))] := hD
            refine lv_goto (tgt := 206) hx hb dX10_isSaid_164 (by decide) ?_
            obtain ⟨v69, ev69⟩ : ∃ z : Int32, z = u1 + 1 := ⟨_, rfl⟩
            have bv69 : v69.toInt = u1.toInt + 1 := by rw [ev69]; exact add_k rfl rfl k32 ⟨Int.le_refl _, Int.le_refl _⟩ (by decide)
            have k70 : 1 ≤ v69.toInt ∧ v69.toInt ≤ 44 := add_r bv69 k32 ⟨Int.le_refl _, Int.le_refl _⟩ (by decide)
            refine lv_iinc (v := v69) (lv' := [(3, .int v69), (2, .int v45), (4, .int v36), (0, .ref h0), (1, .int p0)]) hx hb dX10_isSaid_206 hl (k := 2) rfl (by rw [ev69]; rfl) (by decide) rfl (fun ls hl => ?_)
            refine lv_goto (tgt := 4) hx hb dX10_isSaid_209 (by decide) ?_
            exact ih (v69, v45, G3, u4, u5, u6, u7, u8, w9, w10, g67) ⟨(ir_wk k70 (by decide) (by decide)), (show (-1) ≤ v45.toInt ∧ v45.toInt ≤ 45 from ⟨by omega, by omega⟩), (SAME.tr SAME.rf i14 (by decide)), i15, i16, i17, i18, i19, i20, i21, r68, (show (v45.toInt : Int) = dep f_s 154 (v69.toInt : Int).toNat from (by rw [bv69]; omega)), (by show 0 ≤ v45.toInt; omega)⟩ (by show (44 - v69.toInt).toNat < (44 - u1.toInt).toNat; omega) _ _ _ hP hD hS (lv_sub hl [0, 1, 3, 4] rfl)
      · have dc43 : v38.toInt ≠ 21 := ne_i (a := v38.toInt) (b := 21) rfl rfl c43
        refine lv_aload_n hx hb dX10_isSaid_76 rfl (lv_at hl 3 rfl) ?_
        refine get_f (D := D) (ci := 10) (v := .ref h_s) (C := RX10) (T := TX10) (N := 67) hx hb hw inAX10 hown hK hP 0 rfl rfl 6 (by decide) (hw _ q_1267) (fun _ h9 => h9) n25 dX10_isSaid_77 ?_
        refine lv_iload hx hb dX10_isSaid_80 (lv_at hl 0 rfl) ?_
        refine va_iald hx hb hK hP 1 0 rfl rfl (ix_k k37 (by decide) (by decide)) dX10_isSaid_82 ?_
        refine lv_ci (y := v38) ev38.symm ?_
        refine lv_bipush (v := 22) hx hb dX10_isSaid_83 (by decide) ?_
        refine lv_icmp_ne (tgt := 167) hx hb dX10_isSaid_85 (by decide) (fun c71 => ?_) (fun c71 => ?_)
        · have dc71 : v38.toInt ≠ 22 := ne_i (a := v38.toInt) (b := 22) rfl rfl c71
          refine lv_aload_n hx hb dX10_isSaid_167 rfl (lv_at hl 3 rfl) ?_
          have n72 : G3 63 = .ref h_truths := (SAME.at i14 (by decide) e_truths)
          refine get_f (D := D) (ci := 10) (v := .ref h_truths) (C := RX10) (T := TX10) (N := 67) hx hb hw inAX10 hown hK hP 0 rfl rfl 63 (by decide) (hw _ q_1324) (fun _ h9 => h9) n72 dX10_isSaid_168 ?_
          refine lv_iload_n hx hb dX10_isSaid_171 rfl (lv_at hl 2 rfl) ?_
          refine lv_aload_n hx hb dX10_isSaid_172 rfl (lv_at hl 3 rfl) ?_
          refine lv_iload_n hx hb dX10_isSaid_173 rfl (lv_at hl 4 rfl) ?_
          refine lv_aload_n hx hb dX10_isSaid_174 rfl (lv_at hl 3 rfl) ?_
          refine get_f (D := D) (ci := 10) (v := .ref h_s) (C := RX10) (T := TX10) (N := 67) hx hb hw inAX10 hown hK hP 0 rfl rfl 6 (by decide) (hw _ q_1267) (fun _ h9 => h9) n25 dX10_isSaid_175 ?_
          refine lv_iload hx hb dX10_isSaid_178 (lv_at hl 0 rfl) ?_
          refine va_iald hx hb hK hP 1 0 rfl rfl (ix_k k37 (by decide) (by decide)) dX10_isSaid_180 ?_
          refine lv_ci (y := v38) ev38.symm ?_
          refine lv_aload_n hx hb dX10_isSaid_181 rfl (lv_at hl 3 rfl) ?_
          refine get_f (D := D) (ci := 10) (v := .ref h_s) (C := RX10) (T := TX10) (N := 67) hx hb hw inAX10 hown hK hP 0 rfl rfl 6 (by decide) (hw _ q_1267) (fun _ h9 => h9) n25 dX10_isSaid_182 ?_
          refine lv_iload hx hb dX10_isSaid_185 (lv_at hl 0 rfl) ?_
          refine lv_iconst (v := 1) hx hb dX10_isSaid_187 (by decide) ?_
          refine lv_iadd hx hb dX10_isSaid_188 ?_
          refine lv_topi (fun v73 ev73 => ?_)
          have bv73 : v73.toInt = v36.toInt + 1 := by rw [ev73]; exact add_k rfl rfl k37 ⟨Int.le_refl _, Int.le_refl _⟩ (by decide)
          have k74 : 155 ≤ v73.toInt ∧ v73.toInt ≤ 284 := add_r bv73 k37 ⟨Int.le_refl _, Int.le_refl _⟩ (by decide)
          refine va_iald hx hb hK hP 1 0 rfl rfl (ix_k k74 (by decide) (by decide)) dX10_isSaid_189 ?_
          refine lv_topi (fun v75 ev75 => ?_)
          refine lv_aload_n hx hb dX10_isSaid_190 rfl (lv_at hl 3 rfl) ?_
          refine get_f (D := D) (ci := 10) (v := .ref h_s) (C := RX10) (T := TX10) (N := 67) hx hb hw inAX10 hown hK hP 0 rfl rfl 6 (by decide) (hw _ q_1267) (fun _ h9 => h9) n25 dX10_isSaid_191 ?_
          refine lv_iload hx hb dX10_isSaid_194 (lv_at hl 0 rfl) ?_
          refine lv_iconst (v := 2) hx hb dX10_isSaid_196 (by decide) ?_
          refine lv_iadd hx hb dX10_isSaid_197 ?_
          refine lv_topi (fun v76 ev76 => ?_)
          have bv76 : v76.toInt = v36.toInt + 2 := by rw [ev76]; exact add_k rfl rfl k37 ⟨Int.le_refl _, Int.le_refl _⟩ (by decide)
          have k77 : 156 ≤ v76.toInt ∧ v76.toInt ≤ 285 := add_r bv76 k37 ⟨Int.le_refl _, Int.le_refl _⟩ (by decide)
          refine va_iald hx hb hK hP 1 0 rfl rfl (ix_k k77 (by decide) (by decide)) dX10_isSaid_198 ?_
          refine lv_topi (fun v78 ev78 => ?_)
          have n79 : G3 25 = .ref h_paceAt := (SAME.at i14 (by decide) e_paceAt)
          have n80 : G3 26 = .ref h_kindOf := (SAME.at i14 (by decide) e_kindOf)
          have n81 : G3 32 = .int x_kicks := (SAME.at i14 (by decide) e_kicks)
          refine call_Vi (wr := [(h_truths, .inl (cZ, 45, .inl w11))]) (As := [.int p0, .int v38, .int v75, .int v78]) (rest := [.int u2, .ref h_truths]) hx hb hml hown hw (m_X10_isLeaf l D cI cJ cB cP cM cZ h0 h_s h_paceAt h_kindOf G3 u4 u5 u6 u7 u8 x_kicks f_s w9 w10 p0 v38 v75 v78 _ n25 n79 n80 i15 i16 i17 i20 i18 i21 i19 n81 i_x_kicks s_s_K0 s_s_0 s_s_105 s_s_114 s_s_130 s_s_139 s_s_153 s_s_44 s_s_5 s_s_6 s_s_7 i_p0) wV_X10_475_X10_isLeaf dX10_isSaid_199 hK hP hD hS hA [0, 1, 2, 3] [4] rfl rfl (by decide) (by decide) (by decide) 0 10 rfl rfl GG.fb hG.at hl.1 rfl (Nat.le_of_ble_eq_true rfl) ⟨(Nat.le_of_ble_eq_true rfl), (Nat.le_of_ble_eq_true rfl)⟩ ⟨(Nat.le_of_ble_eq_true rfl), (Nat.le_of_ble_eq_true rfl)⟩ (fun r82 u H locs hp hP hD hS => ?_)
          obtain ⟨F83, y84, y85, y86, y87, y88, g89, g90, t91, t92, t93, t94, t95, t96, t97, t98, t99, rfl⟩ := hp
          have hP : va_P D vwCl [(h_truths, .inl (cZ, 45, .inl w11)), (h0, .inr (10, vL 67 F83)), (h_s, .inl (cI, 335, .inl f_s)), (h_paceAt, .inl (cI, 40, .inl g89)), (h_kindOf, .inl (cI, 4, .inl g90))] H := hP
          have hD : va_D A [(h_truths, .inl (cZ, 45, .inl w11)), (h0, .inr (10, vL 67 F83)), (h_s, .inl (cI, 335, .inl f_s)), (h_paceAt, .inl (cI, 40, .inl g89)), (h_kindOf, .inl (cI, 4, .inl g90))] := hD
          refine W.widen (k := 0) (n := 0) (Nat.le_of_ble_eq_true rfl) (Nat.le_of_ble_eq_true rfl) ?_
          obtain ⟨g101, eg101⟩ : ∃ z : Nat → Int32, upd w11 u2.toNatClampNeg (vp_nar .boolean r82) = z := ⟨_, rfl⟩
          have r102 : SG 0 44 0 1 g101 := by rw [← eg101, zn_k t99]; exact i22.up (by omega) (Or.inr (Or.inr (ir_wk t99 (by decide) (by decide))))
          refine zast_g hx hb hK hP hD hS 0 5 rfl rfl (ix_i (by omega) (by omega)) eg101 dX10_isSaid_202 (fun H locs hP hD hS => ?_)
          have hP : va_P D vwCl [(h_truths, .inl (cZ, 45, .inl g101)), (h0, .inr (10, vL 67 F83)), (h_s, .inl (cI, 335, .inl f_s)), (h_paceAt, .inl (cI, 40, .inl g89)), (h_kindOf, .inl (cI, 4, .inl g90))] H := hP
          have hD : va_D A [(h_truths, .inl (cZ, 45, .inl g101)), (h0, .inr (10, vL 67 F83)), (h_s, .inl (cI, 335, .inl f_s)), (h_paceAt, .inl (cI, 40, .inl g89)), (h_kindOf, .inl (cI, 4, .inl g90))] := hD
          obtain ⟨v103, ev103⟩ : ∃ z : Int32, z = u2 + 1 := ⟨_, rfl⟩
          have bv103 : v103.toInt = u2.toInt + 1 := by rw [ev103]; exact add_k rfl rfl i13 ⟨Int.le_refl _, Int.le_refl _⟩ (by decide)
          have k104 : 0 ≤ v103.toInt ∧ v103.toInt ≤ 46 := add_r bv103 i13 ⟨Int.le_refl _, Int.le_refl _⟩ (by decide)
          refine lv_iinc (v := v103) (lv' := [(2, .int v103), (4, .int v36), (3, .int u1), (0, .ref h0), (1, .int p0)]) hx hb dX10_isSaid_203 hl (k := 2) rfl (by rw [ev103]; rfl) (by decide) rfl (fun ls hl => ?_)
          obtain ⟨v105, ev105⟩ : ∃ z : Int32, z = u1 + 1 := ⟨_, rfl⟩
          have bv105 : v105.toInt = u1.toInt + 1 := by rw [ev105]; exact add_k rfl rfl k32 ⟨Int.le_refl _, Int.le_refl _⟩ (by decide)
          have k106 : 1 ≤ v105.toInt ∧ v105.toInt ≤ 44 := add_r bv105 k32 ⟨Int.le_refl _, Int.le_refl _⟩ (by decide)
          refine lv_iinc (v := v105) (lv' := [(3, .int v105), (2, .int v103), (4, .int v36), (0, .ref h0), (1, .int p0)]) hx hb dX10_isSaid_206 hl (k := 2) rfl (by rw [ev105]; rfl) (by decide) rfl (fun ls hl => ?_)
          refine lv_goto (tgt := 4) hx hb dX10_isSaid_209 (by decide) ?_
          exact ih (v105, v103, F83, y84, y85, y86, y87, y88, g89, g90, g101) ⟨(ir_wk k106 (by decide) (by decide)), (show (-1) ≤ v103.toInt ∧ v103.toInt ≤ 45 from ⟨by omega, by omega⟩), (SAME.tr (SAME.tr SAME.rf i14 (by decide)) t91 (by decide)), t92, t93, t94, t96, t98, t95, t97, r102, (show (v103.toInt : Int) = dep f_s 154 (v105.toInt : Int).toNat from (by rw [bv105]; omega)), (by show 0 ≤ v103.toInt; omega)⟩ (by show (44 - v105.toInt).toNat < (44 - u1.toInt).toNat; omega) _ _ _ (hP.sub [1, 2, 3, 4, 0] rfl) (hD.sub [1, 2, 3, 4, 0] (by decide) rfl) hS (lv_sub hl [0, 1, 3, 4] rfl)
        · have dc71 : v38.toInt = 22 := eq_i (a := v38.toInt) (b := 22) rfl rfl c71
          have k107 : 22 ≤ v38.toInt ∧ v38.toInt ≤ 22 := ⟨Int.le_trans (Int.le_refl _) (Int.le_of_eq dc71.symm), Int.le_trans (Int.le_of_eq dc71) (Int.le_refl _)⟩
          obtain ⟨v108, ev108⟩ : ∃ z : Int32, z = u2 + (-1) := ⟨_, rfl⟩
          have bv108 : v108.toInt = u2.toInt + (-1) := by rw [ev108]; exact add_k rfl rfl i13 ⟨Int.le_refl _, Int.le_refl _⟩ (by decide)
          have k109 : (-2) ≤ v108.toInt ∧ v108.toInt ≤ 44 := add_r bv108 i13 ⟨Int.le_refl _, Int.le_refl _⟩ (by decide)
          refine lv_iinc (v := v108) (lv' := [(2, .int v108), (4, .int v36), (3, .int u1), (0, .ref h0), (1, .int p0)]) hx hb dX10_isSaid_88 hl (k := 2) rfl (by rw [ev108]; rfl) (by decide) rfl (fun ls hl => ?_)
          refine lv_aload_n hx hb dX10_isSaid_91 rfl (lv_at hl 3 rfl) ?_
          have n110 : G3 63 = .ref h_truths := (SAME.at i14 (by decide) e_truths)
          refine get_f (D := D) (ci := 10) (v := .ref h_truths) (C := RX10) (T := TX10) (N := 67) hx hb hw inAX10 hown hK hP 0 rfl rfl 63 (by decide) (hw _ q_1324) (fun _ h9 => h9) n110 dX10_isSaid_92 ?_
          refine lv_iload_n hx hb dX10_isSaid_95 rfl (lv_at hl 0 rfl) ?_
          refine lv_iconst (v := 1) hx hb dX10_isSaid_96 (by decide) ?_
          refine lv_isub hx hb dX10_isSaid_97 ?_
          refine lv_topi (fun v111 ev111 => ?_)
          have bv111 : v111.toInt = v108.toInt - 1 := by rw [ev111]; exact sub_k rfl rfl k109 ⟨Int.le_refl _, Int.le_refl _⟩ (by decide)
          have k112 : (-3) ≤ v111.toInt ∧ v111.toInt ≤ 43 := sub_r bv111 k109 ⟨Int.le_refl _, Int.le_refl _⟩ (by decide)
          refine lv_aload_n hx hb dX10_isSaid_98 rfl (lv_at hl 3 rfl) ?_
          refine get_f (D := D) (ci := 10) (v := .ref h_s) (C := RX10) (T := TX10) (N := 67) hx hb hw inAX10 hown hK hP 0 rfl rfl 6 (by decide) (hw _ q_1267) (fun _ h9 => h9) n25 dX10_isSaid_99 ?_
          refine lv_iload hx hb dX10_isSaid_102 (lv_at hl 1 rfl) ?_
          refine va_iald hx hb hK hP 1 0 rfl rfl (ix_k k37 (by decide) (by decide)) dX10_isSaid_104 ?_
          refine lv_ci (y := v38) ev38.symm ?_
          refine lv_bipush (v := 21) hx hb dX10_isSaid_105 (by decide) ?_
          refine lv_icmp_ne (tgt := 138) hx hb dX10_isSaid_107 (by decide) (fun c113 => ?_) (fun c113 => False.elim (bad_le (Int.le_of_eq (eq_i (a := v38.toInt) (b := 21) rfl rfl c113)) k107.1 (Int.le_refl _) (by decide)))
          have dc113 : v38.toInt ≠ 21 := ne_i (a := v38.toInt) (b := 21) rfl rfl c113
          refine lv_aload_n hx hb dX10_isSaid_138 rfl (lv_at hl 3 rfl) ?_
          refine get_f (D := D) (ci := 10) (v := .ref h_truths) (C := RX10) (T := TX10) (N := 67) hx hb hw inAX10 hown hK hP 0 rfl rfl 63 (by decide) (hw _ q_1324) (fun _ h9 => h9) n110 dX10_isSaid_139 ?_
          refine lv_iload_n hx hb dX10_isSaid_142 rfl (lv_at hl 0 rfl) ?_
          refine lv_iconst (v := 1) hx hb dX10_isSaid_143 (by decide) ?_
          refine lv_isub hx hb dX10_isSaid_144 ?_
          refine lv_ci (y := v111) ev111.symm ?_
          refine va_zald hx hb hK hP 4 5 rfl rfl (ix_i (by omega) (by omega)) dX10_isSaid_145 ?_
          refine lv_topi (fun v114 ev114 => ?_)
          have r115 : IMP (0 ≤ v111.toInt → v111.toInt ≤ 44 → 0 ≤ v114.toInt ∧ v114.toInt ≤ 1) := IMP.mk (fun q1 q2 => by rw [ev114]; exact i22.at _ q1 q2)
          refine lv_if_ne (tgt := 158) hx hb dX10_isSaid_146 (by decide) (fun c116 => ?_) (fun c116 => ?_)
          · have dc116 : v114.toInt ≠ 0 := ne_i (a := v114.toInt) (b := 0) rfl rfl c116
            refine lv_iconst (v := 1) hx hb dX10_isSaid_158 (by decide) ?_
            refine lv_goto (tgt := 163) hx hb dX10_isSaid_159 (by decide) ?_
            obtain ⟨g117, eg117⟩ : ∃ z : Nat → Int32, upd w11 v111.toNatClampNeg (vp_nar .boolean 1) = z := ⟨_, rfl⟩
            have r118 : SG 0 44 0 1 g117 := by rw [← eg117, zn_k (show 0 ≤ (1 : Int32).toInt ∧ (1 : Int32).toInt ≤ 1 by decide)]; exact i22.up (by omega) (Or.inr (Or.inr ⟨by decide, by decide⟩))
            refine zast_g hx hb hK hP hD hS 4 5 rfl rfl (ix_i (by omega) (by omega)) eg117 dX10_isSaid_163 (fun H locs hP hD hS => ?_)
            have hP : va_P D vwCl [(h0, .inr (10, vL 67 G3)), (h_s, .inl (cI, 335, .inl f_s)), (h_paceAt, .inl (cI, 40, .inl w9)), (h_kindOf, .inl (cI, 4, .inl w10)), (h_truths, .inl (cZ, 45, .inl g117))] H := hP
            have hD : va_D A [(h0, .inr (10, vL 67 G3)), (h_s, .inl (cI, 335, .inl f_s)), (h_paceAt, .inl (cI, 40, .inl w9)), (h_kindOf, .inl (cI, 4, .inl w10)), (h_truths, .inl (cZ, 45, .inl g117))] := hD
            refine lv_goto (tgt := 206) hx hb dX10_isSaid_164 (by decide) ?_
            obtain ⟨v119, ev119⟩ : ∃ z : Int32, z = u1 + 1 := ⟨_, rfl⟩
            have bv119 : v119.toInt = u1.toInt + 1 := by rw [ev119]; exact add_k rfl rfl k32 ⟨Int.le_refl _, Int.le_refl _⟩ (by decide)
            have k120 : 1 ≤ v119.toInt ∧ v119.toInt ≤ 44 := add_r bv119 k32 ⟨Int.le_refl _, Int.le_refl _⟩ (by decide)
            refine lv_iinc (v := v119) (lv' := [(3, .int v119), (2, .int v108), (4, .int v36), (0, .ref h0), (1, .int p0)]) hx hb dX10_isSaid_206 hl (k := 2) rfl (by rw [ev119]; rfl) (by decide) rfl (fun ls hl => ?_)
            refine lv_goto (tgt := 4) hx hb dX10_isSaid_209 (by decide) ?_
            exact ih (v119, v108, G3, u4, u5, u6, u7, u8, w9, w10, g117) ⟨(ir_wk k120 (by decide) (by decide)), (show (-1) ≤ v108.toInt ∧ v108.toInt ≤ 45 from ⟨by omega, by omega⟩), (SAME.tr SAME.rf i14 (by decide)), i15, i16, i17, i18, i19, i20, i21, r118, (show (v108.toInt : Int) = dep f_s 154 (v119.toInt : Int).toNat from (by rw [bv119]; omega)), (by show 0 ≤ v108.toInt; omega)⟩ (by show (44 - v119.toInt).toNat < (44 - u1.toInt).toNat; omega) _ _ _ hP hD hS (lv_sub hl [0, 1, 3, 4] rfl)
          · have dc116 : v114.toInt = 0 := eq_i (a := v114.toInt) (b := 0) rfl rfl c116
            have k121 : 0 ≤ v114.toInt ∧ v114.toInt ≤ 0 := ⟨Int.le_trans (Int.le_refl _) (Int.le_of_eq dc116.symm), Int.le_trans (Int.le_of_eq dc116) (Int.le_refl _)⟩
            refine lv_aload_n hx hb dX10_isSaid_149 rfl (lv_at hl 3 rfl) ?_
            refine get_f (D := D) (ci := 10) (v := .ref h_truths) (C := RX10) (T := TX10) (N := 67) hx hb hw inAX10 hown hK hP 0 rfl rfl 63 (by decide) (hw _ q_1324) (fun _ h9 => h9) n110 dX10_isSaid_150 ?_
            refine lv_iload_n hx hb dX10_isSaid_153 rfl (lv_at hl 0 rfl) ?_
            refine va_zald hx hb hK hP 4 5 rfl rfl (ix_i (by omega) (by omega)) dX10_isSaid_154 ?_
            refine lv_topi (fun v122 ev122 => ?_)
            have r123 : IMP (0 ≤ v108.toInt → v108.toInt ≤ 44 → 0 ≤ v122.toInt ∧ v122.toInt ≤ 1) := IMP.mk (fun q1 q2 => by rw [ev122]; exact i22.at _ q1 q2)
            refine lv_if_eq (tgt := 162) hx hb dX10_isSaid_155 (by decide) (fun c124 => ?_) (fun c124 => ?_)
            · have dc124 : v122.toInt = 0 := eq_i (a := v122.toInt) (b := 0) rfl rfl c124
              have k125 : 0 ≤ v122.toInt ∧ v122.toInt ≤ 0 := ⟨Int.le_trans (Int.le_refl _) (Int.le_of_eq dc124.symm), Int.le_trans (Int.le_of_eq dc124) (Int.le_refl _)⟩
              refine lv_iconst (v := 0) hx hb dX10_isSaid_162 (by decide) ?_
              obtain ⟨g126, eg126⟩ : ∃ z : Nat → Int32, upd w11 v111.toNatClampNeg (vp_nar .boolean 0) = z := ⟨_, rfl⟩
              have r127 : SG 0 44 0 1 g126 := by rw [← eg126, zn_k (show 0 ≤ (0 : Int32).toInt ∧ (0 : Int32).toInt ≤ 1 by decide)]; exact i22.up (by omega) (Or.inr (Or.inr ⟨by decide, by decide⟩))
              refine zast_g hx hb hK hP hD hS 4 5 rfl rfl (ix_i (by omega) (by omega)) eg126 dX10_isSaid_163 (fun H locs hP hD hS => ?_)
              have hP : va_P D vwCl [(h0, .inr (10, vL 67 G3)), (h_s, .inl (cI, 335, .inl f_s)), (h_paceAt, .inl (cI, 40, .inl w9)), (h_kindOf, .inl (cI, 4, .inl w10)), (h_truths, .inl (cZ, 45, .inl g126))] H := hP
              have hD : va_D A [(h0, .inr (10, vL 67 G3)), (h_s, .inl (cI, 335, .inl f_s)), (h_paceAt, .inl (cI, 40, .inl w9)), (h_kindOf, .inl (cI, 4, .inl w10)), (h_truths, .inl (cZ, 45, .inl g126))] := hD
              refine lv_goto (tgt := 206) hx hb dX10_isSaid_164 (by decide) ?_
              obtain ⟨v128, ev128⟩ : ∃ z : Int32, z = u1 + 1 := ⟨_, rfl⟩
              have bv128 : v128.toInt = u1.toInt + 1 := by rw [ev128]; exact add_k rfl rfl k32 ⟨Int.le_refl _, Int.le_refl _⟩ (by decide)
              have k129 : 1 ≤ v128.toInt ∧ v128.toInt ≤ 44 := add_r bv128 k32 ⟨Int.le_refl _, Int.le_refl _⟩ (by decide)
              refine lv_iinc (v := v128) (lv' := [(3, .int v128), (2, .int v108), (4, .int v36), (0, .ref h0), (1, .int p0)]) hx hb dX10_isSaid_206 hl (k := 2) rfl (by rw [ev128]; rfl) (by decide) rfl (fun ls hl => ?_)
              refine lv_goto (tgt := 4) hx hb dX10_isSaid_209 (by decide) ?_
              exact ih (v128, v108, G3, u4, u5, u6, u7, u8, w9, w10, g126) ⟨(ir_wk k129 (by decide) (by decide)), (show (-1) ≤ v108.toInt ∧ v108.toInt ≤ 45 from ⟨by omega, by omega⟩), (SAME.tr SAME.rf i14 (by decide)), i15, i16, i17, i18, i19, i20, i21, r127, (show (v108.toInt : Int) = dep f_s 154 (v128.toInt : Int).toNat from (by rw [bv128]; omega)), (by show 0 ≤ v108.toInt; omega)⟩ (by show (44 - v128.toInt).toNat < (44 - u1.toInt).toNat; omega) _ _ _ hP hD hS (lv_sub hl [0, 1, 3, 4] rfl)
            · have dc124 : v122.toInt ≠ 0 := ne_i (a := v122.toInt) (b := 0) rfl rfl c124
              refine lv_iconst (v := 1) hx hb dX10_isSaid_158 (by decide) ?_
              refine lv_goto (tgt := 163) hx hb dX10_isSaid_159 (by decide) ?_
              obtain ⟨g130, eg130⟩ : ∃ z : Nat → Int32, upd w11 v111.toNatClampNeg (vp_nar .boolean 1) = z := ⟨_, rfl⟩
              have r131 : SG 0 44 0 1 g130 := by rw [← eg130, zn_k (show 0 ≤ (1 : Int32).toInt ∧ (1 : Int32).toInt ≤ 1 by decide)]; exact i22.up (by omega) (Or.inr (Or.inr ⟨by decide, by decide⟩))
              refine zast_g hx hb hK hP hD hS 4 5 rfl rfl (ix_i (by omega) (by omega)) eg130 dX10_isSaid_163 (fun H locs hP hD hS => ?_)
              have hP : va_P D vwCl [(h0, .inr (10, vL 67 G3)), (h_s, .inl (cI, 335, .inl f_s)), (h_paceAt, .inl (cI, 40, .inl w9)), (h_kindOf, .inl (cI, 4, .inl w10)), (h_truths, .inl (cZ, 45, .inl g130))] H := hP
              have hD : va_D A [(h0, .inr (10, vL 67 G3)), (h_s, .inl (cI, 335, .inl f_s)), (h_paceAt, .inl (cI, 40, .inl w9)), (h_kindOf, .inl (cI, 4, .inl w10)), (h_truths, .inl (cZ, 45, .inl g130))] := hD
              refine lv_goto (tgt := 206) hx hb dX10_isSaid_164 (by decide) ?_
              obtain ⟨v132, ev132⟩ : ∃ z : Int32, z = u1 + 1 := ⟨_, rfl⟩
              have bv132 : v132.toInt = u1.toInt + 1 := by rw [ev132]; exact add_k rfl rfl k32 ⟨Int.le_refl _, Int.le_refl _⟩ (by decide)
              have k133 : 1 ≤ v132.toInt ∧ v132.toInt ≤ 44 := add_r bv132 k32 ⟨Int.le_refl _, Int.le_refl _⟩ (by decide)
              refine lv_iinc (v := v132) (lv' := [(3, .int v132), (2, .int v108), (4, .int v36), (0, .ref h0), (1, .int p0)]) hx hb dX10_isSaid_206 hl (k := 2) rfl (by rw [ev132]; rfl) (by decide) rfl (fun ls hl => ?_)
              refine lv_goto (tgt := 4) hx hb dX10_isSaid_209 (by decide) ?_
              exact ih (v132, v108, G3, u4, u5, u6, u7, u8, w9, w10, g130) ⟨(ir_wk k133 (by decide) (by decide)), (show (-1) ≤ v108.toInt ∧ v108.toInt ≤ 45 from ⟨by omega, by omega⟩), (SAME.tr SAME.rf i14 (by decide)), i15, i16, i17, i18, i19, i20, i21, r131, (show (v108.toInt : Int) = dep f_s 154 (v132.toInt : Int).toNat from (by rw [bv132]; omega)), (by show 0 ≤ v108.toInt; omega)⟩ (by show (44 - v132.toInt).toNat < (44 - u1.toInt).toNat; omega) _ _ _ hP hD hS (lv_sub hl [0, 1, 3, 4] rfl)
    · have dc42 : v38.toInt = 20 := eq_i (a := v38.toInt) (b := 20) rfl rfl c42
      have k134 : 20 ≤ v38.toInt ∧ v38.toInt ≤ 20 := ⟨Int.le_trans (Int.le_refl _) (Int.le_of_eq dc42.symm), Int.le_trans (Int.le_of_eq dc42) (Int.le_refl _)⟩
      refine lv_aload_n hx hb dX10_isSaid_37 rfl (lv_at hl 3 rfl) ?_
      have n135 : G3 63 = .ref h_truths := (SAME.at i14 (by decide) e_truths)
      refine get_f (D := D) (ci := 10) (v := .ref h_truths) (C := RX10) (T := TX10) (N := 67) hx hb hw inAX10 hown hK hP 0 rfl rfl 63 (by decide) (hw _ q_1324) (fun _ h9 => h9) n135 dX10_isSaid_38 ?_
      refine lv_iload_n hx hb dX10_isSaid_41 rfl (lv_at hl 2 rfl) ?_
      refine lv_iconst (v := 1) hx hb dX10_isSaid_42 (by decide) ?_
      refine lv_isub hx hb dX10_isSaid_43 ?_
      refine lv_topi (fun v136 ev136 => ?_)
      have bv136 : v136.toInt = u2.toInt - 1 := by rw [ev136]; exact sub_k rfl rfl i13 ⟨Int.le_refl _, Int.le_refl _⟩ (by decide)
      have k137 : (-2) ≤ v136.toInt ∧ v136.toInt ≤ 44 := sub_r bv136 i13 ⟨Int.le_refl _, Int.le_refl _⟩ (by decide)
      refine lv_aload_n hx hb dX10_isSaid_44 rfl (lv_at hl 3 rfl) ?_
      refine get_f (D := D) (ci := 10) (v := .ref h_truths) (C := RX10) (T := TX10) (N := 67) hx hb hw inAX10 hown hK hP 0 rfl rfl 63 (by decide) (hw _ q_1324) (fun _ h9 => h9) n135 dX10_isSaid_45 ?_
      refine lv_iload_n hx hb dX10_isSaid_48 rfl (lv_at hl 2 rfl) ?_
      refine lv_iconst (v := 1) hx hb dX10_isSaid_49 (by decide) ?_
      refine lv_isub hx hb dX10_isSaid_50 ?_
      refine lv_ci (y := v136) ev136.symm ?_
      refine va_zald hx hb hK hP 4 5 rfl rfl (ix_i (by omega) (by omega)) dX10_isSaid_51 ?_
      refine lv_topi (fun v138 ev138 => ?_)
      have r139 : IMP (0 ≤ v136.toInt → v136.toInt ≤ 44 → 0 ≤ v138.toInt ∧ v138.toInt ≤ 1) := IMP.mk (fun q1 q2 => by rw [ev138]; exact i22.at _ q1 q2)
      refine lv_if_ne (tgt := 59) hx hb dX10_isSaid_52 (by decide) (fun c140 => ?_) (fun c140 => ?_)
      · have dc140 : v138.toInt ≠ 0 := ne_i (a := v138.toInt) (b := 0) rfl rfl c140
        refine lv_iconst (v := 0) hx hb dX10_isSaid_59 (by decide) ?_
        obtain ⟨g141, eg141⟩ : ∃ z : Nat → Int32, upd w11 v136.toNatClampNeg (vp_nar .boolean 0) = z := ⟨_, rfl⟩
        have r142 : SG 0 44 0 1 g141 := by rw [← eg141, zn_k (show 0 ≤ (0 : Int32).toInt ∧ (0 : Int32).toInt ≤ 1 by decide)]; exact i22.up (by omega) (Or.inr (Or.inr ⟨by decide, by decide⟩))
        refine zast_g hx hb hK hP hD hS 4 5 rfl rfl (ix_i (by omega) (by omega)) eg141 dX10_isSaid_60 (fun H locs hP hD hS => ?_)
        have hP : va_P D vwCl [(h0, .inr (10, vL 67 G3)), (h_s, .inl (cI, 335, .inl f_s)), (h_paceAt, .inl (cI, 40, .inl w9)), (h_kindOf, .inl (cI, 4, .inl w10)), (h_truths, .inl (cZ, 45, .inl g141))] H := hP
        have hD : va_D A [(h0, .inr (10, vL 67 G3)), (h_s, .inl (cI, 335, .inl f_s)), (h_paceAt, .inl (cI, 40, .inl w9)), (h_kindOf, .inl (cI, 4, .inl w10)), (h_truths, .inl (cZ, 45, .inl g141))] := hD
        refine lv_goto (tgt := 206) hx hb dX10_isSaid_61 (by decide) ?_
        obtain ⟨v143, ev143⟩ : ∃ z : Int32, z = u1 + 1 := ⟨_, rfl⟩
        have bv143 : v143.toInt = u1.toInt + 1 := by rw [ev143]; exact add_k rfl rfl k32 ⟨Int.le_refl _, Int.le_refl _⟩ (by decide)
        have k144 : 1 ≤ v143.toInt ∧ v143.toInt ≤ 44 := add_r bv143 k32 ⟨Int.le_refl _, Int.le_refl _⟩ (by decide)
        refine lv_iinc (v := v143) (lv' := [(3, .int v143), (4, .int v36), (2, .int u2), (0, .ref h0), (1, .int p0)]) hx hb dX10_isSaid_206 hl (k := 1) rfl (by rw [ev143]; rfl) (by decide) rfl (fun ls hl => ?_)
        refine lv_goto (tgt := 4) hx hb dX10_isSaid_209 (by decide) ?_
        exact ih (v143, u2, G3, u4, u5, u6, u7, u8, w9, w10, g141) ⟨(ir_wk k144 (by decide) (by decide)), i13, (SAME.tr SAME.rf i14 (by decide)), i15, i16, i17, i18, i19, i20, i21, r142, (show (u2.toInt : Int) = dep f_s 154 (v143.toInt : Int).toNat from (by rw [bv143]; omega)), (by show 0 ≤ u2.toInt; omega)⟩ (by show (44 - v143.toInt).toNat < (44 - u1.toInt).toNat; omega) _ _ _ hP hD hS (lv_sub hl [0, 2, 3, 4] rfl)
      · have dc140 : v138.toInt = 0 := eq_i (a := v138.toInt) (b := 0) rfl rfl c140
        have k145 : 0 ≤ v138.toInt ∧ v138.toInt ≤ 0 := ⟨Int.le_trans (Int.le_refl _) (Int.le_of_eq dc140.symm), Int.le_trans (Int.le_of_eq dc140) (Int.le_refl _)⟩
        refine lv_iconst (v := 1) hx hb dX10_isSaid_55 (by decide) ?_
        refine lv_goto (tgt := 60) hx hb dX10_isSaid_56 (by decide) ?_
        obtain ⟨g146, eg146⟩ : ∃ z : Nat → Int32, upd w11 v136.toNatClampNeg (vp_nar .boolean 1) = z := ⟨_, rfl⟩
        have r147 : SG 0 44 0 1 g146 := by rw [← eg146, zn_k (show 0 ≤ (1 : Int32).toInt ∧ (1 : Int32).toInt ≤ 1 by decide)]; exact i22.up (by omega) (Or.inr (Or.inr ⟨by decide, by decide⟩))
        refine zast_g hx hb hK hP hD hS 4 5 rfl rfl (ix_i (by omega) (by omega)) eg146 dX10_isSaid_60 (fun H locs hP hD hS => ?_)
        have hP : va_P D vwCl [(h0, .inr (10, vL 67 G3)), (h_s, .inl (cI, 335, .inl f_s)), (h_paceAt, .inl (cI, 40, .inl w9)), (h_kindOf, .inl (cI, 4, .inl w10)), (h_truths, .inl (cZ, 45, .inl g146))] H := hP
        have hD : va_D A [(h0, .inr (10, vL 67 G3)), (h_s, .inl (cI, 335, .inl f_s)), (h_paceAt, .inl (cI, 40, .inl w9)), (h_kindOf, .inl (cI, 4, .inl w10)), (h_truths, .inl (cZ, 45, .inl g146))] := hD
        refine lv_goto (tgt := 206) hx hb dX10_isSaid_61 (by decide) ?_
        obtain ⟨v148, ev148⟩ : ∃ z : Int32, z = u1 + 1 := ⟨_, rfl⟩
        have bv148 : v148.toInt = u1.toInt + 1 := by rw [ev148]; exact add_k rfl rfl k32 ⟨Int.le_refl _, Int.le_refl _⟩ (by decide)
        have k149 : 1 ≤ v148.toInt ∧ v148.toInt ≤ 44 := add_r bv148 k32 ⟨Int.le_refl _, Int.le_refl _⟩ (by decide)
        refine lv_iinc (v := v148) (lv' := [(3, .int v148), (4, .int v36), (2, .int u2), (0, .ref h0), (1, .int p0)]) hx hb dX10_isSaid_206 hl (k := 1) rfl (by rw [ev148]; rfl) (by decide) rfl (fun ls hl => ?_)
        refine lv_goto (tgt := 4) hx hb dX10_isSaid_209 (by decide) ?_
        exact ih (v148, u2, G3, u4, u5, u6, u7, u8, w9, w10, g146) ⟨(ir_wk k149 (by decide) (by decide)), i13, (SAME.tr SAME.rf i14 (by decide)), i15, i16, i17, i18, i19, i20, i21, r147, (show (u2.toInt : Int) = dep f_s 154 (v148.toInt : Int).toNat from (by rw [bv148]; omega)), (by show 0 ≤ u2.toInt; omega)⟩ (by show (44 - v148.toInt).toNat < (44 - u1.toInt).toNat; omega) _ _ _ hP hD hS (lv_sub hl [0, 2, 3, 4] rfl)
set_option maxHeartbeats 4000000 in
set_option maxRecDepth 100000 in
theorem m_X10_said (l : Launch) (D : va_G) (cI cJ cB cP cM cZ : ClassId) (h0 : Nat) (h_s : Nat) (h_paceAt : Nat) (h_kindOf : Nat) (h_truths : Nat) (Fh : Nat → Value) (x_lineTime : Int32) (x_linePace : Int32) (x_inside : Int32) (x_late : Int32) (x_seed : Int32) (x_kicks : Int32) (f_s : Nat → Int32) (f_paceAt : Nat → Int32) (f_kindOf : Nat → Int32) (f_truths : Nat → Int32) (p0 : Int32) (sz : Nat) (e_s : Fh 6 = .ref h_s) (e_paceAt : Fh 25 = .ref h_paceAt) (e_kindOf : Fh 26 = .ref h_kindOf) (e_lineTime : Fh 27 = .int x_lineTime) (e_linePace : Fh 28 = .int x_linePace) (e_inside : Fh 29 = .int x_inside) (i_x_inside : IR 0 15 x_inside) (e_late : Fh 30 = .int x_late) (i_x_late : IR 0 15 x_late) (e_seed : Fh 31 = .int x_seed) (e_kicks : Fh 32 = .int x_kicks) (i_x_kicks : IR 0 1 x_kicks) (e_truths : Fh 63 = .ref h_truths) (s_s_K0 : KW 0 f_s) (s_s_0 : SG 0 0 0 40 f_s) (s_s_105 : SG 105 108 0 11 f_s) (s_s_114 : SG 114 114 0 5 f_s) (s_s_130 : SG 130 133 0 11 f_s) (s_s_139 : SG 139 139 0 5 f_s) (s_s_153 : SG 153 153 0 44 f_s) (s_s_44 : SG 44 55 0 9 f_s) (s_s_5 : SG 5 5 0 12 f_s) (s_s_6 : SG 6 6 0 12 f_s) (s_s_7 : SG 7 7 0 6 f_s) (s_truths_0 : SG 0 44 0 1 f_truths) : CI l yX10_said cX10_said 4 (some .int) { frames := 6, cells := 0, slots := 0, locals := 144 } (GG D cI cJ cB cP cM cZ) D [(h0, .inr (10, vL 67 Fh)), (h_s, .inl (cI, 335, .inl f_s)), (h_paceAt, .inl (cI, 40, .inl f_paceAt)), (h_kindOf, .inl (cI, 4, .inl f_kindOf)), (h_truths, .inl (cZ, 45, .inl f_truths))] sz [.ref h0, .int p0] (fun (r : Int32) (u : va_W) => ∃ (Gh : Nat → Value) (y_lineTime : Int32) (y_linePace : Int32) (y_inside : Int32) (y_late : Int32) (y_seed : Int32) (g_paceAt : Nat → Int32) (g_kindOf : Nat → Int32) (g_truths : Nat → Int32), SAME [0, 27, 28, 29, 30, 31] Fh Gh ∧ Gh 0 = .int 0 ∧ Gh 27 = .int y_lineTime ∧ Gh 28 = .int y_linePace ∧ Gh 29 = .int y_inside ∧ IR 0 15 y_inside ∧ Gh 30 = .int y_late ∧ IR 0 15 y_late ∧ Gh 31 = .int y_seed ∧ SG 0 44 0 1 g_truths ∧ u = [(h0, .inr (10, vL 67 Gh)), (h_s, .inl (cI, 335, .inl f_s)), (h_paceAt, .inl (cI, 40, .inl g_paceAt)), (h_kindOf, .inl (cI, 4, .inl g_kindOf)), (h_truths, .inl (cZ, 45, .inl g_truths))]) := by
  refine CI_mk (by decide) (Nat.le_of_ble_eq_true rfl) ?_
  intro p e s m below meth c A ls E hAe hG hsz hP hD hA hS hl
  obtain ⟨hx, hb, hr, hw, hown, hlocks, hml, hnm⟩ := E
  have hK := hG.1
  have i_x_inside : 0 ≤ x_inside.toInt ∧ x_inside.toInt ≤ 15 := i_x_inside
  have i_x_late : 0 ≤ x_late.toInt ∧ x_late.toInt ≤ 15 := i_x_late
  have i_x_kicks : 0 ≤ x_kicks.toInt ∧ x_kicks.toInt ≤ 1 := i_x_kicks
  have hl : lv_has ls 4 [(0, .ref h0), (1, .int p0)] := hl
  refine lv_aload_n hx hb dX10_said_0 rfl (lv_at hl 0 rfl) ?_
  refine lv_iconst (v := 0) hx hb dX10_said_1 (by decide) ?_
  refine put_f (D := D) (ci := 10) (v := .int 0) (ty := .int) (C := RX10) (T := TX10) (N := 67) hx hb hw inAX10 tyX10 tyX10_ok nmX10 hown hK hP hD hS 0 rfl rfl 0 (by decide) (hw _ q_1261) (fun _ h9 => h9) rfl (by decide +kernel) rfl rfl dX10_said_2 (fun H locs F1 eF1 hP hD hS => ?_)
  have hP : va_P D vwCl [(h0, .inr (10, vL 67 F1)), (h_s, .inl (cI, 335, .inl f_s)), (h_paceAt, .inl (cI, 40, .inl f_paceAt)), (h_kindOf, .inl (cI, 4, .inl f_kindOf)), (h_truths, .inl (cZ, 45, .inl f_truths))] H := hP
  have hD : va_D A [(h0, .inr (10, vL 67 F1)), (h_s, .inl (cI, 335, .inl f_s)), (h_paceAt, .inl (cI, 40, .inl f_paceAt)), (h_kindOf, .inl (cI, 4, .inl f_kindOf)), (h_truths, .inl (cZ, 45, .inl f_truths))] := hD
  refine lv_aload_n hx hb dX10_said_5 rfl (lv_at hl 0 rfl) ?_
  have n2 : F1 6 = .ref h_s := (get_ne eF1 (by decide) e_s)
  refine get_f (D := D) (ci := 10) (v := .ref h_s) (C := RX10) (T := TX10) (N := 67) hx hb hw inAX10 hown hK hP 0 rfl rfl 6 (by decide) (hw _ q_1267) (fun _ h9 => h9) n2 dX10_said_6 ?_
  refine lv_sipush (v := 153) hx hb dX10_said_9 (by decide) ?_
  refine iald_n hx hb hK hP 1 0 rfl rfl 153 rfl (Nat.le_of_ble_eq_true rfl) (Nat.le_of_ble_eq_true rfl) rfl dX10_said_12 ?_
  refine lv_topi (fun v3 ev3 => ?_)
  have k4 : 0 ≤ v3.toInt ∧ v3.toInt ≤ 44 := by rw [ev3]; exact s_s_153.atN 153 (by decide) (by decide)
  refine lv_if_eq (tgt := 21) hx hb dX10_said_13 (by decide) (fun c5 => ?_) (fun c5 => ?_)
  · have dc5 : v3.toInt = 0 := eq_i (a := v3.toInt) (b := 0) rfl rfl c5
    have k6 : 0 ≤ v3.toInt ∧ v3.toInt ≤ 0 := ⟨k4.1, Int.le_trans (Int.le_of_eq dc5) (Int.le_refl _)⟩
    refine lv_iconst (v := (-1)) hx hb dX10_said_21 (by decide) ?_
    exact ret_i (v := (-1)) hx hb hr hlocks hS hP hD dX10_said_22 rfl (Nat.le_of_ble_eq_true rfl) (Nat.le_of_ble_eq_true rfl) ⟨F1, x_lineTime, x_linePace, x_inside, x_late, x_seed, f_paceAt, f_kindOf, f_truths, (SAME.up eF1 SAME.rf (by decide)), (get_eq eF1), (get_ne eF1 (by decide) e_lineTime), (get_ne eF1 (by decide) e_linePace), (get_ne eF1 (by decide) e_inside), i_x_inside, (get_ne eF1 (by decide) e_late), i_x_late, (get_ne eF1 (by decide) e_seed), s_truths_0, rfl⟩
  · have dc5 : v3.toInt ≠ 0 := ne_i (a := v3.toInt) (b := 0) rfl rfl c5
    have k7 : 1 ≤ v3.toInt ∧ v3.toInt ≤ 44 := ⟨ne_lo dc5 k4.1 ⟨Int.le_refl _, Int.le_refl _⟩ (by decide), k4.2⟩
    refine lv_iload_n hx hb dX10_said_16 rfl (lv_at hl 1 rfl) ?_
    refine lv_iconst (v := (-1)) hx hb dX10_said_17 (by decide) ?_
    refine lv_icmp_ge (tgt := 23) hx hb dX10_said_18 (by decide) (fun c8 => ?_) (fun c8 => ?_)
    · have dc8 : (-1) ≤ p0.toInt := le_i (a := (-1)) (b := p0.toInt) rfl rfl c8
      have k9 : (-1) ≤ p0.toInt ∧ p0.toInt ≤ 2147483647 := ⟨Int.le_trans (Int.le_refl _) dc8, (ir_any _).2⟩
      refine lv_iconst (v := 0) hx hb dX10_said_23 (by decide) ?_
      refine lv_istore_n (lv' := [(2, .int 0), (0, .ref h0), (1, .int p0)]) hx hb dX10_said_24 rfl hl (by decide) rfl (fun ls hl => ?_)
      refine lv_iconst (v := 0) hx hb dX10_said_25 (by decide) ?_
      refine lv_istore_n (lv' := [(3, .int 0), (2, .int 0), (0, .ref h0), (1, .int p0)]) hx hb dX10_said_26 rfl hl (by decide) rfl (fun ls hl => ?_)
      have n21 : F1 27 = .int x_lineTime := (get_ne eF1 (by decide) e_lineTime)
      have n22 : F1 28 = .int x_linePace := (get_ne eF1 (by decide) e_linePace)
      have n23 : F1 29 = .int x_inside := (get_ne eF1 (by decide) e_inside)
      have n24 : F1 30 = .int x_late := (get_ne eF1 (by decide) e_late)
      have n25 : F1 31 = .int x_seed := (get_ne eF1 (by decide) e_seed)
      refine mloop (α := (Int32) × (Int32) × (Nat → Value) × (Int32) × (Int32) × (Int32) × (Int32) × (Int32) × (Nat → Int32) × (Nat → Int32) × (Nat → Int32)) (nL := 4) (D := D) (A := A) (H0 := s.heap) (fun a => (12 - a.1.toInt).toNat) (fun a => IR 0 12 a.1 ∧ SAME [27, 28, 29, 30, 31] F1 a.2.2.1 ∧ a.2.2.1 27 = .int a.2.2.2.1 ∧ a.2.2.1 28 = .int a.2.2.2.2.1 ∧ a.2.2.1 29 = .int a.2.2.2.2.2.1 ∧ a.2.2.1 30 = .int a.2.2.2.2.2.2.1 ∧ a.2.2.1 31 = .int a.2.2.2.2.2.2.2.1 ∧ IR 0 15 a.2.2.2.2.2.1 ∧ IR 0 15 a.2.2.2.2.2.2.1 ∧ SG 0 44 0 1 a.2.2.2.2.2.2.2.2.2.2) (fun a => [(h0, .inr (10, vL 67 a.2.2.1)), (h_s, .inl (cI, 335, .inl f_s)), (h_paceAt, .inl (cI, 40, .inl a.2.2.2.2.2.2.2.2.1)), (h_kindOf, .inl (cI, 4, .inl a.2.2.2.2.2.2.2.2.2.1)), (h_truths, .inl (cZ, 45, .inl a.2.2.2.2.2.2.2.2.2.2))]) (fun a => [(3, .int a.1), (2, .int a.2.1), (0, .ref h0), (1, .int p0)]) (fun H locs ls => W p l e ({ frames := 6, cells := 0, slots := 0, locals := 144 } : Room) s m [.ref h0, .int p0].toArray below meth c H locs 0 0 (MQ below (va_Qi (fun (r : Int32) (u : va_W) => ∃ (Gh : Nat → Value) (y_lineTime : Int32) (y_linePace : Int32) (y_inside : Int32) (y_late : Int32) (y_seed : Int32) (g_paceAt : Nat → Int32) (g_kindOf : Nat → Int32) (g_truths : Nat → Int32), SAME [0, 27, 28, 29, 30, 31] Fh Gh ∧ Gh 0 = .int 0 ∧ Gh 27 = .int y_lineTime ∧ Gh 28 = .int y_linePace ∧ Gh 29 = .int y_inside ∧ IR 0 15 y_inside ∧ Gh 30 = .int y_late ∧ IR 0 15 y_late ∧ Gh 31 = .int y_seed ∧ SG 0 44 0 1 g_truths ∧ u = [(h0, .inr (10, vL 67 Gh)), (h_s, .inl (cI, 335, .inl f_s)), (h_paceAt, .inl (cI, 40, .inl g_paceAt)), (h_kindOf, .inl (cI, 4, .inl g_kindOf)), (h_truths, .inl (cZ, 45, .inl g_truths))]) (PO D A) A) [.ref h0, .int p0].toArray s 0 0 A) (F0 m 27 ls [])) ?_ (0, 0, F1, x_lineTime, x_linePace, x_inside, x_late, x_seed, f_paceAt, f_kindOf, f_truths) ⟨(show 0 ≤ (0 : Int32).toInt ∧ (0 : Int32).toInt ≤ 12 by decide), SAME.rf, n21, n22, n23, n24, n25, i_x_inside, i_x_late, s_truths_0⟩ _ _ _ hP hD hS hl
      rintro ⟨u10, u11, G12, u13, u14, u15, u16, u17, w18, w19, w20⟩ ⟨i26, i27, i28, i29, i30, i31, i32, i33, i34, i35⟩ ih H locs ls hP hD hS hl
      have i26 : 0 ≤ u10.toInt ∧ u10.toInt ≤ 12 := i26
      have i33 : 0 ≤ u15.toInt ∧ u15.toInt ≤ 15 := i33
      have i34 : 0 ≤ u16.toInt ∧ u16.toInt ≤ 15 := i34
      have hP : va_P D vwCl [(h0, .inr (10, vL 67 G12)), (h_s, .inl (cI, 335, .inl f_s)), (h_paceAt, .inl (cI, 40, .inl w18)), (h_kindOf, .inl (cI, 4, .inl w19)), (h_truths, .inl (cZ, 45, .inl w20))] H := hP
      have hD : va_D A [(h0, .inr (10, vL 67 G12)), (h_s, .inl (cI, 335, .inl f_s)), (h_paceAt, .inl (cI, 40, .inl w18)), (h_kindOf, .inl (cI, 4, .inl w19)), (h_truths, .inl (cZ, 45, .inl w20))] := hD
      have hl : lv_has ls 4 [(3, .int u10), (2, .int u11), (0, .ref h0), (1, .int p0)] := hl
      refine lv_iload_n hx hb dX10_said_27 rfl (lv_at hl 0 rfl) ?_
      refine lv_aload_n hx hb dX10_said_28 rfl (lv_at hl 2 rfl) ?_
      have n36 : G12 6 = .ref h_s := (SAME.at i27 (by decide) n2)
      refine get_f (D := D) (ci := 10) (v := .ref h_s) (C := RX10) (T := TX10) (N := 67) hx hb hw inAX10 hown hK hP 0 rfl rfl 6 (by decide) (hw _ q_1267) (fun _ h9 => h9) n36 dX10_said_29 ?_
      refine lv_iconst (v := 5) hx hb dX10_said_32 (by decide) ?_
      refine iald_n hx hb hK hP 1 0 rfl rfl 5 rfl (Nat.le_of_ble_eq_true rfl) (Nat.le_of_ble_eq_true rfl) rfl dX10_said_33 ?_
      refine lv_topi (fun v37 ev37 => ?_)
      have k38 : 0 ≤ v37.toInt ∧ v37.toInt ≤ 12 := by rw [ev37]; exact s_s_5.atN 5 (by decide) (by decide)
      refine lv_icmp_ge (tgt := 64) hx hb dX10_said_34 (by decide) (fun c39 => ?_) (fun c39 => ?_)
      · have dc39 : v37.toInt ≤ u10.toInt := le_i (a := v37.toInt) (b := u10.toInt) rfl rfl c39
        refine lv_iload_n hx hb dX10_said_64 rfl (lv_at hl 3 rfl) ?_
        refine lv_iconst (v := (-1)) hx hb dX10_said_65 (by decide) ?_
        refine lv_icmp_ne (tgt := 73) hx hb dX10_said_66 (by decide) (fun c40 => ?_) (fun c40 => ?_)
        · have dc40 : p0.toInt ≠ (-1) := ne_i (a := p0.toInt) (b := (-1)) rfl rfl c40
          have k41 : 0 ≤ p0.toInt ∧ p0.toInt ≤ 2147483647 := ⟨ne_lo dc40 k9.1 ⟨Int.le_refl _, Int.le_refl _⟩ (by decide), k9.2⟩
          refine lv_iconst (v := (-1)) hx hb dX10_said_73 (by decide) ?_
          exact ret_i (v := (-1)) hx hb hr hlocks hS hP hD dX10_said_74 rfl (Nat.le_of_ble_eq_true rfl) (Nat.le_of_ble_eq_true rfl) ⟨G12, u13, u14, u15, u16, u17, w18, w19, w20, (SAME.tr (SAME.up eF1 SAME.rf (by decide)) i27 (by decide)), (SAME.at i27 (by decide) (get_eq eF1)), i28, i29, i30, i33, i31, i34, i32, i35, rfl⟩
        · have dc40 : p0.toInt = (-1) := eq_i (a := p0.toInt) (b := (-1)) rfl rfl c40
          have k42 : (-1) ≤ p0.toInt ∧ p0.toInt ≤ (-1) := ⟨k9.1, Int.le_trans (Int.le_of_eq dc40) (Int.le_refl _)⟩
          refine lv_iload_n hx hb dX10_said_69 rfl (lv_at hl 1 rfl) ?_
          refine lv_goto (tgt := 74) hx hb dX10_said_70 (by decide) ?_
          exact ret_i (v := u11) hx hb hr hlocks hS hP hD dX10_said_74 rfl (Nat.le_of_ble_eq_true rfl) (Nat.le_of_ble_eq_true rfl) ⟨G12, u13, u14, u15, u16, u17, w18, w19, w20, (SAME.tr (SAME.up eF1 SAME.rf (by decide)) i27 (by decide)), (SAME.at i27 (by decide) (get_eq eF1)), i28, i29, i30, i33, i31, i34, i32, i35, rfl⟩
      · have dc39 : u10.toInt < v37.toInt := nle_i (a := v37.toInt) (b := u10.toInt) rfl rfl c39
        have k43 : 0 ≤ u10.toInt ∧ u10.toInt ≤ 11 := ⟨i26.1, up_lt dc39 k38.2 (by decide)⟩
        have k44 : 1 ≤ v37.toInt ∧ v37.toInt ≤ 12 := ⟨lo_lt dc39 i26.1 (by decide), k38.2⟩
        refine lv_aload_n hx hb dX10_said_37 rfl (lv_at hl 2 rfl) ?_
        refine lv_iload_n hx hb dX10_said_38 rfl (lv_at hl 0 rfl) ?_
        have n45 : F1 25 = .ref h_paceAt := (get_ne eF1 (by decide) e_paceAt)
        have n46 : G12 25 = .ref h_paceAt := (SAME.at i27 (by decide) n45)
        have n47 : F1 26 = .ref h_kindOf := (get_ne eF1 (by decide) e_kindOf)
        have n48 : G12 26 = .ref h_kindOf := (SAME.at i27 (by decide) n47)
        have n49 : F1 32 = .int x_kicks := (get_ne eF1 (by decide) e_kicks)
        have n50 : G12 32 = .int x_kicks := (SAME.at i27 (by decide) n49)
        have n51 : F1 63 = .ref h_truths := (get_ne eF1 (by decide) e_truths)
        have n52 : G12 63 = .ref h_truths := (SAME.at i27 (by decide) n51)
        refine call_Vi (wr := []) (As := [.int u10]) (rest := []) hx hb hml hown hw (m_X10_isSaid l D cI cJ cB cP cM cZ h0 h_s h_paceAt h_kindOf h_truths G12 u13 u14 u15 u16 u17 x_kicks f_s w18 w19 w20 u10 _ n36 n46 n48 i28 i29 i30 i33 i31 i34 i32 n50 i_x_kicks n52 s_s_K0 s_s_0 s_s_105 s_s_114 s_s_130 s_s_139 s_s_153 s_s_44 s_s_5 s_s_6 s_s_7 i35 k43) wV_X10_478_X10_isSaid dX10_said_39 hK hP hD hS hA [0, 1, 2, 3, 4] [] rfl rfl (by decide) (by decide) (by decide) 0 10 rfl rfl GG.fb hG.at hl.1 rfl (Nat.le_of_ble_eq_true rfl) ⟨(Nat.le_of_ble_eq_true rfl), (Nat.le_of_ble_eq_true rfl)⟩ ⟨(Nat.le_of_ble_eq_true rfl), (Nat.le_of_ble_eq_true rfl)⟩ (fun r53 u H locs hp hP hD hS => ?_)
        obtain ⟨F54, y55, y56, y57, y58, y59, g60, g61, g62, t63, t64, t65, t66, t67, t68, t69, t70, t71, t72, rfl⟩ := hp
        have hP : va_P D vwCl [(h0, .inr (10, vL 67 F54)), (h_s, .inl (cI, 335, .inl f_s)), (h_paceAt, .inl (cI, 40, .inl g60)), (h_kindOf, .inl (cI, 4, .inl g61)), (h_truths, .inl (cZ, 45, .inl g62))] H := hP
        have hD : va_D A [(h0, .inr (10, vL 67 F54)), (h_s, .inl (cI, 335, .inl f_s)), (h_paceAt, .inl (cI, 40, .inl g60)), (h_kindOf, .inl (cI, 4, .inl g61)), (h_truths, .inl (cZ, 45, .inl g62))] := hD
        refine W.widen (k := 0) (n := 0) (Nat.le_of_ble_eq_true rfl) (Nat.le_of_ble_eq_true rfl) ?_
        refine lv_if_ne (tgt := 48) hx hb dX10_said_42 (by decide) (fun c74 => ?_) (fun c74 => ?_)
        · have dc74 : r53.toInt ≠ 0 := ne_i (a := r53.toInt) (b := 0) rfl rfl c74
          have k75 : 1 ≤ r53.toInt ∧ r53.toInt ≤ 1 := ⟨ne_lo dc74 t72.1 ⟨Int.le_refl _, Int.le_refl _⟩ (by decide), t72.2⟩
          refine lv_iload_n hx hb dX10_said_48 rfl (lv_at hl 1 rfl) ?_
          refine lv_iload_n hx hb dX10_said_49 rfl (lv_at hl 3 rfl) ?_
          refine lv_icmp_ne (tgt := 55) hx hb dX10_said_50 (by decide) (fun c76 => ?_) (fun c76 => ?_)
          · have dc76 : u11.toInt ≠ p0.toInt := ne_i (a := u11.toInt) (b := p0.toInt) rfl rfl c76
            obtain ⟨v77, ev77⟩ : ∃ z : Int32, z = u11 + 1 := ⟨_, rfl⟩
            refine lv_iinc (v := v77) (lv' := [(2, .int v77), (3, .int u10), (0, .ref h0), (1, .int p0)]) hx hb dX10_said_55 hl (k := 1) rfl (by rw [ev77]; rfl) (by decide) rfl (fun ls hl => ?_)
            obtain ⟨v78, ev78⟩ : ∃ z : Int32, z = u10 + 1 := ⟨_, rfl⟩
            have bv78 : v78.toInt = u10.toInt + 1 := by rw [ev78]; exact add_k rfl rfl k43 ⟨Int.le_refl _, Int.le_refl _⟩ (by decide)
            have k79 : 1 ≤ v78.toInt ∧ v78.toInt ≤ 12 := add_r bv78 k43 ⟨Int.le_refl _, Int.le_refl _⟩ (by decide)
            refine lv_iinc (v := v78) (lv' := [(3, .int v78), (2, .int v77), (0, .ref h0), (1, .int p0)]) hx hb dX10_said_58 hl (k := 1) rfl (by rw [ev78]; rfl) (by decide) rfl (fun ls hl => ?_)
            refine lv_goto (tgt := 27) hx hb dX10_said_61 (by decide) ?_
            exact ih (v78, v77, F54, y55, y56, y57, y58, y59, g60, g61, g62) ⟨(ir_wk k79 (by decide) (by decide)), (SAME.tr (SAME.tr SAME.rf i27 (by decide)) t63 (by decide)), t64, t65, t66, t68, t70, t67, t69, t71⟩ (by show (12 - v78.toInt).toNat < (12 - u10.toInt).toNat; omega) _ _ _ hP hD hS (lv_sub hl [0, 1, 2, 3] rfl)
          · have dc76 : u11.toInt = p0.toInt := eq_i (a := u11.toInt) (b := p0.toInt) rfl rfl c76
            have k80 : (-1) ≤ u11.toInt ∧ u11.toInt ≤ 2147483647 := ⟨Int.le_trans k9.1 (Int.le_of_eq dc76.symm), (ir_any _).2⟩
            refine lv_iload_n hx hb dX10_said_53 rfl (lv_at hl 0 rfl) ?_
            exact ret_i (v := u10) hx hb hr hlocks hS hP hD dX10_said_54 rfl (Nat.le_of_ble_eq_true rfl) (Nat.le_of_ble_eq_true rfl) ⟨F54, y55, y56, y57, y58, y59, g60, g61, g62, (SAME.tr (SAME.tr (SAME.up eF1 SAME.rf (by decide)) i27 (by decide)) t63 (by decide)), (SAME.at t63 (by decide) (SAME.at i27 (by decide) (get_eq eF1))), t64, t65, t66, t67, t68, t69, t70, t71, rfl⟩
        · have dc74 : r53.toInt = 0 := eq_i (a := r53.toInt) (b := 0) rfl rfl c74
          have k81 : 0 ≤ r53.toInt ∧ r53.toInt ≤ 0 := ⟨t72.1, Int.le_trans (Int.le_of_eq dc74) (Int.le_refl _)⟩
          refine lv_goto (tgt := 58) hx hb dX10_said_45 (by decide) ?_
          obtain ⟨v82, ev82⟩ : ∃ z : Int32, z = u10 + 1 := ⟨_, rfl⟩
          have bv82 : v82.toInt = u10.toInt + 1 := by rw [ev82]; exact add_k rfl rfl k43 ⟨Int.le_refl _, Int.le_refl _⟩ (by decide)
          have k83 : 1 ≤ v82.toInt ∧ v82.toInt ≤ 12 := add_r bv82 k43 ⟨Int.le_refl _, Int.le_refl _⟩ (by decide)
          refine lv_iinc (v := v82) (lv' := [(3, .int v82), (2, .int u11), (0, .ref h0), (1, .int p0)]) hx hb dX10_said_58 hl (k := 0) rfl (by rw [ev82]; rfl) (by decide) rfl (fun ls hl => ?_)
          refine lv_goto (tgt := 27) hx hb dX10_said_61 (by decide) ?_
          exact ih (v82, u11, F54, y55, y56, y57, y58, y59, g60, g61, g62) ⟨(ir_wk k83 (by decide) (by decide)), (SAME.tr (SAME.tr SAME.rf i27 (by decide)) t63 (by decide)), t64, t65, t66, t68, t70, t67, t69, t71⟩ (by show (12 - v82.toInt).toNat < (12 - u10.toInt).toNat; omega) _ _ _ hP hD hS (lv_sub hl [0, 1, 2, 3] rfl)
    · have dc8 : p0.toInt < (-1) := nle_i (a := (-1)) (b := p0.toInt) rfl rfl c8
      have k84 : (-2147483648) ≤ p0.toInt ∧ p0.toInt ≤ (-2) := ⟨(ir_any _).1, up_lt dc8 (Int.le_refl _) (by decide)⟩
      refine lv_iconst (v := (-1)) hx hb dX10_said_21 (by decide) ?_
      exact ret_i (v := (-1)) hx hb hr hlocks hS hP hD dX10_said_22 rfl (Nat.le_of_ble_eq_true rfl) (Nat.le_of_ble_eq_true rfl) ⟨F1, x_lineTime, x_linePace, x_inside, x_late, x_seed, f_paceAt, f_kindOf, f_truths, (SAME.up eF1 SAME.rf (by decide)), (get_eq eF1), (get_ne eF1 (by decide) e_lineTime), (get_ne eF1 (by decide) e_linePace), (get_ne eF1 (by decide) e_inside), i_x_inside, (get_ne eF1 (by decide) e_late), i_x_late, (get_ne eF1 (by decide) e_seed), s_truths_0, rfl⟩
set_option maxHeartbeats 4000000 in
set_option maxRecDepth 100000 in
theorem m_X10_image (l : Launch) (D : va_G) (cI cJ cB cP cM cZ : ClassId) (h0 : Nat) (h_s : Nat) (h_names : Nat) (h_images : Nat) (h_namesKept : Nat) (h_areKept : Nat) (Fh : Nat → Value) (f_s : Nat → Int32) (f_names : Nat → Int64) (f_images : Nat → Int32) (f_namesKept : Nat → Int64) (f_areKept : Nat → Int32) (p0 : Int32) (sz : Nat) (e_s : Fh 6 = .ref h_s) (e_names : Fh 9 = .ref h_names) (e_images : Fh 64 = .ref h_images) (e_namesKept : Fh 65 = .ref h_namesKept) (e_areKept : Fh 66 = .ref h_areKept) (s_s_K0 : KW 0 f_s) (s_s_0 : SG 0 0 0 40 f_s) (s_s_105 : SG 105 108 0 11 f_s) (s_s_114 : SG 114 114 0 5 f_s) (s_s_130 : SG 130 133 0 11 f_s) (s_s_139 : SG 139 139 0 5 f_s) (s_s_153 : SG 153 153 0 44 f_s) (s_s_44 : SG 44 55 0 9 f_s) (s_s_5 : SG 5 5 0 12 f_s) (s_s_6 : SG 6 6 0 12 f_s) (s_s_7 : SG 7 7 0 6 f_s) (s_images_K0 : KW 0 f_images) (s_images_K335 : KW 335 f_images) (s_images_0 : SG 0 0 0 40 f_images) (s_images_105 : SG 105 108 0 11 f_images) (s_images_114 : SG 114 114 0 5 f_images) (s_images_130 : SG 130 133 0 11 f_images) (s_images_139 : SG 139 139 0 5 f_images) (s_images_153 : SG 153 153 0 44 f_images) (s_images_335 : SG 335 335 0 40 f_images) (s_images_340 : SG 340 340 0 12 f_images) (s_images_341 : SG 341 341 0 12 f_images) (s_images_342 : SG 342 342 0 6 f_images) (s_images_379 : SG 379 390 0 9 f_images) (s_images_44 : SG 44 55 0 9 f_images) (s_images_440 : SG 440 443 0 11 f_images) (s_images_449 : SG 449 449 0 5 f_images) (s_images_465 : SG 465 468 0 11 f_images) (s_images_474 : SG 474 474 0 5 f_images) (s_images_488 : SG 488 488 0 44 f_images) (s_images_5 : SG 5 5 0 12 f_images) (s_images_6 : SG 6 6 0 12 f_images) (s_images_7 : SG 7 7 0 6 f_images) : CI l yX10_image cX10_image 3 (some .boolean) { frames := 1, cells := 0, slots := 0, locals := 22 } (GG D cI cJ cB cP cM cZ) D [(h0, .inr (10, vL 67 Fh)), (h_s, .inl (cI, 335, .inl f_s)), (h_names, .inl (cJ, 36, .inr (.inl f_names))), (h_images, .inl (cI, 670, .inl f_images)), (h_namesKept, .inl (cJ, 36, .inr (.inl f_namesKept))), (h_areKept, .inl (cZ, 2, .inl f_areKept))] sz [.ref h0, .int p0] (fun (r : Int32) (u : va_W) => (∃ (Gh : Nat → Value), SAME [0] Fh Gh ∧ Gh 0 = .int 0 ∧ p0.toInt < 0 ∧ ((r = 1 → p0.toInt = 0 → f_areKept 0 = 1 ∧ f_areKept 1 = f_areKept 1) ∧ (r = 1 → p0.toInt = 1 → f_areKept 1 = 1 ∧ f_areKept 0 = f_areKept 0)) ∧ r = 0 ∧ u = [(h0, .inr (10, vL 67 Gh)), (h_s, .inl (cI, 335, .inl f_s)), (h_names, .inl (cJ, 36, .inr (.inl f_names))), (h_images, .inl (cI, 670, .inl f_images)), (h_namesKept, .inl (cJ, 36, .inr (.inl f_namesKept))), (h_areKept, .inl (cZ, 2, .inl f_areKept))]) ∨ (∃ (Gh : Nat → Value), SAME [0] Fh Gh ∧ Gh 0 = .int 0 ∧ 0 ≤ p0.toInt ∧ 1 < p0.toInt ∧ ((r = 1 → p0.toInt = 0 → f_areKept 0 = 1 ∧ f_areKept 1 = f_areKept 1) ∧ (r = 1 → p0.toInt = 1 → f_areKept 1 = 1 ∧ f_areKept 0 = f_areKept 0)) ∧ r = 0 ∧ u = [(h0, .inr (10, vL 67 Gh)), (h_s, .inl (cI, 335, .inl f_s)), (h_names, .inl (cJ, 36, .inr (.inl f_names))), (h_images, .inl (cI, 670, .inl f_images)), (h_namesKept, .inl (cJ, 36, .inr (.inl f_namesKept))), (h_areKept, .inl (cZ, 2, .inl f_areKept))]) ∨ (∃ (Gh : Nat → Value) (g_images : Nat → Int32) (g_namesKept : Nat → Int64) (g_areKept : Nat → Int32), SAME [0] Fh Gh ∧ Gh 0 = .int 0 ∧ SG 153 153 0 44 g_images ∧ SG 0 0 0 40 g_images ∧ SG 5 5 0 12 g_images ∧ SG 6 6 0 12 g_images ∧ SG 7 7 0 6 g_images ∧ SG 44 55 0 9 g_images ∧ KW 0 g_images ∧ SG 105 108 0 11 g_images ∧ SG 114 114 0 5 g_images ∧ SG 130 133 0 11 g_images ∧ SG 139 139 0 5 g_images ∧ SG 488 488 0 44 g_images ∧ SG 335 335 0 40 g_images ∧ SG 340 340 0 12 g_images ∧ SG 341 341 0 12 g_images ∧ SG 342 342 0 6 g_images ∧ SG 379 390 0 9 g_images ∧ KW 335 g_images ∧ SG 440 443 0 11 g_images ∧ SG 449 449 0 5 g_images ∧ SG 465 468 0 11 g_images ∧ SG 474 474 0 5 g_images ∧ 0 ≤ p0.toInt ∧ p0.toInt ≤ 1 ∧ p0.toInt = 0 ∧ ((r = 1 → p0.toInt = 0 → g_areKept 0 = 1 ∧ g_areKept 1 = f_areKept 1) ∧ (r = 1 → p0.toInt = 1 → g_areKept 1 = 1 ∧ g_areKept 0 = f_areKept 0)) ∧ r = 1 ∧ u = [(h0, .inr (10, vL 67 Gh)), (h_s, .inl (cI, 335, .inl f_s)), (h_names, .inl (cJ, 36, .inr (.inl f_names))), (h_images, .inl (cI, 670, .inl g_images)), (h_namesKept, .inl (cJ, 36, .inr (.inl g_namesKept))), (h_areKept, .inl (cZ, 2, .inl g_areKept))]) ∨ (∃ (Gh : Nat → Value) (g_images : Nat → Int32) (g_namesKept : Nat → Int64) (g_areKept : Nat → Int32), SAME [0] Fh Gh ∧ Gh 0 = .int 0 ∧ SG 153 153 0 44 g_images ∧ SG 0 0 0 40 g_images ∧ SG 5 5 0 12 g_images ∧ SG 6 6 0 12 g_images ∧ SG 7 7 0 6 g_images ∧ SG 44 55 0 9 g_images ∧ KW 0 g_images ∧ SG 105 108 0 11 g_images ∧ SG 114 114 0 5 g_images ∧ SG 130 133 0 11 g_images ∧ SG 139 139 0 5 g_images ∧ SG 488 488 0 44 g_images ∧ SG 335 335 0 40 g_images ∧ SG 340 340 0 12 g_images ∧ SG 341 341 0 12 g_images ∧ SG 342 342 0 6 g_images ∧ SG 379 390 0 9 g_images ∧ KW 335 g_images ∧ SG 440 443 0 11 g_images ∧ SG 449 449 0 5 g_images ∧ SG 465 468 0 11 g_images ∧ SG 474 474 0 5 g_images ∧ 0 ≤ p0.toInt ∧ p0.toInt ≤ 1 ∧ p0.toInt = 1 ∧ ((r = 1 → p0.toInt = 0 → g_areKept 0 = 1 ∧ g_areKept 1 = f_areKept 1) ∧ (r = 1 → p0.toInt = 1 → g_areKept 1 = 1 ∧ g_areKept 0 = f_areKept 0)) ∧ r = 1 ∧ u = [(h0, .inr (10, vL 67 Gh)), (h_s, .inl (cI, 335, .inl f_s)), (h_names, .inl (cJ, 36, .inr (.inl f_names))), (h_images, .inl (cI, 670, .inl g_images)), (h_namesKept, .inl (cJ, 36, .inr (.inl g_namesKept))), (h_areKept, .inl (cZ, 2, .inl g_areKept))])) := by
  refine CI_mk (by decide) (Nat.le_of_ble_eq_true rfl) ?_
  intro p e s m below meth c A ls E hAe hG hsz hP hD hA hS hl
  obtain ⟨hx, hb, hr, hw, hown, hlocks, hml, hnm⟩ := E
  have hK := hG.1
  have hl : lv_has ls 3 [(0, .ref h0), (1, .int p0)] := hl
  refine lv_aload_n hx hb dX10_image_0 rfl (lv_at hl 0 rfl) ?_
  refine lv_iconst (v := 0) hx hb dX10_image_1 (by decide) ?_
  refine put_f (D := D) (ci := 10) (v := .int 0) (ty := .int) (C := RX10) (T := TX10) (N := 67) hx hb hw inAX10 tyX10 tyX10_ok nmX10 hown hK hP hD hS 0 rfl rfl 0 (by decide) (hw _ q_1261) (fun _ h9 => h9) rfl (by decide +kernel) rfl rfl dX10_image_2 (fun H locs F1 eF1 hP hD hS => ?_)
  have hP : va_P D vwCl [(h0, .inr (10, vL 67 F1)), (h_s, .inl (cI, 335, .inl f_s)), (h_names, .inl (cJ, 36, .inr (.inl f_names))), (h_images, .inl (cI, 670, .inl f_images)), (h_namesKept, .inl (cJ, 36, .inr (.inl f_namesKept))), (h_areKept, .inl (cZ, 2, .inl f_areKept))] H := hP
  have hD : va_D A [(h0, .inr (10, vL 67 F1)), (h_s, .inl (cI, 335, .inl f_s)), (h_names, .inl (cJ, 36, .inr (.inl f_names))), (h_images, .inl (cI, 670, .inl f_images)), (h_namesKept, .inl (cJ, 36, .inr (.inl f_namesKept))), (h_areKept, .inl (cZ, 2, .inl f_areKept))] := hD
  refine lv_iload_n hx hb dX10_image_5 rfl (lv_at hl 1 rfl) ?_
  refine lv_iconst (v := 0) hx hb dX10_image_6 (by decide) ?_
  refine lv_iconst (v := 1) hx hb dX10_image_7 (by decide) ?_
  refine call_Si (wr := [(h0, .inr (10, vL 67 F1)), (h_s, .inl (cI, 335, .inl f_s)), (h_names, .inl (cJ, 36, .inr (.inl f_names))), (h_images, .inl (cI, 670, .inl f_images)), (h_namesKept, .inl (cJ, 36, .inr (.inl f_namesKept))), (h_areKept, .inl (cZ, 2, .inl f_areKept))]) (As := [.int p0, .int 0, .int 1]) (rest := []) hx hb hml hown hw (m_X10_isIn l D cI cJ cB cP cM cZ p0 0 1 _ ) wS_X10_211_X10_isIn dX10_image_8 hP hD hS hA [] [0, 1, 2, 3, 4, 5] rfl rfl (by decide) (by decide) (by decide) GG.fb hG.at hl.1 rfl (Nat.le_of_ble_eq_true rfl) ⟨(Nat.le_of_ble_eq_true rfl), (Nat.le_of_ble_eq_true rfl)⟩ ⟨(Nat.le_of_ble_eq_true rfl), (Nat.le_of_ble_eq_true rfl)⟩ (fun r2 u H locs hp hP hD hS => ?_)
  have zl0 : (0 : Int32).toInt = 0 := by decide
  have zl1 : (1 : Int32).toInt = 1 := by decide
  rcases hp with ⟨t3, rfl, rfl⟩ | ⟨t4, t5, rfl, rfl⟩ | ⟨t6, t7, rfl, rfl⟩
  · have hP : va_P D vwCl [(h0, .inr (10, vL 67 F1)), (h_s, .inl (cI, 335, .inl f_s)), (h_names, .inl (cJ, 36, .inr (.inl f_names))), (h_images, .inl (cI, 670, .inl f_images)), (h_namesKept, .inl (cJ, 36, .inr (.inl f_namesKept))), (h_areKept, .inl (cZ, 2, .inl f_areKept))] H := hP
    have hD : va_D A [(h0, .inr (10, vL 67 F1)), (h_s, .inl (cI, 335, .inl f_s)), (h_names, .inl (cJ, 36, .inr (.inl f_names))), (h_images, .inl (cI, 670, .inl f_images)), (h_namesKept, .inl (cJ, 36, .inr (.inl f_namesKept))), (h_areKept, .inl (cZ, 2, .inl f_areKept))] := hD
    refine W.widen (k := 0) (n := 0) (Nat.le_of_ble_eq_true rfl) (Nat.le_of_ble_eq_true rfl) ?_
    have k9 : (-2147483648) ≤ p0.toInt ∧ p0.toInt ≤ (-1) := ⟨(ir_any _).1, up_lt t3 (Int.le_refl _) (by decide)⟩
    refine lv_if_ne (tgt := 16) hx hb dX10_image_11 (by decide) (fun g => absurd (by decide) g) (fun _ => ?_)
    refine lv_iconst (v := 0) hx hb dX10_image_14 (by decide) ?_
    exact ret_i (v := 0) hx hb hr hlocks hS hP hD dX10_image_15 rfl (Nat.le_of_ble_eq_true rfl) (Nat.le_of_ble_eq_true rfl) (Or.inl ⟨F1, (SAME.up eF1 SAME.rf (by decide)), (get_eq eF1), t3, ⟨fun q => absurd q (by decide), fun q => absurd q (by decide)⟩, rfl, rfl⟩)
  · have hP : va_P D vwCl [(h0, .inr (10, vL 67 F1)), (h_s, .inl (cI, 335, .inl f_s)), (h_names, .inl (cJ, 36, .inr (.inl f_names))), (h_images, .inl (cI, 670, .inl f_images)), (h_namesKept, .inl (cJ, 36, .inr (.inl f_namesKept))), (h_areKept, .inl (cZ, 2, .inl f_areKept))] H := hP
    have hD : va_D A [(h0, .inr (10, vL 67 F1)), (h_s, .inl (cI, 335, .inl f_s)), (h_names, .inl (cJ, 36, .inr (.inl f_names))), (h_images, .inl (cI, 670, .inl f_images)), (h_namesKept, .inl (cJ, 36, .inr (.inl f_namesKept))), (h_areKept, .inl (cZ, 2, .inl f_areKept))] := hD
    refine W.widen (k := 0) (n := 0) (Nat.le_of_ble_eq_true rfl) (Nat.le_of_ble_eq_true rfl) ?_
    have k10 : 0 ≤ p0.toInt ∧ p0.toInt ≤ 2147483647 := ⟨Int.le_trans (Int.le_refl _) t4, (ir_any _).2⟩
    have k11 : 2 ≤ p0.toInt ∧ p0.toInt ≤ 2147483647 := ⟨lo_lt t5 (Int.le_refl _) (by decide), k10.2⟩
    refine lv_if_ne (tgt := 16) hx hb dX10_image_11 (by decide) (fun g => absurd (by decide) g) (fun _ => ?_)
    refine lv_iconst (v := 0) hx hb dX10_image_14 (by decide) ?_
    exact ret_i (v := 0) hx hb hr hlocks hS hP hD dX10_image_15 rfl (Nat.le_of_ble_eq_true rfl) (Nat.le_of_ble_eq_true rfl) (Or.inr (Or.inl ⟨F1, (SAME.up eF1 SAME.rf (by decide)), (get_eq eF1), t4, t5, ⟨fun q => absurd q (by decide), fun q => absurd q (by decide)⟩, rfl, rfl⟩))
  · have hP : va_P D vwCl [(h0, .inr (10, vL 67 F1)), (h_s, .inl (cI, 335, .inl f_s)), (h_names, .inl (cJ, 36, .inr (.inl f_names))), (h_images, .inl (cI, 670, .inl f_images)), (h_namesKept, .inl (cJ, 36, .inr (.inl f_namesKept))), (h_areKept, .inl (cZ, 2, .inl f_areKept))] H := hP
    have hD : va_D A [(h0, .inr (10, vL 67 F1)), (h_s, .inl (cI, 335, .inl f_s)), (h_names, .inl (cJ, 36, .inr (.inl f_names))), (h_images, .inl (cI, 670, .inl f_images)), (h_namesKept, .inl (cJ, 36, .inr (.inl f_namesKept))), (h_areKept, .inl (cZ, 2, .inl f_areKept))] := hD
    refine W.widen (k := 0) (n := 0) (Nat.le_of_ble_eq_true rfl) (Nat.le_of_ble_eq_true rfl) ?_
    have k12 : 0 ≤ p0.toInt ∧ p0.toInt ≤ 2147483647 := ⟨Int.le_trans (Int.le_refl _) t6, (ir_any _).2⟩
    have k13 : 0 ≤ p0.toInt ∧ p0.toInt ≤ 1 := ⟨k12.1, Int.le_trans t7 (Int.le_refl _)⟩
    refine lv_if_ne (tgt := 16) hx hb dX10_image_11 (by decide) (fun _ => ?_) (fun g => absurd g (by decide))
    by_cases k14 : p0 = 0
    · have dk14 : p0.toInt = 0 := eq_i rfl rfl k14
      have k15 : 0 ≤ p0.toInt ∧ p0.toInt ≤ 0 := ⟨k13.1, Int.le_trans (Int.le_of_eq dk14) (Int.le_refl _)⟩
      have hl : lv_has ls 3 [(0, .ref h0), (1, .int 0)] := by have q := hl; rw [k14] at q; exact q
      refine lv_iconst (v := 0) hx hb dX10_image_16 (by decide) ?_
      refine lv_istore_n (lv' := [(2, .int 0), (0, .ref h0), (1, .int 0)]) hx hb dX10_image_17 rfl hl (by decide) rfl (fun ls hl => ?_)
      refine mloop (α := (Int32) × (Nat → Int32)) (nL := 3) (D := D) (A := A) (H0 := s.heap) (fun a => (335 - a.1.toInt).toNat) (fun a => IR 0 335 a.1 ∧ KW 335 a.2 ∧ SG 335 335 0 40 a.2 ∧ SG 340 340 0 12 a.2 ∧ SG 341 341 0 12 a.2 ∧ SG 342 342 0 6 a.2 ∧ SG 379 390 0 9 a.2 ∧ SG 440 443 0 11 a.2 ∧ SG 449 449 0 5 a.2 ∧ SG 465 468 0 11 a.2 ∧ SG 474 474 0 5 a.2 ∧ SG 488 488 0 44 a.2 ∧ (CPY a.2 0 f_s 0 (a.1.toInt))) (fun a => [(h0, .inr (10, vL 67 F1)), (h_s, .inl (cI, 335, .inl f_s)), (h_names, .inl (cJ, 36, .inr (.inl f_names))), (h_images, .inl (cI, 670, .inl a.2)), (h_namesKept, .inl (cJ, 36, .inr (.inl f_namesKept))), (h_areKept, .inl (cZ, 2, .inl f_areKept))]) (fun a => [(2, .int a.1), (0, .ref h0), (1, .int 0)]) (fun H locs ls => W p l e ({ frames := 1, cells := 0, slots := 0, locals := 22 } : Room) s m [.ref h0, .int p0].toArray below meth c H locs 0 0 (MQ below (va_Qi (fun (r : Int32) (u : va_W) => (∃ (Gh : Nat → Value), SAME [0] Fh Gh ∧ Gh 0 = .int 0 ∧ p0.toInt < 0 ∧ ((r = 1 → p0.toInt = 0 → f_areKept 0 = 1 ∧ f_areKept 1 = f_areKept 1) ∧ (r = 1 → p0.toInt = 1 → f_areKept 1 = 1 ∧ f_areKept 0 = f_areKept 0)) ∧ r = 0 ∧ u = [(h0, .inr (10, vL 67 Gh)), (h_s, .inl (cI, 335, .inl f_s)), (h_names, .inl (cJ, 36, .inr (.inl f_names))), (h_images, .inl (cI, 670, .inl f_images)), (h_namesKept, .inl (cJ, 36, .inr (.inl f_namesKept))), (h_areKept, .inl (cZ, 2, .inl f_areKept))]) ∨ (∃ (Gh : Nat → Value), SAME [0] Fh Gh ∧ Gh 0 = .int 0 ∧ 0 ≤ p0.toInt ∧ 1 < p0.toInt ∧ ((r = 1 → p0.toInt = 0 → f_areKept 0 = 1 ∧ f_areKept 1 = f_areKept 1) ∧ (r = 1 → p0.toInt = 1 → f_areKept 1 = 1 ∧ f_areKept 0 = f_areKept 0)) ∧ r = 0 ∧ u = [(h0, .inr (10, vL 67 Gh)), (h_s, .inl (cI, 335, .inl f_s)), (h_names, .inl (cJ, 36, .inr (.inl f_names))), (h_images, .inl (cI, 670, .inl f_images)), (h_namesKept, .inl (cJ, 36, .inr (.inl f_namesKept))), (h_areKept, .inl (cZ, 2, .inl f_areKept))]) ∨ (∃ (Gh : Nat → Value) (g_images : Nat → Int32) (g_namesKept : Nat → Int64) (g_areKept : Nat → Int32), SAME [0] Fh Gh ∧ Gh 0 = .int 0 ∧ SG 153 153 0 44 g_images ∧ SG 0 0 0 40 g_images ∧ SG 5 5 0 12 g_images ∧ SG 6 6 0 12 g_images ∧ SG 7 7 0 6 g_images ∧ SG 44 55 0 9 g_images ∧ KW 0 g_images ∧ SG 105 108 0 11 g_images ∧ SG 114 114 0 5 g_images ∧ SG 130 133 0 11 g_images ∧ SG 139 139 0 5 g_images ∧ SG 488 488 0 44 g_images ∧ SG 335 335 0 40 g_images ∧ SG 340 340 0 12 g_images ∧ SG 341 341 0 12 g_images ∧ SG 342 342 0 6 g_images ∧ SG 379 390 0 9 g_images ∧ KW 335 g_images ∧ SG 440 443 0 11 g_images ∧ SG 449 449 0 5 g_images ∧ SG 465 468 0 11 g_images ∧ SG 474 474 0 5 g_images ∧ 0 ≤ p0.toInt ∧ p0.toInt ≤ 1 ∧ p0.toInt = 0 ∧ ((r = 1 → p0.toInt = 0 → g_areKept 0 = 1 ∧ g_areKept 1 = f_areKept 1) ∧ (r = 1 → p0.toInt = 1 → g_areKept 1 = 1 ∧ g_areKept 0 = f_areKept 0)) ∧ r = 1 ∧ u = [(h0, .inr (10, vL 67 Gh)), (h_s, .inl (cI, 335, .inl f_s)), (h_names, .inl (cJ, 36, .inr (.inl f_names))), (h_images, .inl (cI, 670, .inl g_images)), (h_namesKept, .inl (cJ, 36, .inr (.inl g_namesKept))), (h_areKept, .inl (cZ, 2, .inl g_areKept))]) ∨ (∃ (Gh : Nat → Value) (g_images : Nat → Int32) (g_namesKept : Nat → Int64) (g_areKept : Nat → Int32), SAME [0] Fh Gh ∧ Gh 0 = .int 0 ∧ SG 153 153 0 44 g_images ∧ SG 0 0 0 40 g_images ∧ SG 5 5 0 12 g_images ∧ SG 6 6 0 12 g_images ∧ SG 7 7 0 6 g_images ∧ SG 44 55 0 9 g_images ∧ KW 0 g_images ∧ SG 105 108 0 11 g_images ∧ SG 114 114 0 5 g_images ∧ SG 130 133 0 11 g_images ∧ SG 139 139 0 5 g_images ∧ SG 488 488 0 44 g_images ∧ SG 335 335 0 40 g_images ∧ SG 340 340 0 12 g_images ∧ SG 341 341 0 12 g_images ∧ SG 342 342 0 6 g_images ∧ SG 379 390 0 9 g_images ∧ KW 335 g_images ∧ SG 440 443 0 11 g_images ∧ SG 449 449 0 5 g_images ∧ SG 465 468 0 11 g_images ∧ SG 474 474 0 5 g_images ∧ 0 ≤ p0.toInt ∧ p0.toInt ≤ 1 ∧ p0.toInt = 1 ∧ ((r = 1 → p0.toInt = 0 → g_areKept 0 = 1 ∧ g_areKept 1 = f_areKept 1) ∧ (r = 1 → p0.toInt = 1 → g_areKept 1 = 1 ∧ g_areKept 0 = f_areKept 0)) ∧ r = 1 ∧ u = [(h0, .inr (10, vL 67 Gh)), (h_s, .inl (cI, 335, .inl f_s)), (h_names, .inl (cJ, 36, .inr (.inl f_names))), (h_images, .inl (cI, 670, .inl g_images)), (h_namesKept, .inl (cJ, 36, .inr (.inl g_namesKept))), (h_areKept, .inl (cZ, 2, .inl g_areKept))])) (PO D A) A) [.ref h0, .int p0].toArray s 0 0 A) (F0 m 18 ls [])) ?_ (0, f_images) ⟨(show 0 ≤ (0 : Int32).toInt ∧ (0 : Int32).toInt ≤ 335 by decide), s_images_K335, s_images_335, s_images_340, s_images_341, s_images_342, s_images_379, s_images_440, s_images_449, s_images_465, s_images_474, s_images_488, (show CPY f_images 0 f_s 0 (0) from (CPY.zero (by decide)))⟩ _ _ _ hP hD hS hl
      rintro ⟨u16, w17⟩ ⟨i18, i19, i20, i21, i22, i23, i24, i25, i26, i27, i28, i29, i30⟩ ih H locs ls hP hD hS hl
      have i18 : 0 ≤ u16.toInt ∧ u16.toInt ≤ 335 := i18
      have i30 : CPY w17 0 f_s 0 (u16.toInt) := i30
      have hP : va_P D vwCl [(h0, .inr (10, vL 67 F1)), (h_s, .inl (cI, 335, .inl f_s)), (h_names, .inl (cJ, 36, .inr (.inl f_names))), (h_images, .inl (cI, 670, .inl w17)), (h_namesKept, .inl (cJ, 36, .inr (.inl f_namesKept))), (h_areKept, .inl (cZ, 2, .inl f_areKept))] H := hP
      have hD : va_D A [(h0, .inr (10, vL 67 F1)), (h_s, .inl (cI, 335, .inl f_s)), (h_names, .inl (cJ, 36, .inr (.inl f_names))), (h_images, .inl (cI, 670, .inl w17)), (h_namesKept, .inl (cJ, 36, .inr (.inl f_namesKept))), (h_areKept, .inl (cZ, 2, .inl f_areKept))] := hD
      have hl : lv_has ls 3 [(2, .int u16), (0, .ref h0), (1, .int 0)] := hl
      refine lv_iload_n hx hb dX10_image_18 rfl (lv_at hl 0 rfl) ?_
      refine lv_sipush (v := 335) hx hb dX10_image_19 (by decide) ?_
      refine lv_icmp_ge (tgt := 49) hx hb dX10_image_22 (by decide) (fun c31 => ?_) (fun c31 => ?_)
      · have dc31 : 335 ≤ u16.toInt := le_i (a := 335) (b := u16.toInt) rfl rfl c31
        have k32 : 335 ≤ u16.toInt ∧ u16.toInt ≤ 335 := ⟨Int.le_trans (Int.le_refl _) dc31, i18.2⟩
        have r33 : KW 0 w17 := KW.cpy i30 s_s_K0 (by omega) (by decide)
        have r34 : SG 0 0 0 40 w17 := SG.cpy i30 s_s_0 (by decide) (by decide) (by decide) (by omega)
        have r35 : SG 105 108 0 11 w17 := SG.cpy i30 s_s_105 (by decide) (by decide) (by decide) (by omega)
        have r36 : SG 114 114 0 5 w17 := SG.cpy i30 s_s_114 (by decide) (by decide) (by decide) (by omega)
        have r37 : SG 130 133 0 11 w17 := SG.cpy i30 s_s_130 (by decide) (by decide) (by decide) (by omega)
        have r38 : SG 139 139 0 5 w17 := SG.cpy i30 s_s_139 (by decide) (by decide) (by decide) (by omega)
        have r39 : SG 153 153 0 44 w17 := SG.cpy i30 s_s_153 (by decide) (by decide) (by decide) (by omega)
        have r40 : SG 44 55 0 9 w17 := SG.cpy i30 s_s_44 (by decide) (by decide) (by decide) (by omega)
        have r41 : SG 5 5 0 12 w17 := SG.cpy i30 s_s_5 (by decide) (by decide) (by decide) (by omega)
        have r42 : SG 6 6 0 12 w17 := SG.cpy i30 s_s_6 (by decide) (by decide) (by decide) (by omega)
        have r43 : SG 7 7 0 6 w17 := SG.cpy i30 s_s_7 (by decide) (by decide) (by decide) (by omega)
        refine lv_iconst (v := 0) hx hb dX10_image_49 (by decide) ?_
        refine lv_istore_n (lv' := [(2, .int 0), (0, .ref h0), (1, .int 0)]) hx hb dX10_image_50 rfl hl (by decide) rfl (fun ls hl => ?_)
        refine mloop (α := (Int32) × (Nat → Int64)) (nL := 3) (D := D) (A := A) (H0 := s.heap) (fun a => (18 - a.1.toInt).toNat) (fun a => IR 0 18 a.1) (fun a => [(h0, .inr (10, vL 67 F1)), (h_s, .inl (cI, 335, .inl f_s)), (h_names, .inl (cJ, 36, .inr (.inl f_names))), (h_images, .inl (cI, 670, .inl w17)), (h_namesKept, .inl (cJ, 36, .inr (.inl a.2))), (h_areKept, .inl (cZ, 2, .inl f_areKept))]) (fun a => [(2, .int a.1), (0, .ref h0), (1, .int 0)]) (fun H locs ls => W p l e ({ frames := 1, cells := 0, slots := 0, locals := 22 } : Room) s m [.ref h0, .int p0].toArray below meth c H locs 0 0 (MQ below (va_Qi (fun (r : Int32) (u : va_W) => (∃ (Gh : Nat → Value), SAME [0] Fh Gh ∧ Gh 0 = .int 0 ∧ p0.toInt < 0 ∧ ((r = 1 → p0.toInt = 0 → f_areKept 0 = 1 ∧ f_areKept 1 = f_areKept 1) ∧ (r = 1 → p0.toInt = 1 → f_areKept 1 = 1 ∧ f_areKept 0 = f_areKept 0)) ∧ r = 0 ∧ u = [(h0, .inr (10, vL 67 Gh)), (h_s, .inl (cI, 335, .inl f_s)), (h_names, .inl (cJ, 36, .inr (.inl f_names))), (h_images, .inl (cI, 670, .inl f_images)), (h_namesKept, .inl (cJ, 36, .inr (.inl f_namesKept))), (h_areKept, .inl (cZ, 2, .inl f_areKept))]) ∨ (∃ (Gh : Nat → Value), SAME [0] Fh Gh ∧ Gh 0 = .int 0 ∧ 0 ≤ p0.toInt ∧ 1 < p0.toInt ∧ ((r = 1 → p0.toInt = 0 → f_areKept 0 = 1 ∧ f_areKept 1 = f_areKept 1) ∧ (r = 1 → p0.toInt = 1 → f_areKept 1 = 1 ∧ f_areKept 0 = f_areKept 0)) ∧ r = 0 ∧ u = [(h0, .inr (10, vL 67 Gh)), (h_s, .inl (cI, 335, .inl f_s)), (h_names, .inl (cJ, 36, .inr (.inl f_names))), (h_images, .inl (cI, 670, .inl f_images)), (h_namesKept, .inl (cJ, 36, .inr (.inl f_namesKept))), (h_areKept, .inl (cZ, 2, .inl f_areKept))]) ∨ (∃ (Gh : Nat → Value) (g_images : Nat → Int32) (g_namesKept : Nat → Int64) (g_areKept : Nat → Int32), SAME [0] Fh Gh ∧ Gh 0 = .int 0 ∧ SG 153 153 0 44 g_images ∧ SG 0 0 0 40 g_images ∧ SG 5 5 0 12 g_images ∧ SG 6 6 0 12 g_images ∧ SG 7 7 0 6 g_images ∧ SG 44 55 0 9 g_images ∧ KW 0 g_images ∧ SG 105 108 0 11 g_images ∧ SG 114 114 0 5 g_images ∧ SG 130 133 0 11 g_images ∧ SG 139 139 0 5 g_images ∧ SG 488 488 0 44 g_images ∧ SG 335 335 0 40 g_images ∧ SG 340 340 0 12 g_images ∧ SG 341 341 0 12 g_images ∧ SG 342 342 0 6 g_images ∧ SG 379 390 0 9 g_images ∧ KW 335 g_images ∧ SG 440 443 0 11 g_images ∧ SG 449 449 0 5 g_images ∧ SG 465 468 0 11 g_images ∧ SG 474 474 0 5 g_images ∧ 0 ≤ p0.toInt ∧ p0.toInt ≤ 1 ∧ p0.toInt = 0 ∧ ((r = 1 → p0.toInt = 0 → g_areKept 0 = 1 ∧ g_areKept 1 = f_areKept 1) ∧ (r = 1 → p0.toInt = 1 → g_areKept 1 = 1 ∧ g_areKept 0 = f_areKept 0)) ∧ r = 1 ∧ u = [(h0, .inr (10, vL 67 Gh)), (h_s, .inl (cI, 335, .inl f_s)), (h_names, .inl (cJ, 36, .inr (.inl f_names))), (h_images, .inl (cI, 670, .inl g_images)), (h_namesKept, .inl (cJ, 36, .inr (.inl g_namesKept))), (h_areKept, .inl (cZ, 2, .inl g_areKept))]) ∨ (∃ (Gh : Nat → Value) (g_images : Nat → Int32) (g_namesKept : Nat → Int64) (g_areKept : Nat → Int32), SAME [0] Fh Gh ∧ Gh 0 = .int 0 ∧ SG 153 153 0 44 g_images ∧ SG 0 0 0 40 g_images ∧ SG 5 5 0 12 g_images ∧ SG 6 6 0 12 g_images ∧ SG 7 7 0 6 g_images ∧ SG 44 55 0 9 g_images ∧ KW 0 g_images ∧ SG 105 108 0 11 g_images ∧ SG 114 114 0 5 g_images ∧ SG 130 133 0 11 g_images ∧ SG 139 139 0 5 g_images ∧ SG 488 488 0 44 g_images ∧ SG 335 335 0 40 g_images ∧ SG 340 340 0 12 g_images ∧ SG 341 341 0 12 g_images ∧ SG 342 342 0 6 g_images ∧ SG 379 390 0 9 g_images ∧ KW 335 g_images ∧ SG 440 443 0 11 g_images ∧ SG 449 449 0 5 g_images ∧ SG 465 468 0 11 g_images ∧ SG 474 474 0 5 g_images ∧ 0 ≤ p0.toInt ∧ p0.toInt ≤ 1 ∧ p0.toInt = 1 ∧ ((r = 1 → p0.toInt = 0 → g_areKept 0 = 1 ∧ g_areKept 1 = f_areKept 1) ∧ (r = 1 → p0.toInt = 1 → g_areKept 1 = 1 ∧ g_areKept 0 = f_areKept 0)) ∧ r = 1 ∧ u = [(h0, .inr (10, vL 67 Gh)), (h_s, .inl (cI, 335, .inl f_s)), (h_names, .inl (cJ, 36, .inr (.inl f_names))), (h_images, .inl (cI, 670, .inl g_images)), (h_namesKept, .inl (cJ, 36, .inr (.inl g_namesKept))), (h_areKept, .inl (cZ, 2, .inl g_areKept))])) (PO D A) A) [.ref h0, .int p0].toArray s 0 0 A) (F0 m 51 ls [])) ?_ (0, f_namesKept) (show 0 ≤ (0 : Int32).toInt ∧ (0 : Int32).toInt ≤ 18 by decide) _ _ _ hP hD hS hl
        rintro ⟨u44, w45⟩ i46 ih_51 H locs ls hP hD hS hl
        have i46 : 0 ≤ u44.toInt ∧ u44.toInt ≤ 18 := i46
        have hP : va_P D vwCl [(h0, .inr (10, vL 67 F1)), (h_s, .inl (cI, 335, .inl f_s)), (h_names, .inl (cJ, 36, .inr (.inl f_names))), (h_images, .inl (cI, 670, .inl w17)), (h_namesKept, .inl (cJ, 36, .inr (.inl w45))), (h_areKept, .inl (cZ, 2, .inl f_areKept))] H := hP
        have hD : va_D A [(h0, .inr (10, vL 67 F1)), (h_s, .inl (cI, 335, .inl f_s)), (h_names, .inl (cJ, 36, .inr (.inl f_names))), (h_images, .inl (cI, 670, .inl w17)), (h_namesKept, .inl (cJ, 36, .inr (.inl w45))), (h_areKept, .inl (cZ, 2, .inl f_areKept))] := hD
        have hl : lv_has ls 3 [(2, .int u44), (0, .ref h0), (1, .int 0)] := hl
        refine lv_iload_n hx hb dX10_image_51 rfl (lv_at hl 0 rfl) ?_
        refine lv_bipush (v := 18) hx hb dX10_image_52 (by decide) ?_
        refine lv_icmp_ge (tgt := 80) hx hb dX10_image_54 (by decide) (fun c47 => ?_) (fun c47 => ?_)
        · have dc47 : 18 ≤ u44.toInt := le_i (a := 18) (b := u44.toInt) rfl rfl c47
          have k48 : 18 ≤ u44.toInt ∧ u44.toInt ≤ 18 := ⟨Int.le_trans (Int.le_refl _) dc47, i46.2⟩
          refine lv_aload_n hx hb dX10_image_80 rfl (lv_at hl 1 rfl) ?_
          have n49 : F1 66 = .ref h_areKept := (get_ne eF1 (by decide) e_areKept)
          refine get_f (D := D) (ci := 10) (v := .ref h_areKept) (C := RX10) (T := TX10) (N := 67) hx hb hw inAX10 hown hK hP 0 rfl rfl 66 (by decide) (hw _ q_1327) (fun _ h9 => h9) n49 dX10_image_81 ?_
          refine lv_iload_n hx hb dX10_image_84 rfl (lv_at hl 2 rfl) ?_
          refine lv_iconst (v := 1) hx hb dX10_image_85 (by decide) ?_
          obtain ⟨g50, eg50⟩ : ∃ z : Nat → Int32, upd f_areKept 0 (vp_nar .boolean 1) = z := ⟨_, rfl⟩
          refine zast_n hx hb hK hP hD hS 5 5 rfl rfl 0 rfl (Nat.le_of_ble_eq_true rfl) (Nat.le_of_ble_eq_true rfl) eg50 dX10_image_86 (fun H locs hP hD hS => ?_)
          have hP : va_P D vwCl [(h0, .inr (10, vL 67 F1)), (h_s, .inl (cI, 335, .inl f_s)), (h_names, .inl (cJ, 36, .inr (.inl f_names))), (h_images, .inl (cI, 670, .inl w17)), (h_namesKept, .inl (cJ, 36, .inr (.inl w45))), (h_areKept, .inl (cZ, 2, .inl g50))] H := hP
          have hD : va_D A [(h0, .inr (10, vL 67 F1)), (h_s, .inl (cI, 335, .inl f_s)), (h_names, .inl (cJ, 36, .inr (.inl f_names))), (h_images, .inl (cI, 670, .inl w17)), (h_namesKept, .inl (cJ, 36, .inr (.inl w45))), (h_areKept, .inl (cZ, 2, .inl g50))] := hD
          refine lv_iconst (v := 1) hx hb dX10_image_87 (by decide) ?_
          exact ret_i (v := 1) hx hb hr hlocks hS hP hD dX10_image_88 rfl (Nat.le_of_ble_eq_true rfl) (Nat.le_of_ble_eq_true rfl) (Or.inr (Or.inr (Or.inl ⟨F1, w17, w45, g50, (SAME.up eF1 SAME.rf (by decide)), (get_eq eF1), r39, r34, r41, r42, r43, r40, r33, r35, r36, r37, r38, i29, i20, i21, i22, i23, i24, i19, i25, i26, i27, i28, t6, t7, dk14, ⟨fun _ q => ⟨by rw [← eg50, pk_us]; rfl, by rw [← eg50, pk_un (by decide)]⟩, fun _ q => absurd q (by omega)⟩, rfl, rfl⟩)))
        · have dc47 : u44.toInt < 18 := nle_i (a := 18) (b := u44.toInt) rfl rfl c47
          have k51 : 0 ≤ u44.toInt ∧ u44.toInt ≤ 17 := ⟨i46.1, up_lt dc47 (Int.le_refl _) (by decide)⟩
          refine lv_aload_n hx hb dX10_image_57 rfl (lv_at hl 1 rfl) ?_
          have n52 : F1 65 = .ref h_namesKept := (get_ne eF1 (by decide) e_namesKept)
          refine get_f (D := D) (ci := 10) (v := .ref h_namesKept) (C := RX10) (T := TX10) (N := 67) hx hb hw inAX10 hown hK hP 0 rfl rfl 65 (by decide) (hw _ q_1326) (fun _ h9 => h9) n52 dX10_image_58 ?_
          refine lv_bipush (v := 18) hx hb dX10_image_61 (by decide) ?_
          refine lv_iload_n hx hb dX10_image_63 rfl (lv_at hl 2 rfl) ?_
          refine lv_imul hx hb dX10_image_64 ?_
          refine lv_ci (y := 0) (by decide +kernel) ?_
          refine lv_iload_n hx hb dX10_image_65 rfl (lv_at hl 0 rfl) ?_
          refine lv_iadd hx hb dX10_image_66 ?_
          refine lv_topi (fun v53 ev53 => ?_)
          have bv53 : v53.toInt = 0 + u44.toInt := by rw [ev53]; exact add_k rfl rfl ⟨Int.le_refl _, Int.le_refl _⟩ k51 (by decide)
          have k54 : 0 ≤ v53.toInt ∧ v53.toInt ≤ 17 := add_r bv53 ⟨Int.le_refl _, Int.le_refl _⟩ k51 (by decide)
          refine lv_aload_n hx hb dX10_image_67 rfl (lv_at hl 1 rfl) ?_
          have n55 : F1 9 = .ref h_names := (get_ne eF1 (by decide) e_names)
          refine get_f (D := D) (ci := 10) (v := .ref h_names) (C := RX10) (T := TX10) (N := 67) hx hb hw inAX10 hown hK hP 0 rfl rfl 9 (by decide) (hw _ q_1270) (fun _ h9 => h9) n55 dX10_image_68 ?_
          refine lv_iload_n hx hb dX10_image_71 rfl (lv_at hl 0 rfl) ?_
          refine va_lald hx hb hK hP 2 1 rfl rfl (ix_k k51 (by decide) (by decide)) dX10_image_72 ?_
          refine lv_topl (fun v56 ev56 => ?_)
          obtain ⟨g57, eg57⟩ : ∃ z : Nat → Int64, vp_updL w45 v53.toNatClampNeg v56 = z := ⟨_, rfl⟩
          refine last_g hx hb hK hP hD hS 4 1 rfl rfl (ix_k k54 (by decide) (by decide)) eg57 dX10_image_73 (fun H locs hP hD hS => ?_)
          have hP : va_P D vwCl [(h0, .inr (10, vL 67 F1)), (h_s, .inl (cI, 335, .inl f_s)), (h_names, .inl (cJ, 36, .inr (.inl f_names))), (h_images, .inl (cI, 670, .inl w17)), (h_namesKept, .inl (cJ, 36, .inr (.inl g57))), (h_areKept, .inl (cZ, 2, .inl f_areKept))] H := hP
          have hD : va_D A [(h0, .inr (10, vL 67 F1)), (h_s, .inl (cI, 335, .inl f_s)), (h_names, .inl (cJ, 36, .inr (.inl f_names))), (h_images, .inl (cI, 670, .inl w17)), (h_namesKept, .inl (cJ, 36, .inr (.inl g57))), (h_areKept, .inl (cZ, 2, .inl f_areKept))] := hD
          obtain ⟨v58, ev58⟩ : ∃ z : Int32, z = u44 + 1 := ⟨_, rfl⟩
          have bv58 : v58.toInt = u44.toInt + 1 := by rw [ev58]; exact add_k rfl rfl k51 ⟨Int.le_refl _, Int.le_refl _⟩ (by decide)
          have k59 : 1 ≤ v58.toInt ∧ v58.toInt ≤ 18 := add_r bv58 k51 ⟨Int.le_refl _, Int.le_refl _⟩ (by decide)
          refine lv_iinc (v := v58) (lv' := [(2, .int v58), (0, .ref h0), (1, .int 0)]) hx hb dX10_image_74 hl (k := 0) rfl (by rw [ev58]; rfl) (by decide) rfl (fun ls hl => ?_)
          refine lv_goto (tgt := 51) hx hb dX10_image_77 (by decide) ?_
          exact ih_51 (v58, g57) (ir_wk k59 (by decide) (by decide)) (by show (18 - v58.toInt).toNat < (18 - u44.toInt).toNat; omega) _ _ _ hP hD hS (lv_sub hl [0, 1, 2] rfl)
      · have dc31 : u16.toInt < 335 := nle_i (a := 335) (b := u16.toInt) rfl rfl c31
        have k60 : 0 ≤ u16.toInt ∧ u16.toInt ≤ 334 := ⟨i18.1, up_lt dc31 (Int.le_refl _) (by decide)⟩
        refine lv_aload_n hx hb dX10_image_25 rfl (lv_at hl 1 rfl) ?_
        have n61 : F1 64 = .ref h_images := (get_ne eF1 (by decide) e_images)
        refine get_f (D := D) (ci := 10) (v := .ref h_images) (C := RX10) (T := TX10) (N := 67) hx hb hw inAX10 hown hK hP 0 rfl rfl 64 (by decide) (hw _ q_1325) (fun _ h9 => h9) n61 dX10_image_26 ?_
        refine lv_sipush (v := 335) hx hb dX10_image_29 (by decide) ?_
        refine lv_iload_n hx hb dX10_image_32 rfl (lv_at hl 2 rfl) ?_
        refine lv_imul hx hb dX10_image_33 ?_
        refine lv_ci (y := 0) (by decide +kernel) ?_
        refine lv_iload_n hx hb dX10_image_34 rfl (lv_at hl 0 rfl) ?_
        refine lv_iadd hx hb dX10_image_35 ?_
        refine lv_topi (fun v62 ev62 => ?_)
        have bv62 : v62.toInt = 0 + u16.toInt := by rw [ev62]; exact add_k rfl rfl ⟨Int.le_refl _, Int.le_refl _⟩ k60 (by decide)
        have k63 : 0 ≤ v62.toInt ∧ v62.toInt ≤ 334 := add_r bv62 ⟨Int.le_refl _, Int.le_refl _⟩ k60 (by decide)
        refine lv_aload_n hx hb dX10_image_36 rfl (lv_at hl 1 rfl) ?_
        have n64 : F1 6 = .ref h_s := (get_ne eF1 (by decide) e_s)
        refine get_f (D := D) (ci := 10) (v := .ref h_s) (C := RX10) (T := TX10) (N := 67) hx hb hw inAX10 hown hK hP 0 rfl rfl 6 (by decide) (hw _ q_1267) (fun _ h9 => h9) n64 dX10_image_37 ?_
        refine lv_iload_n hx hb dX10_image_40 rfl (lv_at hl 0 rfl) ?_
        refine va_iald hx hb hK hP 1 0 rfl rfl (ix_k k60 (by decide) (by decide)) dX10_image_41 ?_
        refine lv_topi (fun v65 ev65 => ?_)
        have r66 : IMP (0 ≤ u16.toInt → u16.toInt ≤ 0 → 0 ≤ v65.toInt ∧ v65.toInt ≤ 40) := IMP.mk (fun q1 q2 => by rw [ev65]; exact s_s_0.at _ q1 q2)
        have r67 : IMP (105 ≤ u16.toInt → u16.toInt ≤ 108 → 0 ≤ v65.toInt ∧ v65.toInt ≤ 11) := IMP.mk (fun q1 q2 => by rw [ev65]; exact s_s_105.at _ q1 q2)
        have r68 : IMP (114 ≤ u16.toInt → u16.toInt ≤ 114 → 0 ≤ v65.toInt ∧ v65.toInt ≤ 5) := IMP.mk (fun q1 q2 => by rw [ev65]; exact s_s_114.at _ q1 q2)
        have r69 : IMP (130 ≤ u16.toInt → u16.toInt ≤ 133 → 0 ≤ v65.toInt ∧ v65.toInt ≤ 11) := IMP.mk (fun q1 q2 => by rw [ev65]; exact s_s_130.at _ q1 q2)
        have r70 : IMP (139 ≤ u16.toInt → u16.toInt ≤ 139 → 0 ≤ v65.toInt ∧ v65.toInt ≤ 5) := IMP.mk (fun q1 q2 => by rw [ev65]; exact s_s_139.at _ q1 q2)
        have r71 : IMP (153 ≤ u16.toInt → u16.toInt ≤ 153 → 0 ≤ v65.toInt ∧ v65.toInt ≤ 44) := IMP.mk (fun q1 q2 => by rw [ev65]; exact s_s_153.at _ q1 q2)
        have r72 : IMP (44 ≤ u16.toInt → u16.toInt ≤ 55 → 0 ≤ v65.toInt ∧ v65.toInt ≤ 9) := IMP.mk (fun q1 q2 => by rw [ev65]; exact s_s_44.at _ q1 q2)
        have r73 : IMP (5 ≤ u16.toInt → u16.toInt ≤ 5 → 0 ≤ v65.toInt ∧ v65.toInt ≤ 12) := IMP.mk (fun q1 q2 => by rw [ev65]; exact s_s_5.at _ q1 q2)
        have r74 : IMP (6 ≤ u16.toInt → u16.toInt ≤ 6 → 0 ≤ v65.toInt ∧ v65.toInt ≤ 12) := IMP.mk (fun q1 q2 => by rw [ev65]; exact s_s_6.at _ q1 q2)
        have r75 : IMP (7 ≤ u16.toInt → u16.toInt ≤ 7 → 0 ≤ v65.toInt ∧ v65.toInt ≤ 6) := IMP.mk (fun q1 q2 => by rw [ev65]; exact s_s_7.at _ q1 q2)
        obtain ⟨g76, eg76⟩ : ∃ z : Nat → Int32, upd w17 v62.toNatClampNeg v65 = z := ⟨_, rfl⟩
        have r77 : KW 335 g76 := by rw [← eg76]; exact i19.up (Int.le_trans (by decide) k63.1) (Or.inl (lt_dec k63.2 (by decide)))
        have r78 : SG 335 335 0 40 g76 := by rw [← eg76]; exact i20.up (Int.le_trans (by decide) k63.1) (Or.inl (lt_dec k63.2 (by decide)))
        have r79 : SG 340 340 0 12 g76 := by rw [← eg76]; exact i21.up (Int.le_trans (by decide) k63.1) (Or.inl (lt_dec k63.2 (by decide)))
        have r80 : SG 341 341 0 12 g76 := by rw [← eg76]; exact i22.up (Int.le_trans (by decide) k63.1) (Or.inl (lt_dec k63.2 (by decide)))
        have r81 : SG 342 342 0 6 g76 := by rw [← eg76]; exact i23.up (Int.le_trans (by decide) k63.1) (Or.inl (lt_dec k63.2 (by decide)))
        have r82 : SG 379 390 0 9 g76 := by rw [← eg76]; exact i24.up (Int.le_trans (by decide) k63.1) (Or.inl (lt_dec k63.2 (by decide)))
        have r83 : SG 440 443 0 11 g76 := by rw [← eg76]; exact i25.up (Int.le_trans (by decide) k63.1) (Or.inl (lt_dec k63.2 (by decide)))
        have r84 : SG 449 449 0 5 g76 := by rw [← eg76]; exact i26.up (Int.le_trans (by decide) k63.1) (Or.inl (lt_dec k63.2 (by decide)))
        have r85 : SG 465 468 0 11 g76 := by rw [← eg76]; exact i27.up (Int.le_trans (by decide) k63.1) (Or.inl (lt_dec k63.2 (by decide)))
        have r86 : SG 474 474 0 5 g76 := by rw [← eg76]; exact i28.up (Int.le_trans (by decide) k63.1) (Or.inl (lt_dec k63.2 (by decide)))
        have r87 : SG 488 488 0 44 g76 := by rw [← eg76]; exact i29.up (Int.le_trans (by decide) k63.1) (Or.inl (lt_dec k63.2 (by decide)))
        refine iast_g hx hb hK hP hD hS 3 0 rfl rfl (ix_k k63 (by decide) (by decide)) eg76 dX10_image_42 (fun H locs hP hD hS => ?_)
        have hP : va_P D vwCl [(h0, .inr (10, vL 67 F1)), (h_s, .inl (cI, 335, .inl f_s)), (h_names, .inl (cJ, 36, .inr (.inl f_names))), (h_images, .inl (cI, 670, .inl g76)), (h_namesKept, .inl (cJ, 36, .inr (.inl f_namesKept))), (h_areKept, .inl (cZ, 2, .inl f_areKept))] H := hP
        have hD : va_D A [(h0, .inr (10, vL 67 F1)), (h_s, .inl (cI, 335, .inl f_s)), (h_names, .inl (cJ, 36, .inr (.inl f_names))), (h_images, .inl (cI, 670, .inl g76)), (h_namesKept, .inl (cJ, 36, .inr (.inl f_namesKept))), (h_areKept, .inl (cZ, 2, .inl f_areKept))] := hD
        obtain ⟨v88, ev88⟩ : ∃ z : Int32, z = u16 + 1 := ⟨_, rfl⟩
        have bv88 : v88.toInt = u16.toInt + 1 := by rw [ev88]; exact add_k rfl rfl k60 ⟨Int.le_refl _, Int.le_refl _⟩ (by decide)
        have k89 : 1 ≤ v88.toInt ∧ v88.toInt ≤ 335 := add_r bv88 k60 ⟨Int.le_refl _, Int.le_refl _⟩ (by decide)
        refine lv_iinc (v := v88) (lv' := [(2, .int v88), (0, .ref h0), (1, .int 0)]) hx hb dX10_image_43 hl (k := 0) rfl (by rw [ev88]; rfl) (by decide) rfl (fun ls hl => ?_)
        refine lv_goto (tgt := 18) hx hb dX10_image_46 (by decide) ?_
        exact ih (v88, g76) ⟨(ir_wk k89 (by decide) (by decide)), r77, r78, r79, r80, r81, r82, r83, r84, r85, r86, r87, (CPY.step i30 eg76 ev65 (by omega) (by omega) (by omega))⟩ (by show (335 - v88.toInt).toNat < (335 - u16.toInt).toNat; omega) _ _ _ hP hD hS (lv_sub hl [0, 1, 2] rfl)
    have dk14 : p0.toInt ≠ 0 := ne_i rfl rfl k14
    have k90 : 1 ≤ p0.toInt ∧ p0.toInt ≤ 1 := ⟨ne_lo dk14 k13.1 ⟨Int.le_refl _, Int.le_refl _⟩ (by decide), k13.2⟩
    have k91 : p0 = 1 := Int32.toInt_inj.mp (show p0.toInt = 1 by omega)
    have dk91 : p0.toInt = 1 := eq_i rfl rfl k91
    have hl : lv_has ls 3 [(0, .ref h0), (1, .int 1)] := by have q := hl; rw [k91] at q; exact q
    refine lv_iconst (v := 0) hx hb dX10_image_16 (by decide) ?_
    refine lv_istore_n (lv' := [(2, .int 0), (0, .ref h0), (1, .int 1)]) hx hb dX10_image_17 rfl hl (by decide) rfl (fun ls hl => ?_)
    refine mloop (α := (Int32) × (Nat → Int32)) (nL := 3) (D := D) (A := A) (H0 := s.heap) (fun a => (335 - a.1.toInt).toNat) (fun a => IR 0 335 a.1 ∧ KW 0 a.2 ∧ SG 0 0 0 40 a.2 ∧ SG 105 108 0 11 a.2 ∧ SG 114 114 0 5 a.2 ∧ SG 130 133 0 11 a.2 ∧ SG 139 139 0 5 a.2 ∧ SG 153 153 0 44 a.2 ∧ SG 44 55 0 9 a.2 ∧ SG 5 5 0 12 a.2 ∧ SG 6 6 0 12 a.2 ∧ SG 7 7 0 6 a.2 ∧ (CPY a.2 335 f_s 0 (a.1.toInt))) (fun a => [(h0, .inr (10, vL 67 F1)), (h_s, .inl (cI, 335, .inl f_s)), (h_names, .inl (cJ, 36, .inr (.inl f_names))), (h_images, .inl (cI, 670, .inl a.2)), (h_namesKept, .inl (cJ, 36, .inr (.inl f_namesKept))), (h_areKept, .inl (cZ, 2, .inl f_areKept))]) (fun a => [(2, .int a.1), (0, .ref h0), (1, .int 1)]) (fun H locs ls => W p l e ({ frames := 1, cells := 0, slots := 0, locals := 22 } : Room) s m [.ref h0, .int p0].toArray below meth c H locs 0 0 (MQ below (va_Qi (fun (r : Int32) (u : va_W) => (∃ (Gh : Nat → Value), SAME [0] Fh Gh ∧ Gh 0 = .int 0 ∧ p0.toInt < 0 ∧ ((r = 1 → p0.toInt = 0 → f_areKept 0 = 1 ∧ f_areKept 1 = f_areKept 1) ∧ (r = 1 → p0.toInt = 1 → f_areKept 1 = 1 ∧ f_areKept 0 = f_areKept 0)) ∧ r = 0 ∧ u = [(h0, .inr (10, vL 67 Gh)), (h_s, .inl (cI, 335, .inl f_s)), (h_names, .inl (cJ, 36, .inr (.inl f_names))), (h_images, .inl (cI, 670, .inl f_images)), (h_namesKept, .inl (cJ, 36, .inr (.inl f_namesKept))), (h_areKept, .inl (cZ, 2, .inl f_areKept))]) ∨ (∃ (Gh : Nat → Value), SAME [0] Fh Gh ∧ Gh 0 = .int 0 ∧ 0 ≤ p0.toInt ∧ 1 < p0.toInt ∧ ((r = 1 → p0.toInt = 0 → f_areKept 0 = 1 ∧ f_areKept 1 = f_areKept 1) ∧ (r = 1 → p0.toInt = 1 → f_areKept 1 = 1 ∧ f_areKept 0 = f_areKept 0)) ∧ r = 0 ∧ u = [(h0, .inr (10, vL 67 Gh)), (h_s, .inl (cI, 335, .inl f_s)), (h_names, .inl (cJ, 36, .inr (.inl f_names))), (h_images, .inl (cI, 670, .inl f_images)), (h_namesKept, .inl (cJ, 36, .inr (.inl f_namesKept))), (h_areKept, .inl (cZ, 2, .inl f_areKept))]) ∨ (∃ (Gh : Nat → Value) (g_images : Nat → Int32) (g_namesKept : Nat → Int64) (g_areKept : Nat → Int32), SAME [0] Fh Gh ∧ Gh 0 = .int 0 ∧ SG 153 153 0 44 g_images ∧ SG 0 0 0 40 g_images ∧ SG 5 5 0 12 g_images ∧ SG 6 6 0 12 g_images ∧ SG 7 7 0 6 g_images ∧ SG 44 55 0 9 g_images ∧ KW 0 g_images ∧ SG 105 108 0 11 g_images ∧ SG 114 114 0 5 g_images ∧ SG 130 133 0 11 g_images ∧ SG 139 139 0 5 g_images ∧ SG 488 488 0 44 g_images ∧ SG 335 335 0 40 g_images ∧ SG 340 340 0 12 g_images ∧ SG 341 341 0 12 g_images ∧ SG 342 342 0 6 g_images ∧ SG 379 390 0 9 g_images ∧ KW 335 g_images ∧ SG 440 443 0 11 g_images ∧ SG 449 449 0 5 g_images ∧ SG 465 468 0 11 g_images ∧ SG 474 474 0 5 g_images ∧ 0 ≤ p0.toInt ∧ p0.toInt ≤ 1 ∧ p0.toInt = 0 ∧ ((r = 1 → p0.toInt = 0 → g_areKept 0 = 1 ∧ g_areKept 1 = f_areKept 1) ∧ (r = 1 → p0.toInt = 1 → g_areKept 1 = 1 ∧ g_areKept 0 = f_areKept 0)) ∧ r = 1 ∧ u = [(h0, .inr (10, vL 67 Gh)), (h_s, .inl (cI, 335, .inl f_s)), (h_names, .inl (cJ, 36, .inr (.inl f_names))), (h_images, .inl (cI, 670, .inl g_images)), (h_namesKept, .inl (cJ, 36, .inr (.inl g_namesKept))), (h_areKept, .inl (cZ, 2, .inl g_areKept))]) ∨ (∃ (Gh : Nat → Value) (g_images : Nat → Int32) (g_namesKept : Nat → Int64) (g_areKept : Nat → Int32), SAME [0] Fh Gh ∧ Gh 0 = .int 0 ∧ SG 153 153 0 44 g_images ∧ SG 0 0 0 40 g_images ∧ SG 5 5 0 12 g_images ∧ SG 6 6 0 12 g_images ∧ SG 7 7 0 6 g_images ∧ SG 44 55 0 9 g_images ∧ KW 0 g_images ∧ SG 105 108 0 11 g_images ∧ SG 114 114 0 5 g_images ∧ SG 130 133 0 11 g_images ∧ SG 139 139 0 5 g_images ∧ SG 488 488 0 44 g_images ∧ SG 335 335 0 40 g_images ∧ SG 340 340 0 12 g_images ∧ SG 341 341 0 12 g_images ∧ SG 342 342 0 6 g_images ∧ SG 379 390 0 9 g_images ∧ KW 335 g_images ∧ SG 440 443 0 11 g_images ∧ SG 449 449 0 5 g_images ∧ SG 465 468 0 11 g_images ∧ SG 474 474 0 5 g_images ∧ 0 ≤ p0.toInt ∧ p0.toInt ≤ 1 ∧ p0.toInt = 1 ∧ ((r = 1 → p0.toInt = 0 → g_areKept 0 = 1 ∧ g_areKept 1 = f_areKept 1) ∧ (r = 1 → p0.toInt = 1 → g_areKept 1 = 1 ∧ g_areKept 0 = f_areKept 0)) ∧ r = 1 ∧ u = [(h0, .inr (10, vL 67 Gh)), (h_s, .inl (cI, 335, .inl f_s)), (h_names, .inl (cJ, 36, .inr (.inl f_names))), (h_images, .inl (cI, 670, .inl g_images)), (h_namesKept, .inl (cJ, 36, .inr (.inl g_namesKept))), (h_areKept, .inl (cZ, 2, .inl g_areKept))])) (PO D A) A) [.ref h0, .int p0].toArray s 0 0 A) (F0 m 18 ls [])) ?_ (0, f_images) ⟨(show 0 ≤ (0 : Int32).toInt ∧ (0 : Int32).toInt ≤ 335 by decide), s_images_K0, s_images_0, s_images_105, s_images_114, s_images_130, s_images_139, s_images_153, s_images_44, s_images_5, s_images_6, s_images_7, (show CPY f_images 335 f_s 0 (0) from (CPY.zero (by decide)))⟩ _ _ _ hP hD hS hl
    rintro ⟨u92, w93⟩ ⟨i94, i95, i96, i97, i98, i99, i100, i101, i102, i103, i104, i105, i106⟩ ih H locs ls hP hD hS hl
    have i94 : 0 ≤ u92.toInt ∧ u92.toInt ≤ 335 := i94
    have i106 : CPY w93 335 f_s 0 (u92.toInt) := i106
    have hP : va_P D vwCl [(h0, .inr (10, vL 67 F1)), (h_s, .inl (cI, 335, .inl f_s)), (h_names, .inl (cJ, 36, .inr (.inl f_names))), (h_images, .inl (cI, 670, .inl w93)), (h_namesKept, .inl (cJ, 36, .inr (.inl f_namesKept))), (h_areKept, .inl (cZ, 2, .inl f_areKept))] H := hP
    have hD : va_D A [(h0, .inr (10, vL 67 F1)), (h_s, .inl (cI, 335, .inl f_s)), (h_names, .inl (cJ, 36, .inr (.inl f_names))), (h_images, .inl (cI, 670, .inl w93)), (h_namesKept, .inl (cJ, 36, .inr (.inl f_namesKept))), (h_areKept, .inl (cZ, 2, .inl f_areKept))] := hD
    have hl : lv_has ls 3 [(2, .int u92), (0, .ref h0), (1, .int 1)] := hl
    refine lv_iload_n hx hb dX10_image_18 rfl (lv_at hl 0 rfl) ?_
    refine lv_sipush (v := 335) hx hb dX10_image_19 (by decide) ?_
    refine lv_icmp_ge (tgt := 49) hx hb dX10_image_22 (by decide) (fun c107 => ?_) (fun c107 => ?_)
    · have dc107 : 335 ≤ u92.toInt := le_i (a := 335) (b := u92.toInt) rfl rfl c107
      have k108 : 335 ≤ u92.toInt ∧ u92.toInt ≤ 335 := ⟨Int.le_trans (Int.le_refl _) dc107, i94.2⟩
      have r109 : KW 335 w93 := KW.cpy i106 s_s_K0 (by omega) (by decide)
      have r110 : SG 335 335 0 40 w93 := SG.cpy i106 s_s_0 (by decide) (by decide) (by decide) (by omega)
      have r111 : SG 440 443 0 11 w93 := SG.cpy i106 s_s_105 (by decide) (by decide) (by decide) (by omega)
      have r112 : SG 449 449 0 5 w93 := SG.cpy i106 s_s_114 (by decide) (by decide) (by decide) (by omega)
      have r113 : SG 465 468 0 11 w93 := SG.cpy i106 s_s_130 (by decide) (by decide) (by decide) (by omega)
      have r114 : SG 474 474 0 5 w93 := SG.cpy i106 s_s_139 (by decide) (by decide) (by decide) (by omega)
      have r115 : SG 488 488 0 44 w93 := SG.cpy i106 s_s_153 (by decide) (by decide) (by decide) (by omega)
      have r116 : SG 379 390 0 9 w93 := SG.cpy i106 s_s_44 (by decide) (by decide) (by decide) (by omega)
      have r117 : SG 340 340 0 12 w93 := SG.cpy i106 s_s_5 (by decide) (by decide) (by decide) (by omega)
      have r118 : SG 341 341 0 12 w93 := SG.cpy i106 s_s_6 (by decide) (by decide) (by decide) (by omega)
      have r119 : SG 342 342 0 6 w93 := SG.cpy i106 s_s_7 (by decide) (by decide) (by decide) (by omega)
      refine lv_iconst (v := 0) hx hb dX10_image_49 (by decide) ?_
      refine lv_istore_n (lv' := [(2, .int 0), (0, .ref h0), (1, .int 1)]) hx hb dX10_image_50 rfl hl (by decide) rfl (fun ls hl => ?_)
      refine mloop (α := (Int32) × (Nat → Int64)) (nL := 3) (D := D) (A := A) (H0 := s.heap) (fun a => (18 - a.1.toInt).toNat) (fun a => IR 0 18 a.1) (fun a => [(h0, .inr (10, vL 67 F1)), (h_s, .inl (cI, 335, .inl f_s)), (h_names, .inl (cJ, 36, .inr (.inl f_names))), (h_images, .inl (cI, 670, .inl w93)), (h_namesKept, .inl (cJ, 36, .inr (.inl a.2))), (h_areKept, .inl (cZ, 2, .inl f_areKept))]) (fun a => [(2, .int a.1), (0, .ref h0), (1, .int 1)]) (fun H locs ls => W p l e ({ frames := 1, cells := 0, slots := 0, locals := 22 } : Room) s m [.ref h0, .int p0].toArray below meth c H locs 0 0 (MQ below (va_Qi (fun (r : Int32) (u : va_W) => (∃ (Gh : Nat → Value), SAME [0] Fh Gh ∧ Gh 0 = .int 0 ∧ p0.toInt < 0 ∧ ((r = 1 → p0.toInt = 0 → f_areKept 0 = 1 ∧ f_areKept 1 = f_areKept 1) ∧ (r = 1 → p0.toInt = 1 → f_areKept 1 = 1 ∧ f_areKept 0 = f_areKept 0)) ∧ r = 0 ∧ u = [(h0, .inr (10, vL 67 Gh)), (h_s, .inl (cI, 335, .inl f_s)), (h_names, .inl (cJ, 36, .inr (.inl f_names))), (h_images, .inl (cI, 670, .inl f_images)), (h_namesKept, .inl (cJ, 36, .inr (.inl f_namesKept))), (h_areKept, .inl (cZ, 2, .inl f_areKept))]) ∨ (∃ (Gh : Nat → Value), SAME [0] Fh Gh ∧ Gh 0 = .int 0 ∧ 0 ≤ p0.toInt ∧ 1 < p0.toInt ∧ ((r = 1 → p0.toInt = 0 → f_areKept 0 = 1 ∧ f_areKept 1 = f_areKept 1) ∧ (r = 1 → p0.toInt = 1 → f_areKept 1 = 1 ∧ f_areKept 0 = f_areKept 0)) ∧ r = 0 ∧ u = [(h0, .inr (10, vL 67 Gh)), (h_s, .inl (cI, 335, .inl f_s)), (h_names, .inl (cJ, 36, .inr (.inl f_names))), (h_images, .inl (cI, 670, .inl f_images)), (h_namesKept, .inl (cJ, 36, .inr (.inl f_namesKept))), (h_areKept, .inl (cZ, 2, .inl f_areKept))]) ∨ (∃ (Gh : Nat → Value) (g_images : Nat → Int32) (g_namesKept : Nat → Int64) (g_areKept : Nat → Int32), SAME [0] Fh Gh ∧ Gh 0 = .int 0 ∧ SG 153 153 0 44 g_images ∧ SG 0 0 0 40 g_images ∧ SG 5 5 0 12 g_images ∧ SG 6 6 0 12 g_images ∧ SG 7 7 0 6 g_images ∧ SG 44 55 0 9 g_images ∧ KW 0 g_images ∧ SG 105 108 0 11 g_images ∧ SG 114 114 0 5 g_images ∧ SG 130 133 0 11 g_images ∧ SG 139 139 0 5 g_images ∧ SG 488 488 0 44 g_images ∧ SG 335 335 0 40 g_images ∧ SG 340 340 0 12 g_images ∧ SG 341 341 0 12 g_images ∧ SG 342 342 0 6 g_images ∧ SG 379 390 0 9 g_images ∧ KW 335 g_images ∧ SG 440 443 0 11 g_images ∧ SG 449 449 0 5 g_images ∧ SG 465 468 0 11 g_images ∧ SG 474 474 0 5 g_images ∧ 0 ≤ p0.toInt ∧ p0.toInt ≤ 1 ∧ p0.toInt = 0 ∧ ((r = 1 → p0.toInt = 0 → g_areKept 0 = 1 ∧ g_areKept 1 = f_areKept 1) ∧ (r = 1 → p0.toInt = 1 → g_areKept 1 = 1 ∧ g_areKept 0 = f_areKept 0)) ∧ r = 1 ∧ u = [(h0, .inr (10, vL 67 Gh)), (h_s, .inl (cI, 335, .inl f_s)), (h_names, .inl (cJ, 36, .inr (.inl f_names))), (h_images, .inl (cI, 670, .inl g_images)), (h_namesKept, .inl (cJ, 36, .inr (.inl g_namesKept))), (h_areKept, .inl (cZ, 2, .inl g_areKept))]) ∨ (∃ (Gh : Nat → Value) (g_images : Nat → Int32) (g_namesKept : Nat → Int64) (g_areKept : Nat → Int32), SAME [0] Fh Gh ∧ Gh 0 = .int 0 ∧ SG 153 153 0 44 g_images ∧ SG 0 0 0 40 g_images ∧ SG 5 5 0 12 g_images ∧ SG 6 6 0 12 g_images ∧ SG 7 7 0 6 g_images ∧ SG 44 55 0 9 g_images ∧ KW 0 g_images ∧ SG 105 108 0 11 g_images ∧ SG 114 114 0 5 g_images ∧ SG 130 133 0 11 g_images ∧ SG 139 139 0 5 g_images ∧ SG 488 488 0 44 g_images ∧ SG 335 335 0 40 g_images ∧ SG 340 340 0 12 g_images ∧ SG 341 341 0 12 g_images ∧ SG 342 342 0 6 g_images ∧ SG 379 390 0 9 g_images ∧ KW 335 g_images ∧ SG 440 443 0 11 g_images ∧ SG 449 449 0 5 g_images ∧ SG 465 468 0 11 g_images ∧ SG 474 474 0 5 g_images ∧ 0 ≤ p0.toInt ∧ p0.toInt ≤ 1 ∧ p0.toInt = 1 ∧ ((r = 1 → p0.toInt = 0 → g_areKept 0 = 1 ∧ g_areKept 1 = f_areKept 1) ∧ (r = 1 → p0.toInt = 1 → g_areKept 1 = 1 ∧ g_areKept 0 = f_areKept 0)) ∧ r = 1 ∧ u = [(h0, .inr (10, vL 67 Gh)), (h_s, .inl (cI, 335, .inl f_s)), (h_names, .inl (cJ, 36, .inr (.inl f_names))), (h_images, .inl (cI, 670, .inl g_images)), (h_namesKept, .inl (cJ, 36, .inr (.inl g_namesKept))), (h_areKept, .inl (cZ, 2, .inl g_areKept))])) (PO D A) A) [.ref h0, .int p0].toArray s 0 0 A) (F0 m 51 ls [])) ?_ (0, f_namesKept) (show 0 ≤ (0 : Int32).toInt ∧ (0 : Int32).toInt ≤ 18 by decide) _ _ _ hP hD hS hl
      rintro ⟨u120, w121⟩ i122 ih_51 H locs ls hP hD hS hl
      have i122 : 0 ≤ u120.toInt ∧ u120.toInt ≤ 18 := i122
      have hP : va_P D vwCl [(h0, .inr (10, vL 67 F1)), (h_s, .inl (cI, 335, .inl f_s)), (h_names, .inl (cJ, 36, .inr (.inl f_names))), (h_images, .inl (cI, 670, .inl w93)), (h_namesKept, .inl (cJ, 36, .inr (.inl w121))), (h_areKept, .inl (cZ, 2, .inl f_areKept))] H := hP
      have hD : va_D A [(h0, .inr (10, vL 67 F1)), (h_s, .inl (cI, 335, .inl f_s)), (h_names, .inl (cJ, 36, .inr (.inl f_names))), (h_images, .inl (cI, 670, .inl w93)), (h_namesKept, .inl (cJ, 36, .inr (.inl w121))), (h_areKept, .inl (cZ, 2, .inl f_areKept))] := hD
      have hl : lv_has ls 3 [(2, .int u120), (0, .ref h0), (1, .int 1)] := hl
      refine lv_iload_n hx hb dX10_image_51 rfl (lv_at hl 0 rfl) ?_
      refine lv_bipush (v := 18) hx hb dX10_image_52 (by decide) ?_
      refine lv_icmp_ge (tgt := 80) hx hb dX10_image_54 (by decide) (fun c123 => ?_) (fun c123 => ?_)
      · have dc123 : 18 ≤ u120.toInt := le_i (a := 18) (b := u120.toInt) rfl rfl c123
        have k124 : 18 ≤ u120.toInt ∧ u120.toInt ≤ 18 := ⟨Int.le_trans (Int.le_refl _) dc123, i122.2⟩
        refine lv_aload_n hx hb dX10_image_80 rfl (lv_at hl 1 rfl) ?_
        have n125 : F1 66 = .ref h_areKept := (get_ne eF1 (by decide) e_areKept)
        refine get_f (D := D) (ci := 10) (v := .ref h_areKept) (C := RX10) (T := TX10) (N := 67) hx hb hw inAX10 hown hK hP 0 rfl rfl 66 (by decide) (hw _ q_1327) (fun _ h9 => h9) n125 dX10_image_81 ?_
        refine lv_iload_n hx hb dX10_image_84 rfl (lv_at hl 2 rfl) ?_
        refine lv_iconst (v := 1) hx hb dX10_image_85 (by decide) ?_
        obtain ⟨g126, eg126⟩ : ∃ z : Nat → Int32, upd f_areKept 1 (vp_nar .boolean 1) = z := ⟨_, rfl⟩
        refine zast_n hx hb hK hP hD hS 5 5 rfl rfl 1 rfl (Nat.le_of_ble_eq_true rfl) (Nat.le_of_ble_eq_true rfl) eg126 dX10_image_86 (fun H locs hP hD hS => ?_)
        have hP : va_P D vwCl [(h0, .inr (10, vL 67 F1)), (h_s, .inl (cI, 335, .inl f_s)), (h_names, .inl (cJ, 36, .inr (.inl f_names))), (h_images, .inl (cI, 670, .inl w93)), (h_namesKept, .inl (cJ, 36, .inr (.inl w121))), (h_areKept, .inl (cZ, 2, .inl g126))] H := hP
        have hD : va_D A [(h0, .inr (10, vL 67 F1)), (h_s, .inl (cI, 335, .inl f_s)), (h_names, .inl (cJ, 36, .inr (.inl f_names))), (h_images, .inl (cI, 670, .inl w93)), (h_namesKept, .inl (cJ, 36, .inr (.inl w121))), (h_areKept, .inl (cZ, 2, .inl g126))] := hD
        refine lv_iconst (v := 1) hx hb dX10_image_87 (by decide) ?_
        exact ret_i (v := 1) hx hb hr hlocks hS hP hD dX10_image_88 rfl (Nat.le_of_ble_eq_true rfl) (Nat.le_of_ble_eq_true rfl) (Or.inr (Or.inr (Or.inr ⟨F1, w93, w121, g126, (SAME.up eF1 SAME.rf (by decide)), (get_eq eF1), i101, i96, i103, i104, i105, i102, i95, i97, i98, i99, i100, r115, r110, r117, r118, r119, r116, r109, r111, r112, r113, r114, t6, t7, dk91, ⟨fun _ q => absurd q (by omega), fun _ q => ⟨by rw [← eg126, pk_us]; rfl, by rw [← eg126, pk_un (by decide)]⟩⟩, rfl, rfl⟩)))
      · have dc123 : u120.toInt < 18 := nle_i (a := 18) (b := u120.toInt) rfl rfl c123
        have k127 : 0 ≤ u120.toInt ∧ u120.toInt ≤ 17 := ⟨i122.1, up_lt dc123 (Int.le_refl _) (by decide)⟩
        refine lv_aload_n hx hb dX10_image_57 rfl (lv_at hl 1 rfl) ?_
        have n128 : F1 65 = .ref h_namesKept := (get_ne eF1 (by decide) e_namesKept)
        refine get_f (D := D) (ci := 10) (v := .ref h_namesKept) (C := RX10) (T := TX10) (N := 67) hx hb hw inAX10 hown hK hP 0 rfl rfl 65 (by decide) (hw _ q_1326) (fun _ h9 => h9) n128 dX10_image_58 ?_
        refine lv_bipush (v := 18) hx hb dX10_image_61 (by decide) ?_
        refine lv_iload_n hx hb dX10_image_63 rfl (lv_at hl 2 rfl) ?_
        refine lv_imul hx hb dX10_image_64 ?_
        refine lv_ci (y := 18) (by decide +kernel) ?_
        refine lv_iload_n hx hb dX10_image_65 rfl (lv_at hl 0 rfl) ?_
        refine lv_iadd hx hb dX10_image_66 ?_
        refine lv_topi (fun v129 ev129 => ?_)
        have bv129 : v129.toInt = 18 + u120.toInt := by rw [ev129]; exact add_k rfl rfl ⟨Int.le_refl _, Int.le_refl _⟩ k127 (by decide)
        have k130 : 18 ≤ v129.toInt ∧ v129.toInt ≤ 35 := add_r bv129 ⟨Int.le_refl _, Int.le_refl _⟩ k127 (by decide)
        refine lv_aload_n hx hb dX10_image_67 rfl (lv_at hl 1 rfl) ?_
        have n131 : F1 9 = .ref h_names := (get_ne eF1 (by decide) e_names)
        refine get_f (D := D) (ci := 10) (v := .ref h_names) (C := RX10) (T := TX10) (N := 67) hx hb hw inAX10 hown hK hP 0 rfl rfl 9 (by decide) (hw _ q_1270) (fun _ h9 => h9) n131 dX10_image_68 ?_
        refine lv_iload_n hx hb dX10_image_71 rfl (lv_at hl 0 rfl) ?_
        refine va_lald hx hb hK hP 2 1 rfl rfl (ix_k k127 (by decide) (by decide)) dX10_image_72 ?_
        refine lv_topl (fun v132 ev132 => ?_)
        obtain ⟨g133, eg133⟩ : ∃ z : Nat → Int64, vp_updL w121 v129.toNatClampNeg v132 = z := ⟨_, rfl⟩
        refine last_g hx hb hK hP hD hS 4 1 rfl rfl (ix_k k130 (by decide) (by decide)) eg133 dX10_image_73 (fun H locs hP hD hS => ?_)
        have hP : va_P D vwCl [(h0, .inr (10, vL 67 F1)), (h_s, .inl (cI, 335, .inl f_s)), (h_names, .inl (cJ, 36, .inr (.inl f_names))), (h_images, .inl (cI, 670, .inl w93)), (h_namesKept, .inl (cJ, 36, .inr (.inl g133))), (h_areKept, .inl (cZ, 2, .inl f_areKept))] H := hP
        have hD : va_D A [(h0, .inr (10, vL 67 F1)), (h_s, .inl (cI, 335, .inl f_s)), (h_names, .inl (cJ, 36, .inr (.inl f_names))), (h_images, .inl (cI, 670, .inl w93)), (h_namesKept, .inl (cJ, 36, .inr (.inl g133))), (h_areKept, .inl (cZ, 2, .inl f_areKept))] := hD
        obtain ⟨v134, ev134⟩ : ∃ z : Int32, z = u120 + 1 := ⟨_, rfl⟩
        have bv134 : v134.toInt = u120.toInt + 1 := by rw [ev134]; exact add_k rfl rfl k127 ⟨Int.le_refl _, Int.le_refl _⟩ (by decide)
        have k135 : 1 ≤ v134.toInt ∧ v134.toInt ≤ 18 := add_r bv134 k127 ⟨Int.le_refl _, Int.le_refl _⟩ (by decide)
        refine lv_iinc (v := v134) (lv' := [(2, .int v134), (0, .ref h0), (1, .int 1)]) hx hb dX10_image_74 hl (k := 0) rfl (by rw [ev134]; rfl) (by decide) rfl (fun ls hl => ?_)
        refine lv_goto (tgt := 51) hx hb dX10_image_77 (by decide) ?_
        exact ih_51 (v134, g133) (ir_wk k135 (by decide) (by decide)) (by show (18 - v134.toInt).toNat < (18 - u120.toInt).toNat; omega) _ _ _ hP hD hS (lv_sub hl [0, 1, 2] rfl)
    · have dc107 : u92.toInt < 335 := nle_i (a := 335) (b := u92.toInt) rfl rfl c107
      have k136 : 0 ≤ u92.toInt ∧ u92.toInt ≤ 334 := ⟨i94.1, up_lt dc107 (Int.le_refl _) (by decide)⟩
      refine lv_aload_n hx hb dX10_image_25 rfl (lv_at hl 1 rfl) ?_
      have n137 : F1 64 = .ref h_images := (get_ne eF1 (by decide) e_images)
      refine get_f (D := D) (ci := 10) (v := .ref h_images) (C := RX10) (T := TX10) (N := 67) hx hb hw inAX10 hown hK hP 0 rfl rfl 64 (by decide) (hw _ q_1325) (fun _ h9 => h9) n137 dX10_image_26 ?_
      refine lv_sipush (v := 335) hx hb dX10_image_29 (by decide) ?_
      refine lv_iload_n hx hb dX10_image_32 rfl (lv_at hl 2 rfl) ?_
      refine lv_imul hx hb dX10_image_33 ?_
      refine lv_ci (y := 335) (by decide +kernel) ?_
      refine lv_iload_n hx hb dX10_image_34 rfl (lv_at hl 0 rfl) ?_
      refine lv_iadd hx hb dX10_image_35 ?_
      refine lv_topi (fun v138 ev138 => ?_)
      have bv138 : v138.toInt = 335 + u92.toInt := by rw [ev138]; exact add_k rfl rfl ⟨Int.le_refl _, Int.le_refl _⟩ k136 (by decide)
      have k139 : 335 ≤ v138.toInt ∧ v138.toInt ≤ 669 := add_r bv138 ⟨Int.le_refl _, Int.le_refl _⟩ k136 (by decide)
      refine lv_aload_n hx hb dX10_image_36 rfl (lv_at hl 1 rfl) ?_
      have n140 : F1 6 = .ref h_s := (get_ne eF1 (by decide) e_s)
      refine get_f (D := D) (ci := 10) (v := .ref h_s) (C := RX10) (T := TX10) (N := 67) hx hb hw inAX10 hown hK hP 0 rfl rfl 6 (by decide) (hw _ q_1267) (fun _ h9 => h9) n140 dX10_image_37 ?_
      refine lv_iload_n hx hb dX10_image_40 rfl (lv_at hl 0 rfl) ?_
      refine va_iald hx hb hK hP 1 0 rfl rfl (ix_k k136 (by decide) (by decide)) dX10_image_41 ?_
      refine lv_topi (fun v141 ev141 => ?_)
      have r142 : IMP (0 ≤ u92.toInt → u92.toInt ≤ 0 → 0 ≤ v141.toInt ∧ v141.toInt ≤ 40) := IMP.mk (fun q1 q2 => by rw [ev141]; exact s_s_0.at _ q1 q2)
      have r143 : IMP (105 ≤ u92.toInt → u92.toInt ≤ 108 → 0 ≤ v141.toInt ∧ v141.toInt ≤ 11) := IMP.mk (fun q1 q2 => by rw [ev141]; exact s_s_105.at _ q1 q2)
      have r144 : IMP (114 ≤ u92.toInt → u92.toInt ≤ 114 → 0 ≤ v141.toInt ∧ v141.toInt ≤ 5) := IMP.mk (fun q1 q2 => by rw [ev141]; exact s_s_114.at _ q1 q2)
      have r145 : IMP (130 ≤ u92.toInt → u92.toInt ≤ 133 → 0 ≤ v141.toInt ∧ v141.toInt ≤ 11) := IMP.mk (fun q1 q2 => by rw [ev141]; exact s_s_130.at _ q1 q2)
      have r146 : IMP (139 ≤ u92.toInt → u92.toInt ≤ 139 → 0 ≤ v141.toInt ∧ v141.toInt ≤ 5) := IMP.mk (fun q1 q2 => by rw [ev141]; exact s_s_139.at _ q1 q2)
      have r147 : IMP (153 ≤ u92.toInt → u92.toInt ≤ 153 → 0 ≤ v141.toInt ∧ v141.toInt ≤ 44) := IMP.mk (fun q1 q2 => by rw [ev141]; exact s_s_153.at _ q1 q2)
      have r148 : IMP (44 ≤ u92.toInt → u92.toInt ≤ 55 → 0 ≤ v141.toInt ∧ v141.toInt ≤ 9) := IMP.mk (fun q1 q2 => by rw [ev141]; exact s_s_44.at _ q1 q2)
      have r149 : IMP (5 ≤ u92.toInt → u92.toInt ≤ 5 → 0 ≤ v141.toInt ∧ v141.toInt ≤ 12) := IMP.mk (fun q1 q2 => by rw [ev141]; exact s_s_5.at _ q1 q2)
      have r150 : IMP (6 ≤ u92.toInt → u92.toInt ≤ 6 → 0 ≤ v141.toInt ∧ v141.toInt ≤ 12) := IMP.mk (fun q1 q2 => by rw [ev141]; exact s_s_6.at _ q1 q2)
      have r151 : IMP (7 ≤ u92.toInt → u92.toInt ≤ 7 → 0 ≤ v141.toInt ∧ v141.toInt ≤ 6) := IMP.mk (fun q1 q2 => by rw [ev141]; exact s_s_7.at _ q1 q2)
      obtain ⟨g152, eg152⟩ : ∃ z : Nat → Int32, upd w93 v138.toNatClampNeg v141 = z := ⟨_, rfl⟩
      have r153 : KW 0 g152 := by rw [← eg152]; exact i95.up (by omega) (by omega)
      have r154 : SG 0 0 0 40 g152 := by rw [← eg152]; exact i96.up (Int.le_trans (by decide) k139.1) (Or.inr (Or.inl (dec_lt k139.1 (by decide))))
      have r155 : SG 105 108 0 11 g152 := by rw [← eg152]; exact i97.up (Int.le_trans (by decide) k139.1) (Or.inr (Or.inl (dec_lt k139.1 (by decide))))
      have r156 : SG 114 114 0 5 g152 := by rw [← eg152]; exact i98.up (Int.le_trans (by decide) k139.1) (Or.inr (Or.inl (dec_lt k139.1 (by decide))))
      have r157 : SG 130 133 0 11 g152 := by rw [← eg152]; exact i99.up (Int.le_trans (by decide) k139.1) (Or.inr (Or.inl (dec_lt k139.1 (by decide))))
      have r158 : SG 139 139 0 5 g152 := by rw [← eg152]; exact i100.up (Int.le_trans (by decide) k139.1) (Or.inr (Or.inl (dec_lt k139.1 (by decide))))
      have r159 : SG 153 153 0 44 g152 := by rw [← eg152]; exact i101.up (Int.le_trans (by decide) k139.1) (Or.inr (Or.inl (dec_lt k139.1 (by decide))))
      have r160 : SG 44 55 0 9 g152 := by rw [← eg152]; exact i102.up (Int.le_trans (by decide) k139.1) (Or.inr (Or.inl (dec_lt k139.1 (by decide))))
      have r161 : SG 5 5 0 12 g152 := by rw [← eg152]; exact i103.up (Int.le_trans (by decide) k139.1) (Or.inr (Or.inl (dec_lt k139.1 (by decide))))
      have r162 : SG 6 6 0 12 g152 := by rw [← eg152]; exact i104.up (Int.le_trans (by decide) k139.1) (Or.inr (Or.inl (dec_lt k139.1 (by decide))))
      have r163 : SG 7 7 0 6 g152 := by rw [← eg152]; exact i105.up (Int.le_trans (by decide) k139.1) (Or.inr (Or.inl (dec_lt k139.1 (by decide))))
      refine iast_g hx hb hK hP hD hS 3 0 rfl rfl (ix_k k139 (by decide) (by decide)) eg152 dX10_image_42 (fun H locs hP hD hS => ?_)
      have hP : va_P D vwCl [(h0, .inr (10, vL 67 F1)), (h_s, .inl (cI, 335, .inl f_s)), (h_names, .inl (cJ, 36, .inr (.inl f_names))), (h_images, .inl (cI, 670, .inl g152)), (h_namesKept, .inl (cJ, 36, .inr (.inl f_namesKept))), (h_areKept, .inl (cZ, 2, .inl f_areKept))] H := hP
      have hD : va_D A [(h0, .inr (10, vL 67 F1)), (h_s, .inl (cI, 335, .inl f_s)), (h_names, .inl (cJ, 36, .inr (.inl f_names))), (h_images, .inl (cI, 670, .inl g152)), (h_namesKept, .inl (cJ, 36, .inr (.inl f_namesKept))), (h_areKept, .inl (cZ, 2, .inl f_areKept))] := hD
      obtain ⟨v164, ev164⟩ : ∃ z : Int32, z = u92 + 1 := ⟨_, rfl⟩
      have bv164 : v164.toInt = u92.toInt + 1 := by rw [ev164]; exact add_k rfl rfl k136 ⟨Int.le_refl _, Int.le_refl _⟩ (by decide)
      have k165 : 1 ≤ v164.toInt ∧ v164.toInt ≤ 335 := add_r bv164 k136 ⟨Int.le_refl _, Int.le_refl _⟩ (by decide)
      refine lv_iinc (v := v164) (lv' := [(2, .int v164), (0, .ref h0), (1, .int 1)]) hx hb dX10_image_43 hl (k := 0) rfl (by rw [ev164]; rfl) (by decide) rfl (fun ls hl => ?_)
      refine lv_goto (tgt := 18) hx hb dX10_image_46 (by decide) ?_
      exact ih (v164, g152) ⟨(ir_wk k165 (by decide) (by decide)), r153, r154, r155, r156, r157, r158, r159, r160, r161, r162, r163, (CPY.step i106 eg152 ev141 (by omega) (by omega) (by omega))⟩ (by show (335 - v164.toInt).toNat < (335 - u92.toInt).toNat; omega) _ _ _ hP hD hS (lv_sub hl [0, 1, 2] rfl)
