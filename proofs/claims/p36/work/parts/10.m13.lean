set_option maxHeartbeats 4000000 in
set_option maxRecDepth 100000 in
theorem m_X10_sentence (l : Launch) (D : va_G) (cI cJ cB cP cM cZ : ClassId) (h0 : Nat) (h_tape : Nat) (h_s : Nat) (h_read : Nat) (h_names : Nat) (h_reserved : Nat) (h_stack : Nat) (Fh : Nat → Value) (x_length : Int32) (x_token : Int32) (x_at : Int32) (x_number : Int32) (x_fault : Int32) (x_faultAt : Int32) (x_word : Int64) (x_codes : Int32) (x_ones : Int32) (x_top : Int32) (x_isWhole : Int32) (f_tape : Nat → Int32) (f_s : Nat → Int32) (f_read : Nat → Int32) (f_names : Nat → Int64) (f_reserved : Nat → Int64) (f_stack : Nat → Int32) (bs : Nat → Int32) (sz : Nat) (e_tape : Fh 1 = .ref h_tape) (e_length : Fh 2 = .int x_length) (i_x_length : IR 0 940 x_length) (e_s : Fh 6 = .ref h_s) (e_read : Fh 8 = .ref h_read) (e_names : Fh 9 = .ref h_names) (e_reserved : Fh 10 = .ref h_reserved) (e_token : Fh 11 = .int x_token) (i_x_token : IR 0 4 x_token) (e_at : Fh 12 = .int x_at) (e_number : Fh 14 = .int x_number) (e_fault : Fh 15 = .int x_fault) (e_faultAt : Fh 16 = .int x_faultAt) (e_word : Fh 18 = .long x_word) (e_stack : Fh 57 = .ref h_stack) (e_codes : Fh 58 = .int x_codes) (i_x_codes : IR 0 45 x_codes) (e_ones : Fh 59 = .int x_ones) (i_x_ones : IR 0 20 x_ones) (e_top : Fh 60 = .int x_top) (i_x_top : IR 0 45 x_top) (e_isWhole : Fh 62 = .int x_isWhole) (i_x_isWhole : IR 0 1 x_isWhole) (s_s_K0 : KW 0 f_s) (s_s_US : US bs f_s) (s_s_0 : SG 0 0 0 40 f_s) (s_s_105 : SG 105 108 0 11 f_s) (s_s_114 : SG 114 114 0 5 f_s) (s_s_130 : SG 130 133 0 11 f_s) (s_s_139 : SG 139 139 0 5 f_s) (s_s_153 : SG 153 153 0 44 f_s) (s_s_44 : SG 44 55 0 9 f_s) (s_s_5 : SG 5 5 0 12 f_s) (s_s_6 : SG 6 6 0 12 f_s) (s_s_7 : SG 7 7 0 6 f_s) (s_reserved_KR : KRN f_reserved) (z_0 : AV f_names 0 (f_s 5).toInt) (o_0 : (x_token.toInt = 2 → 0 ≤ x_number.toInt ∧ x_number.toInt ≤ 999)) (o_1 : x_top.toInt + x_codes.toInt + x_isWhole.toInt ≤ 2 * x_ones.toInt) : CI l yX10_sentence cX10_sentence 3 (some .int) { frames := 3, cells := 0, slots := 0, locals := 67 } (GG D cI cJ cB cP cM cZ) D [(h0, .inr (10, vL 67 Fh)), (h_tape, .inl (cB, 940, .inl f_tape)), (h_s, .inl (cI, 335, .inl f_s)), (h_read, .inl (cI, 135, .inl f_read)), (h_names, .inl (cJ, 36, .inr (.inl f_names))), (h_reserved, .inl (cJ, 23, .inr (.inl f_reserved))), (h_stack, .inl (cI, 45, .inl f_stack))] sz [.ref h0] (fun (r : Int32) (u : va_W) => ∃ (Gh : Nat → Value) (y_p : Int32) (y_token : Int32) (y_at : Int32) (y_span : Int32) (y_number : Int32) (y_fault : Int32) (y_faultAt : Int32) (y_word : Int64) (y_codes : Int32) (y_ones : Int32) (y_top : Int32) (y_deep : Int32) (y_isWhole : Int32) (g_s : Nat → Int32) (g_read : Nat → Int32) (g_stack : Nat → Int32), SAME [0, 2, 3, 4, 5, 11, 12, 13, 14, 15, 16, 18, 58, 59, 60, 61, 62] Fh Gh ∧ Gh 0 = .int 0 ∧ Gh 2 = .int 0 ∧ Gh 3 = .int x_length ∧ Gh 4 = .int y_p ∧ IR 0 940 y_p ∧ Gh 5 = .int 200 ∧ Gh 11 = .int y_token ∧ IR 0 4 y_token ∧ Gh 12 = .int y_at ∧ Gh 13 = .int y_span ∧ Gh 14 = .int y_number ∧ Gh 15 = .int y_fault ∧ IR 0 4 y_fault ∧ Gh 16 = .int y_faultAt ∧ Gh 18 = .long y_word ∧ Gh 58 = .int y_codes ∧ IR 0 45 y_codes ∧ Gh 59 = .int y_ones ∧ IR 0 20 y_ones ∧ Gh 60 = .int y_top ∧ IR 0 45 y_top ∧ Gh 61 = .int y_deep ∧ IR 0 46 y_deep ∧ Gh 62 = .int y_isWhole ∧ IR 0 1 y_isWhole ∧ SG 153 153 0 44 g_s ∧ SG 0 0 0 40 g_s ∧ SG 5 5 0 12 g_s ∧ SG 6 6 0 12 g_s ∧ SG 7 7 0 6 g_s ∧ SG 44 55 0 9 g_s ∧ KW 0 g_s ∧ SG 105 108 0 11 g_s ∧ SG 114 114 0 5 g_s ∧ SG 130 133 0 11 g_s ∧ SG 139 139 0 5 g_s ∧ US bs g_s ∧ (∃ res : Sum Flt Int, Gos (tkA f_tape x_length.toInt 200) (PICM f_s f_names).2.1 ([], 0, 0, tkA f_tape x_length.toInt 200 0) res ∧ r.toInt = sAns res ∧ y_fault.toInt = gFlt res) ∧ ((y_token.toInt = 2 → 0 ≤ y_number.toInt ∧ y_number.toInt ≤ 999)) ∧ (y_top.toInt + y_codes.toInt + y_isWhole.toInt ≤ 2 * y_ones.toInt) ∧ u = [(h0, .inr (10, vL 67 Gh)), (h_tape, .inl (cB, 940, .inl f_tape)), (h_s, .inl (cI, 335, .inl g_s)), (h_read, .inl (cI, 135, .inl g_read)), (h_names, .inl (cJ, 36, .inr (.inl f_names))), (h_reserved, .inl (cJ, 23, .inr (.inl f_reserved))), (h_stack, .inl (cI, 45, .inl g_stack))]) := by
  refine CI_mk (by decide) (Nat.le_of_ble_eq_true rfl) ?_
  intro p e s m below meth c A ls E hAe hG hsz hP hD hA hS hl
  obtain ⟨hx, hb, hr, hw, hown, hlocks, hml, hnm⟩ := E
  have hK := hG.1
  have i_x_length : 0 ≤ x_length.toInt ∧ x_length.toInt ≤ 940 := i_x_length
  have i_x_token : 0 ≤ x_token.toInt ∧ x_token.toInt ≤ 4 := i_x_token
  have i_x_codes : 0 ≤ x_codes.toInt ∧ x_codes.toInt ≤ 45 := i_x_codes
  have i_x_ones : 0 ≤ x_ones.toInt ∧ x_ones.toInt ≤ 20 := i_x_ones
  have i_x_top : 0 ≤ x_top.toInt ∧ x_top.toInt ≤ 45 := i_x_top
  have i_x_isWhole : 0 ≤ x_isWhole.toInt ∧ x_isWhole.toInt ≤ 1 := i_x_isWhole
  have hl : lv_has ls 3 [(0, .ref h0)] := hl
  refine lv_aload_n hx hb dX10_sentence_0 rfl (lv_at hl 0 rfl) ?_
  refine lv_iconst (v := 0) hx hb dX10_sentence_1 (by decide) ?_
  refine put_f (D := D) (ci := 10) (v := .int 0) (ty := .int) (C := RX10) (T := TX10) (N := 67) hx hb hw inAX10 tyX10 tyX10_ok nmX10 hown hK hP hD hS 0 rfl rfl 0 (by decide) (hw _ q_1261) (fun _ h9 => h9) rfl (by decide +kernel) rfl rfl dX10_sentence_2 (fun H locs F1 eF1 hP hD hS => ?_)
  have hP : va_P D vwCl [(h0, .inr (10, vL 67 F1)), (h_tape, .inl (cB, 940, .inl f_tape)), (h_s, .inl (cI, 335, .inl f_s)), (h_read, .inl (cI, 135, .inl f_read)), (h_names, .inl (cJ, 36, .inr (.inl f_names))), (h_reserved, .inl (cJ, 23, .inr (.inl f_reserved))), (h_stack, .inl (cI, 45, .inl f_stack))] H := hP
  have hD : va_D A [(h0, .inr (10, vL 67 F1)), (h_tape, .inl (cB, 940, .inl f_tape)), (h_s, .inl (cI, 335, .inl f_s)), (h_read, .inl (cI, 135, .inl f_read)), (h_names, .inl (cJ, 36, .inr (.inl f_names))), (h_reserved, .inl (cJ, 23, .inr (.inl f_reserved))), (h_stack, .inl (cI, 45, .inl f_stack))] := hD
  refine lv_aload_n hx hb dX10_sentence_5 rfl (lv_at hl 0 rfl) ?_
  refine lv_sipush (v := 200) hx hb dX10_sentence_6 (by decide) ?_
  have n2 : F1 2 = .int x_length := (get_ne eF1 (by decide) e_length)
  refine call_Vv (wr := [(h_tape, .inl (cB, 940, .inl f_tape)), (h_s, .inl (cI, 335, .inl f_s)), (h_read, .inl (cI, 135, .inl f_read)), (h_names, .inl (cJ, 36, .inr (.inl f_names))), (h_reserved, .inl (cJ, 23, .inr (.inl f_reserved))), (h_stack, .inl (cI, 45, .inl f_stack))]) (As := [.int 200]) (rest := []) hx hb hml hown hw (m_X10_taken l D cI cJ cB cP cM cZ h0 F1 x_length 200 _ n2 i_x_length (show 200 ≤ (200 : Int32).toInt ∧ (200 : Int32).toInt ≤ 940 by decide)) wV_X10_248_X10_taken dX10_sentence_9 hK hP hD hS hA [0] [1, 2, 3, 4, 5, 6] rfl rfl (by decide) (by decide) (by decide) 0 10 rfl rfl GG.fb hG.at hl.1 rfl (Nat.le_of_ble_eq_true rfl) ⟨(Nat.le_of_ble_eq_true rfl), (Nat.le_of_ble_eq_true rfl)⟩ ⟨(Nat.le_of_ble_eq_true rfl), (Nat.le_of_ble_eq_true rfl)⟩ (fun u H locs hp hP hD hS => ?_)
  have zl200 : (200 : Int32).toInt = 200 := by decide
  obtain ⟨F4, t5, t6, t7, t8, t9, rfl⟩ := hp
  have hP : va_P D vwCl [(h_tape, .inl (cB, 940, .inl f_tape)), (h_s, .inl (cI, 335, .inl f_s)), (h_read, .inl (cI, 135, .inl f_read)), (h_names, .inl (cJ, 36, .inr (.inl f_names))), (h_reserved, .inl (cJ, 23, .inr (.inl f_reserved))), (h_stack, .inl (cI, 45, .inl f_stack)), (h0, .inr (10, vL 67 F4))] H := hP
  have hD : va_D A [(h_tape, .inl (cB, 940, .inl f_tape)), (h_s, .inl (cI, 335, .inl f_s)), (h_read, .inl (cI, 135, .inl f_read)), (h_names, .inl (cJ, 36, .inr (.inl f_names))), (h_reserved, .inl (cJ, 23, .inr (.inl f_reserved))), (h_stack, .inl (cI, 45, .inl f_stack)), (h0, .inr (10, vL 67 F4))] := hD
  refine W.widen (k := 0) (n := 0) (Nat.le_of_ble_eq_true rfl) (Nat.le_of_ble_eq_true rfl) ?_
  refine lv_aload_n hx hb dX10_sentence_12 rfl (lv_at hl 0 rfl) ?_
  refine lv_iconst (v := 0) hx hb dX10_sentence_13 (by decide) ?_
  refine put_f (D := D) (ci := 10) (v := .int 0) (ty := .int) (C := RX10) (T := TX10) (N := 67) hx hb hw inAX10 tyX10 tyX10_ok nmX10 hown hK hP hD hS 6 rfl rfl 15 (by decide) (hw _ q_1276) (fun _ h9 => h9) rfl (by decide +kernel) rfl rfl dX10_sentence_14 (fun H locs F11 eF11 hP hD hS => ?_)
  have hP : va_P D vwCl [(h_tape, .inl (cB, 940, .inl f_tape)), (h_s, .inl (cI, 335, .inl f_s)), (h_read, .inl (cI, 135, .inl f_read)), (h_names, .inl (cJ, 36, .inr (.inl f_names))), (h_reserved, .inl (cJ, 23, .inr (.inl f_reserved))), (h_stack, .inl (cI, 45, .inl f_stack)), (h0, .inr (10, vL 67 F11))] H := hP
  have hD : va_D A [(h_tape, .inl (cB, 940, .inl f_tape)), (h_s, .inl (cI, 335, .inl f_s)), (h_read, .inl (cI, 135, .inl f_read)), (h_names, .inl (cJ, 36, .inr (.inl f_names))), (h_reserved, .inl (cJ, 23, .inr (.inl f_reserved))), (h_stack, .inl (cI, 45, .inl f_stack)), (h0, .inr (10, vL 67 F11))] := hD
  refine lv_aload_n hx hb dX10_sentence_17 rfl (lv_at hl 0 rfl) ?_
  refine lv_iconst (v := 0) hx hb dX10_sentence_18 (by decide) ?_
  refine put_f (D := D) (ci := 10) (v := .int 0) (ty := .int) (C := RX10) (T := TX10) (N := 67) hx hb hw inAX10 tyX10 tyX10_ok nmX10 hown hK hP hD hS 6 rfl rfl 58 (by decide) (hw _ q_1319) (fun _ h9 => h9) rfl (by decide +kernel) rfl rfl dX10_sentence_19 (fun H locs F12 eF12 hP hD hS => ?_)
  have hP : va_P D vwCl [(h_tape, .inl (cB, 940, .inl f_tape)), (h_s, .inl (cI, 335, .inl f_s)), (h_read, .inl (cI, 135, .inl f_read)), (h_names, .inl (cJ, 36, .inr (.inl f_names))), (h_reserved, .inl (cJ, 23, .inr (.inl f_reserved))), (h_stack, .inl (cI, 45, .inl f_stack)), (h0, .inr (10, vL 67 F12))] H := hP
  have hD : va_D A [(h_tape, .inl (cB, 940, .inl f_tape)), (h_s, .inl (cI, 335, .inl f_s)), (h_read, .inl (cI, 135, .inl f_read)), (h_names, .inl (cJ, 36, .inr (.inl f_names))), (h_reserved, .inl (cJ, 23, .inr (.inl f_reserved))), (h_stack, .inl (cI, 45, .inl f_stack)), (h0, .inr (10, vL 67 F12))] := hD
  refine lv_aload_n hx hb dX10_sentence_22 rfl (lv_at hl 0 rfl) ?_
  refine lv_iconst (v := 0) hx hb dX10_sentence_23 (by decide) ?_
  refine put_f (D := D) (ci := 10) (v := .int 0) (ty := .int) (C := RX10) (T := TX10) (N := 67) hx hb hw inAX10 tyX10 tyX10_ok nmX10 hown hK hP hD hS 6 rfl rfl 59 (by decide) (hw _ q_1320) (fun _ h9 => h9) rfl (by decide +kernel) rfl rfl dX10_sentence_24 (fun H locs F13 eF13 hP hD hS => ?_)
  have hP : va_P D vwCl [(h_tape, .inl (cB, 940, .inl f_tape)), (h_s, .inl (cI, 335, .inl f_s)), (h_read, .inl (cI, 135, .inl f_read)), (h_names, .inl (cJ, 36, .inr (.inl f_names))), (h_reserved, .inl (cJ, 23, .inr (.inl f_reserved))), (h_stack, .inl (cI, 45, .inl f_stack)), (h0, .inr (10, vL 67 F13))] H := hP
  have hD : va_D A [(h_tape, .inl (cB, 940, .inl f_tape)), (h_s, .inl (cI, 335, .inl f_s)), (h_read, .inl (cI, 135, .inl f_read)), (h_names, .inl (cJ, 36, .inr (.inl f_names))), (h_reserved, .inl (cJ, 23, .inr (.inl f_reserved))), (h_stack, .inl (cI, 45, .inl f_stack)), (h0, .inr (10, vL 67 F13))] := hD
  refine lv_aload_n hx hb dX10_sentence_27 rfl (lv_at hl 0 rfl) ?_
  refine lv_iconst (v := 0) hx hb dX10_sentence_28 (by decide) ?_
  refine put_f (D := D) (ci := 10) (v := .int 0) (ty := .int) (C := RX10) (T := TX10) (N := 67) hx hb hw inAX10 tyX10 tyX10_ok nmX10 hown hK hP hD hS 6 rfl rfl 60 (by decide) (hw _ q_1321) (fun _ h9 => h9) rfl (by decide +kernel) rfl rfl dX10_sentence_29 (fun H locs F14 eF14 hP hD hS => ?_)
  have hP : va_P D vwCl [(h_tape, .inl (cB, 940, .inl f_tape)), (h_s, .inl (cI, 335, .inl f_s)), (h_read, .inl (cI, 135, .inl f_read)), (h_names, .inl (cJ, 36, .inr (.inl f_names))), (h_reserved, .inl (cJ, 23, .inr (.inl f_reserved))), (h_stack, .inl (cI, 45, .inl f_stack)), (h0, .inr (10, vL 67 F14))] H := hP
  have hD : va_D A [(h_tape, .inl (cB, 940, .inl f_tape)), (h_s, .inl (cI, 335, .inl f_s)), (h_read, .inl (cI, 135, .inl f_read)), (h_names, .inl (cJ, 36, .inr (.inl f_names))), (h_reserved, .inl (cJ, 23, .inr (.inl f_reserved))), (h_stack, .inl (cI, 45, .inl f_stack)), (h0, .inr (10, vL 67 F14))] := hD
  refine lv_aload_n hx hb dX10_sentence_32 rfl (lv_at hl 0 rfl) ?_
  refine lv_iconst (v := 1) hx hb dX10_sentence_33 (by decide) ?_
  refine put_f (D := D) (ci := 10) (v := .int 1) (ty := .int) (C := RX10) (T := TX10) (N := 67) hx hb hw inAX10 tyX10 tyX10_ok nmX10 hown hK hP hD hS 6 rfl rfl 61 (by decide) (hw _ q_1322) (fun _ h9 => h9) rfl (by decide +kernel) rfl rfl dX10_sentence_34 (fun H locs F15 eF15 hP hD hS => ?_)
  have hP : va_P D vwCl [(h_tape, .inl (cB, 940, .inl f_tape)), (h_s, .inl (cI, 335, .inl f_s)), (h_read, .inl (cI, 135, .inl f_read)), (h_names, .inl (cJ, 36, .inr (.inl f_names))), (h_reserved, .inl (cJ, 23, .inr (.inl f_reserved))), (h_stack, .inl (cI, 45, .inl f_stack)), (h0, .inr (10, vL 67 F15))] H := hP
  have hD : va_D A [(h_tape, .inl (cB, 940, .inl f_tape)), (h_s, .inl (cI, 335, .inl f_s)), (h_read, .inl (cI, 135, .inl f_read)), (h_names, .inl (cJ, 36, .inr (.inl f_names))), (h_reserved, .inl (cJ, 23, .inr (.inl f_reserved))), (h_stack, .inl (cI, 45, .inl f_stack)), (h0, .inr (10, vL 67 F15))] := hD
  refine lv_aload_n hx hb dX10_sentence_37 rfl (lv_at hl 0 rfl) ?_
  refine lv_iconst (v := 0) hx hb dX10_sentence_38 (by decide) ?_
  refine put_f (D := D) (ci := 10) (v := .int 0) (ty := .boolean) (C := RX10) (T := TX10) (N := 67) hx hb hw inAX10 tyX10 tyX10_ok nmX10 hown hK hP hD hS 6 rfl rfl 62 (by decide) (hw _ q_1323) (fun _ h9 => h9) rfl (by decide +kernel) rfl rfl dX10_sentence_39 (fun H locs F16 eF16 hP hD hS => ?_)
  have hP : va_P D vwCl [(h_tape, .inl (cB, 940, .inl f_tape)), (h_s, .inl (cI, 335, .inl f_s)), (h_read, .inl (cI, 135, .inl f_read)), (h_names, .inl (cJ, 36, .inr (.inl f_names))), (h_reserved, .inl (cJ, 23, .inr (.inl f_reserved))), (h_stack, .inl (cI, 45, .inl f_stack)), (h0, .inr (10, vL 67 F16))] H := hP
  have hD : va_D A [(h_tape, .inl (cB, 940, .inl f_tape)), (h_s, .inl (cI, 335, .inl f_s)), (h_read, .inl (cI, 135, .inl f_read)), (h_names, .inl (cJ, 36, .inr (.inl f_names))), (h_reserved, .inl (cJ, 23, .inr (.inl f_reserved))), (h_stack, .inl (cI, 45, .inl f_stack)), (h0, .inr (10, vL 67 F16))] := hD
  refine lv_aload_n hx hb dX10_sentence_42 rfl (lv_at hl 0 rfl) ?_
  have n17 : F1 1 = .ref h_tape := (get_ne eF1 (by decide) e_tape)
  have n18 : F4 1 = .ref h_tape := (SAME.at t5 (by decide) n17)
  have n19 : F11 1 = .ref h_tape := (get_ne eF11 (by decide) n18)
  have n20 : F12 1 = .ref h_tape := (get_ne eF12 (by decide) n19)
  have n21 : F13 1 = .ref h_tape := (get_ne eF13 (by decide) n20)
  have n22 : F14 1 = .ref h_tape := (get_ne eF14 (by decide) n21)
  have n23 : F15 1 = .ref h_tape := (get_ne eF15 (by decide) n22)
  have n24 : F16 1 = .ref h_tape := (get_ne eF16 (by decide) n23)
  have n25 : F11 3 = .int x_length := (get_ne eF11 (by decide) t7)
  have n26 : F12 3 = .int x_length := (get_ne eF12 (by decide) n25)
  have n27 : F13 3 = .int x_length := (get_ne eF13 (by decide) n26)
  have n28 : F14 3 = .int x_length := (get_ne eF14 (by decide) n27)
  have n29 : F15 3 = .int x_length := (get_ne eF15 (by decide) n28)
  have n30 : F16 3 = .int x_length := (get_ne eF16 (by decide) n29)
  have n31 : F11 4 = .int 0 := (get_ne eF11 (by decide) t8)
  have n32 : F12 4 = .int 0 := (get_ne eF12 (by decide) n31)
  have n33 : F13 4 = .int 0 := (get_ne eF13 (by decide) n32)
  have n34 : F14 4 = .int 0 := (get_ne eF14 (by decide) n33)
  have n35 : F15 4 = .int 0 := (get_ne eF15 (by decide) n34)
  have n36 : F16 4 = .int 0 := (get_ne eF16 (by decide) n35)
  have n37 : F11 5 = .int 200 := (get_ne eF11 (by decide) t9)
  have n38 : F12 5 = .int 200 := (get_ne eF12 (by decide) n37)
  have n39 : F13 5 = .int 200 := (get_ne eF13 (by decide) n38)
  have n40 : F14 5 = .int 200 := (get_ne eF14 (by decide) n39)
  have n41 : F15 5 = .int 200 := (get_ne eF15 (by decide) n40)
  have n42 : F16 5 = .int 200 := (get_ne eF16 (by decide) n41)
  have n43 : F1 11 = .int x_token := (get_ne eF1 (by decide) e_token)
  have n44 : F4 11 = .int x_token := (SAME.at t5 (by decide) n43)
  have n45 : F11 11 = .int x_token := (get_ne eF11 (by decide) n44)
  have n46 : F12 11 = .int x_token := (get_ne eF12 (by decide) n45)
  have n47 : F13 11 = .int x_token := (get_ne eF13 (by decide) n46)
  have n48 : F14 11 = .int x_token := (get_ne eF14 (by decide) n47)
  have n49 : F15 11 = .int x_token := (get_ne eF15 (by decide) n48)
  have n50 : F16 11 = .int x_token := (get_ne eF16 (by decide) n49)
  have n51 : F1 12 = .int x_at := (get_ne eF1 (by decide) e_at)
  have n52 : F4 12 = .int x_at := (SAME.at t5 (by decide) n51)
  have n53 : F11 12 = .int x_at := (get_ne eF11 (by decide) n52)
  have n54 : F12 12 = .int x_at := (get_ne eF12 (by decide) n53)
  have n55 : F13 12 = .int x_at := (get_ne eF13 (by decide) n54)
  have n56 : F14 12 = .int x_at := (get_ne eF14 (by decide) n55)
  have n57 : F15 12 = .int x_at := (get_ne eF15 (by decide) n56)
  have n58 : F16 12 = .int x_at := (get_ne eF16 (by decide) n57)
  have n59 : F1 14 = .int x_number := (get_ne eF1 (by decide) e_number)
  have n60 : F4 14 = .int x_number := (SAME.at t5 (by decide) n59)
  have n61 : F11 14 = .int x_number := (get_ne eF11 (by decide) n60)
  have n62 : F12 14 = .int x_number := (get_ne eF12 (by decide) n61)
  have n63 : F13 14 = .int x_number := (get_ne eF13 (by decide) n62)
  have n64 : F14 14 = .int x_number := (get_ne eF14 (by decide) n63)
  have n65 : F15 14 = .int x_number := (get_ne eF15 (by decide) n64)
  have n66 : F16 14 = .int x_number := (get_ne eF16 (by decide) n65)
  have n67 : F1 18 = .long x_word := (get_ne eF1 (by decide) e_word)
  have n68 : F4 18 = .long x_word := (SAME.at t5 (by decide) n67)
  have n69 : F11 18 = .long x_word := (get_ne eF11 (by decide) n68)
  have n70 : F12 18 = .long x_word := (get_ne eF12 (by decide) n69)
  have n71 : F13 18 = .long x_word := (get_ne eF13 (by decide) n70)
  have n72 : F14 18 = .long x_word := (get_ne eF14 (by decide) n71)
  have n73 : F15 18 = .long x_word := (get_ne eF15 (by decide) n72)
  have n74 : F16 18 = .long x_word := (get_ne eF16 (by decide) n73)
  refine call_Vv (wr := [(h_s, .inl (cI, 335, .inl f_s)), (h_read, .inl (cI, 135, .inl f_read)), (h_names, .inl (cJ, 36, .inr (.inl f_names))), (h_reserved, .inl (cJ, 23, .inr (.inl f_reserved))), (h_stack, .inl (cI, 45, .inl f_stack))]) (As := []) (rest := []) hx hb hml hown hw (m_X10_next l D cI cJ cB cP cM cZ h0 h_tape F16 x_length 0 200 x_token x_at x_number x_word f_tape _ n24 n30 i_x_length n36 (show 0 ≤ (0 : Int32).toInt ∧ (0 : Int32).toInt ≤ 940 by decide) n42 (show 200 ≤ (200 : Int32).toInt ∧ (200 : Int32).toInt ≤ 940 by decide) n50 i_x_token n58 n66 n74 (by omega)) wV_X10_208_X10_next dX10_sentence_43 hK hP hD hS hA [6, 0] [1, 2, 3, 4, 5] rfl rfl (by decide) (by decide) (by decide) 0 10 rfl rfl GG.fb hG.at hl.1 rfl (Nat.le_of_ble_eq_true rfl) ⟨(Nat.le_of_ble_eq_true rfl), (Nat.le_of_ble_eq_true rfl)⟩ ⟨(Nat.le_of_ble_eq_true rfl), (Nat.le_of_ble_eq_true rfl)⟩ (fun u H locs hp hP hD hS => ?_)
  have zl0 : (0 : Int32).toInt = 0 := by decide
  obtain ⟨F76, y77, y78, y79, y80, y81, y82, t83, t84, t85, t86, t87, t88, t89, t90, t91, t92, t93, t94, t95, t96, t97, t98, rfl⟩ := hp
  have hP : va_P D vwCl [(h_s, .inl (cI, 335, .inl f_s)), (h_read, .inl (cI, 135, .inl f_read)), (h_names, .inl (cJ, 36, .inr (.inl f_names))), (h_reserved, .inl (cJ, 23, .inr (.inl f_reserved))), (h_stack, .inl (cI, 45, .inl f_stack)), (h0, .inr (10, vL 67 F76)), (h_tape, .inl (cB, 940, .inl f_tape))] H := hP
  have hD : va_D A [(h_s, .inl (cI, 335, .inl f_s)), (h_read, .inl (cI, 135, .inl f_read)), (h_names, .inl (cJ, 36, .inr (.inl f_names))), (h_reserved, .inl (cJ, 23, .inr (.inl f_reserved))), (h_stack, .inl (cI, 45, .inl f_stack)), (h0, .inr (10, vL 67 F76)), (h_tape, .inl (cB, 940, .inl f_tape))] := hD
  refine W.widen (k := 0) (n := 0) (Nat.le_of_ble_eq_true rfl) (Nat.le_of_ble_eq_true rfl) ?_
  refine lv_iconst (v := 1) hx hb dX10_sentence_46 (by decide) ?_
  refine lv_istore_n (lv' := [(1, .int 1), (0, .ref h0)]) hx hb dX10_sentence_47 rfl hl (by decide) rfl (fun ls hl => ?_)
  have n117 : F12 15 = .int 0 := (get_ne eF12 (by decide) (get_eq eF11))
  have n118 : F13 15 = .int 0 := (get_ne eF13 (by decide) n117)
  have n119 : F14 15 = .int 0 := (get_ne eF14 (by decide) n118)
  have n120 : F15 15 = .int 0 := (get_ne eF15 (by decide) n119)
  have n121 : F16 15 = .int 0 := (get_ne eF16 (by decide) n120)
  have n122 : F76 15 = .int 0 := (SAME.at t83 (by decide) n121)
  have n123 : F1 16 = .int x_faultAt := (get_ne eF1 (by decide) e_faultAt)
  have n124 : F4 16 = .int x_faultAt := (SAME.at t5 (by decide) n123)
  have n125 : F11 16 = .int x_faultAt := (get_ne eF11 (by decide) n124)
  have n126 : F12 16 = .int x_faultAt := (get_ne eF12 (by decide) n125)
  have n127 : F13 16 = .int x_faultAt := (get_ne eF13 (by decide) n126)
  have n128 : F14 16 = .int x_faultAt := (get_ne eF14 (by decide) n127)
  have n129 : F15 16 = .int x_faultAt := (get_ne eF15 (by decide) n128)
  have n130 : F16 16 = .int x_faultAt := (get_ne eF16 (by decide) n129)
  have n131 : F76 16 = .int x_faultAt := (SAME.at t83 (by decide) n130)
  have n132 : F13 58 = .int 0 := (get_ne eF13 (by decide) (get_eq eF12))
  have n133 : F14 58 = .int 0 := (get_ne eF14 (by decide) n132)
  have n134 : F15 58 = .int 0 := (get_ne eF15 (by decide) n133)
  have n135 : F16 58 = .int 0 := (get_ne eF16 (by decide) n134)
  have n136 : F76 58 = .int 0 := (SAME.at t83 (by decide) n135)
  have n137 : F14 59 = .int 0 := (get_ne eF14 (by decide) (get_eq eF13))
  have n138 : F15 59 = .int 0 := (get_ne eF15 (by decide) n137)
  have n139 : F16 59 = .int 0 := (get_ne eF16 (by decide) n138)
  have n140 : F76 59 = .int 0 := (SAME.at t83 (by decide) n139)
  have n141 : F15 60 = .int 0 := (get_ne eF15 (by decide) (get_eq eF14))
  have n142 : F16 60 = .int 0 := (get_ne eF16 (by decide) n141)
  have n143 : F76 60 = .int 0 := (SAME.at t83 (by decide) n142)
  have n144 : F16 61 = .int 1 := (get_ne eF16 (by decide) (get_eq eF15))
  have n145 : F76 61 = .int 1 := (SAME.at t83 (by decide) n144)
  have n146 : F76 62 = .int 0 := (SAME.at t83 (by decide) (get_eq eF16))
  refine mloop (α := (Int32) × (Nat → Int32) × (Nat → Int32) × (Nat → Value) × (Int32) × (Int32) × (Int32) × (Int32) × (Int32) × (Int32) × (Int32) × (Int64) × (Int32) × (Int32) × (Int32) × (Int32) × (Int32)) (nL := 3) (D := D) (A := A) (H0 := s.heap) (fun a => (3 * (940 - a.2.2.2.2.1.toInt) + min a.2.2.2.2.2.1.toInt (4 - a.2.2.2.2.2.1.toInt) + a.1.toInt).toNat) (fun a => IR 0 1 a.1 ∧ SAME [4, 11, 12, 13, 14, 15, 16, 18, 58, 59, 60, 61, 62] F76 a.2.2.2.1 ∧ a.2.2.2.1 4 = .int a.2.2.2.2.1 ∧ a.2.2.2.1 11 = .int a.2.2.2.2.2.1 ∧ a.2.2.2.1 12 = .int a.2.2.2.2.2.2.1 ∧ a.2.2.2.1 13 = .int a.2.2.2.2.2.2.2.1 ∧ a.2.2.2.1 14 = .int a.2.2.2.2.2.2.2.2.1 ∧ a.2.2.2.1 15 = .int a.2.2.2.2.2.2.2.2.2.1 ∧ a.2.2.2.1 16 = .int a.2.2.2.2.2.2.2.2.2.2.1 ∧ a.2.2.2.1 18 = .long a.2.2.2.2.2.2.2.2.2.2.2.1 ∧ a.2.2.2.1 58 = .int a.2.2.2.2.2.2.2.2.2.2.2.2.1 ∧ a.2.2.2.1 59 = .int a.2.2.2.2.2.2.2.2.2.2.2.2.2.1 ∧ a.2.2.2.1 60 = .int a.2.2.2.2.2.2.2.2.2.2.2.2.2.2.1 ∧ a.2.2.2.1 61 = .int a.2.2.2.2.2.2.2.2.2.2.2.2.2.2.2.1 ∧ a.2.2.2.1 62 = .int a.2.2.2.2.2.2.2.2.2.2.2.2.2.2.2.2 ∧ IR 0 940 a.2.2.2.2.1 ∧ IR 0 4 a.2.2.2.2.2.1 ∧ IR 0 940 a.2.2.2.2.2.2.1 ∧ IR 0 940 a.2.2.2.2.2.2.2.1 ∧ IR 0 0 a.2.2.2.2.2.2.2.2.2.1 ∧ IR 0 45 a.2.2.2.2.2.2.2.2.2.2.2.2.1 ∧ IR 0 20 a.2.2.2.2.2.2.2.2.2.2.2.2.2.1 ∧ IR 0 45 a.2.2.2.2.2.2.2.2.2.2.2.2.2.2.1 ∧ IR 0 46 a.2.2.2.2.2.2.2.2.2.2.2.2.2.2.2.1 ∧ IR 0 1 a.2.2.2.2.2.2.2.2.2.2.2.2.2.2.2.2 ∧ (SMI a.2.1 a.2.2.1 a.2.2.2.2.2.2.2.2.2.2.2.2.1.toInt a.2.2.2.2.2.2.2.2.2.2.2.2.2.2.1.toInt a.2.2.2.2.2.2.2.2.2.2.2.2.2.2.2.2.toInt) ∧ ((a.1.toInt = 0 → a.2.2.2.2.2.2.2.2.2.2.2.2.2.2.1.toInt = 0 ∧ a.2.2.2.2.2.2.2.2.2.2.2.2.2.2.2.2.toInt = 1)) ∧ ((VWF a.2.2.2.2.2.1.toInt a.2.2.2.2.2.2.2.2.2.2.2.1.toInt)) ∧ ((a.1.toInt = 1 → ∀ r9 : Sum Flt Int, Gos (tkA f_tape x_length.toInt 200) (nmM f_names 0 (f_s 5).toInt) (abF a.2.2.1 (a.2.2.2.2.2.2.2.2.2.2.2.2.2.2.1.toInt : Int).toNat, a.2.2.2.2.2.2.2.2.2.2.2.2.2.2.2.2.toInt, a.2.2.2.2.2.2.2.2.2.2.2.2.2.1.toInt, (tkM a.2.2.2.2.2.1 a.2.2.2.2.2.2.1 a.2.2.2.2.2.2.2.2.1 a.2.2.2.2.2.2.2.2.2.2.2.1 a.2.2.2.2.1)) r9 → Gos (tkA f_tape x_length.toInt 200) (nmM f_names 0 (f_s 5).toInt) ([], 0, 0, (tkM y78 y79 y81 y82 y77)) r9)) ∧ ((a.1.toInt = 1 → SKB a.2.2.1 a.2.2.2.2.2.2.2.2.2.2.2.2.2.2.1.toInt a.2.2.2.2.2.2.2.2.2.2.2.2.2.2.2.1.toInt)) ∧ ((a.1.toInt = 0 → Gos (tkA f_tape x_length.toInt 200) (nmM f_names 0 (f_s 5).toInt) ([], 0, 0, (tkM y78 y79 y81 y82 y77)) (.inr (a.2.2.2.2.2.2.2.2.2.2.2.2.2.1.toInt)))) ∧ (a.2.2.2.2.2.2.2.2.2.1.toInt = 0) ∧ ((a.2.2.2.2.2.1.toInt = 2 → 0 ≤ a.2.2.2.2.2.2.2.2.1.toInt ∧ a.2.2.2.2.2.2.2.2.1.toInt ≤ 999)) ∧ (a.2.2.2.2.2.2.2.2.2.2.2.2.2.2.1.toInt + a.2.2.2.2.2.2.2.2.2.2.2.2.1.toInt + a.2.2.2.2.2.2.2.2.2.2.2.2.2.2.2.2.toInt ≤ 2 * a.2.2.2.2.2.2.2.2.2.2.2.2.2.1.toInt)) (fun a => [(h_s, .inl (cI, 335, .inl f_s)), (h_read, .inl (cI, 135, .inl a.2.1)), (h_names, .inl (cJ, 36, .inr (.inl f_names))), (h_reserved, .inl (cJ, 23, .inr (.inl f_reserved))), (h_stack, .inl (cI, 45, .inl a.2.2.1)), (h0, .inr (10, vL 67 a.2.2.2.1)), (h_tape, .inl (cB, 940, .inl f_tape))]) (fun a => [(1, .int a.1), (0, .ref h0)]) (fun H locs ls => W p l e ({ frames := 3, cells := 0, slots := 0, locals := 67 } : Room) s m [.ref h0].toArray below meth c H locs 0 0 (MQ below (va_Qi (fun (r : Int32) (u : va_W) => ∃ (Gh : Nat → Value) (y_p : Int32) (y_token : Int32) (y_at : Int32) (y_span : Int32) (y_number : Int32) (y_fault : Int32) (y_faultAt : Int32) (y_word : Int64) (y_codes : Int32) (y_ones : Int32) (y_top : Int32) (y_deep : Int32) (y_isWhole : Int32) (g_s : Nat → Int32) (g_read : Nat → Int32) (g_stack : Nat → Int32), SAME [0, 2, 3, 4, 5, 11, 12, 13, 14, 15, 16, 18, 58, 59, 60, 61, 62] Fh Gh ∧ Gh 0 = .int 0 ∧ Gh 2 = .int 0 ∧ Gh 3 = .int x_length ∧ Gh 4 = .int y_p ∧ IR 0 940 y_p ∧ Gh 5 = .int 200 ∧ Gh 11 = .int y_token ∧ IR 0 4 y_token ∧ Gh 12 = .int y_at ∧ Gh 13 = .int y_span ∧ Gh 14 = .int y_number ∧ Gh 15 = .int y_fault ∧ IR 0 4 y_fault ∧ Gh 16 = .int y_faultAt ∧ Gh 18 = .long y_word ∧ Gh 58 = .int y_codes ∧ IR 0 45 y_codes ∧ Gh 59 = .int y_ones ∧ IR 0 20 y_ones ∧ Gh 60 = .int y_top ∧ IR 0 45 y_top ∧ Gh 61 = .int y_deep ∧ IR 0 46 y_deep ∧ Gh 62 = .int y_isWhole ∧ IR 0 1 y_isWhole ∧ SG 153 153 0 44 g_s ∧ SG 0 0 0 40 g_s ∧ SG 5 5 0 12 g_s ∧ SG 6 6 0 12 g_s ∧ SG 7 7 0 6 g_s ∧ SG 44 55 0 9 g_s ∧ KW 0 g_s ∧ SG 105 108 0 11 g_s ∧ SG 114 114 0 5 g_s ∧ SG 130 133 0 11 g_s ∧ SG 139 139 0 5 g_s ∧ US bs g_s ∧ (∃ res : Sum Flt Int, Gos (tkA f_tape x_length.toInt 200) (PICM f_s f_names).2.1 ([], 0, 0, tkA f_tape x_length.toInt 200 0) res ∧ r.toInt = sAns res ∧ y_fault.toInt = gFlt res) ∧ ((y_token.toInt = 2 → 0 ≤ y_number.toInt ∧ y_number.toInt ≤ 999)) ∧ (y_top.toInt + y_codes.toInt + y_isWhole.toInt ≤ 2 * y_ones.toInt) ∧ u = [(h0, .inr (10, vL 67 Gh)), (h_tape, .inl (cB, 940, .inl f_tape)), (h_s, .inl (cI, 335, .inl g_s)), (h_read, .inl (cI, 135, .inl g_read)), (h_names, .inl (cJ, 36, .inr (.inl f_names))), (h_reserved, .inl (cJ, 23, .inr (.inl f_reserved))), (h_stack, .inl (cI, 45, .inl g_stack))]) (PO D A) A) [.ref h0].toArray s 0 0 A) (F0 m 48 ls [])) ?_ (1, f_read, f_stack, F76, y77, y78, y79, y80, y81, 0, x_faultAt, y82, 0, 0, 0, 1, 0) ⟨(show 0 ≤ (1 : Int32).toInt ∧ (1 : Int32).toInt ≤ 1 by decide), SAME.rf, t84, t86, t88, t90, t92, n122, n131, t93, n136, n140, n143, n145, n146, t85, t87, t89, t91, (show 0 ≤ (0 : Int32).toInt ∧ (0 : Int32).toInt ≤ 0 by decide), (show 0 ≤ (0 : Int32).toInt ∧ (0 : Int32).toInt ≤ 45 by decide), (show 0 ≤ (0 : Int32).toInt ∧ (0 : Int32).toInt ≤ 20 by decide), (show 0 ≤ (0 : Int32).toInt ∧ (0 : Int32).toInt ≤ 45 by decide), (show 0 ≤ (1 : Int32).toInt ∧ (1 : Int32).toInt ≤ 46 by decide), (show 0 ≤ (0 : Int32).toInt ∧ (0 : Int32).toInt ≤ 1 by decide), (show SMI f_read f_stack 0 0 0 from SMI.zero), (by show (1 = 0 → 0 = 0 ∧ 0 = 1); omega), (show (VWF y78.toInt y82.toInt) from t97), (show (1 = 1 → ∀ r9 : Sum Flt Int, Gos (tkA f_tape x_length.toInt 200) (nmM f_names 0 (f_s 5).toInt) (abF f_stack (0 : Int).toNat, 0, 0, (tkM y78 y79 y81 y82 y77)) r9 → Gos (tkA f_tape x_length.toInt 200) (nmM f_names 0 (f_s 5).toInt) ([], 0, 0, (tkM y78 y79 y81 y82 y77)) r9) from (fun _ r9 g9 => g9)), (show (1 = 1 → SKB f_stack 0 1) from (fun _ => SKB.z)), (show (1 = 0 → Gos (tkA f_tape x_length.toInt 200) (nmM f_names 0 (f_s 5).toInt) ([], 0, 0, (tkM y78 y79 y81 y82 y77)) (.inr (0))) from (fun q => absurd q (by first | decide | omega))), (by show 0 = 0; omega), (by show (y78.toInt = 2 → 0 ≤ y81.toInt ∧ y81.toInt ≤ 999); omega), (by show 0 + 0 + 0 ≤ 2 * 0; omega)⟩ _ _ _ hP hD hS hl
  rintro ⟨u100, w101, w102, G103, u104, u105, u106, u107, u108, u109, u110, u111, u112, u113, u114, u115, u116⟩ ⟨i147, i148, i149, i150, i151, i152, i153, i154, i155, i156, i157, i158, i159, i160, i161, i162, i163, i164, i165, i166, i167, i168, i169, i170, i171, i172, i173, i174, i175, i176, i177, i178, i179, i180⟩ ih H locs ls hP hD hS hl
  have i147 : 0 ≤ u100.toInt ∧ u100.toInt ≤ 1 := i147
  have i162 : 0 ≤ u104.toInt ∧ u104.toInt ≤ 940 := i162
  have i163 : 0 ≤ u105.toInt ∧ u105.toInt ≤ 4 := i163
  have i164 : 0 ≤ u106.toInt ∧ u106.toInt ≤ 940 := i164
  have i165 : 0 ≤ u107.toInt ∧ u107.toInt ≤ 940 := i165
  have i166 : 0 ≤ u109.toInt ∧ u109.toInt ≤ 0 := i166
  have i167 : 0 ≤ u112.toInt ∧ u112.toInt ≤ 45 := i167
  have i168 : 0 ≤ u113.toInt ∧ u113.toInt ≤ 20 := i168
  have i169 : 0 ≤ u114.toInt ∧ u114.toInt ≤ 45 := i169
  have i170 : 0 ≤ u115.toInt ∧ u115.toInt ≤ 46 := i170
  have i171 : 0 ≤ u116.toInt ∧ u116.toInt ≤ 1 := i171
  have i172 : SMI w101 w102 u112.toInt u114.toInt u116.toInt := i172
  have i173 : (u100.toInt = 0 → u114.toInt = 0 ∧ u116.toInt = 1) := i173
  have i174 : (VWF u105.toInt u111.toInt) := i174
  have i175 : (u100.toInt = 1 → ∀ r9 : Sum Flt Int, Gos (tkA f_tape x_length.toInt 200) (nmM f_names 0 (f_s 5).toInt) (abF w102 (u114.toInt : Int).toNat, u116.toInt, u113.toInt, (tkM u105 u106 u108 u111 u104)) r9 → Gos (tkA f_tape x_length.toInt 200) (nmM f_names 0 (f_s 5).toInt) ([], 0, 0, (tkM y78 y79 y81 y82 y77)) r9) := i175
  have i176 : (u100.toInt = 1 → SKB w102 u114.toInt u115.toInt) := i176
  have i177 : (u100.toInt = 0 → Gos (tkA f_tape x_length.toInt 200) (nmM f_names 0 (f_s 5).toInt) ([], 0, 0, (tkM y78 y79 y81 y82 y77)) (.inr (u113.toInt))) := i177
  have i178 : u109.toInt = 0 := i178
  have i179 : (u105.toInt = 2 → 0 ≤ u108.toInt ∧ u108.toInt ≤ 999) := i179
  have i180 : u114.toInt + u112.toInt + u116.toInt ≤ 2 * u113.toInt := i180
  have hP : va_P D vwCl [(h_s, .inl (cI, 335, .inl f_s)), (h_read, .inl (cI, 135, .inl w101)), (h_names, .inl (cJ, 36, .inr (.inl f_names))), (h_reserved, .inl (cJ, 23, .inr (.inl f_reserved))), (h_stack, .inl (cI, 45, .inl w102)), (h0, .inr (10, vL 67 G103)), (h_tape, .inl (cB, 940, .inl f_tape))] H := hP
  have hD : va_D A [(h_s, .inl (cI, 335, .inl f_s)), (h_read, .inl (cI, 135, .inl w101)), (h_names, .inl (cJ, 36, .inr (.inl f_names))), (h_reserved, .inl (cJ, 23, .inr (.inl f_reserved))), (h_stack, .inl (cI, 45, .inl w102)), (h0, .inr (10, vL 67 G103)), (h_tape, .inl (cB, 940, .inl f_tape))] := hD
  have hl : lv_has ls 3 [(1, .int u100), (0, .ref h0)] := hl
  refine lv_iload_n hx hb dX10_sentence_48 rfl (lv_at hl 0 rfl) ?_
  refine lv_if_eq (tgt := 132) hx hb dX10_sentence_49 (by decide) (fun c181 => ?_) (fun c181 => ?_)
  · have dc181 : u100.toInt = 0 := eq_i (a := u100.toInt) (b := 0) rfl rfl c181
    have k182 : 0 ≤ u100.toInt ∧ u100.toInt ≤ 0 := ⟨i147.1, Int.le_trans (Int.le_of_eq dc181) (Int.le_refl _)⟩
    refine lv_aload_n hx hb dX10_sentence_132 rfl (lv_at hl 1 rfl) ?_
    have n183 : F1 6 = .ref h_s := (get_ne eF1 (by decide) e_s)
    have n184 : F4 6 = .ref h_s := (SAME.at t5 (by decide) n183)
    have n185 : F11 6 = .ref h_s := (get_ne eF11 (by decide) n184)
    have n186 : F12 6 = .ref h_s := (get_ne eF12 (by decide) n185)
    have n187 : F13 6 = .ref h_s := (get_ne eF13 (by decide) n186)
    have n188 : F14 6 = .ref h_s := (get_ne eF14 (by decide) n187)
    have n189 : F15 6 = .ref h_s := (get_ne eF15 (by decide) n188)
    have n190 : F16 6 = .ref h_s := (get_ne eF16 (by decide) n189)
    have n191 : F76 6 = .ref h_s := (SAME.at t83 (by decide) n190)
    have n192 : G103 6 = .ref h_s := (SAME.at i148 (by decide) n191)
    refine get_f (D := D) (ci := 10) (v := .ref h_s) (C := RX10) (T := TX10) (N := 67) hx hb hw inAX10 hown hK hP 5 rfl rfl 6 (by decide) (hw _ q_1267) (fun _ h9 => h9) n192 dX10_sentence_133 ?_
    refine lv_sipush (v := 153) hx hb dX10_sentence_136 (by decide) ?_
    refine lv_aload_n hx hb dX10_sentence_139 rfl (lv_at hl 1 rfl) ?_
    refine get_f (D := D) (ci := 10) (v := .int u112) (C := RX10) (T := TX10) (N := 67) hx hb hw inAX10 hown hK hP 5 rfl rfl 58 (by decide) (hw _ q_1319) (fun _ h9 => h9) i157 dX10_sentence_140 ?_
    obtain ⟨g193, eg193⟩ : ∃ z : Nat → Int32, upd f_s 153 u112 = z := ⟨_, rfl⟩
    have r195 : US bs g193 := by rw [← eg193]; exact US.upN s_s_US (by decide)
    have r196 : SG 0 0 0 40 g193 := by rw [← eg193]; exact s_s_0.upN (Or.inr (Or.inl (by decide)))
    have r197 : SG 105 108 0 11 g193 := by rw [← eg193]; exact s_s_105.upN (Or.inr (Or.inl (by decide)))
    have r198 : SG 114 114 0 5 g193 := by rw [← eg193]; exact s_s_114.upN (Or.inr (Or.inl (by decide)))
    have r199 : SG 130 133 0 11 g193 := by rw [← eg193]; exact s_s_130.upN (Or.inr (Or.inl (by decide)))
    have r200 : SG 139 139 0 5 g193 := by rw [← eg193]; exact s_s_139.upN (Or.inr (Or.inl (by decide)))
    have r201 : SG 153 153 0 44 g193 := by rw [← eg193]; exact s_s_153.upN (by omega)
    have r202 : SG 44 55 0 9 g193 := by rw [← eg193]; exact s_s_44.upN (Or.inr (Or.inl (by decide)))
    have r203 : SG 5 5 0 12 g193 := by rw [← eg193]; exact s_s_5.upN (Or.inr (Or.inl (by decide)))
    have r204 : SG 6 6 0 12 g193 := by rw [← eg193]; exact s_s_6.upN (Or.inr (Or.inl (by decide)))
    have r205 : SG 7 7 0 6 g193 := by rw [← eg193]; exact s_s_7.upN (Or.inr (Or.inl (by decide)))
    refine iast_n hx hb hK hP hD hS 0 0 rfl rfl 153 rfl (Nat.le_of_ble_eq_true rfl) (Nat.le_of_ble_eq_true rfl) eg193 dX10_sentence_143 (fun H locs hP hD hS => ?_)
    have hP : va_P D vwCl [(h_s, .inl (cI, 335, .inl g193)), (h_read, .inl (cI, 135, .inl w101)), (h_names, .inl (cJ, 36, .inr (.inl f_names))), (h_reserved, .inl (cJ, 23, .inr (.inl f_reserved))), (h_stack, .inl (cI, 45, .inl w102)), (h0, .inr (10, vL 67 G103)), (h_tape, .inl (cB, 940, .inl f_tape))] H := hP
    have hD : va_D A [(h_s, .inl (cI, 335, .inl g193)), (h_read, .inl (cI, 135, .inl w101)), (h_names, .inl (cJ, 36, .inr (.inl f_names))), (h_reserved, .inl (cJ, 23, .inr (.inl f_reserved))), (h_stack, .inl (cI, 45, .inl w102)), (h0, .inr (10, vL 67 G103)), (h_tape, .inl (cB, 940, .inl f_tape))] := hD
    refine lv_iconst (v := 0) hx hb dX10_sentence_144 (by decide) ?_
    refine lv_istore_n (lv' := [(2, .int 0), (1, .int u100), (0, .ref h0)]) hx hb dX10_sentence_145 rfl hl (by decide) rfl (fun ls hl => ?_)
    refine mloop (α := (Int32) × (Nat → Int32)) (nL := 3) (D := D) (A := A) (H0 := s.heap) (fun a => (135 - a.1.toInt).toNat) (fun a => IR 0 135 a.1 ∧ US bs a.2 ∧ SG 0 0 0 40 a.2 ∧ SG 105 108 0 11 a.2 ∧ SG 114 114 0 5 a.2 ∧ SG 130 133 0 11 a.2 ∧ SG 139 139 0 5 a.2 ∧ SG 153 153 0 44 a.2 ∧ SG 44 55 0 9 a.2 ∧ SG 5 5 0 12 a.2 ∧ SG 6 6 0 12 a.2 ∧ SG 7 7 0 6 a.2 ∧ ((a.2 153).toInt = u112.toInt) ∧ (CPY a.2 154 w101 0 (a.1.toInt))) (fun a => [(h_s, .inl (cI, 335, .inl a.2)), (h_read, .inl (cI, 135, .inl w101)), (h_names, .inl (cJ, 36, .inr (.inl f_names))), (h_reserved, .inl (cJ, 23, .inr (.inl f_reserved))), (h_stack, .inl (cI, 45, .inl w102)), (h0, .inr (10, vL 67 G103)), (h_tape, .inl (cB, 940, .inl f_tape))]) (fun a => [(2, .int a.1), (1, .int u100), (0, .ref h0)]) (fun H locs ls => W p l e ({ frames := 3, cells := 0, slots := 0, locals := 67 } : Room) s m [.ref h0].toArray below meth c H locs 0 0 (MQ below (va_Qi (fun (r : Int32) (u : va_W) => ∃ (Gh : Nat → Value) (y_p : Int32) (y_token : Int32) (y_at : Int32) (y_span : Int32) (y_number : Int32) (y_fault : Int32) (y_faultAt : Int32) (y_word : Int64) (y_codes : Int32) (y_ones : Int32) (y_top : Int32) (y_deep : Int32) (y_isWhole : Int32) (g_s : Nat → Int32) (g_read : Nat → Int32) (g_stack : Nat → Int32), SAME [0, 2, 3, 4, 5, 11, 12, 13, 14, 15, 16, 18, 58, 59, 60, 61, 62] Fh Gh ∧ Gh 0 = .int 0 ∧ Gh 2 = .int 0 ∧ Gh 3 = .int x_length ∧ Gh 4 = .int y_p ∧ IR 0 940 y_p ∧ Gh 5 = .int 200 ∧ Gh 11 = .int y_token ∧ IR 0 4 y_token ∧ Gh 12 = .int y_at ∧ Gh 13 = .int y_span ∧ Gh 14 = .int y_number ∧ Gh 15 = .int y_fault ∧ IR 0 4 y_fault ∧ Gh 16 = .int y_faultAt ∧ Gh 18 = .long y_word ∧ Gh 58 = .int y_codes ∧ IR 0 45 y_codes ∧ Gh 59 = .int y_ones ∧ IR 0 20 y_ones ∧ Gh 60 = .int y_top ∧ IR 0 45 y_top ∧ Gh 61 = .int y_deep ∧ IR 0 46 y_deep ∧ Gh 62 = .int y_isWhole ∧ IR 0 1 y_isWhole ∧ SG 153 153 0 44 g_s ∧ SG 0 0 0 40 g_s ∧ SG 5 5 0 12 g_s ∧ SG 6 6 0 12 g_s ∧ SG 7 7 0 6 g_s ∧ SG 44 55 0 9 g_s ∧ KW 0 g_s ∧ SG 105 108 0 11 g_s ∧ SG 114 114 0 5 g_s ∧ SG 130 133 0 11 g_s ∧ SG 139 139 0 5 g_s ∧ US bs g_s ∧ (∃ res : Sum Flt Int, Gos (tkA f_tape x_length.toInt 200) (PICM f_s f_names).2.1 ([], 0, 0, tkA f_tape x_length.toInt 200 0) res ∧ r.toInt = sAns res ∧ y_fault.toInt = gFlt res) ∧ ((y_token.toInt = 2 → 0 ≤ y_number.toInt ∧ y_number.toInt ≤ 999)) ∧ (y_top.toInt + y_codes.toInt + y_isWhole.toInt ≤ 2 * y_ones.toInt) ∧ u = [(h0, .inr (10, vL 67 Gh)), (h_tape, .inl (cB, 940, .inl f_tape)), (h_s, .inl (cI, 335, .inl g_s)), (h_read, .inl (cI, 135, .inl g_read)), (h_names, .inl (cJ, 36, .inr (.inl f_names))), (h_reserved, .inl (cJ, 23, .inr (.inl f_reserved))), (h_stack, .inl (cI, 45, .inl g_stack))]) (PO D A) A) [.ref h0].toArray s 0 0 A) (F0 m 146 ls [])) ?_ (0, g193) ⟨(show 0 ≤ (0 : Int32).toInt ∧ (0 : Int32).toInt ≤ 135 by decide), r195, r196, r197, r198, r199, r200, r201, r202, r203, r204, r205, (show (g193 153).toInt = u112.toInt from (by rw [← eg193, pk_us])), (show CPY g193 154 w101 0 (0) from (CPY.zero (by decide)))⟩ _ _ _ hP hD hS hl
    rintro ⟨u206, w207⟩ ⟨i208, i209, i210, i211, i212, i213, i214, i215, i216, i217, i218, i219, i220, i221⟩ ih_146 H locs ls hP hD hS hl
    have i208 : 0 ≤ u206.toInt ∧ u206.toInt ≤ 135 := i208
    have i220 : (w207 153).toInt = u112.toInt := i220
    have i221 : CPY w207 154 w101 0 (u206.toInt) := i221
    have hP : va_P D vwCl [(h_s, .inl (cI, 335, .inl w207)), (h_read, .inl (cI, 135, .inl w101)), (h_names, .inl (cJ, 36, .inr (.inl f_names))), (h_reserved, .inl (cJ, 23, .inr (.inl f_reserved))), (h_stack, .inl (cI, 45, .inl w102)), (h0, .inr (10, vL 67 G103)), (h_tape, .inl (cB, 940, .inl f_tape))] H := hP
    have hD : va_D A [(h_s, .inl (cI, 335, .inl w207)), (h_read, .inl (cI, 135, .inl w101)), (h_names, .inl (cJ, 36, .inr (.inl f_names))), (h_reserved, .inl (cJ, 23, .inr (.inl f_reserved))), (h_stack, .inl (cI, 45, .inl w102)), (h0, .inr (10, vL 67 G103)), (h_tape, .inl (cB, 940, .inl f_tape))] := hD
    have hl : lv_has ls 3 [(2, .int u206), (1, .int u100), (0, .ref h0)] := hl
    refine lv_iload_n hx hb dX10_sentence_146 rfl (lv_at hl 0 rfl) ?_
    refine lv_iconst (v := 3) hx hb dX10_sentence_147 (by decide) ?_
    refine lv_aload_n hx hb dX10_sentence_148 rfl (lv_at hl 2 rfl) ?_
    refine get_f (D := D) (ci := 10) (v := .int u112) (C := RX10) (T := TX10) (N := 67) hx hb hw inAX10 hown hK hP 5 rfl rfl 58 (by decide) (hw _ q_1319) (fun _ h9 => h9) i157 dX10_sentence_149 ?_
    refine lv_imul hx hb dX10_sentence_152 ?_
    refine lv_topi (fun v222 ev222 => ?_)
    have bv222 : v222.toInt = 3 * u112.toInt := by rw [ev222]; exact kmul_k rfl rfl (by decide) i167 (by decide)
    have k223 : 0 ≤ v222.toInt ∧ v222.toInt ≤ 135 := kmul_r bv222 (by decide) i167 (by decide)
    refine lv_icmp_ge (tgt := 178) hx hb dX10_sentence_153 (by decide) (fun c224 => ?_) (fun c224 => ?_)
    · have dc224 : v222.toInt ≤ u206.toInt := le_i (a := v222.toInt) (b := u206.toInt) rfl rfl c224
      have r225 : KW 0 w207 := KW.sent (c := u112.toInt) ⟨by omega, by omega⟩ i172.2.2.1 i220 (CPY.mn i221 (by omega))
      refine lv_aload_n hx hb dX10_sentence_178 rfl (lv_at hl 2 rfl) ?_
      refine get_f (D := D) (ci := 10) (v := .int u113) (C := RX10) (T := TX10) (N := 67) hx hb hw inAX10 hown hK hP 5 rfl rfl 59 (by decide) (hw _ q_1320) (fun _ h9 => h9) i158 dX10_sentence_179 ?_
      exact ret_i (v := u113) hx hb hr hlocks hS (hP.sub (ws' := [(h0, .inr (10, vL 67 G103)), (h_tape, .inl (cB, 940, .inl f_tape)), (h_s, .inl (cI, 335, .inl w207)), (h_read, .inl (cI, 135, .inl w101)), (h_names, .inl (cJ, 36, .inr (.inl f_names))), (h_reserved, .inl (cJ, 23, .inr (.inl f_reserved))), (h_stack, .inl (cI, 45, .inl w102))]) [5, 6, 0, 1, 2, 3, 4] rfl) (hD.sub (ws' := [(h0, .inr (10, vL 67 G103)), (h_tape, .inl (cB, 940, .inl f_tape)), (h_s, .inl (cI, 335, .inl w207)), (h_read, .inl (cI, 135, .inl w101)), (h_names, .inl (cJ, 36, .inr (.inl f_names))), (h_reserved, .inl (cJ, 23, .inr (.inl f_reserved))), (h_stack, .inl (cI, 45, .inl w102))]) [5, 6, 0, 1, 2, 3, 4] (by decide) rfl) dX10_sentence_182 rfl (Nat.le_of_ble_eq_true rfl) (Nat.le_of_ble_eq_true rfl) ⟨G103, u104, u105, u106, u107, u108, u109, u110, u111, u112, u113, u114, u115, u116, w207, w101, w102, (SAME.tr (SAME.tr (SAME.up eF16 (SAME.up eF15 (SAME.up eF14 (SAME.up eF13 (SAME.up eF12 (SAME.up eF11 (SAME.tr (SAME.up eF1 SAME.rf (by decide)) t5 (by decide)) (by decide)) (by decide)) (by decide)) (by decide)) (by decide)) (by decide)) t83 (by decide)) i148 (by decide)), (SAME.at i148 (by decide) (SAME.at t83 (by decide) (get_ne eF16 (by decide) (get_ne eF15 (by decide) (get_ne eF14 (by decide) (get_ne eF13 (by decide) (get_ne eF12 (by decide) (get_ne eF11 (by decide) (SAME.at t5 (by decide) (get_eq eF1)))))))))), (SAME.at i148 (by decide) (SAME.at t83 (by decide) (get_ne eF16 (by decide) (get_ne eF15 (by decide) (get_ne eF14 (by decide) (get_ne eF13 (by decide) (get_ne eF12 (by decide) (get_ne eF11 (by decide) t6)))))))), (SAME.at i148 (by decide) (SAME.at t83 (by decide) n30)), i149, i162, (SAME.at i148 (by decide) (SAME.at t83 (by decide) n42)), i150, i163, i151, i152, i153, i154, (ir_wk i166 (by decide) (by decide)), i155, i156, i157, i167, i158, i168, i159, i169, i160, i170, i161, i171, i215, i210, i217, i218, i219, i216, r225, i211, i212, i213, i214, i209, ⟨_, gos_0 t96 (i177 (by omega)), rfl, (by first | exact rfl | exact (show u109.toInt = 0 by omega) | exact (show (0 : Int32).toInt = 0 by decide))⟩, (by omega), (by omega), rfl⟩
    · have dc224 : u206.toInt < v222.toInt := nle_i (a := v222.toInt) (b := u206.toInt) rfl rfl c224
      have k226 : 0 ≤ u206.toInt ∧ u206.toInt ≤ 134 := ⟨i208.1, up_lt dc224 k223.2 (by decide)⟩
      have k227 : 1 ≤ v222.toInt ∧ v222.toInt ≤ 135 := ⟨lo_lt dc224 i208.1 (by decide), k223.2⟩
      refine lv_aload_n hx hb dX10_sentence_156 rfl (lv_at hl 2 rfl) ?_
      refine get_f (D := D) (ci := 10) (v := .ref h_s) (C := RX10) (T := TX10) (N := 67) hx hb hw inAX10 hown hK hP 5 rfl rfl 6 (by decide) (hw _ q_1267) (fun _ h9 => h9) n192 dX10_sentence_157 ?_
      refine lv_sipush (v := 154) hx hb dX10_sentence_160 (by decide) ?_
      refine lv_iload_n hx hb dX10_sentence_163 rfl (lv_at hl 0 rfl) ?_
      refine lv_iadd hx hb dX10_sentence_164 ?_
      refine lv_topi (fun v228 ev228 => ?_)
      have bv228 : v228.toInt = 154 + u206.toInt := by rw [ev228]; exact add_k rfl rfl ⟨Int.le_refl _, Int.le_refl _⟩ k226 (by decide)
      have k229 : 154 ≤ v228.toInt ∧ v228.toInt ≤ 288 := add_r bv228 ⟨Int.le_refl _, Int.le_refl _⟩ k226 (by decide)
      refine lv_aload_n hx hb dX10_sentence_165 rfl (lv_at hl 2 rfl) ?_
      have n230 : F1 8 = .ref h_read := (get_ne eF1 (by decide) e_read)
      have n231 : F4 8 = .ref h_read := (SAME.at t5 (by decide) n230)
      have n232 : F11 8 = .ref h_read := (get_ne eF11 (by decide) n231)
      have n233 : F12 8 = .ref h_read := (get_ne eF12 (by decide) n232)
      have n234 : F13 8 = .ref h_read := (get_ne eF13 (by decide) n233)
      have n235 : F14 8 = .ref h_read := (get_ne eF14 (by decide) n234)
      have n236 : F15 8 = .ref h_read := (get_ne eF15 (by decide) n235)
      have n237 : F16 8 = .ref h_read := (get_ne eF16 (by decide) n236)
      have n238 : F76 8 = .ref h_read := (SAME.at t83 (by decide) n237)
      have n239 : G103 8 = .ref h_read := (SAME.at i148 (by decide) n238)
      refine get_f (D := D) (ci := 10) (v := .ref h_read) (C := RX10) (T := TX10) (N := 67) hx hb hw inAX10 hown hK hP 5 rfl rfl 8 (by decide) (hw _ q_1269) (fun _ h9 => h9) n239 dX10_sentence_166 ?_
      refine lv_iload_n hx hb dX10_sentence_169 rfl (lv_at hl 0 rfl) ?_
      refine va_iald hx hb hK hP 1 0 rfl rfl (ix_k k226 (by decide) (by decide)) dX10_sentence_170 ?_
      refine lv_topi (fun v240 ev240 => ?_)
      obtain ⟨g241, eg241⟩ : ∃ z : Nat → Int32, upd w207 v228.toNatClampNeg v240 = z := ⟨_, rfl⟩
      have r242 : US bs g241 := by rw [← eg241]; exact US.up i209 (Int.le_trans (by decide) k229.1)
      have r243 : SG 0 0 0 40 g241 := by rw [← eg241]; exact i210.up (Int.le_trans (by decide) k229.1) (Or.inr (Or.inl (dec_lt k229.1 (by decide))))
      have r244 : SG 105 108 0 11 g241 := by rw [← eg241]; exact i211.up (Int.le_trans (by decide) k229.1) (Or.inr (Or.inl (dec_lt k229.1 (by decide))))
      have r245 : SG 114 114 0 5 g241 := by rw [← eg241]; exact i212.up (Int.le_trans (by decide) k229.1) (Or.inr (Or.inl (dec_lt k229.1 (by decide))))
      have r246 : SG 130 133 0 11 g241 := by rw [← eg241]; exact i213.up (Int.le_trans (by decide) k229.1) (Or.inr (Or.inl (dec_lt k229.1 (by decide))))
      have r247 : SG 139 139 0 5 g241 := by rw [← eg241]; exact i214.up (Int.le_trans (by decide) k229.1) (Or.inr (Or.inl (dec_lt k229.1 (by decide))))
      have r248 : SG 153 153 0 44 g241 := by rw [← eg241]; exact i215.up (Int.le_trans (by decide) k229.1) (Or.inr (Or.inl (dec_lt k229.1 (by decide))))
      have r249 : SG 44 55 0 9 g241 := by rw [← eg241]; exact i216.up (Int.le_trans (by decide) k229.1) (Or.inr (Or.inl (dec_lt k229.1 (by decide))))
      have r250 : SG 5 5 0 12 g241 := by rw [← eg241]; exact i217.up (Int.le_trans (by decide) k229.1) (Or.inr (Or.inl (dec_lt k229.1 (by decide))))
      have r251 : SG 6 6 0 12 g241 := by rw [← eg241]; exact i218.up (Int.le_trans (by decide) k229.1) (Or.inr (Or.inl (dec_lt k229.1 (by decide))))
      have r252 : SG 7 7 0 6 g241 := by rw [← eg241]; exact i219.up (Int.le_trans (by decide) k229.1) (Or.inr (Or.inl (dec_lt k229.1 (by decide))))
      refine iast_g hx hb hK hP hD hS 0 0 rfl rfl (ix_k k229 (by decide) (by decide)) eg241 dX10_sentence_171 (fun H locs hP hD hS => ?_)
      have hP : va_P D vwCl [(h_s, .inl (cI, 335, .inl g241)), (h_read, .inl (cI, 135, .inl w101)), (h_names, .inl (cJ, 36, .inr (.inl f_names))), (h_reserved, .inl (cJ, 23, .inr (.inl f_reserved))), (h_stack, .inl (cI, 45, .inl w102)), (h0, .inr (10, vL 67 G103)), (h_tape, .inl (cB, 940, .inl f_tape))] H := hP
      have hD : va_D A [(h_s, .inl (cI, 335, .inl g241)), (h_read, .inl (cI, 135, .inl w101)), (h_names, .inl (cJ, 36, .inr (.inl f_names))), (h_reserved, .inl (cJ, 23, .inr (.inl f_reserved))), (h_stack, .inl (cI, 45, .inl w102)), (h0, .inr (10, vL 67 G103)), (h_tape, .inl (cB, 940, .inl f_tape))] := hD
      obtain ⟨v253, ev253⟩ : ∃ z : Int32, z = u206 + 1 := ⟨_, rfl⟩
      have bv253 : v253.toInt = u206.toInt + 1 := by rw [ev253]; exact add_k rfl rfl k226 ⟨Int.le_refl _, Int.le_refl _⟩ (by decide)
      have k254 : 1 ≤ v253.toInt ∧ v253.toInt ≤ 135 := add_r bv253 k226 ⟨Int.le_refl _, Int.le_refl _⟩ (by decide)
      refine lv_iinc (v := v253) (lv' := [(2, .int v253), (1, .int u100), (0, .ref h0)]) hx hb dX10_sentence_172 hl (k := 0) rfl (by rw [ev253]; rfl) (by decide) rfl (fun ls hl => ?_)
      refine lv_goto (tgt := 146) hx hb dX10_sentence_175 (by decide) ?_
      exact ih_146 (v253, g241) ⟨(ir_wk k254 (by decide) (by decide)), r242, r243, r244, r245, r246, r247, r248, r249, r250, r251, r252, (show (g241 153).toInt = u112.toInt from (u153 i220 eg241 (by omega))), (show CPY g241 154 w101 0 (v253.toInt) from (CPY.step i221 eg241 ev240 (by omega) (by omega) (by omega)))⟩ (by show (135 - v253.toInt).toNat < (135 - u206.toInt).toNat; omega) _ _ _ hP hD hS (lv_sub hl [0, 1, 2] rfl)
  · have dc181 : u100.toInt ≠ 0 := ne_i (a := u100.toInt) (b := 0) rfl rfl c181
    have k255 : 1 ≤ u100.toInt ∧ u100.toInt ≤ 1 := ⟨ne_lo dc181 i147.1 ⟨Int.le_refl _, Int.le_refl _⟩ (by decide), i147.2⟩
    have h256 := i176 (by omega)
    refine lv_aload_n hx hb dX10_sentence_52 rfl (lv_at hl 1 rfl) ?_
    refine get_f (D := D) (ci := 10) (v := .int u116) (C := RX10) (T := TX10) (N := 67) hx hb hw inAX10 hown hK hP 5 rfl rfl 62 (by decide) (hw _ q_1323) (fun _ h9 => h9) i161 dX10_sentence_53 ?_
    refine lv_if_eq (tgt := 101) hx hb dX10_sentence_56 (by decide) (fun c257 => ?_) (fun c257 => ?_)
    · have dc257 : u116.toInt = 0 := eq_i (a := u116.toInt) (b := 0) rfl rfl c257
      have k258 : 0 ≤ u116.toInt ∧ u116.toInt ≤ 0 := ⟨i171.1, Int.le_trans (Int.le_of_eq dc257) (Int.le_refl _)⟩
      refine lv_aload_n hx hb dX10_sentence_101 rfl (lv_at hl 1 rfl) ?_
      refine get_f (D := D) (ci := 10) (v := .int u116) (C := RX10) (T := TX10) (N := 67) hx hb hw inAX10 hown hK hP 5 rfl rfl 62 (by decide) (hw _ q_1323) (fun _ h9 => h9) i161 dX10_sentence_102 ?_
      refine lv_if_eq (tgt := 118) hx hb dX10_sentence_105 (by decide) (fun c259 => ?_) (fun c259 => False.elim (bad_ne (ne_i (a := u116.toInt) (b := 0) rfl rfl c259) k258 ⟨Int.le_refl _, Int.le_refl _⟩ (by decide)))
      have dc259 : u116.toInt = 0 := eq_i (a := u116.toInt) (b := 0) rfl rfl c259
      refine lv_aload_n hx hb dX10_sentence_118 rfl (lv_at hl 1 rfl) ?_
      have n260 : F76 1 = .ref h_tape := (SAME.at t83 (by decide) n24)
      have n261 : G103 1 = .ref h_tape := (SAME.at i148 (by decide) n260)
      have n262 : F76 3 = .int x_length := (SAME.at t83 (by decide) n30)
      have n263 : G103 3 = .int x_length := (SAME.at i148 (by decide) n262)
      have n264 : F76 5 = .int 200 := (SAME.at t83 (by decide) n42)
      have n265 : G103 5 = .int 200 := (SAME.at i148 (by decide) n264)
      have n266 : F1 6 = .ref h_s := (get_ne eF1 (by decide) e_s)
      have n267 : F4 6 = .ref h_s := (SAME.at t5 (by decide) n266)
      have n268 : F11 6 = .ref h_s := (get_ne eF11 (by decide) n267)
      have n269 : F12 6 = .ref h_s := (get_ne eF12 (by decide) n268)
      have n270 : F13 6 = .ref h_s := (get_ne eF13 (by decide) n269)
      have n271 : F14 6 = .ref h_s := (get_ne eF14 (by decide) n270)
      have n272 : F15 6 = .ref h_s := (get_ne eF15 (by decide) n271)
      have n273 : F16 6 = .ref h_s := (get_ne eF16 (by decide) n272)
      have n274 : F76 6 = .ref h_s := (SAME.at t83 (by decide) n273)
      have n275 : G103 6 = .ref h_s := (SAME.at i148 (by decide) n274)
      have n276 : F1 8 = .ref h_read := (get_ne eF1 (by decide) e_read)
      have n277 : F4 8 = .ref h_read := (SAME.at t5 (by decide) n276)
      have n278 : F11 8 = .ref h_read := (get_ne eF11 (by decide) n277)
      have n279 : F12 8 = .ref h_read := (get_ne eF12 (by decide) n278)
      have n280 : F13 8 = .ref h_read := (get_ne eF13 (by decide) n279)
      have n281 : F14 8 = .ref h_read := (get_ne eF14 (by decide) n280)
      have n282 : F15 8 = .ref h_read := (get_ne eF15 (by decide) n281)
      have n283 : F16 8 = .ref h_read := (get_ne eF16 (by decide) n282)
      have n284 : F76 8 = .ref h_read := (SAME.at t83 (by decide) n283)
      have n285 : G103 8 = .ref h_read := (SAME.at i148 (by decide) n284)
      have n286 : F1 9 = .ref h_names := (get_ne eF1 (by decide) e_names)
      have n287 : F4 9 = .ref h_names := (SAME.at t5 (by decide) n286)
      have n288 : F11 9 = .ref h_names := (get_ne eF11 (by decide) n287)
      have n289 : F12 9 = .ref h_names := (get_ne eF12 (by decide) n288)
      have n290 : F13 9 = .ref h_names := (get_ne eF13 (by decide) n289)
      have n291 : F14 9 = .ref h_names := (get_ne eF14 (by decide) n290)
      have n292 : F15 9 = .ref h_names := (get_ne eF15 (by decide) n291)
      have n293 : F16 9 = .ref h_names := (get_ne eF16 (by decide) n292)
      have n294 : F76 9 = .ref h_names := (SAME.at t83 (by decide) n293)
      have n295 : G103 9 = .ref h_names := (SAME.at i148 (by decide) n294)
      have n296 : F1 10 = .ref h_reserved := (get_ne eF1 (by decide) e_reserved)
      have n297 : F4 10 = .ref h_reserved := (SAME.at t5 (by decide) n296)
      have n298 : F11 10 = .ref h_reserved := (get_ne eF11 (by decide) n297)
      have n299 : F12 10 = .ref h_reserved := (get_ne eF12 (by decide) n298)
      have n300 : F13 10 = .ref h_reserved := (get_ne eF13 (by decide) n299)
      have n301 : F14 10 = .ref h_reserved := (get_ne eF14 (by decide) n300)
      have n302 : F15 10 = .ref h_reserved := (get_ne eF15 (by decide) n301)
      have n303 : F16 10 = .ref h_reserved := (get_ne eF16 (by decide) n302)
      have n304 : F76 10 = .ref h_reserved := (SAME.at t83 (by decide) n303)
      have n305 : G103 10 = .ref h_reserved := (SAME.at i148 (by decide) n304)
      have n306 : F1 57 = .ref h_stack := (get_ne eF1 (by decide) e_stack)
      have n307 : F4 57 = .ref h_stack := (SAME.at t5 (by decide) n306)
      have n308 : F11 57 = .ref h_stack := (get_ne eF11 (by decide) n307)
      have n309 : F12 57 = .ref h_stack := (get_ne eF12 (by decide) n308)
      have n310 : F13 57 = .ref h_stack := (get_ne eF13 (by decide) n309)
      have n311 : F14 57 = .ref h_stack := (get_ne eF14 (by decide) n310)
      have n312 : F15 57 = .ref h_stack := (get_ne eF15 (by decide) n311)
      have n313 : F16 57 = .ref h_stack := (get_ne eF16 (by decide) n312)
      have n314 : F76 57 = .ref h_stack := (SAME.at t83 (by decide) n313)
      have n315 : G103 57 = .ref h_stack := (SAME.at i148 (by decide) n314)
      refine call_Vi (wr := []) (As := []) (rest := []) hx hb hml hown hw (m_X10_operand l D cI cJ cB cP cM cZ h0 h_tape h_s h_read h_names h_reserved h_stack G103 x_length u104 200 u105 u106 u107 u108 u109 u110 u111 u112 u113 u114 u115 u116 f_tape f_s w101 f_names f_reserved w102 bs _ n261 n263 i_x_length i149 i162 n265 (show 200 ≤ (200 : Int32).toInt ∧ (200 : Int32).toInt ≤ 940 by decide) n275 n285 n295 n305 i150 i163 i151 i152 i153 i154 i155 i156 n315 i157 i167 i158 i168 i159 i169 i160 i170 i161 (ir_wk k258 (by decide) (by decide)) s_s_K0 s_s_US s_s_0 s_s_105 s_s_114 s_s_130 s_s_139 s_s_153 s_s_44 s_s_5 s_s_6 s_s_7 s_reserved_KR (by omega) (SMI.w i172 (by omega)) i174 h256 z_0 (by omega) (by omega)) wV_X10_472_X10_operand dX10_sentence_119 hK hP hD hS hA [5, 6, 0, 1, 2, 3, 4] [] rfl rfl (by decide) (by decide) (by decide) 0 10 rfl rfl GG.fb hG.at hl.1 rfl (Nat.le_of_ble_eq_true rfl) ⟨(Nat.le_of_ble_eq_true rfl), (Nat.le_of_ble_eq_true rfl)⟩ ⟨(Nat.le_of_ble_eq_true rfl), (Nat.le_of_ble_eq_true rfl)⟩ (fun r316 u H locs hp hP hD hS => ?_)
      rcases hp with hp | hp
      · refine hp.elim (fun F317 h9z0 => h9z0.elim (fun y318 h9z1 => h9z1.elim (fun y319 h9z2 => h9z2.elim (fun y320 h9z3 => h9z3.elim (fun y321 h9z4 => h9z4.elim (fun y322 h9z5 => h9z5.elim (fun y323 h9z6 => h9z6.elim (fun y324 h9z7 => h9z7.elim (fun y325 h9z8 => h9z8.elim (fun y326 h9z9 => h9z9.elim (fun y327 h9z10 => h9z10.elim (fun t328 h9z11 => h9z11.elim (fun t329 h9z12 => h9z12.elim (fun t330 h9z13 => h9z13.elim (fun t331 h9z14 => h9z14.elim (fun t332 h9z15 => h9z15.elim (fun t333 h9z16 => h9z16.elim (fun t334 h9z17 => h9z17.elim (fun t335 h9z18 => h9z18.elim (fun t336 h9z19 => h9z19.elim (fun t337 h9z20 => h9z20.elim (fun t338 h9z21 => h9z21.elim (fun t339 h9z22 => h9z22.elim (fun t340 h9z23 => h9z23.elim (fun t341 h9z24 => h9z24.elim (fun t342 h9z25 => h9z25.elim (fun t343 h9z26 => h9z26.elim (fun t344 h9z27 => h9z27.elim (fun t345 h9z28 => h9z28.elim (fun t346 h9z29 => h9z29.elim (fun t347 h9z30 => h9z30.elim (fun t348 h9z31 => h9z31.elim (fun t349 h9z32 => h9z32.elim (fun heq933 h9z33 => ?_))))))))))))))))))))))))))))))))))
        clear h9z0 h9z1 h9z2 h9z3 h9z4 h9z5 h9z6 h9z7 h9z8 h9z9 h9z10 h9z11 h9z12 h9z13 h9z14 h9z15 h9z16 h9z17 h9z18 h9z19 h9z20 h9z21 h9z22 h9z23 h9z24 h9z25 h9z26 h9z27 h9z28 h9z29 h9z30 h9z31 h9z32
        subst heq933
        subst h9z33
        clear t95 t98
        have hP : va_P D vwCl [(h0, .inr (10, vL 67 F317)), (h_tape, .inl (cB, 940, .inl f_tape)), (h_s, .inl (cI, 335, .inl f_s)), (h_read, .inl (cI, 135, .inl w101)), (h_names, .inl (cJ, 36, .inr (.inl f_names))), (h_reserved, .inl (cJ, 23, .inr (.inl f_reserved))), (h_stack, .inl (cI, 45, .inl w102))] H := hP
        have hD : va_D A [(h0, .inr (10, vL 67 F317)), (h_tape, .inl (cB, 940, .inl f_tape)), (h_s, .inl (cI, 335, .inl f_s)), (h_read, .inl (cI, 135, .inl w101)), (h_names, .inl (cJ, 36, .inr (.inl f_names))), (h_reserved, .inl (cJ, 23, .inr (.inl f_reserved))), (h_stack, .inl (cI, 45, .inl w102))] := hD
        refine W.widen (k := 0) (n := 0) (Nat.le_of_ble_eq_true rfl) (Nat.le_of_ble_eq_true rfl) ?_
        refine lv_if_ne (tgt := 48) hx hb dX10_sentence_122 (by decide) (fun g => absurd (by decide) g) (fun _ => ?_)
        refine lv_iconst (v := (-1)) hx hb dX10_sentence_125 (by decide) ?_
        refine lv_aload_n hx hb dX10_sentence_126 rfl (lv_at hl 1 rfl) ?_
        refine get_f (D := D) (ci := 10) (v := .int y324) (C := RX10) (T := TX10) (N := 67) hx hb hw inAX10 hown hK hP 0 rfl rfl 16 (by decide) (hw _ q_1277) (fun _ h9 => h9) t338 dX10_sentence_127 ?_
        refine lv_isub hx hb dX10_sentence_130 ?_
        refine lv_topi (fun v393 ev393 => ?_)
        have bv393 : v393.toInt = (-1) - y324.toInt := by rw [ev393]; exact sub_k rfl rfl ⟨Int.le_refl _, Int.le_refl _⟩ (ir_any _) (by decide)
        have k394 : (-2147483648) ≤ v393.toInt ∧ v393.toInt ≤ 2147483647 := sub_r bv393 ⟨Int.le_refl _, Int.le_refl _⟩ (ir_any _) (by decide)
        exact ret_i (v := v393) hx hb hr hlocks hS hP hD dX10_sentence_131 rfl (Nat.le_of_ble_eq_true rfl) (Nat.le_of_ble_eq_true rfl) ⟨F317, y318, y319, y320, y321, y322, y323, y324, y325, u112, y326, u114, u115, y327, f_s, w101, w102, (SAME.tr (SAME.tr (SAME.tr (SAME.up eF16 (SAME.up eF15 (SAME.up eF14 (SAME.up eF13 (SAME.up eF12 (SAME.up eF11 (SAME.tr (SAME.up eF1 SAME.rf (by decide)) t5 (by decide)) (by decide)) (by decide)) (by decide)) (by decide)) (by decide)) (by decide)) t83 (by decide)) i148 (by decide)) t328 (by decide)), (SAME.at t328 (by decide) (SAME.at i148 (by decide) (SAME.at t83 (by decide) (get_ne eF16 (by decide) (get_ne eF15 (by decide) (get_ne eF14 (by decide) (get_ne eF13 (by decide) (get_ne eF12 (by decide) (get_ne eF11 (by decide) (SAME.at t5 (by decide) (get_eq eF1))))))))))), (SAME.at t328 (by decide) (SAME.at i148 (by decide) (SAME.at t83 (by decide) (get_ne eF16 (by decide) (get_ne eF15 (by decide) (get_ne eF14 (by decide) (get_ne eF13 (by decide) (get_ne eF12 (by decide) (get_ne eF11 (by decide) t6))))))))), (SAME.at t328 (by decide) n263), t329, t330, (SAME.at t328 (by decide) n265), t331, t332, t333, t334, t335, t336, (ir_wk t337 (by decide) (by decide)), t338, t339, (SAME.at t328 (by decide) i157), i167, t340, t341, (SAME.at t328 (by decide) i159), i169, (SAME.at t328 (by decide) i160), i170, t342, t343, s_s_153, s_s_0, s_s_5, s_s_6, s_s_7, s_s_44, s_s_K0, s_s_105, s_s_114, s_s_130, s_s_139, s_s_US, ⟨_, gos_0 t96 (i175 (by omega) _ (gos_w (by omega) (t347))), sans_l (a := y324.toInt) (by omega) rfl, rfl⟩, (by omega), (by omega), rfl⟩
      · refine hp.elim (fun F350 h9z0 => h9z0.elim (fun y351 h9z1 => h9z1.elim (fun y352 h9z2 => h9z2.elim (fun y353 h9z3 => h9z3.elim (fun y354 h9z4 => h9z4.elim (fun y355 h9z5 => h9z5.elim (fun y356 h9z6 => h9z6.elim (fun y357 h9z7 => h9z7.elim (fun y358 h9z8 => h9z8.elim (fun y359 h9z9 => h9z9.elim (fun y360 h9z10 => h9z10.elim (fun y361 h9z11 => h9z11.elim (fun g362 h9z12 => h9z12.elim (fun g363 h9z13 => h9z13.elim (fun t364 h9z14 => h9z14.elim (fun t365 h9z15 => h9z15.elim (fun t366 h9z16 => h9z16.elim (fun t367 h9z17 => h9z17.elim (fun t368 h9z18 => h9z18.elim (fun t369 h9z19 => h9z19.elim (fun t370 h9z20 => h9z20.elim (fun t371 h9z21 => h9z21.elim (fun t372 h9z22 => h9z22.elim (fun t373 h9z23 => h9z23.elim (fun t374 h9z24 => h9z24.elim (fun t375 h9z25 => h9z25.elim (fun t376 h9z26 => h9z26.elim (fun t377 h9z27 => h9z27.elim (fun t378 h9z28 => h9z28.elim (fun t379 h9z29 => h9z29.elim (fun t380 h9z30 => h9z30.elim (fun t381 h9z31 => h9z31.elim (fun t382 h9z32 => h9z32.elim (fun t383 h9z33 => h9z33.elim (fun t384 h9z34 => h9z34.elim (fun t385 h9z35 => h9z35.elim (fun t386 h9z36 => h9z36.elim (fun t387 h9z37 => h9z37.elim (fun t388 h9z38 => h9z38.elim (fun t389 h9z39 => h9z39.elim (fun t390 h9z40 => h9z40.elim (fun t391 h9z41 => h9z41.elim (fun heq942 h9z42 => ?_)))))))))))))))))))))))))))))))))))))))))))
        clear h9z0 h9z1 h9z2 h9z3 h9z4 h9z5 h9z6 h9z7 h9z8 h9z9 h9z10 h9z11 h9z12 h9z13 h9z14 h9z15 h9z16 h9z17 h9z18 h9z19 h9z20 h9z21 h9z22 h9z23 h9z24 h9z25 h9z26 h9z27 h9z28 h9z29 h9z30 h9z31 h9z32 h9z33 h9z34 h9z35 h9z36 h9z37 h9z38 h9z39 h9z40 h9z41
        subst heq942
        subst h9z42
        clear t95 t98
        have hP : va_P D vwCl [(h0, .inr (10, vL 67 F350)), (h_tape, .inl (cB, 940, .inl f_tape)), (h_s, .inl (cI, 335, .inl f_s)), (h_read, .inl (cI, 135, .inl g362)), (h_names, .inl (cJ, 36, .inr (.inl f_names))), (h_reserved, .inl (cJ, 23, .inr (.inl f_reserved))), (h_stack, .inl (cI, 45, .inl g363))] H := hP
        have hD : va_D A [(h0, .inr (10, vL 67 F350)), (h_tape, .inl (cB, 940, .inl f_tape)), (h_s, .inl (cI, 335, .inl f_s)), (h_read, .inl (cI, 135, .inl g362)), (h_names, .inl (cJ, 36, .inr (.inl f_names))), (h_reserved, .inl (cJ, 23, .inr (.inl f_reserved))), (h_stack, .inl (cI, 45, .inl g363))] := hD
        refine W.widen (k := 0) (n := 0) (Nat.le_of_ble_eq_true rfl) (Nat.le_of_ble_eq_true rfl) ?_
        have zl1 : (1 : Int32).toInt = 1 := by decide
        refine lv_if_ne (tgt := 48) hx hb dX10_sentence_122 (by decide) (fun _ => ?_) (fun g => absurd g (by decide))
        have n395 : F350 15 = .int u109 := (SAME.at t364 (by decide) i154)
        have n396 : F350 16 = .int u110 := (SAME.at t364 (by decide) i155)
        exact ih (u100, g362, g363, F350, y351, y352, y353, y354, y355, u109, u110, y356, y357, y358, y359, y360, y361) ⟨(ir_wk k255 (by decide) (by decide)), (SAME.tr (SAME.tr SAME.rf i148 (by decide)) t364 (by decide)), t365, t367, t369, t371, t373, n395, n396, t374, t375, t377, t379, t381, t383, t366, t368, t370, t372, i166, t376, (ir_wk t378 (by decide) (by decide)), t380, (ir_wk t382 (by decide) (by decide)), t384, (show SMI g362 g363 y357.toInt y359.toInt y361.toInt from (t386 (by omega))), (by show (u100.toInt = 0 → y359.toInt = 0 ∧ y361.toInt = 1); omega), (show (VWF y352.toInt y356.toInt) from (t387 (by omega))), (show (u100.toInt = 1 → ∀ r9 : Sum Flt Int, Gos (tkA f_tape x_length.toInt 200) (nmM f_names 0 (f_s 5).toInt) (abF g363 (y359.toInt : Int).toNat, y361.toInt, y358.toInt, (tkM y352 y353 y355 y356 y351)) r9 → Gos (tkA f_tape x_length.toInt 200) (nmM f_names 0 (f_s 5).toInt) ([], 0, 0, (tkM y78 y79 y81 y82 y77)) r9) from (fun _ r9 g9 => i175 (by omega) r9 (gos_w (by omega) (t388 r9 g9)))), (show (u100.toInt = 1 → SKB g363 y359.toInt y360.toInt) from (fun _ => t389)), (show (u100.toInt = 0 → Gos (tkA f_tape x_length.toInt 200) (nmM f_names 0 (f_s 5).toInt) ([], 0, 0, (tkM y78 y79 y81 y82 y77)) (.inr (y358.toInt))) from (fun q => absurd q (by first | decide | omega))), (by show u109.toInt = 0; omega), (by show (y352.toInt = 2 → 0 ≤ y355.toInt ∧ y355.toInt ≤ 999); omega), (by show y359.toInt + y357.toInt + y361.toInt ≤ 2 * y358.toInt; omega)⟩ (by show (3 * (940 - y351.toInt) + min y352.toInt (4 - y352.toInt) + u100.toInt).toNat < (3 * (940 - u104.toInt) + min u105.toInt (4 - u105.toInt) + u100.toInt).toNat; omega) _ _ _ (hP.sub [2, 3, 4, 5, 6, 0, 1] rfl) (hD.sub [2, 3, 4, 5, 6, 0, 1] (by decide) rfl) hS (lv_sub hl [0, 1] rfl)
    · have dc257 : u116.toInt ≠ 0 := ne_i (a := u116.toInt) (b := 0) rfl rfl c257
      have k397 : 1 ≤ u116.toInt ∧ u116.toInt ≤ 1 := ⟨ne_lo dc257 i171.1 ⟨Int.le_refl _, Int.le_refl _⟩ (by decide), i171.2⟩
      refine lv_aload_n hx hb dX10_sentence_59 rfl (lv_at hl 1 rfl) ?_
      refine get_f (D := D) (ci := 10) (v := .int u105) (C := RX10) (T := TX10) (N := 67) hx hb hw inAX10 hown hK hP 5 rfl rfl 11 (by decide) (hw _ q_1272) (fun _ h9 => h9) i150 dX10_sentence_60 ?_
      refine lv_if_ne (tgt := 101) hx hb dX10_sentence_63 (by decide) (fun c398 => ?_) (fun c398 => ?_)
      · have dc398 : u105.toInt ≠ 0 := ne_i (a := u105.toInt) (b := 0) rfl rfl c398
        have k399 : 1 ≤ u105.toInt ∧ u105.toInt ≤ 4 := ⟨ne_lo dc398 i163.1 ⟨Int.le_refl _, Int.le_refl _⟩ (by decide), i163.2⟩
        refine lv_aload_n hx hb dX10_sentence_101 rfl (lv_at hl 1 rfl) ?_
        refine get_f (D := D) (ci := 10) (v := .int u116) (C := RX10) (T := TX10) (N := 67) hx hb hw inAX10 hown hK hP 5 rfl rfl 62 (by decide) (hw _ q_1323) (fun _ h9 => h9) i161 dX10_sentence_102 ?_
        refine lv_if_eq (tgt := 118) hx hb dX10_sentence_105 (by decide) (fun c400 => False.elim (bad_le (Int.le_of_eq (eq_i (a := u116.toInt) (b := 0) rfl rfl c400)) k397.1 (Int.le_refl _) (by decide))) (fun c400 => ?_)
        have dc400 : u116.toInt ≠ 0 := ne_i (a := u116.toInt) (b := 0) rfl rfl c400
        refine lv_aload_n hx hb dX10_sentence_108 rfl (lv_at hl 1 rfl) ?_
        have n401 : F76 1 = .ref h_tape := (SAME.at t83 (by decide) n24)
        have n402 : G103 1 = .ref h_tape := (SAME.at i148 (by decide) n401)
        have n403 : F76 3 = .int x_length := (SAME.at t83 (by decide) n30)
        have n404 : G103 3 = .int x_length := (SAME.at i148 (by decide) n403)
        have n405 : F76 5 = .int 200 := (SAME.at t83 (by decide) n42)
        have n406 : G103 5 = .int 200 := (SAME.at i148 (by decide) n405)
        have n407 : F1 8 = .ref h_read := (get_ne eF1 (by decide) e_read)
        have n408 : F4 8 = .ref h_read := (SAME.at t5 (by decide) n407)
        have n409 : F11 8 = .ref h_read := (get_ne eF11 (by decide) n408)
        have n410 : F12 8 = .ref h_read := (get_ne eF12 (by decide) n409)
        have n411 : F13 8 = .ref h_read := (get_ne eF13 (by decide) n410)
        have n412 : F14 8 = .ref h_read := (get_ne eF14 (by decide) n411)
        have n413 : F15 8 = .ref h_read := (get_ne eF15 (by decide) n412)
        have n414 : F16 8 = .ref h_read := (get_ne eF16 (by decide) n413)
        have n415 : F76 8 = .ref h_read := (SAME.at t83 (by decide) n414)
        have n416 : G103 8 = .ref h_read := (SAME.at i148 (by decide) n415)
        have n417 : F1 57 = .ref h_stack := (get_ne eF1 (by decide) e_stack)
        have n418 : F4 57 = .ref h_stack := (SAME.at t5 (by decide) n417)
        have n419 : F11 57 = .ref h_stack := (get_ne eF11 (by decide) n418)
        have n420 : F12 57 = .ref h_stack := (get_ne eF12 (by decide) n419)
        have n421 : F13 57 = .ref h_stack := (get_ne eF13 (by decide) n420)
        have n422 : F14 57 = .ref h_stack := (get_ne eF14 (by decide) n421)
        have n423 : F15 57 = .ref h_stack := (get_ne eF15 (by decide) n422)
        have n424 : F16 57 = .ref h_stack := (get_ne eF16 (by decide) n423)
        have n425 : F76 57 = .ref h_stack := (SAME.at t83 (by decide) n424)
        have n426 : G103 57 = .ref h_stack := (SAME.at i148 (by decide) n425)
        refine call_Vi (wr := [(h_s, .inl (cI, 335, .inl f_s)), (h_names, .inl (cJ, 36, .inr (.inl f_names))), (h_reserved, .inl (cJ, 23, .inr (.inl f_reserved)))]) (As := []) (rest := []) hx hb hml hown hw (m_X10_behind_ l D cI cJ cB cP cM cZ h0 h_tape h_read h_stack G103 x_length u104 200 u105 u106 u108 u109 u110 u111 u112 u113 u114 u115 u116 f_tape w101 w102 _ n402 n404 i_x_length i149 i162 n406 (show 200 ≤ (200 : Int32).toInt ∧ (200 : Int32).toInt ≤ 940 by decide) n416 i150 (ir_wk k399 (by decide) (by decide)) i151 i153 i154 i155 i156 n426 i157 i167 i158 i168 i159 i169 i160 i170 i161 (ir_wk k397 (by decide) (by decide)) (by omega) (SMI.w i172 (by omega)) i174 h256 (by omega) (by omega) (by omega)) wV_X10_469_X10_behind_ dX10_sentence_109 hK hP hD hS hA [5, 6, 1, 4] [0, 2, 3] rfl rfl (by decide) (by decide) (by decide) 0 10 rfl rfl GG.fb hG.at hl.1 rfl (Nat.le_of_ble_eq_true rfl) ⟨(Nat.le_of_ble_eq_true rfl), (Nat.le_of_ble_eq_true rfl)⟩ ⟨(Nat.le_of_ble_eq_true rfl), (Nat.le_of_ble_eq_true rfl)⟩ (fun r427 u H locs hp hP hD hS => ?_)
        rcases hp with hp | hp
        · refine hp.elim (fun F428 h9z0 => h9z0.elim (fun y429 h9z1 => h9z1.elim (fun y430 h9z2 => h9z2.elim (fun y431 h9z3 => h9z3.elim (fun y432 h9z4 => h9z4.elim (fun y433 h9z5 => h9z5.elim (fun y434 h9z6 => h9z6.elim (fun y435 h9z7 => h9z7.elim (fun y436 h9z8 => h9z8.elim (fun y437 h9z9 => h9z9.elim (fun y438 h9z10 => h9z10.elim (fun g439 h9z11 => h9z11.elim (fun g440 h9z12 => h9z12.elim (fun t441 h9z13 => h9z13.elim (fun t442 h9z14 => h9z14.elim (fun t443 h9z15 => h9z15.elim (fun t444 h9z16 => h9z16.elim (fun t445 h9z17 => h9z17.elim (fun t446 h9z18 => h9z18.elim (fun t447 h9z19 => h9z19.elim (fun t448 h9z20 => h9z20.elim (fun t449 h9z21 => h9z21.elim (fun t450 h9z22 => h9z22.elim (fun t451 h9z23 => h9z23.elim (fun t452 h9z24 => h9z24.elim (fun t453 h9z25 => h9z25.elim (fun t454 h9z26 => h9z26.elim (fun t455 h9z27 => h9z27.elim (fun t456 h9z28 => h9z28.elim (fun t457 h9z29 => h9z29.elim (fun t458 h9z30 => h9z30.elim (fun t459 h9z31 => h9z31.elim (fun t460 h9z32 => h9z32.elim (fun t461 h9z33 => h9z33.elim (fun t462 h9z34 => h9z34.elim (fun t463 h9z35 => h9z35.elim (fun t464 h9z36 => h9z36.elim (fun t465 h9z37 => h9z37.elim (fun t466 h9z38 => h9z38.elim (fun heq939 h9z39 => ?_))))))))))))))))))))))))))))))))))))))))
          clear h9z0 h9z1 h9z2 h9z3 h9z4 h9z5 h9z6 h9z7 h9z8 h9z9 h9z10 h9z11 h9z12 h9z13 h9z14 h9z15 h9z16 h9z17 h9z18 h9z19 h9z20 h9z21 h9z22 h9z23 h9z24 h9z25 h9z26 h9z27 h9z28 h9z29 h9z30 h9z31 h9z32 h9z33 h9z34 h9z35 h9z36 h9z37 h9z38
          subst heq939
          subst h9z39
          clear t95 t98
          have hP : va_P D vwCl [(h_s, .inl (cI, 335, .inl f_s)), (h_names, .inl (cJ, 36, .inr (.inl f_names))), (h_reserved, .inl (cJ, 23, .inr (.inl f_reserved))), (h0, .inr (10, vL 67 F428)), (h_tape, .inl (cB, 940, .inl f_tape)), (h_read, .inl (cI, 135, .inl g439)), (h_stack, .inl (cI, 45, .inl g440))] H := hP
          have hD : va_D A [(h_s, .inl (cI, 335, .inl f_s)), (h_names, .inl (cJ, 36, .inr (.inl f_names))), (h_reserved, .inl (cJ, 23, .inr (.inl f_reserved))), (h0, .inr (10, vL 67 F428)), (h_tape, .inl (cB, 940, .inl f_tape)), (h_read, .inl (cI, 135, .inl g439)), (h_stack, .inl (cI, 45, .inl g440))] := hD
          refine W.widen (k := 0) (n := 0) (Nat.le_of_ble_eq_true rfl) (Nat.le_of_ble_eq_true rfl) ?_
          have zl1 : (1 : Int32).toInt = 1 := by decide
          refine lv_if_ne (tgt := 48) hx hb dX10_sentence_112 (by decide) (fun _ => ?_) (fun g => absurd g (by decide))
          have n491 : F428 15 = .int u109 := (SAME.at t441 (by decide) i154)
          have n492 : F428 16 = .int u110 := (SAME.at t441 (by decide) i155)
          have n493 : F428 59 = .int u113 := (SAME.at t441 (by decide) i158)
          exact ih (u100, g439, g440, F428, y429, y430, y431, y432, y433, u109, u110, y434, y435, u113, y436, y437, y438) ⟨(ir_wk k255 (by decide) (by decide)), (SAME.tr (SAME.tr SAME.rf i148 (by decide)) t441 (by decide)), t442, t444, t446, t448, t450, n491, n492, t451, t452, n493, t454, t456, t458, t443, t445, t447, t449, i166, t453, i168, t455, t457, t459, (show SMI g439 g440 y435.toInt y436.toInt y438.toInt from (t461 (by omega))), (by show (u100.toInt = 0 → y436.toInt = 0 ∧ y438.toInt = 1); omega), (show (VWF y430.toInt y434.toInt) from (t462 (by omega))), (show (u100.toInt = 1 → ∀ r9 : Sum Flt Int, Gos (tkA f_tape x_length.toInt 200) (nmM f_names 0 (f_s 5).toInt) (abF g440 (y436.toInt : Int).toNat, y438.toInt, u113.toInt, (tkM y430 y431 y433 y434 y429)) r9 → Gos (tkA f_tape x_length.toInt 200) (nmM f_names 0 (f_s 5).toInt) ([], 0, 0, (tkM y78 y79 y81 y82 y77)) r9) from (fun _ r9 g9 => i175 (by omega) r9 (gos_w (by omega) (t463 _ r9 g9)))), (show (u100.toInt = 1 → SKB g440 y436.toInt y437.toInt) from (fun _ => t464)), (show (u100.toInt = 0 → Gos (tkA f_tape x_length.toInt 200) (nmM f_names 0 (f_s 5).toInt) ([], 0, 0, (tkM y78 y79 y81 y82 y77)) (.inr (u113.toInt))) from (fun q => absurd q (by first | decide | omega))), (by show u109.toInt = 0; omega), (by show (y430.toInt = 2 → 0 ≤ y433.toInt ∧ y433.toInt ≤ 999); omega), (by show y436.toInt + y435.toInt + y438.toInt ≤ 2 * u113.toInt; omega)⟩ (by show (3 * (940 - y429.toInt) + min y430.toInt (4 - y430.toInt) + u100.toInt).toNat < (3 * (940 - u104.toInt) + min u105.toInt (4 - u105.toInt) + u100.toInt).toNat; omega) _ _ _ (hP.sub [0, 5, 1, 2, 6, 3, 4] rfl) (hD.sub [0, 5, 1, 2, 6, 3, 4] (by decide) rfl) hS (lv_sub hl [0, 1] rfl)
        · refine hp.elim (fun F467 h9z0 => h9z0.elim (fun y468 h9z1 => h9z1.elim (fun y469 h9z2 => h9z2.elim (fun y470 h9z3 => h9z3.elim (fun y471 h9z4 => h9z4.elim (fun y472 h9z5 => h9z5.elim (fun g473 h9z6 => h9z6.elim (fun t474 h9z7 => h9z7.elim (fun t475 h9z8 => h9z8.elim (fun t476 h9z9 => h9z9.elim (fun t477 h9z10 => h9z10.elim (fun t478 h9z11 => h9z11.elim (fun t479 h9z12 => h9z12.elim (fun t480 h9z13 => h9z13.elim (fun t481 h9z14 => h9z14.elim (fun t482 h9z15 => h9z15.elim (fun t483 h9z16 => h9z16.elim (fun t484 h9z17 => h9z17.elim (fun t485 h9z18 => h9z18.elim (fun t486 h9z19 => h9z19.elim (fun t487 h9z20 => h9z20.elim (fun t488 h9z21 => h9z21.elim (fun t489 h9z22 => h9z22.elim (fun heq923 h9z23 => ?_))))))))))))))))))))))))
          clear h9z0 h9z1 h9z2 h9z3 h9z4 h9z5 h9z6 h9z7 h9z8 h9z9 h9z10 h9z11 h9z12 h9z13 h9z14 h9z15 h9z16 h9z17 h9z18 h9z19 h9z20 h9z21 h9z22
          subst heq923
          subst h9z23
          have hP : va_P D vwCl [(h_s, .inl (cI, 335, .inl f_s)), (h_names, .inl (cJ, 36, .inr (.inl f_names))), (h_reserved, .inl (cJ, 23, .inr (.inl f_reserved))), (h0, .inr (10, vL 67 F467)), (h_tape, .inl (cB, 940, .inl f_tape)), (h_read, .inl (cI, 135, .inl g473)), (h_stack, .inl (cI, 45, .inl w102))] H := hP
          have hD : va_D A [(h_s, .inl (cI, 335, .inl f_s)), (h_names, .inl (cJ, 36, .inr (.inl f_names))), (h_reserved, .inl (cJ, 23, .inr (.inl f_reserved))), (h0, .inr (10, vL 67 F467)), (h_tape, .inl (cB, 940, .inl f_tape)), (h_read, .inl (cI, 135, .inl g473)), (h_stack, .inl (cI, 45, .inl w102))] := hD
          refine W.widen (k := 0) (n := 0) (Nat.le_of_ble_eq_true rfl) (Nat.le_of_ble_eq_true rfl) ?_
          refine lv_if_ne (tgt := 48) hx hb dX10_sentence_112 (by decide) (fun g => absurd (by decide) g) (fun _ => ?_)
          refine lv_goto (tgt := 125) hx hb dX10_sentence_115 (by decide) ?_
          refine lv_iconst (v := (-1)) hx hb dX10_sentence_125 (by decide) ?_
          refine lv_aload_n hx hb dX10_sentence_126 rfl (lv_at hl 1 rfl) ?_
          refine get_f (D := D) (ci := 10) (v := .int y469) (C := RX10) (T := TX10) (N := 67) hx hb hw inAX10 hown hK hP 3 rfl rfl 16 (by decide) (hw _ q_1277) (fun _ h9 => h9) t477 dX10_sentence_127 ?_
          refine lv_isub hx hb dX10_sentence_130 ?_
          refine lv_topi (fun v494 ev494 => ?_)
          have bv494 : v494.toInt = (-1) - y469.toInt := by rw [ev494]; exact sub_k rfl rfl ⟨Int.le_refl _, Int.le_refl _⟩ (ir_any _) (by decide)
          have k495 : (-2147483648) ≤ v494.toInt ∧ v494.toInt ≤ 2147483647 := sub_r bv494 ⟨Int.le_refl _, Int.le_refl _⟩ (ir_any _) (by decide)
          exact ret_i (v := v494) hx hb hr hlocks hS (hP.sub (ws' := [(h0, .inr (10, vL 67 F467)), (h_tape, .inl (cB, 940, .inl f_tape)), (h_s, .inl (cI, 335, .inl f_s)), (h_read, .inl (cI, 135, .inl g473)), (h_names, .inl (cJ, 36, .inr (.inl f_names))), (h_reserved, .inl (cJ, 23, .inr (.inl f_reserved))), (h_stack, .inl (cI, 45, .inl w102))]) [3, 4, 0, 5, 1, 2, 6] rfl) (hD.sub (ws' := [(h0, .inr (10, vL 67 F467)), (h_tape, .inl (cB, 940, .inl f_tape)), (h_s, .inl (cI, 335, .inl f_s)), (h_read, .inl (cI, 135, .inl g473)), (h_names, .inl (cJ, 36, .inr (.inl f_names))), (h_reserved, .inl (cJ, 23, .inr (.inl f_reserved))), (h_stack, .inl (cI, 45, .inl w102))]) [3, 4, 0, 5, 1, 2, 6] (by decide) rfl) dX10_sentence_131 rfl (Nat.le_of_ble_eq_true rfl) (Nat.le_of_ble_eq_true rfl) ⟨F467, u104, u105, u106, u107, u108, y468, y469, u111, y470, u113, y471, y472, u116, f_s, g473, w102, (SAME.tr (SAME.tr (SAME.tr (SAME.up eF16 (SAME.up eF15 (SAME.up eF14 (SAME.up eF13 (SAME.up eF12 (SAME.up eF11 (SAME.tr (SAME.up eF1 SAME.rf (by decide)) t5 (by decide)) (by decide)) (by decide)) (by decide)) (by decide)) (by decide)) (by decide)) t83 (by decide)) i148 (by decide)) t474 (by decide)), (SAME.at t474 (by decide) (SAME.at i148 (by decide) (SAME.at t83 (by decide) (get_ne eF16 (by decide) (get_ne eF15 (by decide) (get_ne eF14 (by decide) (get_ne eF13 (by decide) (get_ne eF12 (by decide) (get_ne eF11 (by decide) (SAME.at t5 (by decide) (get_eq eF1))))))))))), (SAME.at t474 (by decide) (SAME.at i148 (by decide) (SAME.at t83 (by decide) (get_ne eF16 (by decide) (get_ne eF15 (by decide) (get_ne eF14 (by decide) (get_ne eF13 (by decide) (get_ne eF12 (by decide) (get_ne eF11 (by decide) t6))))))))), (SAME.at t474 (by decide) n404), (SAME.at t474 (by decide) i149), i162, (SAME.at t474 (by decide) n406), (SAME.at t474 (by decide) i150), (ir_wk k399 (by decide) (by decide)), (SAME.at t474 (by decide) i151), (SAME.at t474 (by decide) i152), (SAME.at t474 (by decide) i153), t475, (ir_wk t476 (by decide) (by decide)), t477, (SAME.at t474 (by decide) i156), t478, t479, (SAME.at t474 (by decide) i158), i168, t480, t481, t482, t483, (SAME.at t474 (by decide) i161), (ir_wk k397 (by decide) (by decide)), s_s_153, s_s_0, s_s_5, s_s_6, s_s_7, s_s_44, s_s_K0, s_s_105, s_s_114, s_s_130, s_s_139, s_s_US, ⟨_, gos_0 t96 (i175 (by omega) _ (gos_w (by omega) (t487 _))), sans_l (a := y469.toInt) (by omega) rfl, rfl⟩, (by omega), (by omega), rfl⟩
      · have dc398 : u105.toInt = 0 := eq_i (a := u105.toInt) (b := 0) rfl rfl c398
        have k496 : 0 ≤ u105.toInt ∧ u105.toInt ≤ 0 := ⟨i163.1, Int.le_trans (Int.le_of_eq dc398) (Int.le_refl _)⟩
        refine lv_aload_n hx hb dX10_sentence_66 rfl (lv_at hl 1 rfl) ?_
        have n497 : F1 8 = .ref h_read := (get_ne eF1 (by decide) e_read)
        have n498 : F4 8 = .ref h_read := (SAME.at t5 (by decide) n497)
        have n499 : F11 8 = .ref h_read := (get_ne eF11 (by decide) n498)
        have n500 : F12 8 = .ref h_read := (get_ne eF12 (by decide) n499)
        have n501 : F13 8 = .ref h_read := (get_ne eF13 (by decide) n500)
        have n502 : F14 8 = .ref h_read := (get_ne eF14 (by decide) n501)
        have n503 : F15 8 = .ref h_read := (get_ne eF15 (by decide) n502)
        have n504 : F16 8 = .ref h_read := (get_ne eF16 (by decide) n503)
        have n505 : F76 8 = .ref h_read := (SAME.at t83 (by decide) n504)
        have n506 : G103 8 = .ref h_read := (SAME.at i148 (by decide) n505)
        have n507 : F1 57 = .ref h_stack := (get_ne eF1 (by decide) e_stack)
        have n508 : F4 57 = .ref h_stack := (SAME.at t5 (by decide) n507)
        have n509 : F11 57 = .ref h_stack := (get_ne eF11 (by decide) n508)
        have n510 : F12 57 = .ref h_stack := (get_ne eF12 (by decide) n509)
        have n511 : F13 57 = .ref h_stack := (get_ne eF13 (by decide) n510)
        have n512 : F14 57 = .ref h_stack := (get_ne eF14 (by decide) n511)
        have n513 : F15 57 = .ref h_stack := (get_ne eF15 (by decide) n512)
        have n514 : F16 57 = .ref h_stack := (get_ne eF16 (by decide) n513)
        have n515 : F76 57 = .ref h_stack := (SAME.at t83 (by decide) n514)
        have n516 : G103 57 = .ref h_stack := (SAME.at i148 (by decide) n515)
        refine call_Vv (wr := [(h_s, .inl (cI, 335, .inl f_s)), (h_names, .inl (cJ, 36, .inr (.inl f_names))), (h_reserved, .inl (cJ, 23, .inr (.inl f_reserved))), (h_tape, .inl (cB, 940, .inl f_tape))]) (As := []) (rest := []) hx hb hml hown hw (m_X10_nots l D cI cJ cB cP cM cZ h0 h_read h_stack G103 u112 u113 u114 u115 u116 w101 w102 _ n506 n516 i157 i167 i158 i168 i159 i169 i160 i170 i161 (ir_wk k397 (by decide) (by decide)) (by omega) (SMI.w i172 (by omega)) h256 (by omega)) wV_X10_463_X10_nots dX10_sentence_67 hK hP hD hS hA [5, 1, 4] [0, 2, 3, 6] rfl rfl (by decide) (by decide) (by decide) 0 10 rfl rfl GG.fb hG.at hl.1 rfl (Nat.le_of_ble_eq_true rfl) ⟨(Nat.le_of_ble_eq_true rfl), (Nat.le_of_ble_eq_true rfl)⟩ ⟨(Nat.le_of_ble_eq_true rfl), (Nat.le_of_ble_eq_true rfl)⟩ (fun u H locs hp hP hD hS => ?_)
        obtain ⟨F518, y519, y520, y521, g522, t523, t524, t525, t526, t527, t528, t529, t530, t531, t532, t533, rfl⟩ := hp
        have hP : va_P D vwCl [(h_s, .inl (cI, 335, .inl f_s)), (h_names, .inl (cJ, 36, .inr (.inl f_names))), (h_reserved, .inl (cJ, 23, .inr (.inl f_reserved))), (h_tape, .inl (cB, 940, .inl f_tape)), (h0, .inr (10, vL 67 F518)), (h_read, .inl (cI, 135, .inl g522)), (h_stack, .inl (cI, 45, .inl w102))] H := hP
        have hD : va_D A [(h_s, .inl (cI, 335, .inl f_s)), (h_names, .inl (cJ, 36, .inr (.inl f_names))), (h_reserved, .inl (cJ, 23, .inr (.inl f_reserved))), (h_tape, .inl (cB, 940, .inl f_tape)), (h0, .inr (10, vL 67 F518)), (h_read, .inl (cI, 135, .inl g522)), (h_stack, .inl (cI, 45, .inl w102))] := hD
        refine W.widen (k := 0) (n := 0) (Nat.le_of_ble_eq_true rfl) (Nat.le_of_ble_eq_true rfl) ?_
        refine lv_aload_n hx hb dX10_sentence_70 rfl (lv_at hl 1 rfl) ?_
        refine lv_bipush (v := 22) hx hb dX10_sentence_71 (by decide) ?_
        have n535 : F518 8 = .ref h_read := (SAME.at t523 (by decide) n506)
        have n536 : F518 57 = .ref h_stack := (SAME.at t523 (by decide) n516)
        have n537 : F518 59 = .int u113 := (SAME.at t523 (by decide) i158)
        have n538 : F518 62 = .int u116 := (SAME.at t523 (by decide) i161)
        refine call_Vv (wr := [(h_s, .inl (cI, 335, .inl f_s)), (h_names, .inl (cJ, 36, .inr (.inl f_names))), (h_reserved, .inl (cJ, 23, .inr (.inl f_reserved))), (h_tape, .inl (cB, 940, .inl f_tape))]) (As := [.int 22]) (rest := []) hx hb hml hown hw (m_X10_joins l D cI cJ cB cP cM cZ h0 h_read h_stack F518 y519 u113 y520 y521 u116 g522 w102 22 _ n535 n536 t524 t525 n537 i168 t526 t527 t528 t529 n538 (ir_wk k397 (by decide) (by decide)) (by omega) (SMI.w t530 (by omega)) t531.1 t532 (by omega)) wV_X10_466_X10_joins dX10_sentence_73 hK hP hD hS hA [4, 5, 6] [0, 1, 2, 3] rfl rfl (by decide) (by decide) (by decide) 0 10 rfl rfl GG.fb hG.at hl.1 rfl (Nat.le_of_ble_eq_true rfl) ⟨(Nat.le_of_ble_eq_true rfl), (Nat.le_of_ble_eq_true rfl)⟩ ⟨(Nat.le_of_ble_eq_true rfl), (Nat.le_of_ble_eq_true rfl)⟩ (fun u H locs hp hP hD hS => ?_)
        have zl22 : (22 : Int32).toInt = 22 := by decide
        obtain ⟨F540, y541, y542, g543, t544, t545, t546, t547, t548, t549, t550, t551, t552, t553, rfl⟩ := hp
        have hP : va_P D vwCl [(h_s, .inl (cI, 335, .inl f_s)), (h_names, .inl (cJ, 36, .inr (.inl f_names))), (h_reserved, .inl (cJ, 23, .inr (.inl f_reserved))), (h_tape, .inl (cB, 940, .inl f_tape)), (h0, .inr (10, vL 67 F540)), (h_read, .inl (cI, 135, .inl g543)), (h_stack, .inl (cI, 45, .inl w102))] H := hP
        have hD : va_D A [(h_s, .inl (cI, 335, .inl f_s)), (h_names, .inl (cJ, 36, .inr (.inl f_names))), (h_reserved, .inl (cJ, 23, .inr (.inl f_reserved))), (h_tape, .inl (cB, 940, .inl f_tape)), (h0, .inr (10, vL 67 F540)), (h_read, .inl (cI, 135, .inl g543)), (h_stack, .inl (cI, 45, .inl w102))] := hD
        refine W.widen (k := 0) (n := 0) (Nat.le_of_ble_eq_true rfl) (Nat.le_of_ble_eq_true rfl) ?_
        refine lv_aload_n hx hb dX10_sentence_76 rfl (lv_at hl 1 rfl) ?_
        refine get_f (D := D) (ci := 10) (v := .int y542) (C := RX10) (T := TX10) (N := 67) hx hb hw inAX10 hown hK hP 4 rfl rfl 60 (by decide) (hw _ q_1321) (fun _ h9 => h9) t547 dX10_sentence_77 ?_
        refine lv_if_le (tgt := 96) hx hb dX10_sentence_80 (by decide) (fun c555 => ?_) (fun c555 => ?_)
        · have dc555 : y542.toInt ≤ 0 := le_i (a := y542.toInt) (b := 0) rfl rfl c555
          have k556 : 0 ≤ y542.toInt ∧ y542.toInt ≤ 0 := ⟨t548.1, Int.le_trans dc555 (Int.le_refl _)⟩
          refine lv_iconst (v := 0) hx hb dX10_sentence_96 (by decide) ?_
          refine lv_istore_n (lv' := [(1, .int 0), (0, .ref h0)]) hx hb dX10_sentence_97 rfl hl (by decide) rfl (fun ls hl => ?_)
          refine lv_goto (tgt := 48) hx hb dX10_sentence_98 (by decide) ?_
          have n557 : F518 4 = .int u104 := (SAME.at t523 (by decide) i149)
          have n558 : F540 4 = .int u104 := (SAME.at t544 (by decide) n557)
          have n559 : F518 11 = .int u105 := (SAME.at t523 (by decide) i150)
          have n560 : F540 11 = .int u105 := (SAME.at t544 (by decide) n559)
          have n561 : F518 12 = .int u106 := (SAME.at t523 (by decide) i151)
          have n562 : F540 12 = .int u106 := (SAME.at t544 (by decide) n561)
          have n563 : F518 13 = .int u107 := (SAME.at t523 (by decide) i152)
          have n564 : F540 13 = .int u107 := (SAME.at t544 (by decide) n563)
          have n565 : F518 14 = .int u108 := (SAME.at t523 (by decide) i153)
          have n566 : F540 14 = .int u108 := (SAME.at t544 (by decide) n565)
          have n567 : F518 15 = .int u109 := (SAME.at t523 (by decide) i154)
          have n568 : F540 15 = .int u109 := (SAME.at t544 (by decide) n567)
          have n569 : F518 16 = .int u110 := (SAME.at t523 (by decide) i155)
          have n570 : F540 16 = .int u110 := (SAME.at t544 (by decide) n569)
          have n571 : F518 18 = .long u111 := (SAME.at t523 (by decide) i156)
          have n572 : F540 18 = .long u111 := (SAME.at t544 (by decide) n571)
          have n573 : F540 59 = .int u113 := (SAME.at t544 (by decide) n537)
          have n574 : F540 61 = .int y521 := (SAME.at t544 (by decide) t528)
          have n575 : F540 62 = .int u116 := (SAME.at t544 (by decide) n538)
          exact ih (0, g543, w102, F540, u104, u105, u106, u107, u108, u109, u110, u111, y541, u113, y542, y521, u116) ⟨(show 0 ≤ (0 : Int32).toInt ∧ (0 : Int32).toInt ≤ 1 by decide), (SAME.tr (SAME.tr (SAME.tr SAME.rf i148 (by decide)) t523 (by decide)) t544 (by decide)), n558, n560, n562, n564, n566, n568, n570, n572, t545, n573, t547, n574, n575, i162, (ir_wk k496 (by decide) (by decide)), i164, i165, i166, t546, i168, (ir_wk k556 (by decide) (by decide)), t529, (ir_wk k397 (by decide) (by decide)), (show SMI g543 w102 y541.toInt y542.toInt u116.toInt from (SMI.w t549 (by omega))), (by show (0 = 0 → y542.toInt = 0 ∧ u116.toInt = 1); omega), (show (VWF u105.toInt u111.toInt) from i174), (show (0 = 1 → ∀ r9 : Sum Flt Int, Gos (tkA f_tape x_length.toInt 200) (nmM f_names 0 (f_s 5).toInt) (abF w102 (y542.toInt : Int).toNat, u116.toInt, u113.toInt, (tkM u105 u106 u108 u111 u104)) r9 → Gos (tkA f_tape x_length.toInt 200) (nmM f_names 0 (f_s 5).toInt) ([], 0, 0, (tkM y78 y79 y81 y82 y77)) r9) from (fun q => absurd q (by first | decide | omega))), (show (0 = 1 → SKB w102 y542.toInt y521.toInt) from (fun q => absurd q (by first | decide | omega))), (show (0 = 0 → Gos (tkA f_tape x_length.toInt 200) (nmM f_names 0 (f_s 5).toInt) ([], 0, 0, (tkM y78 y79 y81 y82 y77)) (.inr (u113.toInt))) from (fun _ => i175 (by omega) _ (gos_w (by omega) (gq_en (show u105.toInt = 0 by omega) (nj_0 t531 t532 t551 (by omega)))))), (by show u109.toInt = 0; omega), (by show (u105.toInt = 2 → 0 ≤ u108.toInt ∧ u108.toInt ≤ 999); omega), (by show y542.toInt + y541.toInt + u116.toInt ≤ 2 * u113.toInt; omega)⟩ (by show (3 * (940 - u104.toInt) + min u105.toInt (4 - u105.toInt) + 0).toNat < (3 * (940 - u104.toInt) + min u105.toInt (4 - u105.toInt) + u100.toInt).toNat; omega) _ _ _ (hP.sub [0, 5, 1, 2, 6, 4, 3] rfl) (hD.sub [0, 5, 1, 2, 6, 4, 3] (by decide) rfl) hS (lv_sub hl [0, 1] rfl)
        · have dc555 : 0 < y542.toInt := nle_i (a := y542.toInt) (b := 0) rfl rfl c555
          have k576 : 1 ≤ y542.toInt ∧ y542.toInt ≤ 45 := ⟨lo_lt dc555 (Int.le_refl _) (by decide), t548.2⟩
          refine lv_aload_n hx hb dX10_sentence_83 rfl (lv_at hl 1 rfl) ?_
          refine lv_iconst (v := 1) hx hb dX10_sentence_84 (by decide) ?_
          have n577 : F518 12 = .int u106 := (SAME.at t523 (by decide) i151)
          have n578 : F540 12 = .int u106 := (SAME.at t544 (by decide) n577)
          refine call_Vi (wr := [(h_s, .inl (cI, 335, .inl f_s)), (h_names, .inl (cJ, 36, .inr (.inl f_names))), (h_reserved, .inl (cJ, 23, .inr (.inl f_reserved))), (h_tape, .inl (cB, 940, .inl f_tape)), (h_read, .inl (cI, 135, .inl g543)), (h_stack, .inl (cI, 45, .inl w102))]) (As := [.int 1]) (rest := []) hx hb hml hown hw (m_X10_bad l D cI cJ cB cP cM cZ h0 F540 u106 1 _ n578) wV_X10_205_X10_bad dX10_sentence_85 hK hP hD hS hA [4] [0, 1, 2, 3, 5, 6] rfl rfl (by decide) (by decide) (by decide) 0 10 rfl rfl GG.fb hG.at hl.1 rfl (Nat.le_of_ble_eq_true rfl) ⟨(Nat.le_of_ble_eq_true rfl), (Nat.le_of_ble_eq_true rfl)⟩ ⟨(Nat.le_of_ble_eq_true rfl), (Nat.le_of_ble_eq_true rfl)⟩ (fun r579 u H locs hp hP hD hS => ?_)
          have zl1 : (1 : Int32).toInt = 1 := by decide
          obtain ⟨F580, t581, t582, t583, rfl, rfl⟩ := hp
          have hP : va_P D vwCl [(h_s, .inl (cI, 335, .inl f_s)), (h_names, .inl (cJ, 36, .inr (.inl f_names))), (h_reserved, .inl (cJ, 23, .inr (.inl f_reserved))), (h_tape, .inl (cB, 940, .inl f_tape)), (h_read, .inl (cI, 135, .inl g543)), (h_stack, .inl (cI, 45, .inl w102)), (h0, .inr (10, vL 67 F580))] H := hP
          have hD : va_D A [(h_s, .inl (cI, 335, .inl f_s)), (h_names, .inl (cJ, 36, .inr (.inl f_names))), (h_reserved, .inl (cJ, 23, .inr (.inl f_reserved))), (h_tape, .inl (cB, 940, .inl f_tape)), (h_read, .inl (cI, 135, .inl g543)), (h_stack, .inl (cI, 45, .inl w102)), (h0, .inr (10, vL 67 F580))] := hD
          refine W.widen (k := 0) (n := 0) (Nat.le_of_ble_eq_true rfl) (Nat.le_of_ble_eq_true rfl) ?_
          refine lv_pop hx hb dX10_sentence_88 rfl ?_
          refine lv_iconst (v := (-1)) hx hb dX10_sentence_89 (by decide) ?_
          refine lv_aload_n hx hb dX10_sentence_90 rfl (lv_at hl 1 rfl) ?_
          refine get_f (D := D) (ci := 10) (v := .int u106) (C := RX10) (T := TX10) (N := 67) hx hb hw inAX10 hown hK hP 6 rfl rfl 16 (by decide) (hw _ q_1277) (fun _ h9 => h9) t583 dX10_sentence_91 ?_
          refine lv_isub hx hb dX10_sentence_94 ?_
          refine lv_topi (fun v585 ev585 => ?_)
          have bv585 : v585.toInt = (-1) - u106.toInt := by rw [ev585]; exact sub_k rfl rfl ⟨Int.le_refl _, Int.le_refl _⟩ i164 (by decide)
          have k586 : (-941) ≤ v585.toInt ∧ v585.toInt ≤ (-1) := sub_r bv585 ⟨Int.le_refl _, Int.le_refl _⟩ i164 (by decide)
          exact ret_i (v := v585) hx hb hr hlocks hS (hP.sub (ws' := [(h0, .inr (10, vL 67 F580)), (h_tape, .inl (cB, 940, .inl f_tape)), (h_s, .inl (cI, 335, .inl f_s)), (h_read, .inl (cI, 135, .inl g543)), (h_names, .inl (cJ, 36, .inr (.inl f_names))), (h_reserved, .inl (cJ, 23, .inr (.inl f_reserved))), (h_stack, .inl (cI, 45, .inl w102))]) [6, 3, 0, 4, 1, 2, 5] rfl) (hD.sub (ws' := [(h0, .inr (10, vL 67 F580)), (h_tape, .inl (cB, 940, .inl f_tape)), (h_s, .inl (cI, 335, .inl f_s)), (h_read, .inl (cI, 135, .inl g543)), (h_names, .inl (cJ, 36, .inr (.inl f_names))), (h_reserved, .inl (cJ, 23, .inr (.inl f_reserved))), (h_stack, .inl (cI, 45, .inl w102))]) [6, 3, 0, 4, 1, 2, 5] (by decide) rfl) dX10_sentence_95 rfl (Nat.le_of_ble_eq_true rfl) (Nat.le_of_ble_eq_true rfl) ⟨F580, u104, u105, u106, u107, u108, 1, u106, u111, y541, u113, y542, y521, u116, f_s, g543, w102, (SAME.tr (SAME.tr (SAME.tr (SAME.tr (SAME.tr (SAME.up eF16 (SAME.up eF15 (SAME.up eF14 (SAME.up eF13 (SAME.up eF12 (SAME.up eF11 (SAME.tr (SAME.up eF1 SAME.rf (by decide)) t5 (by decide)) (by decide)) (by decide)) (by decide)) (by decide)) (by decide)) (by decide)) t83 (by decide)) i148 (by decide)) t523 (by decide)) t544 (by decide)) t581 (by decide)), (SAME.at t581 (by decide) (SAME.at t544 (by decide) (SAME.at t523 (by decide) (SAME.at i148 (by decide) (SAME.at t83 (by decide) (get_ne eF16 (by decide) (get_ne eF15 (by decide) (get_ne eF14 (by decide) (get_ne eF13 (by decide) (get_ne eF12 (by decide) (get_ne eF11 (by decide) (SAME.at t5 (by decide) (get_eq eF1))))))))))))), (SAME.at t581 (by decide) (SAME.at t544 (by decide) (SAME.at t523 (by decide) (SAME.at i148 (by decide) (SAME.at t83 (by decide) (get_ne eF16 (by decide) (get_ne eF15 (by decide) (get_ne eF14 (by decide) (get_ne eF13 (by decide) (get_ne eF12 (by decide) (get_ne eF11 (by decide) t6))))))))))), (SAME.at t581 (by decide) (SAME.at t544 (by decide) (SAME.at t523 (by decide) (SAME.at i148 (by decide) (SAME.at t83 (by decide) n30))))), (SAME.at t581 (by decide) (SAME.at t544 (by decide) (SAME.at t523 (by decide) i149))), i162, (SAME.at t581 (by decide) (SAME.at t544 (by decide) (SAME.at t523 (by decide) (SAME.at i148 (by decide) (SAME.at t83 (by decide) n42))))), (SAME.at t581 (by decide) (SAME.at t544 (by decide) (SAME.at t523 (by decide) i150))), (ir_wk k496 (by decide) (by decide)), (SAME.at t581 (by decide) n578), (SAME.at t581 (by decide) (SAME.at t544 (by decide) (SAME.at t523 (by decide) i152))), (SAME.at t581 (by decide) (SAME.at t544 (by decide) (SAME.at t523 (by decide) i153))), t582, (show 0 ≤ (1 : Int32).toInt ∧ (1 : Int32).toInt ≤ 4 by decide), t583, (SAME.at t581 (by decide) (SAME.at t544 (by decide) (SAME.at t523 (by decide) i156))), (SAME.at t581 (by decide) t545), t546, (SAME.at t581 (by decide) (SAME.at t544 (by decide) n537)), i168, (SAME.at t581 (by decide) t547), (ir_wk k576 (by decide) (by decide)), (SAME.at t581 (by decide) (SAME.at t544 (by decide) t528)), t529, (SAME.at t581 (by decide) (SAME.at t544 (by decide) n538)), (ir_wk k397 (by decide) (by decide)), s_s_153, s_s_0, s_s_5, s_s_6, s_s_7, s_s_44, s_s_K0, s_s_105, s_s_114, s_s_130, s_s_139, s_s_US, ⟨_, gos_0 t96 (i175 (by omega) _ (gos_w (by omega) (gq_eF (show u105.toInt = 0 by omega) (nj_1 t531 t532 t551 t552 (by omega)) rfl))), sans_l (a := u106.toInt) (by omega) rfl, (by first | exact rfl | decide)⟩, (by have zl1 : (1 : Int32).toInt = 1 := (by decide); omega), (by have zl1 : (1 : Int32).toInt = 1 := (by decide); omega), rfl⟩
set_option maxHeartbeats 4000000 in
set_option maxRecDepth 100000 in
theorem m_X10_isLeaf (l : Launch) (D : va_G) (cI cJ cB cP cM cZ : ClassId) (h0 : Nat) (h_s : Nat) (h_paceAt : Nat) (h_kindOf : Nat) (Fh : Nat → Value) (x_lineTime : Int32) (x_linePace : Int32) (x_inside : Int32) (x_late : Int32) (x_seed : Int32) (x_kicks : Int32) (f_s : Nat → Int32) (f_paceAt : Nat → Int32) (f_kindOf : Nat → Int32) (p0 : Int32) (p1 : Int32) (p2 : Int32) (p3 : Int32) (bs : Nat → Int32) (sz : Nat) (e_s : Fh 6 = .ref h_s) (e_paceAt : Fh 25 = .ref h_paceAt) (e_kindOf : Fh 26 = .ref h_kindOf) (e_lineTime : Fh 27 = .int x_lineTime) (e_linePace : Fh 28 = .int x_linePace) (e_inside : Fh 29 = .int x_inside) (i_x_inside : IR 0 15 x_inside) (e_late : Fh 30 = .int x_late) (i_x_late : IR 0 15 x_late) (e_seed : Fh 31 = .int x_seed) (e_kicks : Fh 32 = .int x_kicks) (i_x_kicks : IR 0 1 x_kicks) (s_s_K0 : KW 0 f_s) (s_s_US : US bs f_s) (s_s_0 : SG 0 0 0 40 f_s) (s_s_105 : SG 105 108 0 11 f_s) (s_s_114 : SG 114 114 0 5 f_s) (s_s_130 : SG 130 133 0 11 f_s) (s_s_139 : SG 139 139 0 5 f_s) (s_s_153 : SG 153 153 0 44 f_s) (s_s_44 : SG 44 55 0 9 f_s) (s_s_5 : SG 5 5 0 12 f_s) (s_s_6 : SG 6 6 0 12 f_s) (s_s_7 : SG 7 7 0 6 f_s) (i_p0 : IR 0 11 p0) : CI l yX10_isLeaf cX10_isLeaf 7 (some .boolean) { frames := 4, cells := 0, slots := 0, locals := 94 } (GG D cI cJ cB cP cM cZ) D [(h0, .inr (10, vL 67 Fh)), (h_s, .inl (cI, 335, .inl f_s)), (h_paceAt, .inl (cI, 40, .inl f_paceAt)), (h_kindOf, .inl (cI, 4, .inl f_kindOf))] sz [.ref h0, .int p0, .int p1, .int p2, .int p3] (fun (r : Int32) (u : va_W) => ∃ (Gh : Nat → Value) (y_lineTime : Int32) (y_linePace : Int32) (y_inside : Int32) (y_late : Int32) (y_seed : Int32) (g_paceAt : Nat → Int32) (g_kindOf : Nat → Int32), SAME [27, 28, 29, 30, 31] Fh Gh ∧ Gh 27 = .int y_lineTime ∧ Gh 28 = .int y_linePace ∧ Gh 29 = .int y_inside ∧ IR 0 15 y_inside ∧ Gh 30 = .int y_late ∧ IR 0 15 y_late ∧ Gh 31 = .int y_seed ∧ IR 0 1 r ∧ u = [(h0, .inr (10, vL 67 Gh)), (h_s, .inl (cI, 335, .inl f_s)), (h_paceAt, .inl (cI, 40, .inl g_paceAt)), (h_kindOf, .inl (cI, 4, .inl g_kindOf))]) := by
  refine CI_mk (by decide) (Nat.le_of_ble_eq_true rfl) ?_
  intro p e s m below meth c A ls E hAe hG hsz hP hD hA hS hl
  obtain ⟨hx, hb, hr, hw, hown, hlocks, hml, hnm⟩ := E
  have hK := hG.1
  have i_x_inside : 0 ≤ x_inside.toInt ∧ x_inside.toInt ≤ 15 := i_x_inside
  have i_x_late : 0 ≤ x_late.toInt ∧ x_late.toInt ≤ 15 := i_x_late
  have i_x_kicks : 0 ≤ x_kicks.toInt ∧ x_kicks.toInt ≤ 1 := i_x_kicks
  have i_p0 : 0 ≤ p0.toInt ∧ p0.toInt ≤ 11 := i_p0
  have hl : lv_has ls 7 [(0, .ref h0), (1, .int p0), (2, .int p1), (3, .int p2), (4, .int p3)] := hl
  refine lv_aload_n hx hb dX10_isLeaf_0 rfl (lv_at hl 0 rfl) ?_
  refine lv_iload_n hx hb dX10_isLeaf_1 rfl (lv_at hl 1 rfl) ?_
  refine call_Vi (wr := [(h_paceAt, .inl (cI, 40, .inl f_paceAt)), (h_kindOf, .inl (cI, 4, .inl f_kindOf))]) (As := [.int p0]) (rest := []) hx hb hml hown hw (m_X10_placeOf l D cI cJ cB cP cM cZ h0 h_s Fh f_s p0 bs _ e_s s_s_K0 s_s_US s_s_0 s_s_105 s_s_114 s_s_130 s_s_139 s_s_153 s_s_44 s_s_5 s_s_6 s_s_7) wV_X10_288_X10_placeOf dX10_isLeaf_2 hK hP hD hS hA [0, 1] [2, 3] rfl rfl (by decide) (by decide) (by decide) 0 10 rfl rfl GG.fb hG.at hl.1 rfl (Nat.le_of_ble_eq_true rfl) ⟨(Nat.le_of_ble_eq_true rfl), (Nat.le_of_ble_eq_true rfl)⟩ ⟨(Nat.le_of_ble_eq_true rfl), (Nat.le_of_ble_eq_true rfl)⟩ (fun r1 u H locs hp hP hD hS => ?_)
  obtain ⟨t2, rfl⟩ := hp
  have hP : va_P D vwCl [(h_paceAt, .inl (cI, 40, .inl f_paceAt)), (h_kindOf, .inl (cI, 4, .inl f_kindOf)), (h0, .inr (10, vL 67 Fh)), (h_s, .inl (cI, 335, .inl f_s))] H := hP
  have hD : va_D A [(h_paceAt, .inl (cI, 40, .inl f_paceAt)), (h_kindOf, .inl (cI, 4, .inl f_kindOf)), (h0, .inr (10, vL 67 Fh)), (h_s, .inl (cI, 335, .inl f_s))] := hD
  refine W.widen (k := 0) (n := 0) (Nat.le_of_ble_eq_true rfl) (Nat.le_of_ble_eq_true rfl) ?_
  refine lv_istore (lv' := [(5, .int r1), (0, .ref h0), (1, .int p0), (2, .int p1), (3, .int p2), (4, .int p3)]) hx hb dX10_isLeaf_5 hl (by decide) rfl (fun ls hl => ?_)
  refine lv_iload_n hx hb dX10_isLeaf_7 rfl (lv_at hl 3 rfl) ?_
  refine lv_if_ne (tgt := 22) hx hb dX10_isLeaf_8 (by decide) (fun c4 => ?_) (fun c4 => ?_)
  · have dc4 : p1.toInt ≠ 0 := ne_i (a := p1.toInt) (b := 0) rfl rfl c4
    refine lv_iload_n hx hb dX10_isLeaf_22 rfl (lv_at hl 3 rfl) ?_
    refine lv_iconst (v := 1) hx hb dX10_isLeaf_23 (by decide) ?_
    refine lv_icmp_ne (tgt := 48) hx hb dX10_isLeaf_24 (by decide) (fun c5 => ?_) (fun c5 => ?_)
    · have dc5 : p1.toInt ≠ 1 := ne_i (a := p1.toInt) (b := 1) rfl rfl c5
      refine lv_iload_n hx hb dX10_isLeaf_48 rfl (lv_at hl 3 rfl) ?_
      refine lv_iconst (v := 2) hx hb dX10_isLeaf_49 (by decide) ?_
      refine lv_icmp_ne (tgt := 100) hx hb dX10_isLeaf_50 (by decide) (fun c6 => ?_) (fun c6 => ?_)
      · have dc6 : p1.toInt ≠ 2 := ne_i (a := p1.toInt) (b := 2) rfl rfl c6
        refine lv_iload_n hx hb dX10_isLeaf_100 rfl (lv_at hl 3 rfl) ?_
        refine lv_iconst (v := 3) hx hb dX10_isLeaf_101 (by decide) ?_
        refine lv_icmp_ne (tgt := 117) hx hb dX10_isLeaf_102 (by decide) (fun c7 => ?_) (fun c7 => ?_)
        · have dc7 : p1.toInt ≠ 3 := ne_i (a := p1.toInt) (b := 3) rfl rfl c7
          refine lv_iload_n hx hb dX10_isLeaf_117 rfl (lv_at hl 3 rfl) ?_
          refine lv_iconst (v := 4) hx hb dX10_isLeaf_118 (by decide) ?_
          refine lv_icmp_ne (tgt := 134) hx hb dX10_isLeaf_119 (by decide) (fun c8 => ?_) (fun c8 => ?_)
          · have dc8 : p1.toInt ≠ 4 := ne_i (a := p1.toInt) (b := 4) rfl rfl c8
            refine lv_iload_n hx hb dX10_isLeaf_134 rfl (lv_at hl 3 rfl) ?_
            refine lv_iconst (v := 5) hx hb dX10_isLeaf_135 (by decide) ?_
            refine lv_icmp_ne (tgt := 151) hx hb dX10_isLeaf_136 (by decide) (fun c9 => ?_) (fun c9 => ?_)
            · have dc9 : p1.toInt ≠ 5 := ne_i (a := p1.toInt) (b := 5) rfl rfl c9
              refine lv_iload_n hx hb dX10_isLeaf_151 rfl (lv_at hl 2 rfl) ?_
              refine lv_istore (lv' := [(6, .int p0), (5, .int r1), (0, .ref h0), (1, .int p0), (2, .int p1), (3, .int p2), (4, .int p3)]) hx hb dX10_isLeaf_152 hl (by decide) rfl (fun ls hl => ?_)
              refine lv_iload_n hx hb dX10_isLeaf_154 rfl (lv_at hl 5 rfl) ?_
              refine lv_bipush (v := 60) hx hb dX10_isLeaf_155 (by decide) ?_
              refine lv_icmp_ne (tgt := 175) hx hb dX10_isLeaf_157 (by decide) (fun c10 => ?_) (fun c10 => ?_)
              · have dc10 : p2.toInt ≠ 60 := ne_i (a := p2.toInt) (b := 60) rfl rfl c10
                refine lv_iload_n hx hb dX10_isLeaf_175 rfl (lv_at hl 5 rfl) ?_
                refine lv_bipush (v := 61) hx hb dX10_isLeaf_176 (by decide) ?_
                refine lv_icmp_ne (tgt := 196) hx hb dX10_isLeaf_178 (by decide) (fun c11 => ?_) (fun c11 => ?_)
                · have dc11 : p2.toInt ≠ 61 := ne_i (a := p2.toInt) (b := 61) rfl rfl c11
                  refine lv_iload hx hb dX10_isLeaf_196 (lv_at hl 0 rfl) ?_
                  refine lv_iload hx hb dX10_isLeaf_198 (lv_at hl 6 rfl) ?_
                  refine lv_icmp_le (tgt := 207) hx hb dX10_isLeaf_200 (by decide) (fun c12 => ?_) (fun c12 => ?_)
                  · have dc12 : p0.toInt ≤ p3.toInt := le_i (a := p0.toInt) (b := p3.toInt) rfl rfl c12
                    have k13 : 0 ≤ p3.toInt ∧ p3.toInt ≤ 2147483647 := ⟨Int.le_trans i_p0.1 dc12, (ir_any _).2⟩
                    refine lv_iconst (v := 0) hx hb dX10_isLeaf_207 (by decide) ?_
                    exact ret_i (v := 0) hx hb hr hlocks hS (hP.sub (ws' := [(h0, .inr (10, vL 67 Fh)), (h_s, .inl (cI, 335, .inl f_s)), (h_paceAt, .inl (cI, 40, .inl f_paceAt)), (h_kindOf, .inl (cI, 4, .inl f_kindOf))]) [2, 3, 0, 1] rfl) (hD.sub (ws' := [(h0, .inr (10, vL 67 Fh)), (h_s, .inl (cI, 335, .inl f_s)), (h_paceAt, .inl (cI, 40, .inl f_paceAt)), (h_kindOf, .inl (cI, 4, .inl f_kindOf))]) [2, 3, 0, 1] (by decide) rfl) dX10_isLeaf_208 rfl (Nat.le_of_ble_eq_true rfl) (Nat.le_of_ble_eq_true rfl) ⟨Fh, x_lineTime, x_linePace, x_inside, x_late, x_seed, f_paceAt, f_kindOf, SAME.rf, e_lineTime, e_linePace, e_inside, i_x_inside, e_late, i_x_late, e_seed, (show 0 ≤ (0 : Int32).toInt ∧ (0 : Int32).toInt ≤ 1 by decide), rfl⟩
                  · have dc12 : p3.toInt < p0.toInt := nle_i (a := p0.toInt) (b := p3.toInt) rfl rfl c12
                    have k14 : (-2147483648) ≤ p3.toInt ∧ p3.toInt ≤ 10 := ⟨(ir_any _).1, up_lt dc12 i_p0.2 (by decide)⟩
                    refine lv_iconst (v := 1) hx hb dX10_isLeaf_203 (by decide) ?_
                    refine lv_goto (tgt := 208) hx hb dX10_isLeaf_204 (by decide) ?_
                    exact ret_i (v := 1) hx hb hr hlocks hS (hP.sub (ws' := [(h0, .inr (10, vL 67 Fh)), (h_s, .inl (cI, 335, .inl f_s)), (h_paceAt, .inl (cI, 40, .inl f_paceAt)), (h_kindOf, .inl (cI, 4, .inl f_kindOf))]) [2, 3, 0, 1] rfl) (hD.sub (ws' := [(h0, .inr (10, vL 67 Fh)), (h_s, .inl (cI, 335, .inl f_s)), (h_paceAt, .inl (cI, 40, .inl f_paceAt)), (h_kindOf, .inl (cI, 4, .inl f_kindOf))]) [2, 3, 0, 1] (by decide) rfl) dX10_isLeaf_208 rfl (Nat.le_of_ble_eq_true rfl) (Nat.le_of_ble_eq_true rfl) ⟨Fh, x_lineTime, x_linePace, x_inside, x_late, x_seed, f_paceAt, f_kindOf, SAME.rf, e_lineTime, e_linePace, e_inside, i_x_inside, e_late, i_x_late, e_seed, (show 0 ≤ (1 : Int32).toInt ∧ (1 : Int32).toInt ≤ 1 by decide), rfl⟩
                · have dc11 : p2.toInt = 61 := eq_i (a := p2.toInt) (b := 61) rfl rfl c11
                  have k15 : 61 ≤ p2.toInt ∧ p2.toInt ≤ 61 := ⟨Int.le_trans (Int.le_refl _) (Int.le_of_eq dc11.symm), Int.le_trans (Int.le_of_eq dc11) (Int.le_refl _)⟩
                  refine lv_iload hx hb dX10_isLeaf_181 (lv_at hl 0 rfl) ?_
                  refine lv_iload hx hb dX10_isLeaf_183 (lv_at hl 6 rfl) ?_
                  refine lv_icmp_ne (tgt := 192) hx hb dX10_isLeaf_185 (by decide) (fun c16 => ?_) (fun c16 => ?_)
                  · have dc16 : p0.toInt ≠ p3.toInt := ne_i (a := p0.toInt) (b := p3.toInt) rfl rfl c16
                    refine lv_iconst (v := 0) hx hb dX10_isLeaf_192 (by decide) ?_
                    refine lv_goto (tgt := 208) hx hb dX10_isLeaf_193 (by decide) ?_
                    exact ret_i (v := 0) hx hb hr hlocks hS (hP.sub (ws' := [(h0, .inr (10, vL 67 Fh)), (h_s, .inl (cI, 335, .inl f_s)), (h_paceAt, .inl (cI, 40, .inl f_paceAt)), (h_kindOf, .inl (cI, 4, .inl f_kindOf))]) [2, 3, 0, 1] rfl) (hD.sub (ws' := [(h0, .inr (10, vL 67 Fh)), (h_s, .inl (cI, 335, .inl f_s)), (h_paceAt, .inl (cI, 40, .inl f_paceAt)), (h_kindOf, .inl (cI, 4, .inl f_kindOf))]) [2, 3, 0, 1] (by decide) rfl) dX10_isLeaf_208 rfl (Nat.le_of_ble_eq_true rfl) (Nat.le_of_ble_eq_true rfl) ⟨Fh, x_lineTime, x_linePace, x_inside, x_late, x_seed, f_paceAt, f_kindOf, SAME.rf, e_lineTime, e_linePace, e_inside, i_x_inside, e_late, i_x_late, e_seed, (show 0 ≤ (0 : Int32).toInt ∧ (0 : Int32).toInt ≤ 1 by decide), rfl⟩
                  · have dc16 : p0.toInt = p3.toInt := eq_i (a := p0.toInt) (b := p3.toInt) rfl rfl c16
                    have k17 : 0 ≤ p3.toInt ∧ p3.toInt ≤ 11 := ⟨Int.le_trans i_p0.1 (Int.le_of_eq dc16), Int.le_trans (Int.le_of_eq dc16.symm) i_p0.2⟩
                    refine lv_iconst (v := 1) hx hb dX10_isLeaf_188 (by decide) ?_
                    refine lv_goto (tgt := 208) hx hb dX10_isLeaf_189 (by decide) ?_
                    exact ret_i (v := 1) hx hb hr hlocks hS (hP.sub (ws' := [(h0, .inr (10, vL 67 Fh)), (h_s, .inl (cI, 335, .inl f_s)), (h_paceAt, .inl (cI, 40, .inl f_paceAt)), (h_kindOf, .inl (cI, 4, .inl f_kindOf))]) [2, 3, 0, 1] rfl) (hD.sub (ws' := [(h0, .inr (10, vL 67 Fh)), (h_s, .inl (cI, 335, .inl f_s)), (h_paceAt, .inl (cI, 40, .inl f_paceAt)), (h_kindOf, .inl (cI, 4, .inl f_kindOf))]) [2, 3, 0, 1] (by decide) rfl) dX10_isLeaf_208 rfl (Nat.le_of_ble_eq_true rfl) (Nat.le_of_ble_eq_true rfl) ⟨Fh, x_lineTime, x_linePace, x_inside, x_late, x_seed, f_paceAt, f_kindOf, SAME.rf, e_lineTime, e_linePace, e_inside, i_x_inside, e_late, i_x_late, e_seed, (show 0 ≤ (1 : Int32).toInt ∧ (1 : Int32).toInt ≤ 1 by decide), rfl⟩
              · have dc10 : p2.toInt = 60 := eq_i (a := p2.toInt) (b := 60) rfl rfl c10
                have k18 : 60 ≤ p2.toInt ∧ p2.toInt ≤ 60 := ⟨Int.le_trans (Int.le_refl _) (Int.le_of_eq dc10.symm), Int.le_trans (Int.le_of_eq dc10) (Int.le_refl _)⟩
                refine lv_iload hx hb dX10_isLeaf_160 (lv_at hl 0 rfl) ?_
                refine lv_iload hx hb dX10_isLeaf_162 (lv_at hl 6 rfl) ?_
                refine lv_icmp_ge (tgt := 171) hx hb dX10_isLeaf_164 (by decide) (fun c19 => ?_) (fun c19 => ?_)
                · have dc19 : p3.toInt ≤ p0.toInt := le_i (a := p3.toInt) (b := p0.toInt) rfl rfl c19
                  have k20 : (-2147483648) ≤ p3.toInt ∧ p3.toInt ≤ 11 := ⟨(ir_any _).1, Int.le_trans dc19 i_p0.2⟩
                  refine lv_iconst (v := 0) hx hb dX10_isLeaf_171 (by decide) ?_
                  refine lv_goto (tgt := 208) hx hb dX10_isLeaf_172 (by decide) ?_
                  exact ret_i (v := 0) hx hb hr hlocks hS (hP.sub (ws' := [(h0, .inr (10, vL 67 Fh)), (h_s, .inl (cI, 335, .inl f_s)), (h_paceAt, .inl (cI, 40, .inl f_paceAt)), (h_kindOf, .inl (cI, 4, .inl f_kindOf))]) [2, 3, 0, 1] rfl) (hD.sub (ws' := [(h0, .inr (10, vL 67 Fh)), (h_s, .inl (cI, 335, .inl f_s)), (h_paceAt, .inl (cI, 40, .inl f_paceAt)), (h_kindOf, .inl (cI, 4, .inl f_kindOf))]) [2, 3, 0, 1] (by decide) rfl) dX10_isLeaf_208 rfl (Nat.le_of_ble_eq_true rfl) (Nat.le_of_ble_eq_true rfl) ⟨Fh, x_lineTime, x_linePace, x_inside, x_late, x_seed, f_paceAt, f_kindOf, SAME.rf, e_lineTime, e_linePace, e_inside, i_x_inside, e_late, i_x_late, e_seed, (show 0 ≤ (0 : Int32).toInt ∧ (0 : Int32).toInt ≤ 1 by decide), rfl⟩
                · have dc19 : p0.toInt < p3.toInt := nle_i (a := p3.toInt) (b := p0.toInt) rfl rfl c19
                  have k21 : 1 ≤ p3.toInt ∧ p3.toInt ≤ 2147483647 := ⟨lo_lt dc19 i_p0.1 (by decide), (ir_any _).2⟩
                  refine lv_iconst (v := 1) hx hb dX10_isLeaf_167 (by decide) ?_
                  refine lv_goto (tgt := 208) hx hb dX10_isLeaf_168 (by decide) ?_
                  exact ret_i (v := 1) hx hb hr hlocks hS (hP.sub (ws' := [(h0, .inr (10, vL 67 Fh)), (h_s, .inl (cI, 335, .inl f_s)), (h_paceAt, .inl (cI, 40, .inl f_paceAt)), (h_kindOf, .inl (cI, 4, .inl f_kindOf))]) [2, 3, 0, 1] rfl) (hD.sub (ws' := [(h0, .inr (10, vL 67 Fh)), (h_s, .inl (cI, 335, .inl f_s)), (h_paceAt, .inl (cI, 40, .inl f_paceAt)), (h_kindOf, .inl (cI, 4, .inl f_kindOf))]) [2, 3, 0, 1] (by decide) rfl) dX10_isLeaf_208 rfl (Nat.le_of_ble_eq_true rfl) (Nat.le_of_ble_eq_true rfl) ⟨Fh, x_lineTime, x_linePace, x_inside, x_late, x_seed, f_paceAt, f_kindOf, SAME.rf, e_lineTime, e_linePace, e_inside, i_x_inside, e_late, i_x_late, e_seed, (show 0 ≤ (1 : Int32).toInt ∧ (1 : Int32).toInt ≤ 1 by decide), rfl⟩
            · have dc9 : p1.toInt = 5 := eq_i (a := p1.toInt) (b := 5) rfl rfl c9
              have k22 : 5 ≤ p1.toInt ∧ p1.toInt ≤ 5 := ⟨Int.le_trans (Int.le_refl _) (Int.le_of_eq dc9.symm), Int.le_trans (Int.le_of_eq dc9) (Int.le_refl _)⟩
              refine lv_aload_n hx hb dX10_isLeaf_139 rfl (lv_at hl 1 rfl) ?_
              refine get_f (D := D) (ci := 10) (v := .ref h_s) (C := RX10) (T := TX10) (N := 67) hx hb hw inAX10 hown hK hP 2 rfl rfl 6 (by decide) (hw _ q_1267) (fun _ h9 => h9) e_s dX10_isLeaf_140 ?_
              refine lv_bipush (v := 32) hx hb dX10_isLeaf_143 (by decide) ?_
              refine lv_iload_n hx hb dX10_isLeaf_145 rfl (lv_at hl 2 rfl) ?_
              refine lv_iadd hx hb dX10_isLeaf_146 ?_
              refine lv_topi (fun v23 ev23 => ?_)
              have bv23 : v23.toInt = 32 + p0.toInt := by rw [ev23]; exact add_k rfl rfl ⟨Int.le_refl _, Int.le_refl _⟩ i_p0 (by decide)
              have k24 : 32 ≤ v23.toInt ∧ v23.toInt ≤ 43 := add_r bv23 ⟨Int.le_refl _, Int.le_refl _⟩ i_p0 (by decide)
              refine va_iald hx hb hK hP 3 0 rfl rfl (ix_k k24 (by decide) (by decide)) dX10_isLeaf_147 ?_
              refine lv_topi (fun v25 ev25 => ?_)
              refine lv_goto (tgt := 152) hx hb dX10_isLeaf_148 (by decide) ?_
              refine lv_istore (lv' := [(6, .int v25), (5, .int r1), (0, .ref h0), (1, .int p0), (2, .int p1), (3, .int p2), (4, .int p3)]) hx hb dX10_isLeaf_152 hl (by decide) rfl (fun ls hl => ?_)
              refine lv_iload_n hx hb dX10_isLeaf_154 rfl (lv_at hl 5 rfl) ?_
              refine lv_bipush (v := 60) hx hb dX10_isLeaf_155 (by decide) ?_
              refine lv_icmp_ne (tgt := 175) hx hb dX10_isLeaf_157 (by decide) (fun c26 => ?_) (fun c26 => ?_)
              · have dc26 : p2.toInt ≠ 60 := ne_i (a := p2.toInt) (b := 60) rfl rfl c26
                refine lv_iload_n hx hb dX10_isLeaf_175 rfl (lv_at hl 5 rfl) ?_
                refine lv_bipush (v := 61) hx hb dX10_isLeaf_176 (by decide) ?_
                refine lv_icmp_ne (tgt := 196) hx hb dX10_isLeaf_178 (by decide) (fun c27 => ?_) (fun c27 => ?_)
                · have dc27 : p2.toInt ≠ 61 := ne_i (a := p2.toInt) (b := 61) rfl rfl c27
                  refine lv_iload hx hb dX10_isLeaf_196 (lv_at hl 0 rfl) ?_
                  refine lv_iload hx hb dX10_isLeaf_198 (lv_at hl 6 rfl) ?_
                  refine lv_icmp_le (tgt := 207) hx hb dX10_isLeaf_200 (by decide) (fun c28 => ?_) (fun c28 => ?_)
                  · have dc28 : v25.toInt ≤ p3.toInt := le_i (a := v25.toInt) (b := p3.toInt) rfl rfl c28
                    refine lv_iconst (v := 0) hx hb dX10_isLeaf_207 (by decide) ?_
                    exact ret_i (v := 0) hx hb hr hlocks hS (hP.sub (ws' := [(h0, .inr (10, vL 67 Fh)), (h_s, .inl (cI, 335, .inl f_s)), (h_paceAt, .inl (cI, 40, .inl f_paceAt)), (h_kindOf, .inl (cI, 4, .inl f_kindOf))]) [2, 3, 0, 1] rfl) (hD.sub (ws' := [(h0, .inr (10, vL 67 Fh)), (h_s, .inl (cI, 335, .inl f_s)), (h_paceAt, .inl (cI, 40, .inl f_paceAt)), (h_kindOf, .inl (cI, 4, .inl f_kindOf))]) [2, 3, 0, 1] (by decide) rfl) dX10_isLeaf_208 rfl (Nat.le_of_ble_eq_true rfl) (Nat.le_of_ble_eq_true rfl) ⟨Fh, x_lineTime, x_linePace, x_inside, x_late, x_seed, f_paceAt, f_kindOf, SAME.rf, e_lineTime, e_linePace, e_inside, i_x_inside, e_late, i_x_late, e_seed, (show 0 ≤ (0 : Int32).toInt ∧ (0 : Int32).toInt ≤ 1 by decide), rfl⟩
                  · have dc28 : p3.toInt < v25.toInt := nle_i (a := v25.toInt) (b := p3.toInt) rfl rfl c28
                    have k29 : (-2147483648) ≤ p3.toInt ∧ p3.toInt ≤ 2147483646 := ⟨(ir_any _).1, up_lt dc28 (ir_any _).2 (by decide)⟩
                    have k30 : (-2147483647) ≤ v25.toInt ∧ v25.toInt ≤ 2147483647 := ⟨lo_lt dc28 (ir_any _).1 (by decide), (ir_any _).2⟩
                    refine lv_iconst (v := 1) hx hb dX10_isLeaf_203 (by decide) ?_
                    refine lv_goto (tgt := 208) hx hb dX10_isLeaf_204 (by decide) ?_
                    exact ret_i (v := 1) hx hb hr hlocks hS (hP.sub (ws' := [(h0, .inr (10, vL 67 Fh)), (h_s, .inl (cI, 335, .inl f_s)), (h_paceAt, .inl (cI, 40, .inl f_paceAt)), (h_kindOf, .inl (cI, 4, .inl f_kindOf))]) [2, 3, 0, 1] rfl) (hD.sub (ws' := [(h0, .inr (10, vL 67 Fh)), (h_s, .inl (cI, 335, .inl f_s)), (h_paceAt, .inl (cI, 40, .inl f_paceAt)), (h_kindOf, .inl (cI, 4, .inl f_kindOf))]) [2, 3, 0, 1] (by decide) rfl) dX10_isLeaf_208 rfl (Nat.le_of_ble_eq_true rfl) (Nat.le_of_ble_eq_true rfl) ⟨Fh, x_lineTime, x_linePace, x_inside, x_late, x_seed, f_paceAt, f_kindOf, SAME.rf, e_lineTime, e_linePace, e_inside, i_x_inside, e_late, i_x_late, e_seed, (show 0 ≤ (1 : Int32).toInt ∧ (1 : Int32).toInt ≤ 1 by decide), rfl⟩
                · have dc27 : p2.toInt = 61 := eq_i (a := p2.toInt) (b := 61) rfl rfl c27
                  have k31 : 61 ≤ p2.toInt ∧ p2.toInt ≤ 61 := ⟨Int.le_trans (Int.le_refl _) (Int.le_of_eq dc27.symm), Int.le_trans (Int.le_of_eq dc27) (Int.le_refl _)⟩
                  refine lv_iload hx hb dX10_isLeaf_181 (lv_at hl 0 rfl) ?_
                  refine lv_iload hx hb dX10_isLeaf_183 (lv_at hl 6 rfl) ?_
                  refine lv_icmp_ne (tgt := 192) hx hb dX10_isLeaf_185 (by decide) (fun c32 => ?_) (fun c32 => ?_)
                  · have dc32 : v25.toInt ≠ p3.toInt := ne_i (a := v25.toInt) (b := p3.toInt) rfl rfl c32
                    refine lv_iconst (v := 0) hx hb dX10_isLeaf_192 (by decide) ?_
                    refine lv_goto (tgt := 208) hx hb dX10_isLeaf_193 (by decide) ?_
                    exact ret_i (v := 0) hx hb hr hlocks hS (hP.sub (ws' := [(h0, .inr (10, vL 67 Fh)), (h_s, .inl (cI, 335, .inl f_s)), (h_paceAt, .inl (cI, 40, .inl f_paceAt)), (h_kindOf, .inl (cI, 4, .inl f_kindOf))]) [2, 3, 0, 1] rfl) (hD.sub (ws' := [(h0, .inr (10, vL 67 Fh)), (h_s, .inl (cI, 335, .inl f_s)), (h_paceAt, .inl (cI, 40, .inl f_paceAt)), (h_kindOf, .inl (cI, 4, .inl f_kindOf))]) [2, 3, 0, 1] (by decide) rfl) dX10_isLeaf_208 rfl (Nat.le_of_ble_eq_true rfl) (Nat.le_of_ble_eq_true rfl) ⟨Fh, x_lineTime, x_linePace, x_inside, x_late, x_seed, f_paceAt, f_kindOf, SAME.rf, e_lineTime, e_linePace, e_inside, i_x_inside, e_late, i_x_late, e_seed, (show 0 ≤ (0 : Int32).toInt ∧ (0 : Int32).toInt ≤ 1 by decide), rfl⟩
                  · have dc32 : v25.toInt = p3.toInt := eq_i (a := v25.toInt) (b := p3.toInt) rfl rfl c32
                    refine lv_iconst (v := 1) hx hb dX10_isLeaf_188 (by decide) ?_
                    refine lv_goto (tgt := 208) hx hb dX10_isLeaf_189 (by decide) ?_
                    exact ret_i (v := 1) hx hb hr hlocks hS (hP.sub (ws' := [(h0, .inr (10, vL 67 Fh)), (h_s, .inl (cI, 335, .inl f_s)), (h_paceAt, .inl (cI, 40, .inl f_paceAt)), (h_kindOf, .inl (cI, 4, .inl f_kindOf))]) [2, 3, 0, 1] rfl) (hD.sub (ws' := [(h0, .inr (10, vL 67 Fh)), (h_s, .inl (cI, 335, .inl f_s)), (h_paceAt, .inl (cI, 40, .inl f_paceAt)), (h_kindOf, .inl (cI, 4, .inl f_kindOf))]) [2, 3, 0, 1] (by decide) rfl) dX10_isLeaf_208 rfl (Nat.le_of_ble_eq_true rfl) (Nat.le_of_ble_eq_true rfl) ⟨Fh, x_lineTime, x_linePace, x_inside, x_late, x_seed, f_paceAt, f_kindOf, SAME.rf, e_lineTime, e_linePace, e_inside, i_x_inside, e_late, i_x_late, e_seed, (show 0 ≤ (1 : Int32).toInt ∧ (1 : Int32).toInt ≤ 1 by decide), rfl⟩
              · have dc26 : p2.toInt = 60 := eq_i (a := p2.toInt) (b := 60) rfl rfl c26
                have k33 : 60 ≤ p2.toInt ∧ p2.toInt ≤ 60 := ⟨Int.le_trans (Int.le_refl _) (Int.le_of_eq dc26.symm), Int.le_trans (Int.le_of_eq dc26) (Int.le_refl _)⟩
                refine lv_iload hx hb dX10_isLeaf_160 (lv_at hl 0 rfl) ?_
                refine lv_iload hx hb dX10_isLeaf_162 (lv_at hl 6 rfl) ?_
                refine lv_icmp_ge (tgt := 171) hx hb dX10_isLeaf_164 (by decide) (fun c34 => ?_) (fun c34 => ?_)
                · have dc34 : p3.toInt ≤ v25.toInt := le_i (a := p3.toInt) (b := v25.toInt) rfl rfl c34
                  refine lv_iconst (v := 0) hx hb dX10_isLeaf_171 (by decide) ?_
                  refine lv_goto (tgt := 208) hx hb dX10_isLeaf_172 (by decide) ?_
                  exact ret_i (v := 0) hx hb hr hlocks hS (hP.sub (ws' := [(h0, .inr (10, vL 67 Fh)), (h_s, .inl (cI, 335, .inl f_s)), (h_paceAt, .inl (cI, 40, .inl f_paceAt)), (h_kindOf, .inl (cI, 4, .inl f_kindOf))]) [2, 3, 0, 1] rfl) (hD.sub (ws' := [(h0, .inr (10, vL 67 Fh)), (h_s, .inl (cI, 335, .inl f_s)), (h_paceAt, .inl (cI, 40, .inl f_paceAt)), (h_kindOf, .inl (cI, 4, .inl f_kindOf))]) [2, 3, 0, 1] (by decide) rfl) dX10_isLeaf_208 rfl (Nat.le_of_ble_eq_true rfl) (Nat.le_of_ble_eq_true rfl) ⟨Fh, x_lineTime, x_linePace, x_inside, x_late, x_seed, f_paceAt, f_kindOf, SAME.rf, e_lineTime, e_linePace, e_inside, i_x_inside, e_late, i_x_late, e_seed, (show 0 ≤ (0 : Int32).toInt ∧ (0 : Int32).toInt ≤ 1 by decide), rfl⟩
                · have dc34 : v25.toInt < p3.toInt := nle_i (a := p3.toInt) (b := v25.toInt) rfl rfl c34
                  have k35 : (-2147483648) ≤ v25.toInt ∧ v25.toInt ≤ 2147483646 := ⟨(ir_any _).1, up_lt dc34 (ir_any _).2 (by decide)⟩
                  have k36 : (-2147483647) ≤ p3.toInt ∧ p3.toInt ≤ 2147483647 := ⟨lo_lt dc34 (ir_any _).1 (by decide), (ir_any _).2⟩
                  refine lv_iconst (v := 1) hx hb dX10_isLeaf_167 (by decide) ?_
                  refine lv_goto (tgt := 208) hx hb dX10_isLeaf_168 (by decide) ?_
                  exact ret_i (v := 1) hx hb hr hlocks hS (hP.sub (ws' := [(h0, .inr (10, vL 67 Fh)), (h_s, .inl (cI, 335, .inl f_s)), (h_paceAt, .inl (cI, 40, .inl f_paceAt)), (h_kindOf, .inl (cI, 4, .inl f_kindOf))]) [2, 3, 0, 1] rfl) (hD.sub (ws' := [(h0, .inr (10, vL 67 Fh)), (h_s, .inl (cI, 335, .inl f_s)), (h_paceAt, .inl (cI, 40, .inl f_paceAt)), (h_kindOf, .inl (cI, 4, .inl f_kindOf))]) [2, 3, 0, 1] (by decide) rfl) dX10_isLeaf_208 rfl (Nat.le_of_ble_eq_true rfl) (Nat.le_of_ble_eq_true rfl) ⟨Fh, x_lineTime, x_linePace, x_inside, x_late, x_seed, f_paceAt, f_kindOf, SAME.rf, e_lineTime, e_linePace, e_inside, i_x_inside, e_late, i_x_late, e_seed, (show 0 ≤ (1 : Int32).toInt ∧ (1 : Int32).toInt ≤ 1 by decide), rfl⟩
          · have dc8 : p1.toInt = 4 := eq_i (a := p1.toInt) (b := 4) rfl rfl c8
            have k37 : 4 ≤ p1.toInt ∧ p1.toInt ≤ 4 := ⟨Int.le_trans (Int.le_refl _) (Int.le_of_eq dc8.symm), Int.le_trans (Int.le_of_eq dc8) (Int.le_refl _)⟩
            refine lv_aload_n hx hb dX10_isLeaf_122 rfl (lv_at hl 1 rfl) ?_
            refine get_f (D := D) (ci := 10) (v := .ref h_s) (C := RX10) (T := TX10) (N := 67) hx hb hw inAX10 hown hK hP 2 rfl rfl 6 (by decide) (hw _ q_1267) (fun _ h9 => h9) e_s dX10_isLeaf_123 ?_
            refine lv_bipush (v := 20) hx hb dX10_isLeaf_126 (by decide) ?_
            refine lv_iload_n hx hb dX10_isLeaf_128 rfl (lv_at hl 2 rfl) ?_
            refine lv_iadd hx hb dX10_isLeaf_129 ?_
            refine lv_topi (fun v38 ev38 => ?_)
            have bv38 : v38.toInt = 20 + p0.toInt := by rw [ev38]; exact add_k rfl rfl ⟨Int.le_refl _, Int.le_refl _⟩ i_p0 (by decide)
            have k39 : 20 ≤ v38.toInt ∧ v38.toInt ≤ 31 := add_r bv38 ⟨Int.le_refl _, Int.le_refl _⟩ i_p0 (by decide)
            refine va_iald hx hb hK hP 3 0 rfl rfl (ix_k k39 (by decide) (by decide)) dX10_isLeaf_130 ?_
            refine lv_topi (fun v40 ev40 => ?_)
            refine lv_goto (tgt := 152) hx hb dX10_isLeaf_131 (by decide) ?_
            refine lv_istore (lv' := [(6, .int v40), (5, .int r1), (0, .ref h0), (1, .int p0), (2, .int p1), (3, .int p2), (4, .int p3)]) hx hb dX10_isLeaf_152 hl (by decide) rfl (fun ls hl => ?_)
            refine lv_iload_n hx hb dX10_isLeaf_154 rfl (lv_at hl 5 rfl) ?_
            refine lv_bipush (v := 60) hx hb dX10_isLeaf_155 (by decide) ?_
            refine lv_icmp_ne (tgt := 175) hx hb dX10_isLeaf_157 (by decide) (fun c41 => ?_) (fun c41 => ?_)
            · have dc41 : p2.toInt ≠ 60 := ne_i (a := p2.toInt) (b := 60) rfl rfl c41
              refine lv_iload_n hx hb dX10_isLeaf_175 rfl (lv_at hl 5 rfl) ?_
              refine lv_bipush (v := 61) hx hb dX10_isLeaf_176 (by decide) ?_
              refine lv_icmp_ne (tgt := 196) hx hb dX10_isLeaf_178 (by decide) (fun c42 => ?_) (fun c42 => ?_)
              · have dc42 : p2.toInt ≠ 61 := ne_i (a := p2.toInt) (b := 61) rfl rfl c42
                refine lv_iload hx hb dX10_isLeaf_196 (lv_at hl 0 rfl) ?_
                refine lv_iload hx hb dX10_isLeaf_198 (lv_at hl 6 rfl) ?_
                refine lv_icmp_le (tgt := 207) hx hb dX10_isLeaf_200 (by decide) (fun c43 => ?_) (fun c43 => ?_)
                · have dc43 : v40.toInt ≤ p3.toInt := le_i (a := v40.toInt) (b := p3.toInt) rfl rfl c43
                  refine lv_iconst (v := 0) hx hb dX10_isLeaf_207 (by decide) ?_
                  exact ret_i (v := 0) hx hb hr hlocks hS (hP.sub (ws' := [(h0, .inr (10, vL 67 Fh)), (h_s, .inl (cI, 335, .inl f_s)), (h_paceAt, .inl (cI, 40, .inl f_paceAt)), (h_kindOf, .inl (cI, 4, .inl f_kindOf))]) [2, 3, 0, 1] rfl) (hD.sub (ws' := [(h0, .inr (10, vL 67 Fh)), (h_s, .inl (cI, 335, .inl f_s)), (h_paceAt, .inl (cI, 40, .inl f_paceAt)), (h_kindOf, .inl (cI, 4, .inl f_kindOf))]) [2, 3, 0, 1] (by decide) rfl) dX10_isLeaf_208 rfl (Nat.le_of_ble_eq_true rfl) (Nat.le_of_ble_eq_true rfl) ⟨Fh, x_lineTime, x_linePace, x_inside, x_late, x_seed, f_paceAt, f_kindOf, SAME.rf, e_lineTime, e_linePace, e_inside, i_x_inside, e_late, i_x_late, e_seed, (show 0 ≤ (0 : Int32).toInt ∧ (0 : Int32).toInt ≤ 1 by decide), rfl⟩
                · have dc43 : p3.toInt < v40.toInt := nle_i (a := v40.toInt) (b := p3.toInt) rfl rfl c43
                  have k44 : (-2147483648) ≤ p3.toInt ∧ p3.toInt ≤ 2147483646 := ⟨(ir_any _).1, up_lt dc43 (ir_any _).2 (by decide)⟩
                  have k45 : (-2147483647) ≤ v40.toInt ∧ v40.toInt ≤ 2147483647 := ⟨lo_lt dc43 (ir_any _).1 (by decide), (ir_any _).2⟩
                  refine lv_iconst (v := 1) hx hb dX10_isLeaf_203 (by decide) ?_
                  refine lv_goto (tgt := 208) hx hb dX10_isLeaf_204 (by decide) ?_
                  exact ret_i (v := 1) hx hb hr hlocks hS (hP.sub (ws' := [(h0, .inr (10, vL 67 Fh)), (h_s, .inl (cI, 335, .inl f_s)), (h_paceAt, .inl (cI, 40, .inl f_paceAt)), (h_kindOf, .inl (cI, 4, .inl f_kindOf))]) [2, 3, 0, 1] rfl) (hD.sub (ws' := [(h0, .inr (10, vL 67 Fh)), (h_s, .inl (cI, 335, .inl f_s)), (h_paceAt, .inl (cI, 40, .inl f_paceAt)), (h_kindOf, .inl (cI, 4, .inl f_kindOf))]) [2, 3, 0, 1] (by decide) rfl) dX10_isLeaf_208 rfl (Nat.le_of_ble_eq_true rfl) (Nat.le_of_ble_eq_true rfl) ⟨Fh, x_lineTime, x_linePace, x_inside, x_late, x_seed, f_paceAt, f_kindOf, SAME.rf, e_lineTime, e_linePace, e_inside, i_x_inside, e_late, i_x_late, e_seed, (show 0 ≤ (1 : Int32).toInt ∧ (1 : Int32).toInt ≤ 1 by decide), rfl⟩
              · have dc42 : p2.toInt = 61 := eq_i (a := p2.toInt) (b := 61) rfl rfl c42
                have k46 : 61 ≤ p2.toInt ∧ p2.toInt ≤ 61 := ⟨Int.le_trans (Int.le_refl _) (Int.le_of_eq dc42.symm), Int.le_trans (Int.le_of_eq dc42) (Int.le_refl _)⟩
                refine lv_iload hx hb dX10_isLeaf_181 (lv_at hl 0 rfl) ?_
                refine lv_iload hx hb dX10_isLeaf_183 (lv_at hl 6 rfl) ?_
                refine lv_icmp_ne (tgt := 192) hx hb dX10_isLeaf_185 (by decide) (fun c47 => ?_) (fun c47 => ?_)
                · have dc47 : v40.toInt ≠ p3.toInt := ne_i (a := v40.toInt) (b := p3.toInt) rfl rfl c47
                  refine lv_iconst (v := 0) hx hb dX10_isLeaf_192 (by decide) ?_
                  refine lv_goto (tgt := 208) hx hb dX10_isLeaf_193 (by decide) ?_
                  exact ret_i (v := 0) hx hb hr hlocks hS (hP.sub (ws' := [(h0, .inr (10, vL 67 Fh)), (h_s, .inl (cI, 335, .inl f_s)), (h_paceAt, .inl (cI, 40, .inl f_paceAt)), (h_kindOf, .inl (cI, 4, .inl f_kindOf))]) [2, 3, 0, 1] rfl) (hD.sub (ws' := [(h0, .inr (10, vL 67 Fh)), (h_s, .inl (cI, 335, .inl f_s)), (h_paceAt, .inl (cI, 40, .inl f_paceAt)), (h_kindOf, .inl (cI, 4, .inl f_kindOf))]) [2, 3, 0, 1] (by decide) rfl) dX10_isLeaf_208 rfl (Nat.le_of_ble_eq_true rfl) (Nat.le_of_ble_eq_true rfl) ⟨Fh, x_lineTime, x_linePace, x_inside, x_late, x_seed, f_paceAt, f_kindOf, SAME.rf, e_lineTime, e_linePace, e_inside, i_x_inside, e_late, i_x_late, e_seed, (show 0 ≤ (0 : Int32).toInt ∧ (0 : Int32).toInt ≤ 1 by decide), rfl⟩
                · have dc47 : v40.toInt = p3.toInt := eq_i (a := v40.toInt) (b := p3.toInt) rfl rfl c47
                  refine lv_iconst (v := 1) hx hb dX10_isLeaf_188 (by decide) ?_
                  refine lv_goto (tgt := 208) hx hb dX10_isLeaf_189 (by decide) ?_
                  exact ret_i (v := 1) hx hb hr hlocks hS (hP.sub (ws' := [(h0, .inr (10, vL 67 Fh)), (h_s, .inl (cI, 335, .inl f_s)), (h_paceAt, .inl (cI, 40, .inl f_paceAt)), (h_kindOf, .inl (cI, 4, .inl f_kindOf))]) [2, 3, 0, 1] rfl) (hD.sub (ws' := [(h0, .inr (10, vL 67 Fh)), (h_s, .inl (cI, 335, .inl f_s)), (h_paceAt, .inl (cI, 40, .inl f_paceAt)), (h_kindOf, .inl (cI, 4, .inl f_kindOf))]) [2, 3, 0, 1] (by decide) rfl) dX10_isLeaf_208 rfl (Nat.le_of_ble_eq_true rfl) (Nat.le_of_ble_eq_true rfl) ⟨Fh, x_lineTime, x_linePace, x_inside, x_late, x_seed, f_paceAt, f_kindOf, SAME.rf, e_lineTime, e_linePace, e_inside, i_x_inside, e_late, i_x_late, e_seed, (show 0 ≤ (1 : Int32).toInt ∧ (1 : Int32).toInt ≤ 1 by decide), rfl⟩
            · have dc41 : p2.toInt = 60 := eq_i (a := p2.toInt) (b := 60) rfl rfl c41
              have k48 : 60 ≤ p2.toInt ∧ p2.toInt ≤ 60 := ⟨Int.le_trans (Int.le_refl _) (Int.le_of_eq dc41.symm), Int.le_trans (Int.le_of_eq dc41) (Int.le_refl _)⟩
              refine lv_iload hx hb dX10_isLeaf_160 (lv_at hl 0 rfl) ?_
              refine lv_iload hx hb dX10_isLeaf_162 (lv_at hl 6 rfl) ?_
              refine lv_icmp_ge (tgt := 171) hx hb dX10_isLeaf_164 (by decide) (fun c49 => ?_) (fun c49 => ?_)
              · have dc49 : p3.toInt ≤ v40.toInt := le_i (a := p3.toInt) (b := v40.toInt) rfl rfl c49
                refine lv_iconst (v := 0) hx hb dX10_isLeaf_171 (by decide) ?_
                refine lv_goto (tgt := 208) hx hb dX10_isLeaf_172 (by decide) ?_
                exact ret_i (v := 0) hx hb hr hlocks hS (hP.sub (ws' := [(h0, .inr (10, vL 67 Fh)), (h_s, .inl (cI, 335, .inl f_s)), (h_paceAt, .inl (cI, 40, .inl f_paceAt)), (h_kindOf, .inl (cI, 4, .inl f_kindOf))]) [2, 3, 0, 1] rfl) (hD.sub (ws' := [(h0, .inr (10, vL 67 Fh)), (h_s, .inl (cI, 335, .inl f_s)), (h_paceAt, .inl (cI, 40, .inl f_paceAt)), (h_kindOf, .inl (cI, 4, .inl f_kindOf))]) [2, 3, 0, 1] (by decide) rfl) dX10_isLeaf_208 rfl (Nat.le_of_ble_eq_true rfl) (Nat.le_of_ble_eq_true rfl) ⟨Fh, x_lineTime, x_linePace, x_inside, x_late, x_seed, f_paceAt, f_kindOf, SAME.rf, e_lineTime, e_linePace, e_inside, i_x_inside, e_late, i_x_late, e_seed, (show 0 ≤ (0 : Int32).toInt ∧ (0 : Int32).toInt ≤ 1 by decide), rfl⟩
              · have dc49 : v40.toInt < p3.toInt := nle_i (a := p3.toInt) (b := v40.toInt) rfl rfl c49
                have k50 : (-2147483648) ≤ v40.toInt ∧ v40.toInt ≤ 2147483646 := ⟨(ir_any _).1, up_lt dc49 (ir_any _).2 (by decide)⟩
                have k51 : (-2147483647) ≤ p3.toInt ∧ p3.toInt ≤ 2147483647 := ⟨lo_lt dc49 (ir_any _).1 (by decide), (ir_any _).2⟩
                refine lv_iconst (v := 1) hx hb dX10_isLeaf_167 (by decide) ?_
                refine lv_goto (tgt := 208) hx hb dX10_isLeaf_168 (by decide) ?_
                exact ret_i (v := 1) hx hb hr hlocks hS (hP.sub (ws' := [(h0, .inr (10, vL 67 Fh)), (h_s, .inl (cI, 335, .inl f_s)), (h_paceAt, .inl (cI, 40, .inl f_paceAt)), (h_kindOf, .inl (cI, 4, .inl f_kindOf))]) [2, 3, 0, 1] rfl) (hD.sub (ws' := [(h0, .inr (10, vL 67 Fh)), (h_s, .inl (cI, 335, .inl f_s)), (h_paceAt, .inl (cI, 40, .inl f_paceAt)), (h_kindOf, .inl (cI, 4, .inl f_kindOf))]) [2, 3, 0, 1] (by decide) rfl) dX10_isLeaf_208 rfl (Nat.le_of_ble_eq_true rfl) (Nat.le_of_ble_eq_true rfl) ⟨Fh, x_lineTime, x_linePace, x_inside, x_late, x_seed, f_paceAt, f_kindOf, SAME.rf, e_lineTime, e_linePace, e_inside, i_x_inside, e_late, i_x_late, e_seed, (show 0 ≤ (1 : Int32).toInt ∧ (1 : Int32).toInt ≤ 1 by decide), rfl⟩
        · have dc7 : p1.toInt = 3 := eq_i (a := p1.toInt) (b := 3) rfl rfl c7
          have k52 : 3 ≤ p1.toInt ∧ p1.toInt ≤ 3 := ⟨Int.le_trans (Int.le_refl _) (Int.le_of_eq dc7.symm), Int.le_trans (Int.le_of_eq dc7) (Int.le_refl _)⟩
          refine lv_aload_n hx hb dX10_isLeaf_105 rfl (lv_at hl 1 rfl) ?_
          refine get_f (D := D) (ci := 10) (v := .ref h_s) (C := RX10) (T := TX10) (N := 67) hx hb hw inAX10 hown hK hP 2 rfl rfl 6 (by decide) (hw _ q_1267) (fun _ h9 => h9) e_s dX10_isLeaf_106 ?_
          refine lv_bipush (v := 8) hx hb dX10_isLeaf_109 (by decide) ?_
          refine lv_iload_n hx hb dX10_isLeaf_111 rfl (lv_at hl 2 rfl) ?_
          refine lv_iadd hx hb dX10_isLeaf_112 ?_
          refine lv_topi (fun v53 ev53 => ?_)
          have bv53 : v53.toInt = 8 + p0.toInt := by rw [ev53]; exact add_k rfl rfl ⟨Int.le_refl _, Int.le_refl _⟩ i_p0 (by decide)
          have k54 : 8 ≤ v53.toInt ∧ v53.toInt ≤ 19 := add_r bv53 ⟨Int.le_refl _, Int.le_refl _⟩ i_p0 (by decide)
          refine va_iald hx hb hK hP 3 0 rfl rfl (ix_k k54 (by decide) (by decide)) dX10_isLeaf_113 ?_
          refine lv_topi (fun v55 ev55 => ?_)
          refine lv_goto (tgt := 152) hx hb dX10_isLeaf_114 (by decide) ?_
          refine lv_istore (lv' := [(6, .int v55), (5, .int r1), (0, .ref h0), (1, .int p0), (2, .int p1), (3, .int p2), (4, .int p3)]) hx hb dX10_isLeaf_152 hl (by decide) rfl (fun ls hl => ?_)
          refine lv_iload_n hx hb dX10_isLeaf_154 rfl (lv_at hl 5 rfl) ?_
          refine lv_bipush (v := 60) hx hb dX10_isLeaf_155 (by decide) ?_
          refine lv_icmp_ne (tgt := 175) hx hb dX10_isLeaf_157 (by decide) (fun c56 => ?_) (fun c56 => ?_)
          · have dc56 : p2.toInt ≠ 60 := ne_i (a := p2.toInt) (b := 60) rfl rfl c56
            refine lv_iload_n hx hb dX10_isLeaf_175 rfl (lv_at hl 5 rfl) ?_
            refine lv_bipush (v := 61) hx hb dX10_isLeaf_176 (by decide) ?_
            refine lv_icmp_ne (tgt := 196) hx hb dX10_isLeaf_178 (by decide) (fun c57 => ?_) (fun c57 => ?_)
            · have dc57 : p2.toInt ≠ 61 := ne_i (a := p2.toInt) (b := 61) rfl rfl c57
              refine lv_iload hx hb dX10_isLeaf_196 (lv_at hl 0 rfl) ?_
              refine lv_iload hx hb dX10_isLeaf_198 (lv_at hl 6 rfl) ?_
              refine lv_icmp_le (tgt := 207) hx hb dX10_isLeaf_200 (by decide) (fun c58 => ?_) (fun c58 => ?_)
              · have dc58 : v55.toInt ≤ p3.toInt := le_i (a := v55.toInt) (b := p3.toInt) rfl rfl c58
                refine lv_iconst (v := 0) hx hb dX10_isLeaf_207 (by decide) ?_
                exact ret_i (v := 0) hx hb hr hlocks hS (hP.sub (ws' := [(h0, .inr (10, vL 67 Fh)), (h_s, .inl (cI, 335, .inl f_s)), (h_paceAt, .inl (cI, 40, .inl f_paceAt)), (h_kindOf, .inl (cI, 4, .inl f_kindOf))]) [2, 3, 0, 1] rfl) (hD.sub (ws' := [(h0, .inr (10, vL 67 Fh)), (h_s, .inl (cI, 335, .inl f_s)), (h_paceAt, .inl (cI, 40, .inl f_paceAt)), (h_kindOf, .inl (cI, 4, .inl f_kindOf))]) [2, 3, 0, 1] (by decide) rfl) dX10_isLeaf_208 rfl (Nat.le_of_ble_eq_true rfl) (Nat.le_of_ble_eq_true rfl) ⟨Fh, x_lineTime, x_linePace, x_inside, x_late, x_seed, f_paceAt, f_kindOf, SAME.rf, e_lineTime, e_linePace, e_inside, i_x_inside, e_late, i_x_late, e_seed, (show 0 ≤ (0 : Int32).toInt ∧ (0 : Int32).toInt ≤ 1 by decide), rfl⟩
              · have dc58 : p3.toInt < v55.toInt := nle_i (a := v55.toInt) (b := p3.toInt) rfl rfl c58
                have k59 : (-2147483648) ≤ p3.toInt ∧ p3.toInt ≤ 2147483646 := ⟨(ir_any _).1, up_lt dc58 (ir_any _).2 (by decide)⟩
                have k60 : (-2147483647) ≤ v55.toInt ∧ v55.toInt ≤ 2147483647 := ⟨lo_lt dc58 (ir_any _).1 (by decide), (ir_any _).2⟩
                refine lv_iconst (v := 1) hx hb dX10_isLeaf_203 (by decide) ?_
                refine lv_goto (tgt := 208) hx hb dX10_isLeaf_204 (by decide) ?_
                exact ret_i (v := 1) hx hb hr hlocks hS (hP.sub (ws' := [(h0, .inr (10, vL 67 Fh)), (h_s, .inl (cI, 335, .inl f_s)), (h_paceAt, .inl (cI, 40, .inl f_paceAt)), (h_kindOf, .inl (cI, 4, .inl f_kindOf))]) [2, 3, 0, 1] rfl) (hD.sub (ws' := [(h0, .inr (10, vL 67 Fh)), (h_s, .inl (cI, 335, .inl f_s)), (h_paceAt, .inl (cI, 40, .inl f_paceAt)), (h_kindOf, .inl (cI, 4, .inl f_kindOf))]) [2, 3, 0, 1] (by decide) rfl) dX10_isLeaf_208 rfl (Nat.le_of_ble_eq_true rfl) (Nat.le_of_ble_eq_true rfl) ⟨Fh, x_lineTime, x_linePace, x_inside, x_late, x_seed, f_paceAt, f_kindOf, SAME.rf, e_lineTime, e_linePace, e_inside, i_x_inside, e_late, i_x_late, e_seed, (show 0 ≤ (1 : Int32).toInt ∧ (1 : Int32).toInt ≤ 1 by decide), rfl⟩
            · have dc57 : p2.toInt = 61 := eq_i (a := p2.toInt) (b := 61) rfl rfl c57
              have k61 : 61 ≤ p2.toInt ∧ p2.toInt ≤ 61 := ⟨Int.le_trans (Int.le_refl _) (Int.le_of_eq dc57.symm), Int.le_trans (Int.le_of_eq dc57) (Int.le_refl _)⟩
              refine lv_iload hx hb dX10_isLeaf_181 (lv_at hl 0 rfl) ?_
              refine lv_iload hx hb dX10_isLeaf_183 (lv_at hl 6 rfl) ?_
              refine lv_icmp_ne (tgt := 192) hx hb dX10_isLeaf_185 (by decide) (fun c62 => ?_) (fun c62 => ?_)
              · have dc62 : v55.toInt ≠ p3.toInt := ne_i (a := v55.toInt) (b := p3.toInt) rfl rfl c62
                refine lv_iconst (v := 0) hx hb dX10_isLeaf_192 (by decide) ?_
                refine lv_goto (tgt := 208) hx hb dX10_isLeaf_193 (by decide) ?_
                exact ret_i (v := 0) hx hb hr hlocks hS (hP.sub (ws' := [(h0, .inr (10, vL 67 Fh)), (h_s, .inl (cI, 335, .inl f_s)), (h_paceAt, .inl (cI, 40, .inl f_paceAt)), (h_kindOf, .inl (cI, 4, .inl f_kindOf))]) [2, 3, 0, 1] rfl) (hD.sub (ws' := [(h0, .inr (10, vL 67 Fh)), (h_s, .inl (cI, 335, .inl f_s)), (h_paceAt, .inl (cI, 40, .inl f_paceAt)), (h_kindOf, .inl (cI, 4, .inl f_kindOf))]) [2, 3, 0, 1] (by decide) rfl) dX10_isLeaf_208 rfl (Nat.le_of_ble_eq_true rfl) (Nat.le_of_ble_eq_true rfl) ⟨Fh, x_lineTime, x_linePace, x_inside, x_late, x_seed, f_paceAt, f_kindOf, SAME.rf, e_lineTime, e_linePace, e_inside, i_x_inside, e_late, i_x_late, e_seed, (show 0 ≤ (0 : Int32).toInt ∧ (0 : Int32).toInt ≤ 1 by decide), rfl⟩
              · have dc62 : v55.toInt = p3.toInt := eq_i (a := v55.toInt) (b := p3.toInt) rfl rfl c62
                refine lv_iconst (v := 1) hx hb dX10_isLeaf_188 (by decide) ?_
                refine lv_goto (tgt := 208) hx hb dX10_isLeaf_189 (by decide) ?_
                exact ret_i (v := 1) hx hb hr hlocks hS (hP.sub (ws' := [(h0, .inr (10, vL 67 Fh)), (h_s, .inl (cI, 335, .inl f_s)), (h_paceAt, .inl (cI, 40, .inl f_paceAt)), (h_kindOf, .inl (cI, 4, .inl f_kindOf))]) [2, 3, 0, 1] rfl) (hD.sub (ws' := [(h0, .inr (10, vL 67 Fh)), (h_s, .inl (cI, 335, .inl f_s)), (h_paceAt, .inl (cI, 40, .inl f_paceAt)), (h_kindOf, .inl (cI, 4, .inl f_kindOf))]) [2, 3, 0, 1] (by decide) rfl) dX10_isLeaf_208 rfl (Nat.le_of_ble_eq_true rfl) (Nat.le_of_ble_eq_true rfl) ⟨Fh, x_lineTime, x_linePace, x_inside, x_late, x_seed, f_paceAt, f_kindOf, SAME.rf, e_lineTime, e_linePace, e_inside, i_x_inside, e_late, i_x_late, e_seed, (show 0 ≤ (1 : Int32).toInt ∧ (1 : Int32).toInt ≤ 1 by decide), rfl⟩
          · have dc56 : p2.toInt = 60 := eq_i (a := p2.toInt) (b := 60) rfl rfl c56
            have k63 : 60 ≤ p2.toInt ∧ p2.toInt ≤ 60 := ⟨Int.le_trans (Int.le_refl _) (Int.le_of_eq dc56.symm), Int.le_trans (Int.le_of_eq dc56) (Int.le_refl _)⟩
            refine lv_iload hx hb dX10_isLeaf_160 (lv_at hl 0 rfl) ?_
            refine lv_iload hx hb dX10_isLeaf_162 (lv_at hl 6 rfl) ?_
            refine lv_icmp_ge (tgt := 171) hx hb dX10_isLeaf_164 (by decide) (fun c64 => ?_) (fun c64 => ?_)
            · have dc64 : p3.toInt ≤ v55.toInt := le_i (a := p3.toInt) (b := v55.toInt) rfl rfl c64
              refine lv_iconst (v := 0) hx hb dX10_isLeaf_171 (by decide) ?_
              refine lv_goto (tgt := 208) hx hb dX10_isLeaf_172 (by decide) ?_
              exact ret_i (v := 0) hx hb hr hlocks hS (hP.sub (ws' := [(h0, .inr (10, vL 67 Fh)), (h_s, .inl (cI, 335, .inl f_s)), (h_paceAt, .inl (cI, 40, .inl f_paceAt)), (h_kindOf, .inl (cI, 4, .inl f_kindOf))]) [2, 3, 0, 1] rfl) (hD.sub (ws' := [(h0, .inr (10, vL 67 Fh)), (h_s, .inl (cI, 335, .inl f_s)), (h_paceAt, .inl (cI, 40, .inl f_paceAt)), (h_kindOf, .inl (cI, 4, .inl f_kindOf))]) [2, 3, 0, 1] (by decide) rfl) dX10_isLeaf_208 rfl (Nat.le_of_ble_eq_true rfl) (Nat.le_of_ble_eq_true rfl) ⟨Fh, x_lineTime, x_linePace, x_inside, x_late, x_seed, f_paceAt, f_kindOf, SAME.rf, e_lineTime, e_linePace, e_inside, i_x_inside, e_late, i_x_late, e_seed, (show 0 ≤ (0 : Int32).toInt ∧ (0 : Int32).toInt ≤ 1 by decide), rfl⟩
            · have dc64 : v55.toInt < p3.toInt := nle_i (a := p3.toInt) (b := v55.toInt) rfl rfl c64
              have k65 : (-2147483648) ≤ v55.toInt ∧ v55.toInt ≤ 2147483646 := ⟨(ir_any _).1, up_lt dc64 (ir_any _).2 (by decide)⟩
              have k66 : (-2147483647) ≤ p3.toInt ∧ p3.toInt ≤ 2147483647 := ⟨lo_lt dc64 (ir_any _).1 (by decide), (ir_any _).2⟩
              refine lv_iconst (v := 1) hx hb dX10_isLeaf_167 (by decide) ?_
              refine lv_goto (tgt := 208) hx hb dX10_isLeaf_168 (by decide) ?_
              exact ret_i (v := 1) hx hb hr hlocks hS (hP.sub (ws' := [(h0, .inr (10, vL 67 Fh)), (h_s, .inl (cI, 335, .inl f_s)), (h_paceAt, .inl (cI, 40, .inl f_paceAt)), (h_kindOf, .inl (cI, 4, .inl f_kindOf))]) [2, 3, 0, 1] rfl) (hD.sub (ws' := [(h0, .inr (10, vL 67 Fh)), (h_s, .inl (cI, 335, .inl f_s)), (h_paceAt, .inl (cI, 40, .inl f_paceAt)), (h_kindOf, .inl (cI, 4, .inl f_kindOf))]) [2, 3, 0, 1] (by decide) rfl) dX10_isLeaf_208 rfl (Nat.le_of_ble_eq_true rfl) (Nat.le_of_ble_eq_true rfl) ⟨Fh, x_lineTime, x_linePace, x_inside, x_late, x_seed, f_paceAt, f_kindOf, SAME.rf, e_lineTime, e_linePace, e_inside, i_x_inside, e_late, i_x_late, e_seed, (show 0 ≤ (1 : Int32).toInt ∧ (1 : Int32).toInt ≤ 1 by decide), rfl⟩
      · have dc6 : p1.toInt = 2 := eq_i (a := p1.toInt) (b := 2) rfl rfl c6
        have k67 : 2 ≤ p1.toInt ∧ p1.toInt ≤ 2 := ⟨Int.le_trans (Int.le_refl _) (Int.le_of_eq dc6.symm), Int.le_trans (Int.le_of_eq dc6) (Int.le_refl _)⟩
        refine lv_iload hx hb dX10_isLeaf_53 (lv_at hl 0 rfl) ?_
        refine lv_if_lt (tgt := 98) hx hb dX10_isLeaf_55 (by decide) (fun c68 => ?_) (fun c68 => ?_)
        · have dc68 : r1.toInt < 0 := lt_i (a := r1.toInt) (b := 0) rfl rfl c68
          have k69 : (-1) ≤ r1.toInt ∧ r1.toInt ≤ (-1) := ⟨t2.1, up_lt dc68 (Int.le_refl _) (by decide)⟩
          refine lv_iconst (v := 0) hx hb dX10_isLeaf_98 (by decide) ?_
          exact ret_i (v := 0) hx hb hr hlocks hS (hP.sub (ws' := [(h0, .inr (10, vL 67 Fh)), (h_s, .inl (cI, 335, .inl f_s)), (h_paceAt, .inl (cI, 40, .inl f_paceAt)), (h_kindOf, .inl (cI, 4, .inl f_kindOf))]) [2, 3, 0, 1] rfl) (hD.sub (ws' := [(h0, .inr (10, vL 67 Fh)), (h_s, .inl (cI, 335, .inl f_s)), (h_paceAt, .inl (cI, 40, .inl f_paceAt)), (h_kindOf, .inl (cI, 4, .inl f_kindOf))]) [2, 3, 0, 1] (by decide) rfl) dX10_isLeaf_99 rfl (Nat.le_of_ble_eq_true rfl) (Nat.le_of_ble_eq_true rfl) ⟨Fh, x_lineTime, x_linePace, x_inside, x_late, x_seed, f_paceAt, f_kindOf, SAME.rf, e_lineTime, e_linePace, e_inside, i_x_inside, e_late, i_x_late, e_seed, (show 0 ≤ (0 : Int32).toInt ∧ (0 : Int32).toInt ≤ 1 by decide), rfl⟩
        · have dc68 : 0 ≤ r1.toInt := nlt_i (a := r1.toInt) (b := 0) rfl rfl c68
          have k70 : 0 ≤ r1.toInt ∧ r1.toInt ≤ 3 := ⟨Int.le_trans (Int.le_refl _) dc68, t2.2⟩
          refine lv_aload_n hx hb dX10_isLeaf_58 rfl (lv_at hl 1 rfl) ?_
          refine lv_iload hx hb dX10_isLeaf_59 (lv_at hl 5 rfl) ?_
          refine call_Vi (wr := [(h_paceAt, .inl (cI, 40, .inl f_paceAt)), (h_kindOf, .inl (cI, 4, .inl f_kindOf))]) (As := [.int p3]) (rest := []) hx hb hml hown hw (m_X10_placeOf l D cI cJ cB cP cM cZ h0 h_s Fh f_s p3 bs _ e_s s_s_K0 s_s_US s_s_0 s_s_105 s_s_114 s_s_130 s_s_139 s_s_153 s_s_44 s_s_5 s_s_6 s_s_7) wV_X10_288_X10_placeOf dX10_isLeaf_61 hK hP hD hS hA [2, 3] [0, 1] rfl rfl (by decide) (by decide) (by decide) 0 10 rfl rfl GG.fb hG.at hl.1 rfl (Nat.le_of_ble_eq_true rfl) ⟨(Nat.le_of_ble_eq_true rfl), (Nat.le_of_ble_eq_true rfl)⟩ ⟨(Nat.le_of_ble_eq_true rfl), (Nat.le_of_ble_eq_true rfl)⟩ (fun r71 u H locs hp hP hD hS => ?_)
          obtain ⟨t72, rfl⟩ := hp
          have hP : va_P D vwCl [(h_paceAt, .inl (cI, 40, .inl f_paceAt)), (h_kindOf, .inl (cI, 4, .inl f_kindOf)), (h0, .inr (10, vL 67 Fh)), (h_s, .inl (cI, 335, .inl f_s))] H := hP
          have hD : va_D A [(h_paceAt, .inl (cI, 40, .inl f_paceAt)), (h_kindOf, .inl (cI, 4, .inl f_kindOf)), (h0, .inr (10, vL 67 Fh)), (h_s, .inl (cI, 335, .inl f_s))] := hD
          refine W.widen (k := 0) (n := 0) (Nat.le_of_ble_eq_true rfl) (Nat.le_of_ble_eq_true rfl) ?_
          refine lv_if_lt (tgt := 98) hx hb dX10_isLeaf_64 (by decide) (fun c74 => ?_) (fun c74 => ?_)
          · have dc74 : r71.toInt < 0 := lt_i (a := r71.toInt) (b := 0) rfl rfl c74
            have k75 : (-1) ≤ r71.toInt ∧ r71.toInt ≤ (-1) := ⟨t72.1, up_lt dc74 (Int.le_refl _) (by decide)⟩
            refine lv_iconst (v := 0) hx hb dX10_isLeaf_98 (by decide) ?_
            exact ret_i (v := 0) hx hb hr hlocks hS (hP.sub (ws' := [(h0, .inr (10, vL 67 Fh)), (h_s, .inl (cI, 335, .inl f_s)), (h_paceAt, .inl (cI, 40, .inl f_paceAt)), (h_kindOf, .inl (cI, 4, .inl f_kindOf))]) [2, 3, 0, 1] rfl) (hD.sub (ws' := [(h0, .inr (10, vL 67 Fh)), (h_s, .inl (cI, 335, .inl f_s)), (h_paceAt, .inl (cI, 40, .inl f_paceAt)), (h_kindOf, .inl (cI, 4, .inl f_kindOf))]) [2, 3, 0, 1] (by decide) rfl) dX10_isLeaf_99 rfl (Nat.le_of_ble_eq_true rfl) (Nat.le_of_ble_eq_true rfl) ⟨Fh, x_lineTime, x_linePace, x_inside, x_late, x_seed, f_paceAt, f_kindOf, SAME.rf, e_lineTime, e_linePace, e_inside, i_x_inside, e_late, i_x_late, e_seed, (show 0 ≤ (0 : Int32).toInt ∧ (0 : Int32).toInt ≤ 1 by decide), rfl⟩
          · have dc74 : 0 ≤ r71.toInt := nlt_i (a := r71.toInt) (b := 0) rfl rfl c74
            have k76 : 0 ≤ r71.toInt ∧ r71.toInt ≤ 3 := ⟨Int.le_trans (Int.le_refl _) dc74, t72.2⟩
            refine lv_aload_n hx hb dX10_isLeaf_67 rfl (lv_at hl 1 rfl) ?_
            refine get_f (D := D) (ci := 10) (v := .ref h_s) (C := RX10) (T := TX10) (N := 67) hx hb hw inAX10 hown hK hP 2 rfl rfl 6 (by decide) (hw _ q_1267) (fun _ h9 => h9) e_s dX10_isLeaf_68 ?_
            refine lv_bipush (v := 109) hx hb dX10_isLeaf_71 (by decide) ?_
            refine lv_iload hx hb dX10_isLeaf_73 (lv_at hl 0 rfl) ?_
            refine lv_iadd hx hb dX10_isLeaf_75 ?_
            refine lv_topi (fun v77 ev77 => ?_)
            have bv77 : v77.toInt = 109 + r1.toInt := by rw [ev77]; exact add_k rfl rfl ⟨Int.le_refl _, Int.le_refl _⟩ k70 (by decide)
            have k78 : 109 ≤ v77.toInt ∧ v77.toInt ≤ 112 := add_r bv77 ⟨Int.le_refl _, Int.le_refl _⟩ k70 (by decide)
            refine va_iald hx hb hK hP 3 0 rfl rfl (ix_k k78 (by decide) (by decide)) dX10_isLeaf_76 ?_
            refine lv_topi (fun v79 ev79 => ?_)
            refine lv_aload_n hx hb dX10_isLeaf_77 rfl (lv_at hl 1 rfl) ?_
            refine get_f (D := D) (ci := 10) (v := .ref h_s) (C := RX10) (T := TX10) (N := 67) hx hb hw inAX10 hown hK hP 2 rfl rfl 6 (by decide) (hw _ q_1267) (fun _ h9 => h9) e_s dX10_isLeaf_78 ?_
            refine lv_bipush (v := 109) hx hb dX10_isLeaf_81 (by decide) ?_
            refine lv_aload_n hx hb dX10_isLeaf_83 rfl (lv_at hl 1 rfl) ?_
            refine lv_iload hx hb dX10_isLeaf_84 (lv_at hl 5 rfl) ?_
            refine call_Vi (wr := [(h_paceAt, .inl (cI, 40, .inl f_paceAt)), (h_kindOf, .inl (cI, 4, .inl f_kindOf))]) (As := [.int p3]) (rest := [.int 109, .ref h_s, .int v79]) hx hb hml hown hw (m_X10_placeOf l D cI cJ cB cP cM cZ h0 h_s Fh f_s p3 bs _ e_s s_s_K0 s_s_US s_s_0 s_s_105 s_s_114 s_s_130 s_s_139 s_s_153 s_s_44 s_s_5 s_s_6 s_s_7) wV_X10_288_X10_placeOf dX10_isLeaf_86 hK hP hD hS hA [2, 3] [0, 1] rfl rfl (by decide) (by decide) (by decide) 0 10 rfl rfl GG.fb hG.at hl.1 rfl (Nat.le_of_ble_eq_true rfl) ⟨(Nat.le_of_ble_eq_true rfl), (Nat.le_of_ble_eq_true rfl)⟩ ⟨(Nat.le_of_ble_eq_true rfl), (Nat.le_of_ble_eq_true rfl)⟩ (fun r80 u H locs hp hP hD hS => ?_)
            obtain ⟨t81, rfl⟩ := hp
            have hP : va_P D vwCl [(h_paceAt, .inl (cI, 40, .inl f_paceAt)), (h_kindOf, .inl (cI, 4, .inl f_kindOf)), (h0, .inr (10, vL 67 Fh)), (h_s, .inl (cI, 335, .inl f_s))] H := hP
            have hD : va_D A [(h_paceAt, .inl (cI, 40, .inl f_paceAt)), (h_kindOf, .inl (cI, 4, .inl f_kindOf)), (h0, .inr (10, vL 67 Fh)), (h_s, .inl (cI, 335, .inl f_s))] := hD
            refine W.widen (k := 0) (n := 0) (Nat.le_of_ble_eq_true rfl) (Nat.le_of_ble_eq_true rfl) ?_
            refine lv_iadd hx hb dX10_isLeaf_89 ?_
            refine lv_topi (fun v83 ev83 => ?_)
            have bv83 : v83.toInt = 109 + r80.toInt := by rw [ev83]; exact add_k rfl rfl ⟨Int.le_refl _, Int.le_refl _⟩ t81 (by decide)
            have k84 : 108 ≤ v83.toInt ∧ v83.toInt ≤ 112 := add_r bv83 ⟨Int.le_refl _, Int.le_refl _⟩ t81 (by decide)
            refine va_iald hx hb hK hP 3 0 rfl rfl (ix_k k84 (by decide) (by decide)) dX10_isLeaf_90 ?_
            refine lv_topi (fun v85 ev85 => ?_)
            have r86 : IMP (105 ≤ v83.toInt → v83.toInt ≤ 108 → 0 ≤ v85.toInt ∧ v85.toInt ≤ 11) := IMP.mk (fun q1 q2 => by rw [ev85]; exact s_s_105.at _ q1 q2)
            refine lv_icmp_ge (tgt := 98) hx hb dX10_isLeaf_91 (by decide) (fun c87 => ?_) (fun c87 => ?_)
            · have dc87 : v85.toInt ≤ v79.toInt := le_i (a := v85.toInt) (b := v79.toInt) rfl rfl c87
              refine lv_iconst (v := 0) hx hb dX10_isLeaf_98 (by decide) ?_
              exact ret_i (v := 0) hx hb hr hlocks hS (hP.sub (ws' := [(h0, .inr (10, vL 67 Fh)), (h_s, .inl (cI, 335, .inl f_s)), (h_paceAt, .inl (cI, 40, .inl f_paceAt)), (h_kindOf, .inl (cI, 4, .inl f_kindOf))]) [2, 3, 0, 1] rfl) (hD.sub (ws' := [(h0, .inr (10, vL 67 Fh)), (h_s, .inl (cI, 335, .inl f_s)), (h_paceAt, .inl (cI, 40, .inl f_paceAt)), (h_kindOf, .inl (cI, 4, .inl f_kindOf))]) [2, 3, 0, 1] (by decide) rfl) dX10_isLeaf_99 rfl (Nat.le_of_ble_eq_true rfl) (Nat.le_of_ble_eq_true rfl) ⟨Fh, x_lineTime, x_linePace, x_inside, x_late, x_seed, f_paceAt, f_kindOf, SAME.rf, e_lineTime, e_linePace, e_inside, i_x_inside, e_late, i_x_late, e_seed, (show 0 ≤ (0 : Int32).toInt ∧ (0 : Int32).toInt ≤ 1 by decide), rfl⟩
            · have dc87 : v79.toInt < v85.toInt := nle_i (a := v85.toInt) (b := v79.toInt) rfl rfl c87
              have k88 : (-2147483648) ≤ v79.toInt ∧ v79.toInt ≤ 2147483646 := ⟨(ir_any _).1, up_lt dc87 (ir_any _).2 (by decide)⟩
              have k89 : (-2147483647) ≤ v85.toInt ∧ v85.toInt ≤ 2147483647 := ⟨lo_lt dc87 (ir_any _).1 (by decide), (ir_any _).2⟩
              refine lv_iconst (v := 1) hx hb dX10_isLeaf_94 (by decide) ?_
              refine lv_goto (tgt := 99) hx hb dX10_isLeaf_95 (by decide) ?_
              exact ret_i (v := 1) hx hb hr hlocks hS (hP.sub (ws' := [(h0, .inr (10, vL 67 Fh)), (h_s, .inl (cI, 335, .inl f_s)), (h_paceAt, .inl (cI, 40, .inl f_paceAt)), (h_kindOf, .inl (cI, 4, .inl f_kindOf))]) [2, 3, 0, 1] rfl) (hD.sub (ws' := [(h0, .inr (10, vL 67 Fh)), (h_s, .inl (cI, 335, .inl f_s)), (h_paceAt, .inl (cI, 40, .inl f_paceAt)), (h_kindOf, .inl (cI, 4, .inl f_kindOf))]) [2, 3, 0, 1] (by decide) rfl) dX10_isLeaf_99 rfl (Nat.le_of_ble_eq_true rfl) (Nat.le_of_ble_eq_true rfl) ⟨Fh, x_lineTime, x_linePace, x_inside, x_late, x_seed, f_paceAt, f_kindOf, SAME.rf, e_lineTime, e_linePace, e_inside, i_x_inside, e_late, i_x_late, e_seed, (show 0 ≤ (1 : Int32).toInt ∧ (1 : Int32).toInt ≤ 1 by decide), rfl⟩
    · have dc5 : p1.toInt = 1 := eq_i (a := p1.toInt) (b := 1) rfl rfl c5
      have k90 : 1 ≤ p1.toInt ∧ p1.toInt ≤ 1 := ⟨Int.le_trans (Int.le_refl _) (Int.le_of_eq dc5.symm), Int.le_trans (Int.le_of_eq dc5) (Int.le_refl _)⟩
      refine lv_iload hx hb dX10_isLeaf_27 (lv_at hl 0 rfl) ?_
      refine lv_if_ge (tgt := 34) hx hb dX10_isLeaf_29 (by decide) (fun c91 => ?_) (fun c91 => ?_)
      · have dc91 : 0 ≤ r1.toInt := le_i (a := 0) (b := r1.toInt) rfl rfl c91
        have k92 : 0 ≤ r1.toInt ∧ r1.toInt ≤ 3 := ⟨Int.le_trans (Int.le_refl _) dc91, t2.2⟩
        refine lv_aload_n hx hb dX10_isLeaf_34 rfl (lv_at hl 1 rfl) ?_
        refine call_Vv (wr := []) (As := []) (rest := []) hx hb hml hown hw (m_X10_starts l D cI cJ cB cP cM cZ h0 h_s h_paceAt h_kindOf Fh x_seed x_kicks f_s f_paceAt f_kindOf bs _ e_s e_paceAt e_kindOf e_seed e_kicks i_x_kicks s_s_K0 s_s_US s_s_0 s_s_105 s_s_114 s_s_130 s_s_139 s_s_153 s_s_44 s_s_5 s_s_6 s_s_7) wV_X10_340_X10_starts dX10_isLeaf_35 hK hP hD hS hA [2, 3, 0, 1] [] rfl rfl (by decide) (by decide) (by decide) 0 10 rfl rfl GG.fb hG.at hl.1 rfl (Nat.le_of_ble_eq_true rfl) ⟨(Nat.le_of_ble_eq_true rfl), (Nat.le_of_ble_eq_true rfl)⟩ ⟨(Nat.le_of_ble_eq_true rfl), (Nat.le_of_ble_eq_true rfl)⟩ (fun u H locs hp hP hD hS => ?_)
        obtain ⟨F94, y95, y96, y97, y98, y99, g100, g101, t102, t103, t104, t105, t106, t107, t108, t109, t110, rfl⟩ := hp
        have hP : va_P D vwCl [(h0, .inr (10, vL 67 F94)), (h_s, .inl (cI, 335, .inl f_s)), (h_paceAt, .inl (cI, 40, .inl g100)), (h_kindOf, .inl (cI, 4, .inl g101))] H := hP
        have hD : va_D A [(h0, .inr (10, vL 67 F94)), (h_s, .inl (cI, 335, .inl f_s)), (h_paceAt, .inl (cI, 40, .inl g100)), (h_kindOf, .inl (cI, 4, .inl g101))] := hD
        refine W.widen (k := 0) (n := 0) (Nat.le_of_ble_eq_true rfl) (Nat.le_of_ble_eq_true rfl) ?_
        refine lv_aload_n hx hb dX10_isLeaf_38 rfl (lv_at hl 1 rfl) ?_
        refine get_f (D := D) (ci := 10) (v := .int y97) (C := RX10) (T := TX10) (N := 67) hx hb hw inAX10 hown hK hP 0 rfl rfl 29 (by decide) (hw _ q_1290) (fun _ h9 => h9) t106 dX10_isLeaf_39 ?_
        refine lv_iload hx hb dX10_isLeaf_42 (lv_at hl 0 rfl) ?_
        refine call_Si (wr := [(h0, .inr (10, vL 67 F94)), (h_s, .inl (cI, 335, .inl f_s)), (h_paceAt, .inl (cI, 40, .inl g100)), (h_kindOf, .inl (cI, 4, .inl g101))]) (As := [.int y97, .int r1]) (rest := []) hx hb hml hown hw (m_X10_bitOf l D cI cJ cB cP cM cZ y97 r1 _ ) wS_X10_232_X10_bitOf dX10_isLeaf_44 hP hD hS hA [] [0, 1, 2, 3] rfl rfl (by decide) (by decide) (by decide) GG.fb hG.at hl.1 rfl (Nat.le_of_ble_eq_true rfl) ⟨(Nat.le_of_ble_eq_true rfl), (Nat.le_of_ble_eq_true rfl)⟩ ⟨(Nat.le_of_ble_eq_true rfl), (Nat.le_of_ble_eq_true rfl)⟩ (fun r112 u H locs hp hP hD hS => ?_)
        rcases hp with ⟨t113, rfl, rfl⟩ | ⟨t114, rfl, rfl⟩
        · have hP : va_P D vwCl [(h0, .inr (10, vL 67 F94)), (h_s, .inl (cI, 335, .inl f_s)), (h_paceAt, .inl (cI, 40, .inl g100)), (h_kindOf, .inl (cI, 4, .inl g101))] H := hP
          have hD : va_D A [(h0, .inr (10, vL 67 F94)), (h_s, .inl (cI, 335, .inl f_s)), (h_paceAt, .inl (cI, 40, .inl g100)), (h_kindOf, .inl (cI, 4, .inl g101))] := hD
          refine W.widen (k := 0) (n := 0) (Nat.le_of_ble_eq_true rfl) (Nat.le_of_ble_eq_true rfl) ?_
          exact ret_i (v := 0) hx hb hr hlocks hS hP hD dX10_isLeaf_47 rfl (Nat.le_of_ble_eq_true rfl) (Nat.le_of_ble_eq_true rfl) ⟨F94, y95, y96, y97, y98, y99, g100, g101, (SAME.tr SAME.rf t102 (by decide)), t103, t104, t106, t107, t108, t109, t110, (show 0 ≤ (0 : Int32).toInt ∧ (0 : Int32).toInt ≤ 1 by decide), rfl⟩
        · have hP : va_P D vwCl [(h0, .inr (10, vL 67 F94)), (h_s, .inl (cI, 335, .inl f_s)), (h_paceAt, .inl (cI, 40, .inl g100)), (h_kindOf, .inl (cI, 4, .inl g101))] H := hP
          have hD : va_D A [(h0, .inr (10, vL 67 F94)), (h_s, .inl (cI, 335, .inl f_s)), (h_paceAt, .inl (cI, 40, .inl g100)), (h_kindOf, .inl (cI, 4, .inl g101))] := hD
          refine W.widen (k := 0) (n := 0) (Nat.le_of_ble_eq_true rfl) (Nat.le_of_ble_eq_true rfl) ?_
          exact ret_i (v := 1) hx hb hr hlocks hS hP hD dX10_isLeaf_47 rfl (Nat.le_of_ble_eq_true rfl) (Nat.le_of_ble_eq_true rfl) ⟨F94, y95, y96, y97, y98, y99, g100, g101, (SAME.tr SAME.rf t102 (by decide)), t103, t104, t106, t107, t108, t109, t110, (show 0 ≤ (1 : Int32).toInt ∧ (1 : Int32).toInt ≤ 1 by decide), rfl⟩
      · have dc91 : r1.toInt < 0 := nle_i (a := 0) (b := r1.toInt) rfl rfl c91
        have k116 : (-1) ≤ r1.toInt ∧ r1.toInt ≤ (-1) := ⟨t2.1, up_lt dc91 (Int.le_refl _) (by decide)⟩
        refine lv_iconst (v := 0) hx hb dX10_isLeaf_32 (by decide) ?_
        exact ret_i (v := 0) hx hb hr hlocks hS (hP.sub (ws' := [(h0, .inr (10, vL 67 Fh)), (h_s, .inl (cI, 335, .inl f_s)), (h_paceAt, .inl (cI, 40, .inl f_paceAt)), (h_kindOf, .inl (cI, 4, .inl f_kindOf))]) [2, 3, 0, 1] rfl) (hD.sub (ws' := [(h0, .inr (10, vL 67 Fh)), (h_s, .inl (cI, 335, .inl f_s)), (h_paceAt, .inl (cI, 40, .inl f_paceAt)), (h_kindOf, .inl (cI, 4, .inl f_kindOf))]) [2, 3, 0, 1] (by decide) rfl) dX10_isLeaf_33 rfl (Nat.le_of_ble_eq_true rfl) (Nat.le_of_ble_eq_true rfl) ⟨Fh, x_lineTime, x_linePace, x_inside, x_late, x_seed, f_paceAt, f_kindOf, SAME.rf, e_lineTime, e_linePace, e_inside, i_x_inside, e_late, i_x_late, e_seed, (show 0 ≤ (0 : Int32).toInt ∧ (0 : Int32).toInt ≤ 1 by decide), rfl⟩
  · have dc4 : p1.toInt = 0 := eq_i (a := p1.toInt) (b := 0) rfl rfl c4
    have k117 : 0 ≤ p1.toInt ∧ p1.toInt ≤ 0 := ⟨Int.le_trans (Int.le_refl _) (Int.le_of_eq dc4.symm), Int.le_trans (Int.le_of_eq dc4) (Int.le_refl _)⟩
    refine lv_iload hx hb dX10_isLeaf_11 (lv_at hl 0 rfl) ?_
    refine lv_if_lt (tgt := 20) hx hb dX10_isLeaf_13 (by decide) (fun c118 => ?_) (fun c118 => ?_)
    · have dc118 : r1.toInt < 0 := lt_i (a := r1.toInt) (b := 0) rfl rfl c118
      have k119 : (-1) ≤ r1.toInt ∧ r1.toInt ≤ (-1) := ⟨t2.1, up_lt dc118 (Int.le_refl _) (by decide)⟩
      refine lv_iconst (v := 0) hx hb dX10_isLeaf_20 (by decide) ?_
      exact ret_i (v := 0) hx hb hr hlocks hS (hP.sub (ws' := [(h0, .inr (10, vL 67 Fh)), (h_s, .inl (cI, 335, .inl f_s)), (h_paceAt, .inl (cI, 40, .inl f_paceAt)), (h_kindOf, .inl (cI, 4, .inl f_kindOf))]) [2, 3, 0, 1] rfl) (hD.sub (ws' := [(h0, .inr (10, vL 67 Fh)), (h_s, .inl (cI, 335, .inl f_s)), (h_paceAt, .inl (cI, 40, .inl f_paceAt)), (h_kindOf, .inl (cI, 4, .inl f_kindOf))]) [2, 3, 0, 1] (by decide) rfl) dX10_isLeaf_21 rfl (Nat.le_of_ble_eq_true rfl) (Nat.le_of_ble_eq_true rfl) ⟨Fh, x_lineTime, x_linePace, x_inside, x_late, x_seed, f_paceAt, f_kindOf, SAME.rf, e_lineTime, e_linePace, e_inside, i_x_inside, e_late, i_x_late, e_seed, (show 0 ≤ (0 : Int32).toInt ∧ (0 : Int32).toInt ≤ 1 by decide), rfl⟩
    · have dc118 : 0 ≤ r1.toInt := nlt_i (a := r1.toInt) (b := 0) rfl rfl c118
      have k120 : 0 ≤ r1.toInt ∧ r1.toInt ≤ 3 := ⟨Int.le_trans (Int.le_refl _) dc118, t2.2⟩
      refine lv_iconst (v := 1) hx hb dX10_isLeaf_16 (by decide) ?_
      refine lv_goto (tgt := 21) hx hb dX10_isLeaf_17 (by decide) ?_
      exact ret_i (v := 1) hx hb hr hlocks hS (hP.sub (ws' := [(h0, .inr (10, vL 67 Fh)), (h_s, .inl (cI, 335, .inl f_s)), (h_paceAt, .inl (cI, 40, .inl f_paceAt)), (h_kindOf, .inl (cI, 4, .inl f_kindOf))]) [2, 3, 0, 1] rfl) (hD.sub (ws' := [(h0, .inr (10, vL 67 Fh)), (h_s, .inl (cI, 335, .inl f_s)), (h_paceAt, .inl (cI, 40, .inl f_paceAt)), (h_kindOf, .inl (cI, 4, .inl f_kindOf))]) [2, 3, 0, 1] (by decide) rfl) dX10_isLeaf_21 rfl (Nat.le_of_ble_eq_true rfl) (Nat.le_of_ble_eq_true rfl) ⟨Fh, x_lineTime, x_linePace, x_inside, x_late, x_seed, f_paceAt, f_kindOf, SAME.rf, e_lineTime, e_linePace, e_inside, i_x_inside, e_late, i_x_late, e_seed, (show 0 ≤ (1 : Int32).toInt ∧ (1 : Int32).toInt ≤ 1 by decide), rfl⟩
set_option maxHeartbeats 4000000 in
set_option maxRecDepth 100000 in
theorem m_X10_isSaid (l : Launch) (D : va_G) (cI cJ cB cP cM cZ : ClassId) (h0 : Nat) (h_s : Nat) (h_paceAt : Nat) (h_kindOf : Nat) (h_truths : Nat) (Fh : Nat → Value) (x_lineTime : Int32) (x_linePace : Int32) (x_inside : Int32) (x_late : Int32) (x_seed : Int32) (x_kicks : Int32) (f_s : Nat → Int32) (f_paceAt : Nat → Int32) (f_kindOf : Nat → Int32) (f_truths : Nat → Int32) (p0 : Int32) (bs : Nat → Int32) (sz : Nat) (e_s : Fh 6 = .ref h_s) (e_paceAt : Fh 25 = .ref h_paceAt) (e_kindOf : Fh 26 = .ref h_kindOf) (e_lineTime : Fh 27 = .int x_lineTime) (e_linePace : Fh 28 = .int x_linePace) (e_inside : Fh 29 = .int x_inside) (i_x_inside : IR 0 15 x_inside) (e_late : Fh 30 = .int x_late) (i_x_late : IR 0 15 x_late) (e_seed : Fh 31 = .int x_seed) (e_kicks : Fh 32 = .int x_kicks) (i_x_kicks : IR 0 1 x_kicks) (e_truths : Fh 63 = .ref h_truths) (s_s_K0 : KW 0 f_s) (s_s_US : US bs f_s) (s_s_0 : SG 0 0 0 40 f_s) (s_s_105 : SG 105 108 0 11 f_s) (s_s_114 : SG 114 114 0 5 f_s) (s_s_130 : SG 130 133 0 11 f_s) (s_s_139 : SG 139 139 0 5 f_s) (s_s_153 : SG 153 153 0 44 f_s) (s_s_44 : SG 44 55 0 9 f_s) (s_s_5 : SG 5 5 0 12 f_s) (s_s_6 : SG 6 6 0 12 f_s) (s_s_7 : SG 7 7 0 6 f_s) (s_truths_0 : SG 0 44 0 1 f_truths) (i_p0 : IR 0 11 p0) : CI l yX10_isSaid cX10_isSaid 5 (some .boolean) { frames := 5, cells := 0, slots := 0, locals := 120 } (GG D cI cJ cB cP cM cZ) D [(h0, .inr (10, vL 67 Fh)), (h_s, .inl (cI, 335, .inl f_s)), (h_paceAt, .inl (cI, 40, .inl f_paceAt)), (h_kindOf, .inl (cI, 4, .inl f_kindOf)), (h_truths, .inl (cZ, 45, .inl f_truths))] sz [.ref h0, .int p0] (fun (r : Int32) (u : va_W) => ∃ (Gh : Nat → Value) (y_lineTime : Int32) (y_linePace : Int32) (y_inside : Int32) (y_late : Int32) (y_seed : Int32) (g_paceAt : Nat → Int32) (g_kindOf : Nat → Int32) (g_truths : Nat → Int32), SAME [27, 28, 29, 30, 31] Fh Gh ∧ Gh 27 = .int y_lineTime ∧ Gh 28 = .int y_linePace ∧ Gh 29 = .int y_inside ∧ IR 0 15 y_inside ∧ Gh 30 = .int y_late ∧ IR 0 15 y_late ∧ Gh 31 = .int y_seed ∧ SG 0 44 0 1 g_truths ∧ IR 0 1 r ∧ u = [(h0, .inr (10, vL 67 Gh)), (h_s, .inl (cI, 335, .inl f_s)), (h_paceAt, .inl (cI, 40, .inl g_paceAt)), (h_kindOf, .inl (cI, 4, .inl g_kindOf)), (h_truths, .inl (cZ, 45, .inl g_truths))]) := by
  refine CI_mk (by decide) (Nat.le_of_ble_eq_true rfl) ?_
  intro p e s m below meth c A ls E hAe hG hsz hP hD hA hS hl
  obtain ⟨hx, hb, hr, hw, hown, hlocks, hml, hnm⟩ := E
  have hK := hG.1
  have i_x_inside : 0 ≤ x_inside.toInt ∧ x_inside.toInt ≤ 15 := i_x_inside
  have i_x_late : 0 ≤ x_late.toInt ∧ x_late.toInt ≤ 15 := i_x_late
  have i_x_kicks : 0 ≤ x_kicks.toInt ∧ x_kicks.toInt ≤ 1 := i_x_kicks
  have i_p0 : 0 ≤ p0.toInt ∧ p0.toInt ≤ 11 := i_p0
  have hl : lv_has ls 5 [(0, .ref h0), (1, .int p0)] := hl
  refine lv_iconst (v := 0) hx hb dX10_isSaid_0 (by decide) ?_
  refine lv_istore_n (lv' := [(2, .int 0), (0, .ref h0), (1, .int p0)]) hx hb dX10_isSaid_1 rfl hl (by decide) rfl (fun ls hl => ?_)
  refine lv_iconst (v := 0) hx hb dX10_isSaid_2 (by decide) ?_
  refine lv_istore_n (lv' := [(3, .int 0), (2, .int 0), (0, .ref h0), (1, .int p0)]) hx hb dX10_isSaid_3 rfl hl (by decide) rfl (fun ls hl => ?_)
  refine mloop (α := (Int32) × (Int32) × (Nat → Value) × (Int32) × (Int32) × (Int32) × (Int32) × (Int32) × (Nat → Int32) × (Nat → Int32) × (Nat → Int32)) (nL := 5) (D := D) (A := A) (H0 := s.heap) (fun a => (44 - a.1.toInt).toNat) (fun a => IR 0 44 a.1 ∧ IR (-1) 45 a.2.1 ∧ SAME [27, 28, 29, 30, 31] Fh a.2.2.1 ∧ a.2.2.1 27 = .int a.2.2.2.1 ∧ a.2.2.1 28 = .int a.2.2.2.2.1 ∧ a.2.2.1 29 = .int a.2.2.2.2.2.1 ∧ a.2.2.1 30 = .int a.2.2.2.2.2.2.1 ∧ a.2.2.1 31 = .int a.2.2.2.2.2.2.2.1 ∧ IR 0 15 a.2.2.2.2.2.1 ∧ IR 0 15 a.2.2.2.2.2.2.1 ∧ SG 0 44 0 1 a.2.2.2.2.2.2.2.2.2.2 ∧ ((a.2.1.toInt : Int) = dep f_s 154 (a.1.toInt : Int).toNat) ∧ (0 ≤ a.2.1.toInt)) (fun a => [(h0, .inr (10, vL 67 a.2.2.1)), (h_s, .inl (cI, 335, .inl f_s)), (h_paceAt, .inl (cI, 40, .inl a.2.2.2.2.2.2.2.2.1)), (h_kindOf, .inl (cI, 4, .inl a.2.2.2.2.2.2.2.2.2.1)), (h_truths, .inl (cZ, 45, .inl a.2.2.2.2.2.2.2.2.2.2))]) (fun a => [(3, .int a.1), (2, .int a.2.1), (0, .ref h0), (1, .int p0)]) (fun H locs ls => W p l e ({ frames := 5, cells := 0, slots := 0, locals := 120 } : Room) s m [.ref h0, .int p0].toArray below meth c H locs 0 0 (MQ below (va_Qi (fun (r : Int32) (u : va_W) => ∃ (Gh : Nat → Value) (y_lineTime : Int32) (y_linePace : Int32) (y_inside : Int32) (y_late : Int32) (y_seed : Int32) (g_paceAt : Nat → Int32) (g_kindOf : Nat → Int32) (g_truths : Nat → Int32), SAME [27, 28, 29, 30, 31] Fh Gh ∧ Gh 27 = .int y_lineTime ∧ Gh 28 = .int y_linePace ∧ Gh 29 = .int y_inside ∧ IR 0 15 y_inside ∧ Gh 30 = .int y_late ∧ IR 0 15 y_late ∧ Gh 31 = .int y_seed ∧ SG 0 44 0 1 g_truths ∧ IR 0 1 r ∧ u = [(h0, .inr (10, vL 67 Gh)), (h_s, .inl (cI, 335, .inl f_s)), (h_paceAt, .inl (cI, 40, .inl g_paceAt)), (h_kindOf, .inl (cI, 4, .inl g_kindOf)), (h_truths, .inl (cZ, 45, .inl g_truths))]) (PO D A) A) [.ref h0, .int p0].toArray s 0 0 A) (F0 m 4 ls [])) ?_ (0, 0, Fh, x_lineTime, x_linePace, x_inside, x_late, x_seed, f_paceAt, f_kindOf, f_truths) ⟨(show 0 ≤ (0 : Int32).toInt ∧ (0 : Int32).toInt ≤ 44 by decide), (show (-1) ≤ (0 : Int32).toInt ∧ (0 : Int32).toInt ≤ 45 by decide), SAME.rf, e_lineTime, e_linePace, e_inside, e_late, e_seed, i_x_inside, i_x_late, s_truths_0, (show (0 : Int) = dep f_s 154 (0 : Int).toNat from rfl), (by show 0 ≤ 0; omega)⟩ _ _ _ hP hD hS hl
  rintro ⟨u1, u2, G3, u4, u5, u6, u7, u8, w9, w10, w11⟩ ⟨i12, i13, i14, i15, i16, i17, i18, i19, i20, i21, i22, i23, i24⟩ ih H locs ls hP hD hS hl
  have i12 : 0 ≤ u1.toInt ∧ u1.toInt ≤ 44 := i12
  have i13 : (-1) ≤ u2.toInt ∧ u2.toInt ≤ 45 := i13
  have i20 : 0 ≤ u6.toInt ∧ u6.toInt ≤ 15 := i20
  have i21 : 0 ≤ u7.toInt ∧ u7.toInt ≤ 15 := i21
  have i23 : (u2.toInt : Int) = dep f_s 154 (u1.toInt : Int).toNat := i23
  have i24 : 0 ≤ u2.toInt := i24
  have hP : va_P D vwCl [(h0, .inr (10, vL 67 G3)), (h_s, .inl (cI, 335, .inl f_s)), (h_paceAt, .inl (cI, 40, .inl w9)), (h_kindOf, .inl (cI, 4, .inl w10)), (h_truths, .inl (cZ, 45, .inl w11))] H := hP
  have hD : va_D A [(h0, .inr (10, vL 67 G3)), (h_s, .inl (cI, 335, .inl f_s)), (h_paceAt, .inl (cI, 40, .inl w9)), (h_kindOf, .inl (cI, 4, .inl w10)), (h_truths, .inl (cZ, 45, .inl w11))] := hD
  have hl : lv_has ls 5 [(3, .int u1), (2, .int u2), (0, .ref h0), (1, .int p0)] := hl
  refine lv_iload_n hx hb dX10_isSaid_4 rfl (lv_at hl 0 rfl) ?_
  refine lv_aload_n hx hb dX10_isSaid_5 rfl (lv_at hl 2 rfl) ?_
  have n25 : G3 6 = .ref h_s := (SAME.at i14 (by decide) e_s)
  refine get_f (D := D) (ci := 10) (v := .ref h_s) (C := RX10) (T := TX10) (N := 67) hx hb hw inAX10 hown hK hP 0 rfl rfl 6 (by decide) (hw _ q_1267) (fun _ h9 => h9) n25 dX10_isSaid_6 ?_
  refine lv_sipush (v := 153) hx hb dX10_isSaid_9 (by decide) ?_
  refine iald_n hx hb hK hP 1 0 rfl rfl 153 rfl (Nat.le_of_ble_eq_true rfl) (Nat.le_of_ble_eq_true rfl) rfl dX10_isSaid_12 ?_
  refine lv_topi (fun v26 ev26 => ?_)
  have k27 : 0 ≤ v26.toInt ∧ v26.toInt ≤ 44 := by rw [ev26]; exact s_s_153.atN 153 (by decide) (by decide)
  refine lv_icmp_ge (tgt := 212) hx hb dX10_isSaid_13 (by decide) (fun c28 => ?_) (fun c28 => ?_)
  · have dc28 : v26.toInt ≤ u1.toInt := le_i (a := v26.toInt) (b := u1.toInt) rfl rfl c28
    refine lv_aload_n hx hb dX10_isSaid_212 rfl (lv_at hl 2 rfl) ?_
    have n29 : G3 63 = .ref h_truths := (SAME.at i14 (by decide) e_truths)
    refine get_f (D := D) (ci := 10) (v := .ref h_truths) (C := RX10) (T := TX10) (N := 67) hx hb hw inAX10 hown hK hP 0 rfl rfl 63 (by decide) (hw _ q_1324) (fun _ h9 => h9) n29 dX10_isSaid_213 ?_
    refine lv_iconst (v := 0) hx hb dX10_isSaid_216 (by decide) ?_
    refine zald_n hx hb hK hP 4 5 rfl rfl 0 rfl (Nat.le_of_ble_eq_true rfl) (Nat.le_of_ble_eq_true rfl) rfl dX10_isSaid_217 ?_
    refine lv_topi (fun v30 ev30 => ?_)
    have k31 : 0 ≤ v30.toInt ∧ v30.toInt ≤ 1 := by rw [ev30]; exact i22.atN 0 (by decide) (by decide)
    exact ret_i (v := v30) hx hb hr hlocks hS hP hD dX10_isSaid_218 (nz_i k31.1 k31.2) (Nat.le_of_ble_eq_true rfl) (Nat.le_of_ble_eq_true rfl) ⟨G3, u4, u5, u6, u7, u8, w9, w10, w11, (SAME.tr SAME.rf i14 (by decide)), i15, i16, i17, i20, i18, i21, i19, i22, k31, rfl⟩
  · have dc28 : u1.toInt < v26.toInt := nle_i (a := v26.toInt) (b := u1.toInt) rfl rfl c28
    have k32 : 0 ≤ u1.toInt ∧ u1.toInt ≤ 43 := ⟨i12.1, up_lt dc28 k27.2 (by decide)⟩
    have k33 : 1 ≤ v26.toInt ∧ v26.toInt ≤ 44 := ⟨lo_lt dc28 i12.1 (by decide), k27.2⟩
    refine lv_sipush (v := 154) hx hb dX10_isSaid_16 (by decide) ?_
    refine lv_iconst (v := 3) hx hb dX10_isSaid_19 (by decide) ?_
    refine lv_iload_n hx hb dX10_isSaid_20 rfl (lv_at hl 0 rfl) ?_
    refine lv_imul hx hb dX10_isSaid_21 ?_
    refine lv_topi (fun v34 ev34 => ?_)
    have bv34 : v34.toInt = 3 * u1.toInt := by rw [ev34]; exact kmul_k rfl rfl (by decide) k32 (by decide)
    have k35 : 0 ≤ v34.toInt ∧ v34.toInt ≤ 129 := kmul_r bv34 (by decide) k32 (by decide)
    refine lv_iadd hx hb dX10_isSaid_22 ?_
    refine lv_topi (fun v36 ev36 => ?_)
    have bv36 : v36.toInt = 154 + v34.toInt := by rw [ev36]; exact add_k rfl rfl ⟨Int.le_refl _, Int.le_refl _⟩ k35 (by decide)
    have k37 : 154 ≤ v36.toInt ∧ v36.toInt ≤ 283 := add_r bv36 ⟨Int.le_refl _, Int.le_refl _⟩ k35 (by decide)
    refine lv_istore (lv' := [(4, .int v36), (3, .int u1), (2, .int u2), (0, .ref h0), (1, .int p0)]) hx hb dX10_isSaid_23 hl (by decide) rfl (fun ls hl => ?_)
    refine lv_aload_n hx hb dX10_isSaid_25 rfl (lv_at hl 3 rfl) ?_
    refine get_f (D := D) (ci := 10) (v := .ref h_s) (C := RX10) (T := TX10) (N := 67) hx hb hw inAX10 hown hK hP 0 rfl rfl 6 (by decide) (hw _ q_1267) (fun _ h9 => h9) n25 dX10_isSaid_26 ?_
    refine lv_iload hx hb dX10_isSaid_29 (lv_at hl 0 rfl) ?_
    refine va_iald hx hb hK hP 1 0 rfl rfl (ix_k k37 (by decide) (by decide)) dX10_isSaid_31 ?_
    refine lv_topi (fun v38 ev38 => ?_)
    have h39 := KW.g s_s_K0 (i := u1) ev38 (by omega) (by omega) (congrArg Int32.toInt ev26.symm) (by omega)
    have h40 := stp_ca v38.toInt
    have h41 := dep_le f_s 154 u1.toInt.toNat
    have dh41 := dep_st (i := u1) ev38 (by omega) (by omega) (rfl : u1.toInt + 1 = u1.toInt + 1)
    refine lv_bipush (v := 20) hx hb dX10_isSaid_32 (by decide) ?_
    refine lv_icmp_ne (tgt := 64) hx hb dX10_isSaid_34 (by decide) (fun c42 => ?_) (fun c42 => ?_)
    · have dc42 : v38.toInt ≠ 20 := ne_i (a := v38.toInt) (b := 20) rfl rfl c42
      refine lv_aload_n hx hb dX10_isSaid_64 rfl (lv_at hl 3 rfl) ?_
      refine get_f (D := D) (ci := 10) (v := .ref h_s) (C := RX10) (T := TX10) (N := 67) hx hb hw inAX10 hown hK hP 0 rfl rfl 6 (by decide) (hw _ q_1267) (fun _ h9 => h9) n25 dX10_isSaid_65 ?_
      refine lv_iload hx hb dX10_isSaid_68 (lv_at hl 0 rfl) ?_
      refine va_iald hx hb hK hP 1 0 rfl rfl (ix_k k37 (by decide) (by decide)) dX10_isSaid_70 ?_
      refine lv_ci (y := v38) ev38.symm ?_
      refine lv_bipush (v := 21) hx hb dX10_isSaid_71 (by decide) ?_
      refine lv_icmp_eq (tgt := 88) hx hb dX10_isSaid_73 (by decide) (fun c43 => ?_) (fun c43 => ?_)
      · have dc43 : v38.toInt = 21 := eq_i (a := v38.toInt) (b := 21) rfl rfl c43
        have k44 : 21 ≤ v38.toInt ∧ v38.toInt ≤ 21 := ⟨Int.le_trans (Int.le_refl _) (Int.le_of_eq dc43.symm), Int.le_trans (Int.le_of_eq dc43) (Int.le_refl _)⟩
        obtain ⟨v45, ev45⟩ : ∃ z : Int32, z = u2 + (-1) := ⟨_, rfl⟩
        have bv45 : v45.toInt = u2.toInt + (-1) := by rw [ev45]; exact add_k rfl rfl i13 ⟨Int.le_refl _, Int.le_refl _⟩ (by decide)
        have k46 : (-2) ≤ v45.toInt ∧ v45.toInt ≤ 44 := add_r bv45 i13 ⟨Int.le_refl _, Int.le_refl _⟩ (by decide)
        refine lv_iinc (v := v45) (lv' := [(2, .int v45), (4, .int v36), (3, .int u1), (0, .ref h0), (1, .int p0)]) hx hb dX10_isSaid_88 hl (k := 2) rfl (by rw [ev45]; rfl) (by decide) rfl (fun ls hl => ?_)
        refine lv_aload_n hx hb dX10_isSaid_91 rfl (lv_at hl 3 rfl) ?_
        have n47 : G3 63 = .ref h_truths := (SAME.at i14 (by decide) e_truths)
        refine get_f (D := D) (ci := 10) (v := .ref h_truths) (C := RX10) (T := TX10) (N := 67) hx hb hw inAX10 hown hK hP 0 rfl rfl 63 (by decide) (hw _ q_1324) (fun _ h9 => h9) n47 dX10_isSaid_92 ?_
        refine lv_iload_n hx hb dX10_isSaid_95 rfl (lv_at hl 0 rfl) ?_
        refine lv_iconst (v := 1) hx hb dX10_isSaid_96 (by decide) ?_
        refine lv_isub hx hb dX10_isSaid_97 ?_
        refine lv_topi (fun v48 ev48 => ?_)
        have bv48 : v48.toInt = v45.toInt - 1 := by rw [ev48]; exact sub_k rfl rfl k46 ⟨Int.le_refl _, Int.le_refl _⟩ (by decide)
        have k49 : (-3) ≤ v48.toInt ∧ v48.toInt ≤ 43 := sub_r bv48 k46 ⟨Int.le_refl _, Int.le_refl _⟩ (by decide)
        refine lv_aload_n hx hb dX10_isSaid_98 rfl (lv_at hl 3 rfl) ?_
        refine get_f (D := D) (ci := 10) (v := .ref h_s) (C := RX10) (T := TX10) (N := 67) hx hb hw inAX10 hown hK hP 0 rfl rfl 6 (by decide) (hw _ q_1267) (fun _ h9 => h9) n25 dX10_isSaid_99 ?_
        refine lv_iload hx hb dX10_isSaid_102 (lv_at hl 1 rfl) ?_
        refine va_iald hx hb hK hP 1 0 rfl rfl (ix_k k37 (by decide) (by decide)) dX10_isSaid_104 ?_
        refine lv_ci (y := v38) ev38.symm ?_
        refine lv_bipush (v := 21) hx hb dX10_isSaid_105 (by decide) ?_
        refine lv_icmp_ne (tgt := 138) hx hb dX10_isSaid_107 (by decide) (fun c50 => False.elim (bad_ne (ne_i (a := v38.toInt) (b := 21) rfl rfl c50) k44 ⟨Int.le_refl _, Int.le_refl _⟩ (by decide))) (fun c50 => ?_)
        have dc50 : v38.toInt = 21 := eq_i (a := v38.toInt) (b := 21) rfl rfl c50
        refine lv_aload_n hx hb dX10_isSaid_110 rfl (lv_at hl 3 rfl) ?_
        refine get_f (D := D) (ci := 10) (v := .ref h_truths) (C := RX10) (T := TX10) (N := 67) hx hb hw inAX10 hown hK hP 0 rfl rfl 63 (by decide) (hw _ q_1324) (fun _ h9 => h9) n47 dX10_isSaid_111 ?_
        refine lv_iload_n hx hb dX10_isSaid_114 rfl (lv_at hl 0 rfl) ?_
        refine lv_iconst (v := 1) hx hb dX10_isSaid_115 (by decide) ?_
        refine lv_isub hx hb dX10_isSaid_116 ?_
        refine lv_ci (y := v48) ev48.symm ?_
        refine va_zald hx hb hK hP 4 5 rfl rfl (ix_i (by omega) (by omega)) dX10_isSaid_117 ?_
        refine lv_topi (fun v51 ev51 => ?_)
        have r52 : IMP (0 ≤ v48.toInt → v48.toInt ≤ 44 → 0 ≤ v51.toInt ∧ v51.toInt ≤ 1) := IMP.mk (fun q1 q2 => by rw [ev51]; exact i22.at _ q1 q2)
        refine lv_if_eq (tgt := 134) hx hb dX10_isSaid_118 (by decide) (fun c53 => ?_) (fun c53 => ?_)
        · have dc53 : v51.toInt = 0 := eq_i (a := v51.toInt) (b := 0) rfl rfl c53
          have k54 : 0 ≤ v51.toInt ∧ v51.toInt ≤ 0 := ⟨Int.le_trans (Int.le_refl _) (Int.le_of_eq dc53.symm), Int.le_trans (Int.le_of_eq dc53) (Int.le_refl _)⟩
          refine lv_iconst (v := 0) hx hb dX10_isSaid_134 (by decide) ?_
          refine lv_goto (tgt := 163) hx hb dX10_isSaid_135 (by decide) ?_
          obtain ⟨g55, eg55⟩ : ∃ z : Nat → Int32, upd w11 v48.toNatClampNeg (vp_nar .boolean 0) = z := ⟨_, rfl⟩
          have r56 : SG 0 44 0 1 g55 := by rw [← eg55, zn_k (show 0 ≤ (0 : Int32).toInt ∧ (0 : Int32).toInt ≤ 1 by decide)]; exact i22.up (by omega) (Or.inr (Or.inr ⟨by decide, by decide⟩))
          refine zast_g hx hb hK hP hD hS 4 5 rfl rfl (ix_i (by omega) (by omega)) eg55 dX10_isSaid_163 (fun H locs hP hD hS => ?_)
          have hP : va_P D vwCl [(h0, .inr (10, vL 67 G3)), (h_s, .inl (cI, 335, .inl f_s)), (h_paceAt, .inl (cI, 40, .inl w9)), (h_kindOf, .inl (cI, 4, .inl w10)), (h_truths, .inl (cZ, 45, .inl g55))] H := hP
          have hD : va_D A [(h0, .inr (10, vL 67 G3)), (h_s, .inl (cI, 335, .inl f_s)), (h_paceAt, .inl (cI, 40, .inl w9)), (h_kindOf, .inl (cI, 4, .inl w10)), (h_truths, .inl (cZ, 45, .inl g55))] := hD
          refine lv_goto (tgt := 206) hx hb dX10_isSaid_164 (by decide) ?_
          obtain ⟨v57, ev57⟩ : ∃ z : Int32, z = u1 + 1 := ⟨_, rfl⟩
          have bv57 : v57.toInt = u1.toInt + 1 := by rw [ev57]; exact add_k rfl rfl k32 ⟨Int.le_refl _, Int.le_refl _⟩ (by decide)
          have k58 : 1 ≤ v57.toInt ∧ v57.toInt ≤ 44 := add_r bv57 k32 ⟨Int.le_refl _, Int.le_refl _⟩ (by decide)
          refine lv_iinc (v := v57) (lv' := [(3, .int v57), (2, .int v45), (4, .int v36), (0, .ref h0), (1, .int p0)]) hx hb dX10_isSaid_206 hl (k := 2) rfl (by rw [ev57]; rfl) (by decide) rfl (fun ls hl => ?_)
          refine lv_goto (tgt := 4) hx hb dX10_isSaid_209 (by decide) ?_
          exact ih (v57, v45, G3, u4, u5, u6, u7, u8, w9, w10, g55) ⟨(ir_wk k58 (by decide) (by decide)), (show (-1) ≤ v45.toInt ∧ v45.toInt ≤ 45 from ⟨by omega, by omega⟩), (SAME.tr SAME.rf i14 (by decide)), i15, i16, i17, i18, i19, i20, i21, r56, (show (v45.toInt : Int) = dep f_s 154 (v57.toInt : Int).toNat from (by rw [bv57]; omega)), (by show 0 ≤ v45.toInt; omega)⟩ (by show (44 - v57.toInt).toNat < (44 - u1.toInt).toNat; omega) _ _ _ hP hD hS (lv_sub hl [0, 1, 3, 4] rfl)
        · have dc53 : v51.toInt ≠ 0 := ne_i (a := v51.toInt) (b := 0) rfl rfl c53
          refine lv_aload_n hx hb dX10_isSaid_121 rfl (lv_at hl 3 rfl) ?_
          refine get_f (D := D) (ci := 10) (v := .ref h_truths) (C := RX10) (T := TX10) (N := 67) hx hb hw inAX10 hown hK hP 0 rfl rfl 63 (by decide) (hw _ q_1324) (fun _ h9 => h9) n47 dX10_isSaid_122 ?_
          refine lv_iload_n hx hb dX10_isSaid_125 rfl (lv_at hl 0 rfl) ?_
          refine va_zald hx hb hK hP 4 5 rfl rfl (ix_i (by omega) (by omega)) dX10_isSaid_126 ?_
          refine lv_topi (fun v59 ev59 => ?_)
          have r60 : IMP (0 ≤ v45.toInt → v45.toInt ≤ 44 → 0 ≤ v59.toInt ∧ v59.toInt ≤ 1) := IMP.mk (fun q1 q2 => by rw [ev59]; exact i22.at _ q1 q2)
          refine lv_if_eq (tgt := 134) hx hb dX10_isSaid_127 (by decide) (fun c61 => ?_) (fun c61 => ?_)
          · have dc61 : v59.toInt = 0 := eq_i (a := v59.toInt) (b := 0) rfl rfl c61
            have k62 : 0 ≤ v59.toInt ∧ v59.toInt ≤ 0 := ⟨Int.le_trans (Int.le_refl _) (Int.le_of_eq dc61.symm), Int.le_trans (Int.le_of_eq dc61) (Int.le_refl _)⟩
            refine lv_iconst (v := 0) hx hb dX10_isSaid_134 (by decide) ?_
            refine lv_goto (tgt := 163) hx hb dX10_isSaid_135 (by decide) ?_
            obtain ⟨g63, eg63⟩ : ∃ z : Nat → Int32, upd w11 v48.toNatClampNeg (vp_nar .boolean 0) = z := ⟨_, rfl⟩
            have r64 : SG 0 44 0 1 g63 := by rw [← eg63, zn_k (show 0 ≤ (0 : Int32).toInt ∧ (0 : Int32).toInt ≤ 1 by decide)]; exact i22.up (by omega) (Or.inr (Or.inr ⟨by decide, by decide⟩))
            refine zast_g hx hb hK hP hD hS 4 5 rfl rfl (ix_i (by omega) (by omega)) eg63 dX10_isSaid_163 (fun H locs hP hD hS => ?_)
            have hP : va_P D vwCl [(h0, .inr (10, vL 67 G3)), (h_s, .inl (cI, 335, .inl f_s)), (h_paceAt, .inl (cI, 40, .inl w9)), (h_kindOf, .inl (cI, 4, .inl w10)), (h_truths, .inl (cZ, 45, .inl g63))] H := hP
            have hD : va_D A [(h0, .inr (10, vL 67 G3)), (h_s, .inl (cI, 335, .inl f_s)), (h_paceAt, .inl (cI, 40, .inl w9)), (h_kindOf, .inl (cI, 4, .inl w10)), (h_truths, .inl (cZ, 45, .inl g63))] := hD
            refine lv_goto (tgt := 206) hx hb dX10_isSaid_164 (by decide) ?_
            obtain ⟨v65, ev65⟩ : ∃ z : Int32, z = u1 + 1 := ⟨_, rfl⟩
            have bv65 : v65.toInt = u1.toInt + 1 := by rw [ev65]; exact add_k rfl rfl k32 ⟨Int.le_refl _, Int.le_refl _⟩ (by decide)
            have k66 : 1 ≤ v65.toInt ∧ v65.toInt ≤ 44 := add_r bv65 k32 ⟨Int.le_refl _, Int.le_refl _⟩ (by decide)
            refine lv_iinc (v := v65) (lv' := [(3, .int v65), (2, .int v45), (4, .int v36), (0, .ref h0), (1, .int p0)]) hx hb dX10_isSaid_206 hl (k := 2) rfl (by rw [ev65]; rfl) (by decide) rfl (fun ls hl => ?_)
            refine lv_goto (tgt := 4) hx hb dX10_isSaid_209 (by decide) ?_
            exact ih (v65, v45, G3, u4, u5, u6, u7, u8, w9, w10, g63) ⟨(ir_wk k66 (by decide) (by decide)), (show (-1) ≤ v45.toInt ∧ v45.toInt ≤ 45 from ⟨by omega, by omega⟩), (SAME.tr SAME.rf i14 (by decide)), i15, i16, i17, i18, i19, i20, i21, r64, (show (v45.toInt : Int) = dep f_s 154 (v65.toInt : Int).toNat from (by rw [bv65]; omega)), (by show 0 ≤ v45.toInt; omega)⟩ (by show (44 - v65.toInt).toNat < (44 - u1.toInt).toNat; omega) _ _ _ hP hD hS (lv_sub hl [0, 1, 3, 4] rfl)
          · have dc61 : v59.toInt ≠ 0 := ne_i (a := v59.toInt) (b := 0) rfl rfl c61
            refine lv_iconst (v := 1) hx hb dX10_isSaid_130 (by decide) ?_
            refine lv_goto (tgt := 163) hx hb dX10_isSaid_131 (by decide) ?_
            obtain ⟨g67, eg67⟩ : ∃ z : Nat → Int32, upd w11 v48.toNatClampNeg (vp_nar .boolean 1) = z := ⟨_, rfl⟩
            have r68 : SG 0 44 0 1 g67 := by rw [← eg67, zn_k (show 0 ≤ (1 : Int32).toInt ∧ (1 : Int32).toInt ≤ 1 by decide)]; exact i22.up (by omega) (Or.inr (Or.inr ⟨by decide, by decide⟩))
            refine zast_g hx hb hK hP hD hS 4 5 rfl rfl (ix_i (by omega) (by omega)) eg67 dX10_isSaid_163 (fun H locs hP hD hS => ?_)
            have hP : va_P D vwCl [(h0, .inr (10, vL 67 G3)), (h_s, .inl (cI, 335, .inl f_s)), (h_paceAt, .inl (cI, 40, .inl w9)), (h_kindOf, .inl (cI, 4, .inl w10)), (h_truths, .inl (cZ, 45, .inl g67))] H := hP
            have hD : va_D A [(h0, .inr (10, vL 67 G3)), (h_s, .inl (cI, 335, .inl f_s)), (h_paceAt, .inl (cI, 40, .inl w9)), (h_kindOf, .inl (cI, 4, .inl w10)), (h_truths, .inl (cZ, 45, .inl g67))] := hD
            refine lv_goto (tgt := 206) hx hb dX10_isSaid_164 (by decide) ?_
            obtain ⟨v69, ev69⟩ : ∃ z : Int32, z = u1 + 1 := ⟨_, rfl⟩
            have bv69 : v69.toInt = u1.toInt + 1 := by rw [ev69]; exact add_k rfl rfl k32 ⟨Int.le_refl _, Int.le_refl _⟩ (by decide)
            have k70 : 1 ≤ v69.toInt ∧ v69.toInt ≤ 44 := add_r bv69 k32 ⟨Int.le_refl _, Int.le_refl _⟩ (by decide)
            refine lv_iinc (v := v69) (lv' := [(3, .int v69), (2, .int v45), (4, .int v36), (0, .ref h0), (1, .int p0)]) hx hb dX10_isSaid_206 hl (k := 2) rfl (by rw [ev69]; rfl) (by decide) rfl (fun ls hl => ?_)
            refine lv_goto (tgt := 4) hx hb dX10_isSaid_209 (by decide) ?_
            exact ih (v69, v45, G3, u4, u5, u6, u7, u8, w9, w10, g67) ⟨(ir_wk k70 (by decide) (by decide)), (show (-1) ≤ v45.toInt ∧ v45.toInt ≤ 45 from ⟨by omega, by omega⟩), (SAME.tr SAME.rf i14 (by decide)), i15, i16, i17, i18, i19, i20, i21, r68, (show (v45.toInt : Int) = dep f_s 154 (v69.toInt : Int).toNat from (by rw [bv69]; omega)), (by show 0 ≤ v45.toInt; omega)⟩ (by show (44 - v69.toInt).toNat < (44 - u1.toInt).toNat; omega) _ _ _ hP hD hS (lv_sub hl [0, 1, 3, 4] rfl)
      · have dc43 : v38.toInt ≠ 21 := ne_i (a := v38.toInt) (b := 21) rfl rfl c43
        refine lv_aload_n hx hb dX10_isSaid_76 rfl (lv_at hl 3 rfl) ?_
        refine get_f (D := D) (ci := 10) (v := .ref h_s) (C := RX10) (T := TX10) (N := 67) hx hb hw inAX10 hown hK hP 0 rfl rfl 6 (by decide) (hw _ q_1267) (fun _ h9 => h9) n25 dX10_isSaid_77 ?_
        refine lv_iload hx hb dX10_isSaid_80 (lv_at hl 0 rfl) ?_
        refine va_iald hx hb hK hP 1 0 rfl rfl (ix_k k37 (by decide) (by decide)) dX10_isSaid_82 ?_
        refine lv_ci (y := v38) ev38.symm ?_
        refine lv_bipush (v := 22) hx hb dX10_isSaid_83 (by decide) ?_
        refine lv_icmp_ne (tgt := 167) hx hb dX10_isSaid_85 (by decide) (fun c71 => ?_) (fun c71 => ?_)
        · have dc71 : v38.toInt ≠ 22 := ne_i (a := v38.toInt) (b := 22) rfl rfl c71
          refine lv_aload_n hx hb dX10_isSaid_167 rfl (lv_at hl 3 rfl) ?_
          have n72 : G3 63 = .ref h_truths := (SAME.at i14 (by decide) e_truths)
          refine get_f (D := D) (ci := 10) (v := .ref h_truths) (C := RX10) (T := TX10) (N := 67) hx hb hw inAX10 hown hK hP 0 rfl rfl 63 (by decide) (hw _ q_1324) (fun _ h9 => h9) n72 dX10_isSaid_168 ?_
          refine lv_iload_n hx hb dX10_isSaid_171 rfl (lv_at hl 2 rfl) ?_
          refine lv_aload_n hx hb dX10_isSaid_172 rfl (lv_at hl 3 rfl) ?_
          refine lv_iload_n hx hb dX10_isSaid_173 rfl (lv_at hl 4 rfl) ?_
          refine lv_aload_n hx hb dX10_isSaid_174 rfl (lv_at hl 3 rfl) ?_
          refine get_f (D := D) (ci := 10) (v := .ref h_s) (C := RX10) (T := TX10) (N := 67) hx hb hw inAX10 hown hK hP 0 rfl rfl 6 (by decide) (hw _ q_1267) (fun _ h9 => h9) n25 dX10_isSaid_175 ?_
          refine lv_iload hx hb dX10_isSaid_178 (lv_at hl 0 rfl) ?_
          refine va_iald hx hb hK hP 1 0 rfl rfl (ix_k k37 (by decide) (by decide)) dX10_isSaid_180 ?_
          refine lv_ci (y := v38) ev38.symm ?_
          refine lv_aload_n hx hb dX10_isSaid_181 rfl (lv_at hl 3 rfl) ?_
          refine get_f (D := D) (ci := 10) (v := .ref h_s) (C := RX10) (T := TX10) (N := 67) hx hb hw inAX10 hown hK hP 0 rfl rfl 6 (by decide) (hw _ q_1267) (fun _ h9 => h9) n25 dX10_isSaid_182 ?_
          refine lv_iload hx hb dX10_isSaid_185 (lv_at hl 0 rfl) ?_
          refine lv_iconst (v := 1) hx hb dX10_isSaid_187 (by decide) ?_
          refine lv_iadd hx hb dX10_isSaid_188 ?_
          refine lv_topi (fun v73 ev73 => ?_)
          have bv73 : v73.toInt = v36.toInt + 1 := by rw [ev73]; exact add_k rfl rfl k37 ⟨Int.le_refl _, Int.le_refl _⟩ (by decide)
          have k74 : 155 ≤ v73.toInt ∧ v73.toInt ≤ 284 := add_r bv73 k37 ⟨Int.le_refl _, Int.le_refl _⟩ (by decide)
          refine va_iald hx hb hK hP 1 0 rfl rfl (ix_k k74 (by decide) (by decide)) dX10_isSaid_189 ?_
          refine lv_topi (fun v75 ev75 => ?_)
          refine lv_aload_n hx hb dX10_isSaid_190 rfl (lv_at hl 3 rfl) ?_
          refine get_f (D := D) (ci := 10) (v := .ref h_s) (C := RX10) (T := TX10) (N := 67) hx hb hw inAX10 hown hK hP 0 rfl rfl 6 (by decide) (hw _ q_1267) (fun _ h9 => h9) n25 dX10_isSaid_191 ?_
          refine lv_iload hx hb dX10_isSaid_194 (lv_at hl 0 rfl) ?_
          refine lv_iconst (v := 2) hx hb dX10_isSaid_196 (by decide) ?_
          refine lv_iadd hx hb dX10_isSaid_197 ?_
          refine lv_topi (fun v76 ev76 => ?_)
          have bv76 : v76.toInt = v36.toInt + 2 := by rw [ev76]; exact add_k rfl rfl k37 ⟨Int.le_refl _, Int.le_refl _⟩ (by decide)
          have k77 : 156 ≤ v76.toInt ∧ v76.toInt ≤ 285 := add_r bv76 k37 ⟨Int.le_refl _, Int.le_refl _⟩ (by decide)
          refine va_iald hx hb hK hP 1 0 rfl rfl (ix_k k77 (by decide) (by decide)) dX10_isSaid_198 ?_
          refine lv_topi (fun v78 ev78 => ?_)
          have n79 : G3 25 = .ref h_paceAt := (SAME.at i14 (by decide) e_paceAt)
          have n80 : G3 26 = .ref h_kindOf := (SAME.at i14 (by decide) e_kindOf)
          have n81 : G3 32 = .int x_kicks := (SAME.at i14 (by decide) e_kicks)
          refine call_Vi (wr := [(h_truths, .inl (cZ, 45, .inl w11))]) (As := [.int p0, .int v38, .int v75, .int v78]) (rest := [.int u2, .ref h_truths]) hx hb hml hown hw (m_X10_isLeaf l D cI cJ cB cP cM cZ h0 h_s h_paceAt h_kindOf G3 u4 u5 u6 u7 u8 x_kicks f_s w9 w10 p0 v38 v75 v78 bs _ n25 n79 n80 i15 i16 i17 i20 i18 i21 i19 n81 i_x_kicks s_s_K0 s_s_US s_s_0 s_s_105 s_s_114 s_s_130 s_s_139 s_s_153 s_s_44 s_s_5 s_s_6 s_s_7 i_p0) wV_X10_475_X10_isLeaf dX10_isSaid_199 hK hP hD hS hA [0, 1, 2, 3] [4] rfl rfl (by decide) (by decide) (by decide) 0 10 rfl rfl GG.fb hG.at hl.1 rfl (Nat.le_of_ble_eq_true rfl) ⟨(Nat.le_of_ble_eq_true rfl), (Nat.le_of_ble_eq_true rfl)⟩ ⟨(Nat.le_of_ble_eq_true rfl), (Nat.le_of_ble_eq_true rfl)⟩ (fun r82 u H locs hp hP hD hS => ?_)
          obtain ⟨F83, y84, y85, y86, y87, y88, g89, g90, t91, t92, t93, t94, t95, t96, t97, t98, t99, rfl⟩ := hp
          have hP : va_P D vwCl [(h_truths, .inl (cZ, 45, .inl w11)), (h0, .inr (10, vL 67 F83)), (h_s, .inl (cI, 335, .inl f_s)), (h_paceAt, .inl (cI, 40, .inl g89)), (h_kindOf, .inl (cI, 4, .inl g90))] H := hP
          have hD : va_D A [(h_truths, .inl (cZ, 45, .inl w11)), (h0, .inr (10, vL 67 F83)), (h_s, .inl (cI, 335, .inl f_s)), (h_paceAt, .inl (cI, 40, .inl g89)), (h_kindOf, .inl (cI, 4, .inl g90))] := hD
          refine W.widen (k := 0) (n := 0) (Nat.le_of_ble_eq_true rfl) (Nat.le_of_ble_eq_true rfl) ?_
          obtain ⟨g101, eg101⟩ : ∃ z : Nat → Int32, upd w11 u2.toNatClampNeg (vp_nar .boolean r82) = z := ⟨_, rfl⟩
          have r102 : SG 0 44 0 1 g101 := by rw [← eg101, zn_k t99]; exact i22.up (by omega) (Or.inr (Or.inr (ir_wk t99 (by decide) (by decide))))
          refine zast_g hx hb hK hP hD hS 0 5 rfl rfl (ix_i (by omega) (by omega)) eg101 dX10_isSaid_202 (fun H locs hP hD hS => ?_)
          have hP : va_P D vwCl [(h_truths, .inl (cZ, 45, .inl g101)), (h0, .inr (10, vL 67 F83)), (h_s, .inl (cI, 335, .inl f_s)), (h_paceAt, .inl (cI, 40, .inl g89)), (h_kindOf, .inl (cI, 4, .inl g90))] H := hP
          have hD : va_D A [(h_truths, .inl (cZ, 45, .inl g101)), (h0, .inr (10, vL 67 F83)), (h_s, .inl (cI, 335, .inl f_s)), (h_paceAt, .inl (cI, 40, .inl g89)), (h_kindOf, .inl (cI, 4, .inl g90))] := hD
          obtain ⟨v103, ev103⟩ : ∃ z : Int32, z = u2 + 1 := ⟨_, rfl⟩
          have bv103 : v103.toInt = u2.toInt + 1 := by rw [ev103]; exact add_k rfl rfl i13 ⟨Int.le_refl _, Int.le_refl _⟩ (by decide)
          have k104 : 0 ≤ v103.toInt ∧ v103.toInt ≤ 46 := add_r bv103 i13 ⟨Int.le_refl _, Int.le_refl _⟩ (by decide)
          refine lv_iinc (v := v103) (lv' := [(2, .int v103), (4, .int v36), (3, .int u1), (0, .ref h0), (1, .int p0)]) hx hb dX10_isSaid_203 hl (k := 2) rfl (by rw [ev103]; rfl) (by decide) rfl (fun ls hl => ?_)
          obtain ⟨v105, ev105⟩ : ∃ z : Int32, z = u1 + 1 := ⟨_, rfl⟩
          have bv105 : v105.toInt = u1.toInt + 1 := by rw [ev105]; exact add_k rfl rfl k32 ⟨Int.le_refl _, Int.le_refl _⟩ (by decide)
          have k106 : 1 ≤ v105.toInt ∧ v105.toInt ≤ 44 := add_r bv105 k32 ⟨Int.le_refl _, Int.le_refl _⟩ (by decide)
          refine lv_iinc (v := v105) (lv' := [(3, .int v105), (2, .int v103), (4, .int v36), (0, .ref h0), (1, .int p0)]) hx hb dX10_isSaid_206 hl (k := 2) rfl (by rw [ev105]; rfl) (by decide) rfl (fun ls hl => ?_)
          refine lv_goto (tgt := 4) hx hb dX10_isSaid_209 (by decide) ?_
          exact ih (v105, v103, F83, y84, y85, y86, y87, y88, g89, g90, g101) ⟨(ir_wk k106 (by decide) (by decide)), (show (-1) ≤ v103.toInt ∧ v103.toInt ≤ 45 from ⟨by omega, by omega⟩), (SAME.tr (SAME.tr SAME.rf i14 (by decide)) t91 (by decide)), t92, t93, t94, t96, t98, t95, t97, r102, (show (v103.toInt : Int) = dep f_s 154 (v105.toInt : Int).toNat from (by rw [bv105]; omega)), (by show 0 ≤ v103.toInt; omega)⟩ (by show (44 - v105.toInt).toNat < (44 - u1.toInt).toNat; omega) _ _ _ (hP.sub [1, 2, 3, 4, 0] rfl) (hD.sub [1, 2, 3, 4, 0] (by decide) rfl) hS (lv_sub hl [0, 1, 3, 4] rfl)
        · have dc71 : v38.toInt = 22 := eq_i (a := v38.toInt) (b := 22) rfl rfl c71
          have k107 : 22 ≤ v38.toInt ∧ v38.toInt ≤ 22 := ⟨Int.le_trans (Int.le_refl _) (Int.le_of_eq dc71.symm), Int.le_trans (Int.le_of_eq dc71) (Int.le_refl _)⟩
          obtain ⟨v108, ev108⟩ : ∃ z : Int32, z = u2 + (-1) := ⟨_, rfl⟩
          have bv108 : v108.toInt = u2.toInt + (-1) := by rw [ev108]; exact add_k rfl rfl i13 ⟨Int.le_refl _, Int.le_refl _⟩ (by decide)
          have k109 : (-2) ≤ v108.toInt ∧ v108.toInt ≤ 44 := add_r bv108 i13 ⟨Int.le_refl _, Int.le_refl _⟩ (by decide)
          refine lv_iinc (v := v108) (lv' := [(2, .int v108), (4, .int v36), (3, .int u1), (0, .ref h0), (1, .int p0)]) hx hb dX10_isSaid_88 hl (k := 2) rfl (by rw [ev108]; rfl) (by decide) rfl (fun ls hl => ?_)
          refine lv_aload_n hx hb dX10_isSaid_91 rfl (lv_at hl 3 rfl) ?_
          have n110 : G3 63 = .ref h_truths := (SAME.at i14 (by decide) e_truths)
          refine get_f (D := D) (ci := 10) (v := .ref h_truths) (C := RX10) (T := TX10) (N := 67) hx hb hw inAX10 hown hK hP 0 rfl rfl 63 (by decide) (hw _ q_1324) (fun _ h9 => h9) n110 dX10_isSaid_92 ?_
          refine lv_iload_n hx hb dX10_isSaid_95 rfl (lv_at hl 0 rfl) ?_
          refine lv_iconst (v := 1) hx hb dX10_isSaid_96 (by decide) ?_
          refine lv_isub hx hb dX10_isSaid_97 ?_
          refine lv_topi (fun v111 ev111 => ?_)
          have bv111 : v111.toInt = v108.toInt - 1 := by rw [ev111]; exact sub_k rfl rfl k109 ⟨Int.le_refl _, Int.le_refl _⟩ (by decide)
          have k112 : (-3) ≤ v111.toInt ∧ v111.toInt ≤ 43 := sub_r bv111 k109 ⟨Int.le_refl _, Int.le_refl _⟩ (by decide)
          refine lv_aload_n hx hb dX10_isSaid_98 rfl (lv_at hl 3 rfl) ?_
          refine get_f (D := D) (ci := 10) (v := .ref h_s) (C := RX10) (T := TX10) (N := 67) hx hb hw inAX10 hown hK hP 0 rfl rfl 6 (by decide) (hw _ q_1267) (fun _ h9 => h9) n25 dX10_isSaid_99 ?_
          refine lv_iload hx hb dX10_isSaid_102 (lv_at hl 1 rfl) ?_
          refine va_iald hx hb hK hP 1 0 rfl rfl (ix_k k37 (by decide) (by decide)) dX10_isSaid_104 ?_
          refine lv_ci (y := v38) ev38.symm ?_
          refine lv_bipush (v := 21) hx hb dX10_isSaid_105 (by decide) ?_
          refine lv_icmp_ne (tgt := 138) hx hb dX10_isSaid_107 (by decide) (fun c113 => ?_) (fun c113 => False.elim (bad_le (Int.le_of_eq (eq_i (a := v38.toInt) (b := 21) rfl rfl c113)) k107.1 (Int.le_refl _) (by decide)))
          have dc113 : v38.toInt ≠ 21 := ne_i (a := v38.toInt) (b := 21) rfl rfl c113
          refine lv_aload_n hx hb dX10_isSaid_138 rfl (lv_at hl 3 rfl) ?_
          refine get_f (D := D) (ci := 10) (v := .ref h_truths) (C := RX10) (T := TX10) (N := 67) hx hb hw inAX10 hown hK hP 0 rfl rfl 63 (by decide) (hw _ q_1324) (fun _ h9 => h9) n110 dX10_isSaid_139 ?_
          refine lv_iload_n hx hb dX10_isSaid_142 rfl (lv_at hl 0 rfl) ?_
          refine lv_iconst (v := 1) hx hb dX10_isSaid_143 (by decide) ?_
          refine lv_isub hx hb dX10_isSaid_144 ?_
          refine lv_ci (y := v111) ev111.symm ?_
          refine va_zald hx hb hK hP 4 5 rfl rfl (ix_i (by omega) (by omega)) dX10_isSaid_145 ?_
          refine lv_topi (fun v114 ev114 => ?_)
          have r115 : IMP (0 ≤ v111.toInt → v111.toInt ≤ 44 → 0 ≤ v114.toInt ∧ v114.toInt ≤ 1) := IMP.mk (fun q1 q2 => by rw [ev114]; exact i22.at _ q1 q2)
          refine lv_if_ne (tgt := 158) hx hb dX10_isSaid_146 (by decide) (fun c116 => ?_) (fun c116 => ?_)
          · have dc116 : v114.toInt ≠ 0 := ne_i (a := v114.toInt) (b := 0) rfl rfl c116
            refine lv_iconst (v := 1) hx hb dX10_isSaid_158 (by decide) ?_
            refine lv_goto (tgt := 163) hx hb dX10_isSaid_159 (by decide) ?_
            obtain ⟨g117, eg117⟩ : ∃ z : Nat → Int32, upd w11 v111.toNatClampNeg (vp_nar .boolean 1) = z := ⟨_, rfl⟩
            have r118 : SG 0 44 0 1 g117 := by rw [← eg117, zn_k (show 0 ≤ (1 : Int32).toInt ∧ (1 : Int32).toInt ≤ 1 by decide)]; exact i22.up (by omega) (Or.inr (Or.inr ⟨by decide, by decide⟩))
            refine zast_g hx hb hK hP hD hS 4 5 rfl rfl (ix_i (by omega) (by omega)) eg117 dX10_isSaid_163 (fun H locs hP hD hS => ?_)
            have hP : va_P D vwCl [(h0, .inr (10, vL 67 G3)), (h_s, .inl (cI, 335, .inl f_s)), (h_paceAt, .inl (cI, 40, .inl w9)), (h_kindOf, .inl (cI, 4, .inl w10)), (h_truths, .inl (cZ, 45, .inl g117))] H := hP
            have hD : va_D A [(h0, .inr (10, vL 67 G3)), (h_s, .inl (cI, 335, .inl f_s)), (h_paceAt, .inl (cI, 40, .inl w9)), (h_kindOf, .inl (cI, 4, .inl w10)), (h_truths, .inl (cZ, 45, .inl g117))] := hD
            refine lv_goto (tgt := 206) hx hb dX10_isSaid_164 (by decide) ?_
            obtain ⟨v119, ev119⟩ : ∃ z : Int32, z = u1 + 1 := ⟨_, rfl⟩
            have bv119 : v119.toInt = u1.toInt + 1 := by rw [ev119]; exact add_k rfl rfl k32 ⟨Int.le_refl _, Int.le_refl _⟩ (by decide)
            have k120 : 1 ≤ v119.toInt ∧ v119.toInt ≤ 44 := add_r bv119 k32 ⟨Int.le_refl _, Int.le_refl _⟩ (by decide)
            refine lv_iinc (v := v119) (lv' := [(3, .int v119), (2, .int v108), (4, .int v36), (0, .ref h0), (1, .int p0)]) hx hb dX10_isSaid_206 hl (k := 2) rfl (by rw [ev119]; rfl) (by decide) rfl (fun ls hl => ?_)
            refine lv_goto (tgt := 4) hx hb dX10_isSaid_209 (by decide) ?_
            exact ih (v119, v108, G3, u4, u5, u6, u7, u8, w9, w10, g117) ⟨(ir_wk k120 (by decide) (by decide)), (show (-1) ≤ v108.toInt ∧ v108.toInt ≤ 45 from ⟨by omega, by omega⟩), (SAME.tr SAME.rf i14 (by decide)), i15, i16, i17, i18, i19, i20, i21, r118, (show (v108.toInt : Int) = dep f_s 154 (v119.toInt : Int).toNat from (by rw [bv119]; omega)), (by show 0 ≤ v108.toInt; omega)⟩ (by show (44 - v119.toInt).toNat < (44 - u1.toInt).toNat; omega) _ _ _ hP hD hS (lv_sub hl [0, 1, 3, 4] rfl)
          · have dc116 : v114.toInt = 0 := eq_i (a := v114.toInt) (b := 0) rfl rfl c116
            have k121 : 0 ≤ v114.toInt ∧ v114.toInt ≤ 0 := ⟨Int.le_trans (Int.le_refl _) (Int.le_of_eq dc116.symm), Int.le_trans (Int.le_of_eq dc116) (Int.le_refl _)⟩
            refine lv_aload_n hx hb dX10_isSaid_149 rfl (lv_at hl 3 rfl) ?_
            refine get_f (D := D) (ci := 10) (v := .ref h_truths) (C := RX10) (T := TX10) (N := 67) hx hb hw inAX10 hown hK hP 0 rfl rfl 63 (by decide) (hw _ q_1324) (fun _ h9 => h9) n110 dX10_isSaid_150 ?_
            refine lv_iload_n hx hb dX10_isSaid_153 rfl (lv_at hl 0 rfl) ?_
            refine va_zald hx hb hK hP 4 5 rfl rfl (ix_i (by omega) (by omega)) dX10_isSaid_154 ?_
            refine lv_topi (fun v122 ev122 => ?_)
            have r123 : IMP (0 ≤ v108.toInt → v108.toInt ≤ 44 → 0 ≤ v122.toInt ∧ v122.toInt ≤ 1) := IMP.mk (fun q1 q2 => by rw [ev122]; exact i22.at _ q1 q2)
            refine lv_if_eq (tgt := 162) hx hb dX10_isSaid_155 (by decide) (fun c124 => ?_) (fun c124 => ?_)
            · have dc124 : v122.toInt = 0 := eq_i (a := v122.toInt) (b := 0) rfl rfl c124
              have k125 : 0 ≤ v122.toInt ∧ v122.toInt ≤ 0 := ⟨Int.le_trans (Int.le_refl _) (Int.le_of_eq dc124.symm), Int.le_trans (Int.le_of_eq dc124) (Int.le_refl _)⟩
              refine lv_iconst (v := 0) hx hb dX10_isSaid_162 (by decide) ?_
              obtain ⟨g126, eg126⟩ : ∃ z : Nat → Int32, upd w11 v111.toNatClampNeg (vp_nar .boolean 0) = z := ⟨_, rfl⟩
              have r127 : SG 0 44 0 1 g126 := by rw [← eg126, zn_k (show 0 ≤ (0 : Int32).toInt ∧ (0 : Int32).toInt ≤ 1 by decide)]; exact i22.up (by omega) (Or.inr (Or.inr ⟨by decide, by decide⟩))
              refine zast_g hx hb hK hP hD hS 4 5 rfl rfl (ix_i (by omega) (by omega)) eg126 dX10_isSaid_163 (fun H locs hP hD hS => ?_)
              have hP : va_P D vwCl [(h0, .inr (10, vL 67 G3)), (h_s, .inl (cI, 335, .inl f_s)), (h_paceAt, .inl (cI, 40, .inl w9)), (h_kindOf, .inl (cI, 4, .inl w10)), (h_truths, .inl (cZ, 45, .inl g126))] H := hP
              have hD : va_D A [(h0, .inr (10, vL 67 G3)), (h_s, .inl (cI, 335, .inl f_s)), (h_paceAt, .inl (cI, 40, .inl w9)), (h_kindOf, .inl (cI, 4, .inl w10)), (h_truths, .inl (cZ, 45, .inl g126))] := hD
              refine lv_goto (tgt := 206) hx hb dX10_isSaid_164 (by decide) ?_
              obtain ⟨v128, ev128⟩ : ∃ z : Int32, z = u1 + 1 := ⟨_, rfl⟩
              have bv128 : v128.toInt = u1.toInt + 1 := by rw [ev128]; exact add_k rfl rfl k32 ⟨Int.le_refl _, Int.le_refl _⟩ (by decide)
              have k129 : 1 ≤ v128.toInt ∧ v128.toInt ≤ 44 := add_r bv128 k32 ⟨Int.le_refl _, Int.le_refl _⟩ (by decide)
              refine lv_iinc (v := v128) (lv' := [(3, .int v128), (2, .int v108), (4, .int v36), (0, .ref h0), (1, .int p0)]) hx hb dX10_isSaid_206 hl (k := 2) rfl (by rw [ev128]; rfl) (by decide) rfl (fun ls hl => ?_)
              refine lv_goto (tgt := 4) hx hb dX10_isSaid_209 (by decide) ?_
              exact ih (v128, v108, G3, u4, u5, u6, u7, u8, w9, w10, g126) ⟨(ir_wk k129 (by decide) (by decide)), (show (-1) ≤ v108.toInt ∧ v108.toInt ≤ 45 from ⟨by omega, by omega⟩), (SAME.tr SAME.rf i14 (by decide)), i15, i16, i17, i18, i19, i20, i21, r127, (show (v108.toInt : Int) = dep f_s 154 (v128.toInt : Int).toNat from (by rw [bv128]; omega)), (by show 0 ≤ v108.toInt; omega)⟩ (by show (44 - v128.toInt).toNat < (44 - u1.toInt).toNat; omega) _ _ _ hP hD hS (lv_sub hl [0, 1, 3, 4] rfl)
            · have dc124 : v122.toInt ≠ 0 := ne_i (a := v122.toInt) (b := 0) rfl rfl c124
              refine lv_iconst (v := 1) hx hb dX10_isSaid_158 (by decide) ?_
              refine lv_goto (tgt := 163) hx hb dX10_isSaid_159 (by decide) ?_
              obtain ⟨g130, eg130⟩ : ∃ z : Nat → Int32, upd w11 v111.toNatClampNeg (vp_nar .boolean 1) = z := ⟨_, rfl⟩
              have r131 : SG 0 44 0 1 g130 := by rw [← eg130, zn_k (show 0 ≤ (1 : Int32).toInt ∧ (1 : Int32).toInt ≤ 1 by decide)]; exact i22.up (by omega) (Or.inr (Or.inr ⟨by decide, by decide⟩))
              refine zast_g hx hb hK hP hD hS 4 5 rfl rfl (ix_i (by omega) (by omega)) eg130 dX10_isSaid_163 (fun H locs hP hD hS => ?_)
              have hP : va_P D vwCl [(h0, .inr (10, vL 67 G3)), (h_s, .inl (cI, 335, .inl f_s)), (h_paceAt, .inl (cI, 40, .inl w9)), (h_kindOf, .inl (cI, 4, .inl w10)), (h_truths, .inl (cZ, 45, .inl g130))] H := hP
              have hD : va_D A [(h0, .inr (10, vL 67 G3)), (h_s, .inl (cI, 335, .inl f_s)), (h_paceAt, .inl (cI, 40, .inl w9)), (h_kindOf, .inl (cI, 4, .inl w10)), (h_truths, .inl (cZ, 45, .inl g130))] := hD
              refine lv_goto (tgt := 206) hx hb dX10_isSaid_164 (by decide) ?_
              obtain ⟨v132, ev132⟩ : ∃ z : Int32, z = u1 + 1 := ⟨_, rfl⟩
              have bv132 : v132.toInt = u1.toInt + 1 := by rw [ev132]; exact add_k rfl rfl k32 ⟨Int.le_refl _, Int.le_refl _⟩ (by decide)
              have k133 : 1 ≤ v132.toInt ∧ v132.toInt ≤ 44 := add_r bv132 k32 ⟨Int.le_refl _, Int.le_refl _⟩ (by decide)
              refine lv_iinc (v := v132) (lv' := [(3, .int v132), (2, .int v108), (4, .int v36), (0, .ref h0), (1, .int p0)]) hx hb dX10_isSaid_206 hl (k := 2) rfl (by rw [ev132]; rfl) (by decide) rfl (fun ls hl => ?_)
              refine lv_goto (tgt := 4) hx hb dX10_isSaid_209 (by decide) ?_
              exact ih (v132, v108, G3, u4, u5, u6, u7, u8, w9, w10, g130) ⟨(ir_wk k133 (by decide) (by decide)), (show (-1) ≤ v108.toInt ∧ v108.toInt ≤ 45 from ⟨by omega, by omega⟩), (SAME.tr SAME.rf i14 (by decide)), i15, i16, i17, i18, i19, i20, i21, r131, (show (v108.toInt : Int) = dep f_s 154 (v132.toInt : Int).toNat from (by rw [bv132]; omega)), (by show 0 ≤ v108.toInt; omega)⟩ (by show (44 - v132.toInt).toNat < (44 - u1.toInt).toNat; omega) _ _ _ hP hD hS (lv_sub hl [0, 1, 3, 4] rfl)
    · have dc42 : v38.toInt = 20 := eq_i (a := v38.toInt) (b := 20) rfl rfl c42
      have k134 : 20 ≤ v38.toInt ∧ v38.toInt ≤ 20 := ⟨Int.le_trans (Int.le_refl _) (Int.le_of_eq dc42.symm), Int.le_trans (Int.le_of_eq dc42) (Int.le_refl _)⟩
      refine lv_aload_n hx hb dX10_isSaid_37 rfl (lv_at hl 3 rfl) ?_
      have n135 : G3 63 = .ref h_truths := (SAME.at i14 (by decide) e_truths)
      refine get_f (D := D) (ci := 10) (v := .ref h_truths) (C := RX10) (T := TX10) (N := 67) hx hb hw inAX10 hown hK hP 0 rfl rfl 63 (by decide) (hw _ q_1324) (fun _ h9 => h9) n135 dX10_isSaid_38 ?_
      refine lv_iload_n hx hb dX10_isSaid_41 rfl (lv_at hl 2 rfl) ?_
      refine lv_iconst (v := 1) hx hb dX10_isSaid_42 (by decide) ?_
      refine lv_isub hx hb dX10_isSaid_43 ?_
      refine lv_topi (fun v136 ev136 => ?_)
      have bv136 : v136.toInt = u2.toInt - 1 := by rw [ev136]; exact sub_k rfl rfl i13 ⟨Int.le_refl _, Int.le_refl _⟩ (by decide)
      have k137 : (-2) ≤ v136.toInt ∧ v136.toInt ≤ 44 := sub_r bv136 i13 ⟨Int.le_refl _, Int.le_refl _⟩ (by decide)
      refine lv_aload_n hx hb dX10_isSaid_44 rfl (lv_at hl 3 rfl) ?_
      refine get_f (D := D) (ci := 10) (v := .ref h_truths) (C := RX10) (T := TX10) (N := 67) hx hb hw inAX10 hown hK hP 0 rfl rfl 63 (by decide) (hw _ q_1324) (fun _ h9 => h9) n135 dX10_isSaid_45 ?_
      refine lv_iload_n hx hb dX10_isSaid_48 rfl (lv_at hl 2 rfl) ?_
      refine lv_iconst (v := 1) hx hb dX10_isSaid_49 (by decide) ?_
      refine lv_isub hx hb dX10_isSaid_50 ?_
      refine lv_ci (y := v136) ev136.symm ?_
      refine va_zald hx hb hK hP 4 5 rfl rfl (ix_i (by omega) (by omega)) dX10_isSaid_51 ?_
      refine lv_topi (fun v138 ev138 => ?_)
      have r139 : IMP (0 ≤ v136.toInt → v136.toInt ≤ 44 → 0 ≤ v138.toInt ∧ v138.toInt ≤ 1) := IMP.mk (fun q1 q2 => by rw [ev138]; exact i22.at _ q1 q2)
      refine lv_if_ne (tgt := 59) hx hb dX10_isSaid_52 (by decide) (fun c140 => ?_) (fun c140 => ?_)
      · have dc140 : v138.toInt ≠ 0 := ne_i (a := v138.toInt) (b := 0) rfl rfl c140
        refine lv_iconst (v := 0) hx hb dX10_isSaid_59 (by decide) ?_
        obtain ⟨g141, eg141⟩ : ∃ z : Nat → Int32, upd w11 v136.toNatClampNeg (vp_nar .boolean 0) = z := ⟨_, rfl⟩
        have r142 : SG 0 44 0 1 g141 := by rw [← eg141, zn_k (show 0 ≤ (0 : Int32).toInt ∧ (0 : Int32).toInt ≤ 1 by decide)]; exact i22.up (by omega) (Or.inr (Or.inr ⟨by decide, by decide⟩))
        refine zast_g hx hb hK hP hD hS 4 5 rfl rfl (ix_i (by omega) (by omega)) eg141 dX10_isSaid_60 (fun H locs hP hD hS => ?_)
        have hP : va_P D vwCl [(h0, .inr (10, vL 67 G3)), (h_s, .inl (cI, 335, .inl f_s)), (h_paceAt, .inl (cI, 40, .inl w9)), (h_kindOf, .inl (cI, 4, .inl w10)), (h_truths, .inl (cZ, 45, .inl g141))] H := hP
        have hD : va_D A [(h0, .inr (10, vL 67 G3)), (h_s, .inl (cI, 335, .inl f_s)), (h_paceAt, .inl (cI, 40, .inl w9)), (h_kindOf, .inl (cI, 4, .inl w10)), (h_truths, .inl (cZ, 45, .inl g141))] := hD
        refine lv_goto (tgt := 206) hx hb dX10_isSaid_61 (by decide) ?_
        obtain ⟨v143, ev143⟩ : ∃ z : Int32, z = u1 + 1 := ⟨_, rfl⟩
        have bv143 : v143.toInt = u1.toInt + 1 := by rw [ev143]; exact add_k rfl rfl k32 ⟨Int.le_refl _, Int.le_refl _⟩ (by decide)
        have k144 : 1 ≤ v143.toInt ∧ v143.toInt ≤ 44 := add_r bv143 k32 ⟨Int.le_refl _, Int.le_refl _⟩ (by decide)
        refine lv_iinc (v := v143) (lv' := [(3, .int v143), (4, .int v36), (2, .int u2), (0, .ref h0), (1, .int p0)]) hx hb dX10_isSaid_206 hl (k := 1) rfl (by rw [ev143]; rfl) (by decide) rfl (fun ls hl => ?_)
        refine lv_goto (tgt := 4) hx hb dX10_isSaid_209 (by decide) ?_
        exact ih (v143, u2, G3, u4, u5, u6, u7, u8, w9, w10, g141) ⟨(ir_wk k144 (by decide) (by decide)), i13, (SAME.tr SAME.rf i14 (by decide)), i15, i16, i17, i18, i19, i20, i21, r142, (show (u2.toInt : Int) = dep f_s 154 (v143.toInt : Int).toNat from (by rw [bv143]; omega)), (by show 0 ≤ u2.toInt; omega)⟩ (by show (44 - v143.toInt).toNat < (44 - u1.toInt).toNat; omega) _ _ _ hP hD hS (lv_sub hl [0, 2, 3, 4] rfl)
      · have dc140 : v138.toInt = 0 := eq_i (a := v138.toInt) (b := 0) rfl rfl c140
        have k145 : 0 ≤ v138.toInt ∧ v138.toInt ≤ 0 := ⟨Int.le_trans (Int.le_refl _) (Int.le_of_eq dc140.symm), Int.le_trans (Int.le_of_eq dc140) (Int.le_refl _)⟩
        refine lv_iconst (v := 1) hx hb dX10_isSaid_55 (by decide) ?_
        refine lv_goto (tgt := 60) hx hb dX10_isSaid_56 (by decide) ?_
        obtain ⟨g146, eg146⟩ : ∃ z : Nat → Int32, upd w11 v136.toNatClampNeg (vp_nar .boolean 1) = z := ⟨_, rfl⟩
        have r147 : SG 0 44 0 1 g146 := by rw [← eg146, zn_k (show 0 ≤ (1 : Int32).toInt ∧ (1 : Int32).toInt ≤ 1 by decide)]; exact i22.up (by omega) (Or.inr (Or.inr ⟨by decide, by decide⟩))
        refine zast_g hx hb hK hP hD hS 4 5 rfl rfl (ix_i (by omega) (by omega)) eg146 dX10_isSaid_60 (fun H locs hP hD hS => ?_)
        have hP : va_P D vwCl [(h0, .inr (10, vL 67 G3)), (h_s, .inl (cI, 335, .inl f_s)), (h_paceAt, .inl (cI, 40, .inl w9)), (h_kindOf, .inl (cI, 4, .inl w10)), (h_truths, .inl (cZ, 45, .inl g146))] H := hP
        have hD : va_D A [(h0, .inr (10, vL 67 G3)), (h_s, .inl (cI, 335, .inl f_s)), (h_paceAt, .inl (cI, 40, .inl w9)), (h_kindOf, .inl (cI, 4, .inl w10)), (h_truths, .inl (cZ, 45, .inl g146))] := hD
        refine lv_goto (tgt := 206) hx hb dX10_isSaid_61 (by decide) ?_
        obtain ⟨v148, ev148⟩ : ∃ z : Int32, z = u1 + 1 := ⟨_, rfl⟩
        have bv148 : v148.toInt = u1.toInt + 1 := by rw [ev148]; exact add_k rfl rfl k32 ⟨Int.le_refl _, Int.le_refl _⟩ (by decide)
        have k149 : 1 ≤ v148.toInt ∧ v148.toInt ≤ 44 := add_r bv148 k32 ⟨Int.le_refl _, Int.le_refl _⟩ (by decide)
        refine lv_iinc (v := v148) (lv' := [(3, .int v148), (4, .int v36), (2, .int u2), (0, .ref h0), (1, .int p0)]) hx hb dX10_isSaid_206 hl (k := 1) rfl (by rw [ev148]; rfl) (by decide) rfl (fun ls hl => ?_)
        refine lv_goto (tgt := 4) hx hb dX10_isSaid_209 (by decide) ?_
        exact ih (v148, u2, G3, u4, u5, u6, u7, u8, w9, w10, g146) ⟨(ir_wk k149 (by decide) (by decide)), i13, (SAME.tr SAME.rf i14 (by decide)), i15, i16, i17, i18, i19, i20, i21, r147, (show (u2.toInt : Int) = dep f_s 154 (v148.toInt : Int).toNat from (by rw [bv148]; omega)), (by show 0 ≤ u2.toInt; omega)⟩ (by show (44 - v148.toInt).toNat < (44 - u1.toInt).toNat; omega) _ _ _ hP hD hS (lv_sub hl [0, 2, 3, 4] rfl)
set_option maxHeartbeats 4000000 in
set_option maxRecDepth 100000 in
theorem m_X10_said (l : Launch) (D : va_G) (cI cJ cB cP cM cZ : ClassId) (h0 : Nat) (h_s : Nat) (h_paceAt : Nat) (h_kindOf : Nat) (h_truths : Nat) (Fh : Nat → Value) (x_lineTime : Int32) (x_linePace : Int32) (x_inside : Int32) (x_late : Int32) (x_seed : Int32) (x_kicks : Int32) (f_s : Nat → Int32) (f_paceAt : Nat → Int32) (f_kindOf : Nat → Int32) (f_truths : Nat → Int32) (p0 : Int32) (bs : Nat → Int32) (sz : Nat) (e_s : Fh 6 = .ref h_s) (e_paceAt : Fh 25 = .ref h_paceAt) (e_kindOf : Fh 26 = .ref h_kindOf) (e_lineTime : Fh 27 = .int x_lineTime) (e_linePace : Fh 28 = .int x_linePace) (e_inside : Fh 29 = .int x_inside) (i_x_inside : IR 0 15 x_inside) (e_late : Fh 30 = .int x_late) (i_x_late : IR 0 15 x_late) (e_seed : Fh 31 = .int x_seed) (e_kicks : Fh 32 = .int x_kicks) (i_x_kicks : IR 0 1 x_kicks) (e_truths : Fh 63 = .ref h_truths) (s_s_K0 : KW 0 f_s) (s_s_US : US bs f_s) (s_s_0 : SG 0 0 0 40 f_s) (s_s_105 : SG 105 108 0 11 f_s) (s_s_114 : SG 114 114 0 5 f_s) (s_s_130 : SG 130 133 0 11 f_s) (s_s_139 : SG 139 139 0 5 f_s) (s_s_153 : SG 153 153 0 44 f_s) (s_s_44 : SG 44 55 0 9 f_s) (s_s_5 : SG 5 5 0 12 f_s) (s_s_6 : SG 6 6 0 12 f_s) (s_s_7 : SG 7 7 0 6 f_s) (s_truths_0 : SG 0 44 0 1 f_truths) : CI l yX10_said cX10_said 4 (some .int) { frames := 6, cells := 0, slots := 0, locals := 144 } (GG D cI cJ cB cP cM cZ) D [(h0, .inr (10, vL 67 Fh)), (h_s, .inl (cI, 335, .inl f_s)), (h_paceAt, .inl (cI, 40, .inl f_paceAt)), (h_kindOf, .inl (cI, 4, .inl f_kindOf)), (h_truths, .inl (cZ, 45, .inl f_truths))] sz [.ref h0, .int p0] (fun (r : Int32) (u : va_W) => ∃ (Gh : Nat → Value) (y_lineTime : Int32) (y_linePace : Int32) (y_inside : Int32) (y_late : Int32) (y_seed : Int32) (g_paceAt : Nat → Int32) (g_kindOf : Nat → Int32) (g_truths : Nat → Int32), SAME [0, 27, 28, 29, 30, 31] Fh Gh ∧ Gh 0 = .int 0 ∧ Gh 27 = .int y_lineTime ∧ Gh 28 = .int y_linePace ∧ Gh 29 = .int y_inside ∧ IR 0 15 y_inside ∧ Gh 30 = .int y_late ∧ IR 0 15 y_late ∧ Gh 31 = .int y_seed ∧ SG 0 44 0 1 g_truths ∧ u = [(h0, .inr (10, vL 67 Gh)), (h_s, .inl (cI, 335, .inl f_s)), (h_paceAt, .inl (cI, 40, .inl g_paceAt)), (h_kindOf, .inl (cI, 4, .inl g_kindOf)), (h_truths, .inl (cZ, 45, .inl g_truths))]) := by
  refine CI_mk (by decide) (Nat.le_of_ble_eq_true rfl) ?_
  intro p e s m below meth c A ls E hAe hG hsz hP hD hA hS hl
  obtain ⟨hx, hb, hr, hw, hown, hlocks, hml, hnm⟩ := E
  have hK := hG.1
  have i_x_inside : 0 ≤ x_inside.toInt ∧ x_inside.toInt ≤ 15 := i_x_inside
  have i_x_late : 0 ≤ x_late.toInt ∧ x_late.toInt ≤ 15 := i_x_late
  have i_x_kicks : 0 ≤ x_kicks.toInt ∧ x_kicks.toInt ≤ 1 := i_x_kicks
  have hl : lv_has ls 4 [(0, .ref h0), (1, .int p0)] := hl
  refine lv_aload_n hx hb dX10_said_0 rfl (lv_at hl 0 rfl) ?_
  refine lv_iconst (v := 0) hx hb dX10_said_1 (by decide) ?_
  refine put_f (D := D) (ci := 10) (v := .int 0) (ty := .int) (C := RX10) (T := TX10) (N := 67) hx hb hw inAX10 tyX10 tyX10_ok nmX10 hown hK hP hD hS 0 rfl rfl 0 (by decide) (hw _ q_1261) (fun _ h9 => h9) rfl (by decide +kernel) rfl rfl dX10_said_2 (fun H locs F1 eF1 hP hD hS => ?_)
  have hP : va_P D vwCl [(h0, .inr (10, vL 67 F1)), (h_s, .inl (cI, 335, .inl f_s)), (h_paceAt, .inl (cI, 40, .inl f_paceAt)), (h_kindOf, .inl (cI, 4, .inl f_kindOf)), (h_truths, .inl (cZ, 45, .inl f_truths))] H := hP
  have hD : va_D A [(h0, .inr (10, vL 67 F1)), (h_s, .inl (cI, 335, .inl f_s)), (h_paceAt, .inl (cI, 40, .inl f_paceAt)), (h_kindOf, .inl (cI, 4, .inl f_kindOf)), (h_truths, .inl (cZ, 45, .inl f_truths))] := hD
  refine lv_aload_n hx hb dX10_said_5 rfl (lv_at hl 0 rfl) ?_
  have n2 : F1 6 = .ref h_s := (get_ne eF1 (by decide) e_s)
  refine get_f (D := D) (ci := 10) (v := .ref h_s) (C := RX10) (T := TX10) (N := 67) hx hb hw inAX10 hown hK hP 0 rfl rfl 6 (by decide) (hw _ q_1267) (fun _ h9 => h9) n2 dX10_said_6 ?_
  refine lv_sipush (v := 153) hx hb dX10_said_9 (by decide) ?_
  refine iald_n hx hb hK hP 1 0 rfl rfl 153 rfl (Nat.le_of_ble_eq_true rfl) (Nat.le_of_ble_eq_true rfl) rfl dX10_said_12 ?_
  refine lv_topi (fun v3 ev3 => ?_)
  have k4 : 0 ≤ v3.toInt ∧ v3.toInt ≤ 44 := by rw [ev3]; exact s_s_153.atN 153 (by decide) (by decide)
  refine lv_if_eq (tgt := 21) hx hb dX10_said_13 (by decide) (fun c5 => ?_) (fun c5 => ?_)
  · have dc5 : v3.toInt = 0 := eq_i (a := v3.toInt) (b := 0) rfl rfl c5
    have k6 : 0 ≤ v3.toInt ∧ v3.toInt ≤ 0 := ⟨k4.1, Int.le_trans (Int.le_of_eq dc5) (Int.le_refl _)⟩
    refine lv_iconst (v := (-1)) hx hb dX10_said_21 (by decide) ?_
    exact ret_i (v := (-1)) hx hb hr hlocks hS hP hD dX10_said_22 rfl (Nat.le_of_ble_eq_true rfl) (Nat.le_of_ble_eq_true rfl) ⟨F1, x_lineTime, x_linePace, x_inside, x_late, x_seed, f_paceAt, f_kindOf, f_truths, (SAME.up eF1 SAME.rf (by decide)), (get_eq eF1), (get_ne eF1 (by decide) e_lineTime), (get_ne eF1 (by decide) e_linePace), (get_ne eF1 (by decide) e_inside), i_x_inside, (get_ne eF1 (by decide) e_late), i_x_late, (get_ne eF1 (by decide) e_seed), s_truths_0, rfl⟩
  · have dc5 : v3.toInt ≠ 0 := ne_i (a := v3.toInt) (b := 0) rfl rfl c5
    have k7 : 1 ≤ v3.toInt ∧ v3.toInt ≤ 44 := ⟨ne_lo dc5 k4.1 ⟨Int.le_refl _, Int.le_refl _⟩ (by decide), k4.2⟩
    refine lv_iload_n hx hb dX10_said_16 rfl (lv_at hl 1 rfl) ?_
    refine lv_iconst (v := (-1)) hx hb dX10_said_17 (by decide) ?_
    refine lv_icmp_ge (tgt := 23) hx hb dX10_said_18 (by decide) (fun c8 => ?_) (fun c8 => ?_)
    · have dc8 : (-1) ≤ p0.toInt := le_i (a := (-1)) (b := p0.toInt) rfl rfl c8
      have k9 : (-1) ≤ p0.toInt ∧ p0.toInt ≤ 2147483647 := ⟨Int.le_trans (Int.le_refl _) dc8, (ir_any _).2⟩
      refine lv_iconst (v := 0) hx hb dX10_said_23 (by decide) ?_
      refine lv_istore_n (lv' := [(2, .int 0), (0, .ref h0), (1, .int p0)]) hx hb dX10_said_24 rfl hl (by decide) rfl (fun ls hl => ?_)
      refine lv_iconst (v := 0) hx hb dX10_said_25 (by decide) ?_
      refine lv_istore_n (lv' := [(3, .int 0), (2, .int 0), (0, .ref h0), (1, .int p0)]) hx hb dX10_said_26 rfl hl (by decide) rfl (fun ls hl => ?_)
      have n21 : F1 27 = .int x_lineTime := (get_ne eF1 (by decide) e_lineTime)
      have n22 : F1 28 = .int x_linePace := (get_ne eF1 (by decide) e_linePace)
      have n23 : F1 29 = .int x_inside := (get_ne eF1 (by decide) e_inside)
      have n24 : F1 30 = .int x_late := (get_ne eF1 (by decide) e_late)
      have n25 : F1 31 = .int x_seed := (get_ne eF1 (by decide) e_seed)
      refine mloop (α := (Int32) × (Int32) × (Nat → Value) × (Int32) × (Int32) × (Int32) × (Int32) × (Int32) × (Nat → Int32) × (Nat → Int32) × (Nat → Int32)) (nL := 4) (D := D) (A := A) (H0 := s.heap) (fun a => (12 - a.1.toInt).toNat) (fun a => IR 0 12 a.1 ∧ SAME [27, 28, 29, 30, 31] F1 a.2.2.1 ∧ a.2.2.1 27 = .int a.2.2.2.1 ∧ a.2.2.1 28 = .int a.2.2.2.2.1 ∧ a.2.2.1 29 = .int a.2.2.2.2.2.1 ∧ a.2.2.1 30 = .int a.2.2.2.2.2.2.1 ∧ a.2.2.1 31 = .int a.2.2.2.2.2.2.2.1 ∧ IR 0 15 a.2.2.2.2.2.1 ∧ IR 0 15 a.2.2.2.2.2.2.1 ∧ SG 0 44 0 1 a.2.2.2.2.2.2.2.2.2.2) (fun a => [(h0, .inr (10, vL 67 a.2.2.1)), (h_s, .inl (cI, 335, .inl f_s)), (h_paceAt, .inl (cI, 40, .inl a.2.2.2.2.2.2.2.2.1)), (h_kindOf, .inl (cI, 4, .inl a.2.2.2.2.2.2.2.2.2.1)), (h_truths, .inl (cZ, 45, .inl a.2.2.2.2.2.2.2.2.2.2))]) (fun a => [(3, .int a.1), (2, .int a.2.1), (0, .ref h0), (1, .int p0)]) (fun H locs ls => W p l e ({ frames := 6, cells := 0, slots := 0, locals := 144 } : Room) s m [.ref h0, .int p0].toArray below meth c H locs 0 0 (MQ below (va_Qi (fun (r : Int32) (u : va_W) => ∃ (Gh : Nat → Value) (y_lineTime : Int32) (y_linePace : Int32) (y_inside : Int32) (y_late : Int32) (y_seed : Int32) (g_paceAt : Nat → Int32) (g_kindOf : Nat → Int32) (g_truths : Nat → Int32), SAME [0, 27, 28, 29, 30, 31] Fh Gh ∧ Gh 0 = .int 0 ∧ Gh 27 = .int y_lineTime ∧ Gh 28 = .int y_linePace ∧ Gh 29 = .int y_inside ∧ IR 0 15 y_inside ∧ Gh 30 = .int y_late ∧ IR 0 15 y_late ∧ Gh 31 = .int y_seed ∧ SG 0 44 0 1 g_truths ∧ u = [(h0, .inr (10, vL 67 Gh)), (h_s, .inl (cI, 335, .inl f_s)), (h_paceAt, .inl (cI, 40, .inl g_paceAt)), (h_kindOf, .inl (cI, 4, .inl g_kindOf)), (h_truths, .inl (cZ, 45, .inl g_truths))]) (PO D A) A) [.ref h0, .int p0].toArray s 0 0 A) (F0 m 27 ls [])) ?_ (0, 0, F1, x_lineTime, x_linePace, x_inside, x_late, x_seed, f_paceAt, f_kindOf, f_truths) ⟨(show 0 ≤ (0 : Int32).toInt ∧ (0 : Int32).toInt ≤ 12 by decide), SAME.rf, n21, n22, n23, n24, n25, i_x_inside, i_x_late, s_truths_0⟩ _ _ _ hP hD hS hl
      rintro ⟨u10, u11, G12, u13, u14, u15, u16, u17, w18, w19, w20⟩ ⟨i26, i27, i28, i29, i30, i31, i32, i33, i34, i35⟩ ih H locs ls hP hD hS hl
      have i26 : 0 ≤ u10.toInt ∧ u10.toInt ≤ 12 := i26
      have i33 : 0 ≤ u15.toInt ∧ u15.toInt ≤ 15 := i33
      have i34 : 0 ≤ u16.toInt ∧ u16.toInt ≤ 15 := i34
      have hP : va_P D vwCl [(h0, .inr (10, vL 67 G12)), (h_s, .inl (cI, 335, .inl f_s)), (h_paceAt, .inl (cI, 40, .inl w18)), (h_kindOf, .inl (cI, 4, .inl w19)), (h_truths, .inl (cZ, 45, .inl w20))] H := hP
      have hD : va_D A [(h0, .inr (10, vL 67 G12)), (h_s, .inl (cI, 335, .inl f_s)), (h_paceAt, .inl (cI, 40, .inl w18)), (h_kindOf, .inl (cI, 4, .inl w19)), (h_truths, .inl (cZ, 45, .inl w20))] := hD
      have hl : lv_has ls 4 [(3, .int u10), (2, .int u11), (0, .ref h0), (1, .int p0)] := hl
      refine lv_iload_n hx hb dX10_said_27 rfl (lv_at hl 0 rfl) ?_
      refine lv_aload_n hx hb dX10_said_28 rfl (lv_at hl 2 rfl) ?_
      have n36 : G12 6 = .ref h_s := (SAME.at i27 (by decide) n2)
      refine get_f (D := D) (ci := 10) (v := .ref h_s) (C := RX10) (T := TX10) (N := 67) hx hb hw inAX10 hown hK hP 0 rfl rfl 6 (by decide) (hw _ q_1267) (fun _ h9 => h9) n36 dX10_said_29 ?_
      refine lv_iconst (v := 5) hx hb dX10_said_32 (by decide) ?_
      refine iald_n hx hb hK hP 1 0 rfl rfl 5 rfl (Nat.le_of_ble_eq_true rfl) (Nat.le_of_ble_eq_true rfl) rfl dX10_said_33 ?_
      refine lv_topi (fun v37 ev37 => ?_)
      have k38 : 0 ≤ v37.toInt ∧ v37.toInt ≤ 12 := by rw [ev37]; exact s_s_5.atN 5 (by decide) (by decide)
      refine lv_icmp_ge (tgt := 64) hx hb dX10_said_34 (by decide) (fun c39 => ?_) (fun c39 => ?_)
      · have dc39 : v37.toInt ≤ u10.toInt := le_i (a := v37.toInt) (b := u10.toInt) rfl rfl c39
        refine lv_iload_n hx hb dX10_said_64 rfl (lv_at hl 3 rfl) ?_
        refine lv_iconst (v := (-1)) hx hb dX10_said_65 (by decide) ?_
        refine lv_icmp_ne (tgt := 73) hx hb dX10_said_66 (by decide) (fun c40 => ?_) (fun c40 => ?_)
        · have dc40 : p0.toInt ≠ (-1) := ne_i (a := p0.toInt) (b := (-1)) rfl rfl c40
          have k41 : 0 ≤ p0.toInt ∧ p0.toInt ≤ 2147483647 := ⟨ne_lo dc40 k9.1 ⟨Int.le_refl _, Int.le_refl _⟩ (by decide), k9.2⟩
          refine lv_iconst (v := (-1)) hx hb dX10_said_73 (by decide) ?_
          exact ret_i (v := (-1)) hx hb hr hlocks hS hP hD dX10_said_74 rfl (Nat.le_of_ble_eq_true rfl) (Nat.le_of_ble_eq_true rfl) ⟨G12, u13, u14, u15, u16, u17, w18, w19, w20, (SAME.tr (SAME.up eF1 SAME.rf (by decide)) i27 (by decide)), (SAME.at i27 (by decide) (get_eq eF1)), i28, i29, i30, i33, i31, i34, i32, i35, rfl⟩
        · have dc40 : p0.toInt = (-1) := eq_i (a := p0.toInt) (b := (-1)) rfl rfl c40
          have k42 : (-1) ≤ p0.toInt ∧ p0.toInt ≤ (-1) := ⟨k9.1, Int.le_trans (Int.le_of_eq dc40) (Int.le_refl _)⟩
          refine lv_iload_n hx hb dX10_said_69 rfl (lv_at hl 1 rfl) ?_
          refine lv_goto (tgt := 74) hx hb dX10_said_70 (by decide) ?_
          exact ret_i (v := u11) hx hb hr hlocks hS hP hD dX10_said_74 rfl (Nat.le_of_ble_eq_true rfl) (Nat.le_of_ble_eq_true rfl) ⟨G12, u13, u14, u15, u16, u17, w18, w19, w20, (SAME.tr (SAME.up eF1 SAME.rf (by decide)) i27 (by decide)), (SAME.at i27 (by decide) (get_eq eF1)), i28, i29, i30, i33, i31, i34, i32, i35, rfl⟩
      · have dc39 : u10.toInt < v37.toInt := nle_i (a := v37.toInt) (b := u10.toInt) rfl rfl c39
        have k43 : 0 ≤ u10.toInt ∧ u10.toInt ≤ 11 := ⟨i26.1, up_lt dc39 k38.2 (by decide)⟩
        have k44 : 1 ≤ v37.toInt ∧ v37.toInt ≤ 12 := ⟨lo_lt dc39 i26.1 (by decide), k38.2⟩
        refine lv_aload_n hx hb dX10_said_37 rfl (lv_at hl 2 rfl) ?_
        refine lv_iload_n hx hb dX10_said_38 rfl (lv_at hl 0 rfl) ?_
        have n45 : F1 25 = .ref h_paceAt := (get_ne eF1 (by decide) e_paceAt)
        have n46 : G12 25 = .ref h_paceAt := (SAME.at i27 (by decide) n45)
        have n47 : F1 26 = .ref h_kindOf := (get_ne eF1 (by decide) e_kindOf)
        have n48 : G12 26 = .ref h_kindOf := (SAME.at i27 (by decide) n47)
        have n49 : F1 32 = .int x_kicks := (get_ne eF1 (by decide) e_kicks)
        have n50 : G12 32 = .int x_kicks := (SAME.at i27 (by decide) n49)
        have n51 : F1 63 = .ref h_truths := (get_ne eF1 (by decide) e_truths)
        have n52 : G12 63 = .ref h_truths := (SAME.at i27 (by decide) n51)
        refine call_Vi (wr := []) (As := [.int u10]) (rest := []) hx hb hml hown hw (m_X10_isSaid l D cI cJ cB cP cM cZ h0 h_s h_paceAt h_kindOf h_truths G12 u13 u14 u15 u16 u17 x_kicks f_s w18 w19 w20 u10 bs _ n36 n46 n48 i28 i29 i30 i33 i31 i34 i32 n50 i_x_kicks n52 s_s_K0 s_s_US s_s_0 s_s_105 s_s_114 s_s_130 s_s_139 s_s_153 s_s_44 s_s_5 s_s_6 s_s_7 i35 k43) wV_X10_478_X10_isSaid dX10_said_39 hK hP hD hS hA [0, 1, 2, 3, 4] [] rfl rfl (by decide) (by decide) (by decide) 0 10 rfl rfl GG.fb hG.at hl.1 rfl (Nat.le_of_ble_eq_true rfl) ⟨(Nat.le_of_ble_eq_true rfl), (Nat.le_of_ble_eq_true rfl)⟩ ⟨(Nat.le_of_ble_eq_true rfl), (Nat.le_of_ble_eq_true rfl)⟩ (fun r53 u H locs hp hP hD hS => ?_)
        obtain ⟨F54, y55, y56, y57, y58, y59, g60, g61, g62, t63, t64, t65, t66, t67, t68, t69, t70, t71, t72, rfl⟩ := hp
        have hP : va_P D vwCl [(h0, .inr (10, vL 67 F54)), (h_s, .inl (cI, 335, .inl f_s)), (h_paceAt, .inl (cI, 40, .inl g60)), (h_kindOf, .inl (cI, 4, .inl g61)), (h_truths, .inl (cZ, 45, .inl g62))] H := hP
        have hD : va_D A [(h0, .inr (10, vL 67 F54)), (h_s, .inl (cI, 335, .inl f_s)), (h_paceAt, .inl (cI, 40, .inl g60)), (h_kindOf, .inl (cI, 4, .inl g61)), (h_truths, .inl (cZ, 45, .inl g62))] := hD
        refine W.widen (k := 0) (n := 0) (Nat.le_of_ble_eq_true rfl) (Nat.le_of_ble_eq_true rfl) ?_
        refine lv_if_ne (tgt := 48) hx hb dX10_said_42 (by decide) (fun c74 => ?_) (fun c74 => ?_)
        · have dc74 : r53.toInt ≠ 0 := ne_i (a := r53.toInt) (b := 0) rfl rfl c74
          have k75 : 1 ≤ r53.toInt ∧ r53.toInt ≤ 1 := ⟨ne_lo dc74 t72.1 ⟨Int.le_refl _, Int.le_refl _⟩ (by decide), t72.2⟩
          refine lv_iload_n hx hb dX10_said_48 rfl (lv_at hl 1 rfl) ?_
          refine lv_iload_n hx hb dX10_said_49 rfl (lv_at hl 3 rfl) ?_
          refine lv_icmp_ne (tgt := 55) hx hb dX10_said_50 (by decide) (fun c76 => ?_) (fun c76 => ?_)
          · have dc76 : u11.toInt ≠ p0.toInt := ne_i (a := u11.toInt) (b := p0.toInt) rfl rfl c76
            obtain ⟨v77, ev77⟩ : ∃ z : Int32, z = u11 + 1 := ⟨_, rfl⟩
            refine lv_iinc (v := v77) (lv' := [(2, .int v77), (3, .int u10), (0, .ref h0), (1, .int p0)]) hx hb dX10_said_55 hl (k := 1) rfl (by rw [ev77]; rfl) (by decide) rfl (fun ls hl => ?_)
            obtain ⟨v78, ev78⟩ : ∃ z : Int32, z = u10 + 1 := ⟨_, rfl⟩
            have bv78 : v78.toInt = u10.toInt + 1 := by rw [ev78]; exact add_k rfl rfl k43 ⟨Int.le_refl _, Int.le_refl _⟩ (by decide)
            have k79 : 1 ≤ v78.toInt ∧ v78.toInt ≤ 12 := add_r bv78 k43 ⟨Int.le_refl _, Int.le_refl _⟩ (by decide)
            refine lv_iinc (v := v78) (lv' := [(3, .int v78), (2, .int v77), (0, .ref h0), (1, .int p0)]) hx hb dX10_said_58 hl (k := 1) rfl (by rw [ev78]; rfl) (by decide) rfl (fun ls hl => ?_)
            refine lv_goto (tgt := 27) hx hb dX10_said_61 (by decide) ?_
            exact ih (v78, v77, F54, y55, y56, y57, y58, y59, g60, g61, g62) ⟨(ir_wk k79 (by decide) (by decide)), (SAME.tr (SAME.tr SAME.rf i27 (by decide)) t63 (by decide)), t64, t65, t66, t68, t70, t67, t69, t71⟩ (by show (12 - v78.toInt).toNat < (12 - u10.toInt).toNat; omega) _ _ _ hP hD hS (lv_sub hl [0, 1, 2, 3] rfl)
          · have dc76 : u11.toInt = p0.toInt := eq_i (a := u11.toInt) (b := p0.toInt) rfl rfl c76
            have k80 : (-1) ≤ u11.toInt ∧ u11.toInt ≤ 2147483647 := ⟨Int.le_trans k9.1 (Int.le_of_eq dc76.symm), (ir_any _).2⟩
            refine lv_iload_n hx hb dX10_said_53 rfl (lv_at hl 0 rfl) ?_
            exact ret_i (v := u10) hx hb hr hlocks hS hP hD dX10_said_54 rfl (Nat.le_of_ble_eq_true rfl) (Nat.le_of_ble_eq_true rfl) ⟨F54, y55, y56, y57, y58, y59, g60, g61, g62, (SAME.tr (SAME.tr (SAME.up eF1 SAME.rf (by decide)) i27 (by decide)) t63 (by decide)), (SAME.at t63 (by decide) (SAME.at i27 (by decide) (get_eq eF1))), t64, t65, t66, t67, t68, t69, t70, t71, rfl⟩
        · have dc74 : r53.toInt = 0 := eq_i (a := r53.toInt) (b := 0) rfl rfl c74
          have k81 : 0 ≤ r53.toInt ∧ r53.toInt ≤ 0 := ⟨t72.1, Int.le_trans (Int.le_of_eq dc74) (Int.le_refl _)⟩
          refine lv_goto (tgt := 58) hx hb dX10_said_45 (by decide) ?_
          obtain ⟨v82, ev82⟩ : ∃ z : Int32, z = u10 + 1 := ⟨_, rfl⟩
          have bv82 : v82.toInt = u10.toInt + 1 := by rw [ev82]; exact add_k rfl rfl k43 ⟨Int.le_refl _, Int.le_refl _⟩ (by decide)
          have k83 : 1 ≤ v82.toInt ∧ v82.toInt ≤ 12 := add_r bv82 k43 ⟨Int.le_refl _, Int.le_refl _⟩ (by decide)
          refine lv_iinc (v := v82) (lv' := [(3, .int v82), (2, .int u11), (0, .ref h0), (1, .int p0)]) hx hb dX10_said_58 hl (k := 0) rfl (by rw [ev82]; rfl) (by decide) rfl (fun ls hl => ?_)
          refine lv_goto (tgt := 27) hx hb dX10_said_61 (by decide) ?_
          exact ih (v82, u11, F54, y55, y56, y57, y58, y59, g60, g61, g62) ⟨(ir_wk k83 (by decide) (by decide)), (SAME.tr (SAME.tr SAME.rf i27 (by decide)) t63 (by decide)), t64, t65, t66, t68, t70, t67, t69, t71⟩ (by show (12 - v82.toInt).toNat < (12 - u10.toInt).toNat; omega) _ _ _ hP hD hS (lv_sub hl [0, 1, 2, 3] rfl)
    · have dc8 : p0.toInt < (-1) := nle_i (a := (-1)) (b := p0.toInt) rfl rfl c8
      have k84 : (-2147483648) ≤ p0.toInt ∧ p0.toInt ≤ (-2) := ⟨(ir_any _).1, up_lt dc8 (Int.le_refl _) (by decide)⟩
      refine lv_iconst (v := (-1)) hx hb dX10_said_21 (by decide) ?_
      exact ret_i (v := (-1)) hx hb hr hlocks hS hP hD dX10_said_22 rfl (Nat.le_of_ble_eq_true rfl) (Nat.le_of_ble_eq_true rfl) ⟨F1, x_lineTime, x_linePace, x_inside, x_late, x_seed, f_paceAt, f_kindOf, f_truths, (SAME.up eF1 SAME.rf (by decide)), (get_eq eF1), (get_ne eF1 (by decide) e_lineTime), (get_ne eF1 (by decide) e_linePace), (get_ne eF1 (by decide) e_inside), i_x_inside, (get_ne eF1 (by decide) e_late), i_x_late, (get_ne eF1 (by decide) e_seed), s_truths_0, rfl⟩
