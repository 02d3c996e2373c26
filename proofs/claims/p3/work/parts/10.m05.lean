set_option maxHeartbeats 4000000 in
set_option maxRecDepth 100000 in
theorem m_X10_course (l : Launch) (D : va_G) (cI cJ cB cP cM cZ : ClassId) (h0 : Nat) (h_tape : Nat) (h_s : Nat) (h_h : Nat) (h_names : Nat) (h_reserved : Nat) (Fh : Nat → Value) (x_length : Int32) (x_token : Int32) (x_number : Int32) (x_faultAt : Int32) (x_ids : Int32) (x_word : Int64) (x_got : Int32) (x_undoMany : Int32) (f_tape : Nat → Int32) (f_s : Nat → Int32) (f_h : Nat → Int32) (f_names : Nat → Int64) (f_reserved : Nat → Int64) (sz : Nat) (e_tape : Fh 1 = .ref h_tape) (e_length : Fh 2 = .int x_length) (i_x_length : IR 0 940 x_length) (e_s : Fh 6 = .ref h_s) (e_h : Fh 7 = .ref h_h) (e_names : Fh 9 = .ref h_names) (e_reserved : Fh 10 = .ref h_reserved) (e_token : Fh 11 = .int x_token) (i_x_token : IR 0 4 x_token) (e_number : Fh 14 = .int x_number) (e_faultAt : Fh 16 = .int x_faultAt) (e_ids : Fh 17 = .int x_ids) (e_word : Fh 18 = .long x_word) (e_got : Fh 19 = .int x_got) (e_undoMany : Fh 41 = .int x_undoMany) (i_x_undoMany : IR 0 8 x_undoMany) (s_s_K0 : KW 0 f_s) (s_s_0 : SG 0 0 0 40 f_s) (s_s_105 : SG 105 108 0 11 f_s) (s_s_114 : SG 114 114 0 5 f_s) (s_s_130 : SG 130 133 0 11 f_s) (s_s_139 : SG 139 139 0 5 f_s) (s_s_153 : SG 153 153 0 44 f_s) (s_s_44 : SG 44 55 0 9 f_s) (s_s_5 : SG 5 5 0 12 f_s) (s_s_6 : SG 6 6 0 12 f_s) (s_s_7 : SG 7 7 0 6 f_s) (s_h_0 : SG 0 0 0 40 f_h) (s_h_44 : SG 44 55 0 9 f_h) (s_h_5 : SG 5 5 0 12 f_h) (s_h_6 : SG 6 6 0 12 f_h) (s_h_7 : SG 7 7 0 6 f_h) (o_0 : (x_token.toInt = 2 → 0 ≤ x_number.toInt ∧ x_number.toInt ≤ 999)) : CI l yX10_course cX10_course 2 (some .int) { frames := 4, cells := 0, slots := 0, locals := 87 } (GG D cI cJ cB cP cM cZ) D [(h0, .inr (10, vL 67 Fh)), (h_tape, .inl (cB, 940, .inl f_tape)), (h_s, .inl (cI, 335, .inl f_s)), (h_h, .inl (cI, 104, .inl f_h)), (h_names, .inl (cJ, 36, .inr (.inl f_names))), (h_reserved, .inl (cJ, 23, .inr (.inl f_reserved)))] sz [.ref h0] (fun (r : Int32) (u : va_W) => ∃ (Gh : Nat → Value) (y_p : Int32) (y_token : Int32) (y_at : Int32) (y_span : Int32) (y_number : Int32) (y_fault : Int32) (y_faultAt : Int32) (y_ids : Int32) (y_word : Int64) (y_got : Int32) (y_lines : Int32) (y_onces : Int32) (y_undoMany : Int32) (g_s : Nat → Int32) (g_h : Nat → Int32) (g_names : Nat → Int64), SAME [0, 2, 3, 4, 5, 11, 12, 13, 14, 15, 16, 17, 18, 19, 20, 21, 41] Fh Gh ∧ Gh 0 = .int 0 ∧ Gh 2 = .int 0 ∧ Gh 3 = .int x_length ∧ Gh 4 = .int y_p ∧ IR 0 940 y_p ∧ Gh 5 = .int 900 ∧ Gh 11 = .int y_token ∧ IR 0 4 y_token ∧ Gh 12 = .int y_at ∧ Gh 13 = .int y_span ∧ Gh 14 = .int y_number ∧ Gh 15 = .int y_fault ∧ IR 0 4 y_fault ∧ Gh 16 = .int y_faultAt ∧ Gh 17 = .int y_ids ∧ Gh 18 = .long y_word ∧ Gh 19 = .int y_got ∧ Gh 20 = .int y_lines ∧ Gh 21 = .int y_onces ∧ Gh 41 = .int y_undoMany ∧ IR 0 8 y_undoMany ∧ SG 153 153 0 44 g_s ∧ SG 0 0 0 40 g_s ∧ SG 5 5 0 12 g_s ∧ SG 6 6 0 12 g_s ∧ SG 7 7 0 6 g_s ∧ SG 44 55 0 9 g_s ∧ KW 0 g_s ∧ SG 105 108 0 11 g_s ∧ SG 114 114 0 5 g_s ∧ SG 130 133 0 11 g_s ∧ SG 139 139 0 5 g_s ∧ SG 0 0 0 40 g_h ∧ SG 5 5 0 12 g_h ∧ SG 6 6 0 12 g_h ∧ SG 7 7 0 6 g_h ∧ SG 44 55 0 9 g_h ∧ ((y_token.toInt = 2 → 0 ≤ y_number.toInt ∧ y_number.toInt ≤ 999)) ∧ u = [(h0, .inr (10, vL 67 Gh)), (h_tape, .inl (cB, 940, .inl f_tape)), (h_s, .inl (cI, 335, .inl g_s)), (h_h, .inl (cI, 104, .inl g_h)), (h_names, .inl (cJ, 36, .inr (.inl g_names))), (h_reserved, .inl (cJ, 23, .inr (.inl f_reserved)))]) := by
  refine CI_mk (by decide) (Nat.le_of_ble_eq_true rfl) ?_
  intro p e s m below meth c A ls E hAe hG hsz hP hD hA hS hl
  obtain ⟨hx, hb, hr, hw, hown, hlocks, hml, hnm⟩ := E
  have hK := hG.1
  have i_x_length : 0 ≤ x_length.toInt ∧ x_length.toInt ≤ 940 := i_x_length
  have i_x_token : 0 ≤ x_token.toInt ∧ x_token.toInt ≤ 4 := i_x_token
  have i_x_undoMany : 0 ≤ x_undoMany.toInt ∧ x_undoMany.toInt ≤ 8 := i_x_undoMany
  have hl : lv_has ls 2 [(0, .ref h0)] := hl
  refine lv_aload_n hx hb dX10_course_0 rfl (lv_at hl 0 rfl) ?_
  refine lv_iconst (v := 0) hx hb dX10_course_1 (by decide) ?_
  refine put_f (D := D) (ci := 10) (v := .int 0) (ty := .int) (C := RX10) (T := TX10) (N := 67) hx hb hw inAX10 tyX10 tyX10_ok nmX10 hown hK hP hD hS 0 rfl rfl 0 (by decide) (hw _ q_1261) (fun _ h9 => h9) rfl (by decide +kernel) rfl rfl dX10_course_2 (fun H locs F1 eF1 hP hD hS => ?_)
  have hP : va_P D vwCl [(h0, .inr (10, vL 67 F1)), (h_tape, .inl (cB, 940, .inl f_tape)), (h_s, .inl (cI, 335, .inl f_s)), (h_h, .inl (cI, 104, .inl f_h)), (h_names, .inl (cJ, 36, .inr (.inl f_names))), (h_reserved, .inl (cJ, 23, .inr (.inl f_reserved)))] H := hP
  have hD : va_D A [(h0, .inr (10, vL 67 F1)), (h_tape, .inl (cB, 940, .inl f_tape)), (h_s, .inl (cI, 335, .inl f_s)), (h_h, .inl (cI, 104, .inl f_h)), (h_names, .inl (cJ, 36, .inr (.inl f_names))), (h_reserved, .inl (cJ, 23, .inr (.inl f_reserved)))] := hD
  refine lv_aload_n hx hb dX10_course_5 rfl (lv_at hl 0 rfl) ?_
  refine lv_sipush (v := 900) hx hb dX10_course_6 (by decide) ?_
  have n2 : F1 2 = .int x_length := (get_ne eF1 (by decide) e_length)
  refine call_Vv (wr := [(h_tape, .inl (cB, 940, .inl f_tape)), (h_s, .inl (cI, 335, .inl f_s)), (h_h, .inl (cI, 104, .inl f_h)), (h_names, .inl (cJ, 36, .inr (.inl f_names))), (h_reserved, .inl (cJ, 23, .inr (.inl f_reserved)))]) (As := [.int 900]) (rest := []) hx hb hml hown hw (m_X10_taken l D cI cJ cB cP cM cZ h0 F1 x_length 900 _ n2 i_x_length (show 200 ≤ (900 : Int32).toInt ∧ (900 : Int32).toInt ≤ 940 by decide)) wV_X10_248_X10_taken dX10_course_9 hK hP hD hS hA [0] [1, 2, 3, 4, 5] rfl rfl (by decide) (by decide) (by decide) 0 10 rfl rfl GG.fb hG.at hl.1 rfl (Nat.le_of_ble_eq_true rfl) ⟨(Nat.le_of_ble_eq_true rfl), (Nat.le_of_ble_eq_true rfl)⟩ ⟨(Nat.le_of_ble_eq_true rfl), (Nat.le_of_ble_eq_true rfl)⟩ (fun u H locs hp hP hD hS => ?_)
  have zl900 : (900 : Int32).toInt = 900 := by decide
  obtain ⟨F4, t5, t6, t7, t8, t9, rfl⟩ := hp
  have hP : va_P D vwCl [(h_tape, .inl (cB, 940, .inl f_tape)), (h_s, .inl (cI, 335, .inl f_s)), (h_h, .inl (cI, 104, .inl f_h)), (h_names, .inl (cJ, 36, .inr (.inl f_names))), (h_reserved, .inl (cJ, 23, .inr (.inl f_reserved))), (h0, .inr (10, vL 67 F4))] H := hP
  have hD : va_D A [(h_tape, .inl (cB, 940, .inl f_tape)), (h_s, .inl (cI, 335, .inl f_s)), (h_h, .inl (cI, 104, .inl f_h)), (h_names, .inl (cJ, 36, .inr (.inl f_names))), (h_reserved, .inl (cJ, 23, .inr (.inl f_reserved))), (h0, .inr (10, vL 67 F4))] := hD
  refine W.widen (k := 0) (n := 0) (Nat.le_of_ble_eq_true rfl) (Nat.le_of_ble_eq_true rfl) ?_
  refine lv_aload_n hx hb dX10_course_12 rfl (lv_at hl 0 rfl) ?_
  refine lv_iconst (v := 0) hx hb dX10_course_13 (by decide) ?_
  refine put_f (D := D) (ci := 10) (v := .int 0) (ty := .int) (C := RX10) (T := TX10) (N := 67) hx hb hw inAX10 tyX10 tyX10_ok nmX10 hown hK hP hD hS 5 rfl rfl 15 (by decide) (hw _ q_1276) (fun _ h9 => h9) rfl (by decide +kernel) rfl rfl dX10_course_14 (fun H locs F11 eF11 hP hD hS => ?_)
  have hP : va_P D vwCl [(h_tape, .inl (cB, 940, .inl f_tape)), (h_s, .inl (cI, 335, .inl f_s)), (h_h, .inl (cI, 104, .inl f_h)), (h_names, .inl (cJ, 36, .inr (.inl f_names))), (h_reserved, .inl (cJ, 23, .inr (.inl f_reserved))), (h0, .inr (10, vL 67 F11))] H := hP
  have hD : va_D A [(h_tape, .inl (cB, 940, .inl f_tape)), (h_s, .inl (cI, 335, .inl f_s)), (h_h, .inl (cI, 104, .inl f_h)), (h_names, .inl (cJ, 36, .inr (.inl f_names))), (h_reserved, .inl (cJ, 23, .inr (.inl f_reserved))), (h0, .inr (10, vL 67 F11))] := hD
  refine lv_aload_n hx hb dX10_course_17 rfl (lv_at hl 0 rfl) ?_
  refine lv_iconst (v := 0) hx hb dX10_course_18 (by decide) ?_
  refine put_f (D := D) (ci := 10) (v := .int 0) (ty := .int) (C := RX10) (T := TX10) (N := 67) hx hb hw inAX10 tyX10 tyX10_ok nmX10 hown hK hP hD hS 5 rfl rfl 20 (by decide) (hw _ q_1281) (fun _ h9 => h9) rfl (by decide +kernel) rfl rfl dX10_course_19 (fun H locs F12 eF12 hP hD hS => ?_)
  have hP : va_P D vwCl [(h_tape, .inl (cB, 940, .inl f_tape)), (h_s, .inl (cI, 335, .inl f_s)), (h_h, .inl (cI, 104, .inl f_h)), (h_names, .inl (cJ, 36, .inr (.inl f_names))), (h_reserved, .inl (cJ, 23, .inr (.inl f_reserved))), (h0, .inr (10, vL 67 F12))] H := hP
  have hD : va_D A [(h_tape, .inl (cB, 940, .inl f_tape)), (h_s, .inl (cI, 335, .inl f_s)), (h_h, .inl (cI, 104, .inl f_h)), (h_names, .inl (cJ, 36, .inr (.inl f_names))), (h_reserved, .inl (cJ, 23, .inr (.inl f_reserved))), (h0, .inr (10, vL 67 F12))] := hD
  refine lv_aload_n hx hb dX10_course_22 rfl (lv_at hl 0 rfl) ?_
  refine lv_iconst (v := 0) hx hb dX10_course_23 (by decide) ?_
  refine put_f (D := D) (ci := 10) (v := .int 0) (ty := .int) (C := RX10) (T := TX10) (N := 67) hx hb hw inAX10 tyX10 tyX10_ok nmX10 hown hK hP hD hS 5 rfl rfl 21 (by decide) (hw _ q_1282) (fun _ h9 => h9) rfl (by decide +kernel) rfl rfl dX10_course_24 (fun H locs F13 eF13 hP hD hS => ?_)
  have hP : va_P D vwCl [(h_tape, .inl (cB, 940, .inl f_tape)), (h_s, .inl (cI, 335, .inl f_s)), (h_h, .inl (cI, 104, .inl f_h)), (h_names, .inl (cJ, 36, .inr (.inl f_names))), (h_reserved, .inl (cJ, 23, .inr (.inl f_reserved))), (h0, .inr (10, vL 67 F13))] H := hP
  have hD : va_D A [(h_tape, .inl (cB, 940, .inl f_tape)), (h_s, .inl (cI, 335, .inl f_s)), (h_h, .inl (cI, 104, .inl f_h)), (h_names, .inl (cJ, 36, .inr (.inl f_names))), (h_reserved, .inl (cJ, 23, .inr (.inl f_reserved))), (h0, .inr (10, vL 67 F13))] := hD
  refine lv_aload_n hx hb dX10_course_27 rfl (lv_at hl 0 rfl) ?_
  have n14 : F1 7 = .ref h_h := (get_ne eF1 (by decide) e_h)
  have n15 : F4 7 = .ref h_h := (SAME.at t5 (by decide) n14)
  have n16 : F11 7 = .ref h_h := (get_ne eF11 (by decide) n15)
  have n17 : F12 7 = .ref h_h := (get_ne eF12 (by decide) n16)
  have n18 : F13 7 = .ref h_h := (get_ne eF13 (by decide) n17)
  refine call_Vv (wr := [(h_tape, .inl (cB, 940, .inl f_tape)), (h_s, .inl (cI, 335, .inl f_s)), (h_names, .inl (cJ, 36, .inr (.inl f_names))), (h_reserved, .inl (cJ, 23, .inr (.inl f_reserved)))]) (As := []) (rest := []) hx hb hml hown hw (m_X10_clears l D cI cJ cB cP cM cZ h0 h_h F13 f_h _ n18 s_h_0 s_h_44 s_h_5 s_h_6 s_h_7) wV_X10_166_X10_clears dX10_course_28 hK hP hD hS hA [5, 2] [0, 1, 3, 4] rfl rfl (by decide) (by decide) (by decide) 0 10 rfl rfl GG.fb hG.at hl.1 rfl (Nat.le_of_ble_eq_true rfl) ⟨(Nat.le_of_ble_eq_true rfl), (Nat.le_of_ble_eq_true rfl)⟩ ⟨(Nat.le_of_ble_eq_true rfl), (Nat.le_of_ble_eq_true rfl)⟩ (fun u H locs hp hP hD hS => ?_)
  obtain ⟨g20, t21, t22, t23, t24, t25, rfl⟩ := hp
  have hP : va_P D vwCl [(h_tape, .inl (cB, 940, .inl f_tape)), (h_s, .inl (cI, 335, .inl f_s)), (h_names, .inl (cJ, 36, .inr (.inl f_names))), (h_reserved, .inl (cJ, 23, .inr (.inl f_reserved))), (h0, .inr (10, vL 67 F13)), (h_h, .inl (cI, 104, .inl g20))] H := hP
  have hD : va_D A [(h_tape, .inl (cB, 940, .inl f_tape)), (h_s, .inl (cI, 335, .inl f_s)), (h_names, .inl (cJ, 36, .inr (.inl f_names))), (h_reserved, .inl (cJ, 23, .inr (.inl f_reserved))), (h0, .inr (10, vL 67 F13)), (h_h, .inl (cI, 104, .inl g20))] := hD
  refine W.widen (k := 0) (n := 0) (Nat.le_of_ble_eq_true rfl) (Nat.le_of_ble_eq_true rfl) ?_
  refine lv_aload_n hx hb dX10_course_31 rfl (lv_at hl 0 rfl) ?_
  have n27 : F1 1 = .ref h_tape := (get_ne eF1 (by decide) e_tape)
  have n28 : F4 1 = .ref h_tape := (SAME.at t5 (by decide) n27)
  have n29 : F11 1 = .ref h_tape := (get_ne eF11 (by decide) n28)
  have n30 : F12 1 = .ref h_tape := (get_ne eF12 (by decide) n29)
  have n31 : F13 1 = .ref h_tape := (get_ne eF13 (by decide) n30)
  have n32 : F11 3 = .int x_length := (get_ne eF11 (by decide) t7)
  have n33 : F12 3 = .int x_length := (get_ne eF12 (by decide) n32)
  have n34 : F13 3 = .int x_length := (get_ne eF13 (by decide) n33)
  have n35 : F11 4 = .int 0 := (get_ne eF11 (by decide) t8)
  have n36 : F12 4 = .int 0 := (get_ne eF12 (by decide) n35)
  have n37 : F13 4 = .int 0 := (get_ne eF13 (by decide) n36)
  have n38 : F11 5 = .int 900 := (get_ne eF11 (by decide) t9)
  have n39 : F12 5 = .int 900 := (get_ne eF12 (by decide) n38)
  have n40 : F13 5 = .int 900 := (get_ne eF13 (by decide) n39)
  have n41 : F1 11 = .int x_token := (get_ne eF1 (by decide) e_token)
  have n42 : F4 11 = .int x_token := (SAME.at t5 (by decide) n41)
  have n43 : F11 11 = .int x_token := (get_ne eF11 (by decide) n42)
  have n44 : F12 11 = .int x_token := (get_ne eF12 (by decide) n43)
  have n45 : F13 11 = .int x_token := (get_ne eF13 (by decide) n44)
  have n46 : F1 14 = .int x_number := (get_ne eF1 (by decide) e_number)
  have n47 : F4 14 = .int x_number := (SAME.at t5 (by decide) n46)
  have n48 : F11 14 = .int x_number := (get_ne eF11 (by decide) n47)
  have n49 : F12 14 = .int x_number := (get_ne eF12 (by decide) n48)
  have n50 : F13 14 = .int x_number := (get_ne eF13 (by decide) n49)
  have n51 : F1 18 = .long x_word := (get_ne eF1 (by decide) e_word)
  have n52 : F4 18 = .long x_word := (SAME.at t5 (by decide) n51)
  have n53 : F11 18 = .long x_word := (get_ne eF11 (by decide) n52)
  have n54 : F12 18 = .long x_word := (get_ne eF12 (by decide) n53)
  have n55 : F13 18 = .long x_word := (get_ne eF13 (by decide) n54)
  refine call_Vv (wr := [(h_s, .inl (cI, 335, .inl f_s)), (h_names, .inl (cJ, 36, .inr (.inl f_names))), (h_reserved, .inl (cJ, 23, .inr (.inl f_reserved))), (h_h, .inl (cI, 104, .inl g20))]) (As := []) (rest := []) hx hb hml hown hw (m_X10_next l D cI cJ cB cP cM cZ h0 h_tape F13 x_length 0 900 x_token x_number x_word f_tape _ n31 n34 i_x_length n37 (show 0 ≤ (0 : Int32).toInt ∧ (0 : Int32).toInt ≤ 940 by decide) n40 (show 200 ≤ (900 : Int32).toInt ∧ (900 : Int32).toInt ≤ 940 by decide) n45 i_x_token n50 n55 (by omega)) wV_X10_208_X10_next dX10_course_32 hK hP hD hS hA [4, 0] [1, 2, 3, 5] rfl rfl (by decide) (by decide) (by decide) 0 10 rfl rfl GG.fb hG.at hl.1 rfl (Nat.le_of_ble_eq_true rfl) ⟨(Nat.le_of_ble_eq_true rfl), (Nat.le_of_ble_eq_true rfl)⟩ ⟨(Nat.le_of_ble_eq_true rfl), (Nat.le_of_ble_eq_true rfl)⟩ (fun u H locs hp hP hD hS => ?_)
  have zl0 : (0 : Int32).toInt = 0 := by decide
  obtain ⟨F57, y58, y59, y60, y61, y62, y63, t64, t65, t66, t67, t68, t69, t70, t71, t72, t73, t74, t75, t76, t77, rfl⟩ := hp
  have hP : va_P D vwCl [(h_s, .inl (cI, 335, .inl f_s)), (h_names, .inl (cJ, 36, .inr (.inl f_names))), (h_reserved, .inl (cJ, 23, .inr (.inl f_reserved))), (h_h, .inl (cI, 104, .inl g20)), (h0, .inr (10, vL 67 F57)), (h_tape, .inl (cB, 940, .inl f_tape))] H := hP
  have hD : va_D A [(h_s, .inl (cI, 335, .inl f_s)), (h_names, .inl (cJ, 36, .inr (.inl f_names))), (h_reserved, .inl (cJ, 23, .inr (.inl f_reserved))), (h_h, .inl (cI, 104, .inl g20)), (h0, .inr (10, vL 67 F57)), (h_tape, .inl (cB, 940, .inl f_tape))] := hD
  refine W.widen (k := 0) (n := 0) (Nat.le_of_ble_eq_true rfl) (Nat.le_of_ble_eq_true rfl) ?_
  have cut93 : ∀ (w79 : Nat → Int64) (w80 : Nat → Int32) (G81 : Nat → Value) (u82 : Int32) (u83 : Int32) (u84 : Int32) (u85 : Int32) (u86 : Int32) (u87 : Int32) (u88 : Int32) (u89 : Int64) (u90 : Int32) (u91 : Int32) (u92 : Int32) (_ : SG 0 0 0 40 w80) (_ : SG 44 55 0 9 w80) (_ : SG 5 5 0 12 w80) (_ : SG 6 6 0 12 w80) (_ : SG 7 7 0 6 w80) (_ : SAME [4, 11, 12, 13, 14, 15, 16, 18, 19, 20, 21] F57 G81) (_ : G81 4 = .int u82) (_ : G81 11 = .int u83) (_ : G81 12 = .int u84) (_ : G81 13 = .int u85) (_ : G81 14 = .int u86) (_ : G81 15 = .int u87) (_ : G81 16 = .int u88) (_ : G81 18 = .long u89) (_ : G81 19 = .int u90) (_ : G81 20 = .int u91) (_ : G81 21 = .int u92) (_ : IR 0 940 u82) (_ : IR 0 4 u83) (_ : IR 0 940 u84) (_ : IR 0 940 u85) (_ : IR 0 0 u87) (_ : ((u83.toInt = 2 → 0 ≤ u86.toInt ∧ u86.toInt ≤ 999))) (H : Heap) (locs : List Loc) (ls : Array Slot), va_P D vwCl [(h_s, .inl (cI, 335, .inl f_s)), (h_names, .inl (cJ, 36, .inr (.inl w79))), (h_reserved, .inl (cJ, 23, .inr (.inl f_reserved))), (h_h, .inl (cI, 104, .inl w80)), (h0, .inr (10, vL 67 G81)), (h_tape, .inl (cB, 940, .inl f_tape))] H → va_D A [(h_s, .inl (cI, 335, .inl f_s)), (h_names, .inl (cJ, 36, .inr (.inl w79))), (h_reserved, .inl (cJ, 23, .inr (.inl f_reserved))), (h_h, .inl (cI, 104, .inl w80)), (h0, .inr (10, vL 67 G81)), (h_tape, .inl (cB, 940, .inl f_tape))] → va_S A s.heap H locs → lv_has ls 2 [(0, .ref h0)] → W p l e ({ frames := 4, cells := 0, slots := 0, locals := 87 } : Room) s m [.ref h0].toArray below meth c H locs 0 0 (MQ below (va_Qi (fun (r : Int32) (u : va_W) => ∃ (Gh : Nat → Value) (y_p : Int32) (y_token : Int32) (y_at : Int32) (y_span : Int32) (y_number : Int32) (y_fault : Int32) (y_faultAt : Int32) (y_ids : Int32) (y_word : Int64) (y_got : Int32) (y_lines : Int32) (y_onces : Int32) (y_undoMany : Int32) (g_s : Nat → Int32) (g_h : Nat → Int32) (g_names : Nat → Int64), SAME [0, 2, 3, 4, 5, 11, 12, 13, 14, 15, 16, 17, 18, 19, 20, 21, 41] Fh Gh ∧ Gh 0 = .int 0 ∧ Gh 2 = .int 0 ∧ Gh 3 = .int x_length ∧ Gh 4 = .int y_p ∧ IR 0 940 y_p ∧ Gh 5 = .int 900 ∧ Gh 11 = .int y_token ∧ IR 0 4 y_token ∧ Gh 12 = .int y_at ∧ Gh 13 = .int y_span ∧ Gh 14 = .int y_number ∧ Gh 15 = .int y_fault ∧ IR 0 4 y_fault ∧ Gh 16 = .int y_faultAt ∧ Gh 17 = .int y_ids ∧ Gh 18 = .long y_word ∧ Gh 19 = .int y_got ∧ Gh 20 = .int y_lines ∧ Gh 21 = .int y_onces ∧ Gh 41 = .int y_undoMany ∧ IR 0 8 y_undoMany ∧ SG 153 153 0 44 g_s ∧ SG 0 0 0 40 g_s ∧ SG 5 5 0 12 g_s ∧ SG 6 6 0 12 g_s ∧ SG 7 7 0 6 g_s ∧ SG 44 55 0 9 g_s ∧ KW 0 g_s ∧ SG 105 108 0 11 g_s ∧ SG 114 114 0 5 g_s ∧ SG 130 133 0 11 g_s ∧ SG 139 139 0 5 g_s ∧ SG 0 0 0 40 g_h ∧ SG 5 5 0 12 g_h ∧ SG 6 6 0 12 g_h ∧ SG 7 7 0 6 g_h ∧ SG 44 55 0 9 g_h ∧ ((y_token.toInt = 2 → 0 ≤ y_number.toInt ∧ y_number.toInt ≤ 999)) ∧ u = [(h0, .inr (10, vL 67 Gh)), (h_tape, .inl (cB, 940, .inl f_tape)), (h_s, .inl (cI, 335, .inl g_s)), (h_h, .inl (cI, 104, .inl g_h)), (h_names, .inl (cJ, 36, .inr (.inl g_names))), (h_reserved, .inl (cJ, 23, .inr (.inl f_reserved)))]) (PO D A) A) [.ref h0].toArray s 0 0 A) (F0 m 78 ls []) := by
    intro w79 w80 G81 u82 u83 u84 u85 u86 u87 u88 u89 u90 u91 u92 i94 i95 i96 i97 i98 i99 i100 i101 i102 i103 i104 i105 i106 i107 i108 i109 i110 i111 i112 i113 i114 i115 i116 H locs ls hP hD hS hl
    have i111 : 0 ≤ u82.toInt ∧ u82.toInt ≤ 940 := i111
    have i112 : 0 ≤ u83.toInt ∧ u83.toInt ≤ 4 := i112
    have i113 : 0 ≤ u84.toInt ∧ u84.toInt ≤ 940 := i113
    have i114 : 0 ≤ u85.toInt ∧ u85.toInt ≤ 940 := i114
    have i115 : 0 ≤ u87.toInt ∧ u87.toInt ≤ 0 := i115
    have i116 : (u83.toInt = 2 → 0 ≤ u86.toInt ∧ u86.toInt ≤ 999) := i116
    refine lv_iconst (v := 0) hx hb dX10_course_78 (by decide) ?_
    refine lv_istore_n (lv' := [(1, .int 0), (0, .ref h0)]) hx hb dX10_course_79 rfl hl (by decide) rfl (fun ls hl => ?_)
    refine mloop (α := (Int32) × (Nat → Int32)) (nL := 2) (D := D) (A := A) (H0 := s.heap) (fun a => (335 - a.1.toInt).toNat) (fun a => IR 0 335 a.1 ∧ (SGK 0 0 0 40 a.2 (a.1.toInt)) ∧ (SGK 5 5 0 12 a.2 (a.1.toInt)) ∧ (SGK 6 6 0 12 a.2 (a.1.toInt)) ∧ (SGK 7 7 0 6 a.2 (a.1.toInt)) ∧ (SGK 44 55 0 9 a.2 (a.1.toInt)) ∧ (SGK 105 108 0 11 a.2 (a.1.toInt)) ∧ (SGK 114 114 0 5 a.2 (a.1.toInt)) ∧ (SGK 130 133 0 11 a.2 (a.1.toInt)) ∧ (SGK 139 139 0 5 a.2 (a.1.toInt)) ∧ (SGK 153 153 0 0 a.2 (a.1.toInt))) (fun a => [(h_s, .inl (cI, 335, .inl a.2)), (h_names, .inl (cJ, 36, .inr (.inl w79))), (h_reserved, .inl (cJ, 23, .inr (.inl f_reserved))), (h_h, .inl (cI, 104, .inl w80)), (h0, .inr (10, vL 67 G81)), (h_tape, .inl (cB, 940, .inl f_tape))]) (fun a => [(1, .int a.1), (0, .ref h0)]) (fun H locs ls => W p l e ({ frames := 4, cells := 0, slots := 0, locals := 87 } : Room) s m [.ref h0].toArray below meth c H locs 0 0 (MQ below (va_Qi (fun (r : Int32) (u : va_W) => ∃ (Gh : Nat → Value) (y_p : Int32) (y_token : Int32) (y_at : Int32) (y_span : Int32) (y_number : Int32) (y_fault : Int32) (y_faultAt : Int32) (y_ids : Int32) (y_word : Int64) (y_got : Int32) (y_lines : Int32) (y_onces : Int32) (y_undoMany : Int32) (g_s : Nat → Int32) (g_h : Nat → Int32) (g_names : Nat → Int64), SAME [0, 2, 3, 4, 5, 11, 12, 13, 14, 15, 16, 17, 18, 19, 20, 21, 41] Fh Gh ∧ Gh 0 = .int 0 ∧ Gh 2 = .int 0 ∧ Gh 3 = .int x_length ∧ Gh 4 = .int y_p ∧ IR 0 940 y_p ∧ Gh 5 = .int 900 ∧ Gh 11 = .int y_token ∧ IR 0 4 y_token ∧ Gh 12 = .int y_at ∧ Gh 13 = .int y_span ∧ Gh 14 = .int y_number ∧ Gh 15 = .int y_fault ∧ IR 0 4 y_fault ∧ Gh 16 = .int y_faultAt ∧ Gh 17 = .int y_ids ∧ Gh 18 = .long y_word ∧ Gh 19 = .int y_got ∧ Gh 20 = .int y_lines ∧ Gh 21 = .int y_onces ∧ Gh 41 = .int y_undoMany ∧ IR 0 8 y_undoMany ∧ SG 153 153 0 44 g_s ∧ SG 0 0 0 40 g_s ∧ SG 5 5 0 12 g_s ∧ SG 6 6 0 12 g_s ∧ SG 7 7 0 6 g_s ∧ SG 44 55 0 9 g_s ∧ KW 0 g_s ∧ SG 105 108 0 11 g_s ∧ SG 114 114 0 5 g_s ∧ SG 130 133 0 11 g_s ∧ SG 139 139 0 5 g_s ∧ SG 0 0 0 40 g_h ∧ SG 5 5 0 12 g_h ∧ SG 6 6 0 12 g_h ∧ SG 7 7 0 6 g_h ∧ SG 44 55 0 9 g_h ∧ ((y_token.toInt = 2 → 0 ≤ y_number.toInt ∧ y_number.toInt ≤ 999)) ∧ u = [(h0, .inr (10, vL 67 Gh)), (h_tape, .inl (cB, 940, .inl f_tape)), (h_s, .inl (cI, 335, .inl g_s)), (h_h, .inl (cI, 104, .inl g_h)), (h_names, .inl (cJ, 36, .inr (.inl g_names))), (h_reserved, .inl (cJ, 23, .inr (.inl f_reserved)))]) (PO D A) A) [.ref h0].toArray s 0 0 A) (F0 m 80 ls [])) ?_ (0, f_s) ⟨(show 0 ≤ (0 : Int32).toInt ∧ (0 : Int32).toInt ≤ 335 by decide), (show SGK 0 0 0 40 f_s (0) from (SGK.zero (by decide))), (show SGK 5 5 0 12 f_s (0) from (SGK.zero (by decide))), (show SGK 6 6 0 12 f_s (0) from (SGK.zero (by decide))), (show SGK 7 7 0 6 f_s (0) from (SGK.zero (by decide))), (show SGK 44 55 0 9 f_s (0) from (SGK.zero (by decide))), (show SGK 105 108 0 11 f_s (0) from (SGK.zero (by decide))), (show SGK 114 114 0 5 f_s (0) from (SGK.zero (by decide))), (show SGK 130 133 0 11 f_s (0) from (SGK.zero (by decide))), (show SGK 139 139 0 5 f_s (0) from (SGK.zero (by decide))), (show SGK 153 153 0 0 f_s (0) from (SGK.zero (by decide)))⟩ _ _ _ hP hD hS hl
    rintro ⟨u117, w118⟩ ⟨i119, i120, i121, i122, i123, i124, i125, i126, i127, i128, i129⟩ ih H locs ls hP hD hS hl
    have i119 : 0 ≤ u117.toInt ∧ u117.toInt ≤ 335 := i119
    have i120 : SGK 0 0 0 40 w118 (u117.toInt) := i120
    have i121 : SGK 5 5 0 12 w118 (u117.toInt) := i121
    have i122 : SGK 6 6 0 12 w118 (u117.toInt) := i122
    have i123 : SGK 7 7 0 6 w118 (u117.toInt) := i123
    have i124 : SGK 44 55 0 9 w118 (u117.toInt) := i124
    have i125 : SGK 105 108 0 11 w118 (u117.toInt) := i125
    have i126 : SGK 114 114 0 5 w118 (u117.toInt) := i126
    have i127 : SGK 130 133 0 11 w118 (u117.toInt) := i127
    have i128 : SGK 139 139 0 5 w118 (u117.toInt) := i128
    have i129 : SGK 153 153 0 0 w118 (u117.toInt) := i129
    have hP : va_P D vwCl [(h_s, .inl (cI, 335, .inl w118)), (h_names, .inl (cJ, 36, .inr (.inl w79))), (h_reserved, .inl (cJ, 23, .inr (.inl f_reserved))), (h_h, .inl (cI, 104, .inl w80)), (h0, .inr (10, vL 67 G81)), (h_tape, .inl (cB, 940, .inl f_tape))] H := hP
    have hD : va_D A [(h_s, .inl (cI, 335, .inl w118)), (h_names, .inl (cJ, 36, .inr (.inl w79))), (h_reserved, .inl (cJ, 23, .inr (.inl f_reserved))), (h_h, .inl (cI, 104, .inl w80)), (h0, .inr (10, vL 67 G81)), (h_tape, .inl (cB, 940, .inl f_tape))] := hD
    have hl : lv_has ls 2 [(1, .int u117), (0, .ref h0)] := hl
    refine lv_iload_n hx hb dX10_course_80 rfl (lv_at hl 0 rfl) ?_
    refine lv_sipush (v := 335) hx hb dX10_course_81 (by decide) ?_
    refine lv_icmp_ge (tgt := 115) hx hb dX10_course_84 (by decide) (fun c130 => ?_) (fun c130 => ?_)
    · have dc130 : 335 ≤ u117.toInt := le_i (a := 335) (b := u117.toInt) rfl rfl c130
      have k131 : 335 ≤ u117.toInt ∧ u117.toInt ≤ 335 := ⟨Int.le_trans (Int.le_refl _) dc130, i119.2⟩
      have r132 : SG 0 0 0 40 w118 := SGK.all i120 (by omega)
      have r133 : SG 5 5 0 12 w118 := SGK.all i121 (by omega)
      have r134 : SG 6 6 0 12 w118 := SGK.all i122 (by omega)
      have r135 : SG 7 7 0 6 w118 := SGK.all i123 (by omega)
      have r136 : SG 44 55 0 9 w118 := SGK.all i124 (by omega)
      have r137 : SG 105 108 0 11 w118 := SGK.all i125 (by omega)
      have r138 : SG 114 114 0 5 w118 := SGK.all i126 (by omega)
      have r139 : SG 130 133 0 11 w118 := SGK.all i127 (by omega)
      have r140 : SG 139 139 0 5 w118 := SGK.all i128 (by omega)
      have r141 : SG 153 153 0 0 w118 := SGK.all i129 (by omega)
      have r142 : KW 0 w118 := KW.none r141
      refine lv_iconst (v := 0) hx hb dX10_course_115 (by decide) ?_
      refine lv_istore_n (lv' := [(1, .int 0), (0, .ref h0)]) hx hb dX10_course_116 rfl hl (by decide) rfl (fun ls hl => ?_)
      refine mloop (α := (Int32) × (Nat → Int64)) (nL := 2) (D := D) (A := A) (H0 := s.heap) (fun a => (18 - a.1.toInt).toNat) (fun a => IR 0 18 a.1) (fun a => [(h_s, .inl (cI, 335, .inl w118)), (h_names, .inl (cJ, 36, .inr (.inl a.2))), (h_reserved, .inl (cJ, 23, .inr (.inl f_reserved))), (h_h, .inl (cI, 104, .inl w80)), (h0, .inr (10, vL 67 G81)), (h_tape, .inl (cB, 940, .inl f_tape))]) (fun a => [(1, .int a.1), (0, .ref h0)]) (fun H locs ls => W p l e ({ frames := 4, cells := 0, slots := 0, locals := 87 } : Room) s m [.ref h0].toArray below meth c H locs 0 0 (MQ below (va_Qi (fun (r : Int32) (u : va_W) => ∃ (Gh : Nat → Value) (y_p : Int32) (y_token : Int32) (y_at : Int32) (y_span : Int32) (y_number : Int32) (y_fault : Int32) (y_faultAt : Int32) (y_ids : Int32) (y_word : Int64) (y_got : Int32) (y_lines : Int32) (y_onces : Int32) (y_undoMany : Int32) (g_s : Nat → Int32) (g_h : Nat → Int32) (g_names : Nat → Int64), SAME [0, 2, 3, 4, 5, 11, 12, 13, 14, 15, 16, 17, 18, 19, 20, 21, 41] Fh Gh ∧ Gh 0 = .int 0 ∧ Gh 2 = .int 0 ∧ Gh 3 = .int x_length ∧ Gh 4 = .int y_p ∧ IR 0 940 y_p ∧ Gh 5 = .int 900 ∧ Gh 11 = .int y_token ∧ IR 0 4 y_token ∧ Gh 12 = .int y_at ∧ Gh 13 = .int y_span ∧ Gh 14 = .int y_number ∧ Gh 15 = .int y_fault ∧ IR 0 4 y_fault ∧ Gh 16 = .int y_faultAt ∧ Gh 17 = .int y_ids ∧ Gh 18 = .long y_word ∧ Gh 19 = .int y_got ∧ Gh 20 = .int y_lines ∧ Gh 21 = .int y_onces ∧ Gh 41 = .int y_undoMany ∧ IR 0 8 y_undoMany ∧ SG 153 153 0 44 g_s ∧ SG 0 0 0 40 g_s ∧ SG 5 5 0 12 g_s ∧ SG 6 6 0 12 g_s ∧ SG 7 7 0 6 g_s ∧ SG 44 55 0 9 g_s ∧ KW 0 g_s ∧ SG 105 108 0 11 g_s ∧ SG 114 114 0 5 g_s ∧ SG 130 133 0 11 g_s ∧ SG 139 139 0 5 g_s ∧ SG 0 0 0 40 g_h ∧ SG 5 5 0 12 g_h ∧ SG 6 6 0 12 g_h ∧ SG 7 7 0 6 g_h ∧ SG 44 55 0 9 g_h ∧ ((y_token.toInt = 2 → 0 ≤ y_number.toInt ∧ y_number.toInt ≤ 999)) ∧ u = [(h0, .inr (10, vL 67 Gh)), (h_tape, .inl (cB, 940, .inl f_tape)), (h_s, .inl (cI, 335, .inl g_s)), (h_h, .inl (cI, 104, .inl g_h)), (h_names, .inl (cJ, 36, .inr (.inl g_names))), (h_reserved, .inl (cJ, 23, .inr (.inl f_reserved)))]) (PO D A) A) [.ref h0].toArray s 0 0 A) (F0 m 117 ls [])) ?_ (0, w79) (show 0 ≤ (0 : Int32).toInt ∧ (0 : Int32).toInt ≤ 18 by decide) _ _ _ hP hD hS hl
      rintro ⟨u143, w144⟩ i145 ih_117 H locs ls hP hD hS hl
      have i145 : 0 ≤ u143.toInt ∧ u143.toInt ≤ 18 := i145
      have hP : va_P D vwCl [(h_s, .inl (cI, 335, .inl w118)), (h_names, .inl (cJ, 36, .inr (.inl w144))), (h_reserved, .inl (cJ, 23, .inr (.inl f_reserved))), (h_h, .inl (cI, 104, .inl w80)), (h0, .inr (10, vL 67 G81)), (h_tape, .inl (cB, 940, .inl f_tape))] H := hP
      have hD : va_D A [(h_s, .inl (cI, 335, .inl w118)), (h_names, .inl (cJ, 36, .inr (.inl w144))), (h_reserved, .inl (cJ, 23, .inr (.inl f_reserved))), (h_h, .inl (cI, 104, .inl w80)), (h0, .inr (10, vL 67 G81)), (h_tape, .inl (cB, 940, .inl f_tape))] := hD
      have hl : lv_has ls 2 [(1, .int u143), (0, .ref h0)] := hl
      refine lv_iload_n hx hb dX10_course_117 rfl (lv_at hl 0 rfl) ?_
      refine lv_bipush (v := 18) hx hb dX10_course_118 (by decide) ?_
      refine lv_icmp_ge (tgt := 144) hx hb dX10_course_120 (by decide) (fun c146 => ?_) (fun c146 => ?_)
      · have dc146 : 18 ≤ u143.toInt := le_i (a := 18) (b := u143.toInt) rfl rfl c146
        have k147 : 18 ≤ u143.toInt ∧ u143.toInt ≤ 18 := ⟨Int.le_trans (Int.le_refl _) dc146, i145.2⟩
        refine lv_aload_n hx hb dX10_course_144 rfl (lv_at hl 1 rfl) ?_
        refine lv_dup hx hb dX10_course_145 rfl ?_
        have n148 : F1 17 = .int x_ids := (get_ne eF1 (by decide) e_ids)
        have n149 : F4 17 = .int x_ids := (SAME.at t5 (by decide) n148)
        have n150 : F11 17 = .int x_ids := (get_ne eF11 (by decide) n149)
        have n151 : F12 17 = .int x_ids := (get_ne eF12 (by decide) n150)
        have n152 : F13 17 = .int x_ids := (get_ne eF13 (by decide) n151)
        have n153 : F57 17 = .int x_ids := (SAME.at t64 (by decide) n152)
        have n154 : G81 17 = .int x_ids := (SAME.at i99 (by decide) n153)
        refine get_f (D := D) (ci := 10) (v := .int x_ids) (C := RX10) (T := TX10) (N := 67) hx hb hw inAX10 hown hK hP 4 rfl rfl 17 (by decide) (hw _ q_1278) (fun _ h9 => h9) n154 dX10_course_146 ?_
        refine lv_iconst (v := 1) hx hb dX10_course_149 (by decide) ?_
        refine lv_iadd hx hb dX10_course_150 ?_
        refine lv_topi (fun v155 ev155 => ?_)
        refine put_f (D := D) (ci := 10) (v := .int v155) (ty := .int) (C := RX10) (T := TX10) (N := 67) hx hb hw inAX10 tyX10 tyX10_ok nmX10 hown hK hP hD hS 4 rfl rfl 17 (by decide) (hw _ q_1278) (fun _ h9 => h9) rfl (by decide +kernel) rfl rfl dX10_course_151 (fun H locs F156 eF156 hP hD hS => ?_)
        have hP : va_P D vwCl [(h_s, .inl (cI, 335, .inl w118)), (h_names, .inl (cJ, 36, .inr (.inl w144))), (h_reserved, .inl (cJ, 23, .inr (.inl f_reserved))), (h_h, .inl (cI, 104, .inl w80)), (h0, .inr (10, vL 67 F156)), (h_tape, .inl (cB, 940, .inl f_tape))] H := hP
        have hD : va_D A [(h_s, .inl (cI, 335, .inl w118)), (h_names, .inl (cJ, 36, .inr (.inl w144))), (h_reserved, .inl (cJ, 23, .inr (.inl f_reserved))), (h_h, .inl (cI, 104, .inl w80)), (h0, .inr (10, vL 67 F156)), (h_tape, .inl (cB, 940, .inl f_tape))] := hD
        refine lv_aload_n hx hb dX10_course_154 rfl (lv_at hl 1 rfl) ?_
        have n157 : F1 6 = .ref h_s := (get_ne eF1 (by decide) e_s)
        have n158 : F4 6 = .ref h_s := (SAME.at t5 (by decide) n157)
        have n159 : F11 6 = .ref h_s := (get_ne eF11 (by decide) n158)
        have n160 : F12 6 = .ref h_s := (get_ne eF12 (by decide) n159)
        have n161 : F13 6 = .ref h_s := (get_ne eF13 (by decide) n160)
        have n162 : F57 6 = .ref h_s := (SAME.at t64 (by decide) n161)
        have n163 : G81 6 = .ref h_s := (SAME.at i99 (by decide) n162)
        have n164 : F156 6 = .ref h_s := (get_ne eF156 (by decide) n163)
        refine get_f (D := D) (ci := 10) (v := .ref h_s) (C := RX10) (T := TX10) (N := 67) hx hb hw inAX10 hown hK hP 4 rfl rfl 6 (by decide) (hw _ q_1267) (fun _ h9 => h9) n164 dX10_course_155 ?_
        refine lv_sipush (v := 334) hx hb dX10_course_158 (by decide) ?_
        refine lv_aload_n hx hb dX10_course_161 rfl (lv_at hl 1 rfl) ?_
        refine get_f (D := D) (ci := 10) (v := .int v155) (C := RX10) (T := TX10) (N := 67) hx hb hw inAX10 hown hK hP 4 rfl rfl 17 (by decide) (hw _ q_1278) (fun _ h9 => h9) (get_eq eF156) dX10_course_162 ?_
        obtain ⟨g165, eg165⟩ : ∃ z : Nat → Int32, upd w118 334 v155 = z := ⟨_, rfl⟩
        have r166 : KW 0 g165 := by rw [← eg165]; exact r142.upN (by decide)
        have r167 : SG 0 0 0 40 g165 := by rw [← eg165]; exact r132.upN (Or.inr (Or.inl (by decide)))
        have r168 : SG 105 108 0 11 g165 := by rw [← eg165]; exact r137.upN (Or.inr (Or.inl (by decide)))
        have r169 : SG 114 114 0 5 g165 := by rw [← eg165]; exact r138.upN (Or.inr (Or.inl (by decide)))
        have r170 : SG 130 133 0 11 g165 := by rw [← eg165]; exact r139.upN (Or.inr (Or.inl (by decide)))
        have r171 : SG 139 139 0 5 g165 := by rw [← eg165]; exact r140.upN (Or.inr (Or.inl (by decide)))
        have r172 : SG 153 153 0 0 g165 := by rw [← eg165]; exact r141.upN (Or.inr (Or.inl (by decide)))
        have r173 : SG 44 55 0 9 g165 := by rw [← eg165]; exact r136.upN (Or.inr (Or.inl (by decide)))
        have r174 : SG 5 5 0 12 g165 := by rw [← eg165]; exact r133.upN (Or.inr (Or.inl (by decide)))
        have r175 : SG 6 6 0 12 g165 := by rw [← eg165]; exact r134.upN (Or.inr (Or.inl (by decide)))
        have r176 : SG 7 7 0 6 g165 := by rw [← eg165]; exact r135.upN (Or.inr (Or.inl (by decide)))
        refine iast_n hx hb hK hP hD hS 0 0 rfl rfl 334 rfl (Nat.le_of_ble_eq_true rfl) (Nat.le_of_ble_eq_true rfl) eg165 dX10_course_165 (fun H locs hP hD hS => ?_)
        have hP : va_P D vwCl [(h_s, .inl (cI, 335, .inl g165)), (h_names, .inl (cJ, 36, .inr (.inl w144))), (h_reserved, .inl (cJ, 23, .inr (.inl f_reserved))), (h_h, .inl (cI, 104, .inl w80)), (h0, .inr (10, vL 67 F156)), (h_tape, .inl (cB, 940, .inl f_tape))] H := hP
        have hD : va_D A [(h_s, .inl (cI, 335, .inl g165)), (h_names, .inl (cJ, 36, .inr (.inl w144))), (h_reserved, .inl (cJ, 23, .inr (.inl f_reserved))), (h_h, .inl (cI, 104, .inl w80)), (h0, .inr (10, vL 67 F156)), (h_tape, .inl (cB, 940, .inl f_tape))] := hD
        refine lv_aload_n hx hb dX10_course_166 rfl (lv_at hl 1 rfl) ?_
        refine get_f (D := D) (ci := 10) (v := .ref h_s) (C := RX10) (T := TX10) (N := 67) hx hb hw inAX10 hown hK hP 4 rfl rfl 6 (by decide) (hw _ q_1267) (fun _ h9 => h9) n164 dX10_course_167 ?_
        refine lv_bipush (v := 115) hx hb dX10_course_170 (by decide) ?_
        refine lv_iconst (v := 1) hx hb dX10_course_172 (by decide) ?_
        obtain ⟨g177, eg177⟩ : ∃ z : Nat → Int32, upd g165 115 1 = z := ⟨_, rfl⟩
        have r178 : KW 0 g177 := by rw [← eg177]; exact r166.upN (by decide)
        have r179 : SG 0 0 0 40 g177 := by rw [← eg177]; exact r167.upN (Or.inr (Or.inl (by decide)))
        have r180 : SG 105 108 0 11 g177 := by rw [← eg177]; exact r168.upN (Or.inr (Or.inl (by decide)))
        have r181 : SG 114 114 0 5 g177 := by rw [← eg177]; exact r169.upN (Or.inr (Or.inl (by decide)))
        have r182 : SG 130 133 0 11 g177 := by rw [← eg177]; exact r170.upN (Or.inl (by decide))
        have r183 : SG 139 139 0 5 g177 := by rw [← eg177]; exact r171.upN (Or.inl (by decide))
        have r184 : SG 153 153 0 0 g177 := by rw [← eg177]; exact r172.upN (Or.inl (by decide))
        have r185 : SG 44 55 0 9 g177 := by rw [← eg177]; exact r173.upN (Or.inr (Or.inl (by decide)))
        have r186 : SG 5 5 0 12 g177 := by rw [← eg177]; exact r174.upN (Or.inr (Or.inl (by decide)))
        have r187 : SG 6 6 0 12 g177 := by rw [← eg177]; exact r175.upN (Or.inr (Or.inl (by decide)))
        have r188 : SG 7 7 0 6 g177 := by rw [← eg177]; exact r176.upN (Or.inr (Or.inl (by decide)))
        refine iast_n hx hb hK hP hD hS 0 0 rfl rfl 115 rfl (Nat.le_of_ble_eq_true rfl) (Nat.le_of_ble_eq_true rfl) eg177 dX10_course_173 (fun H locs hP hD hS => ?_)
        have hP : va_P D vwCl [(h_s, .inl (cI, 335, .inl g177)), (h_names, .inl (cJ, 36, .inr (.inl w144))), (h_reserved, .inl (cJ, 23, .inr (.inl f_reserved))), (h_h, .inl (cI, 104, .inl w80)), (h0, .inr (10, vL 67 F156)), (h_tape, .inl (cB, 940, .inl f_tape))] H := hP
        have hD : va_D A [(h_s, .inl (cI, 335, .inl g177)), (h_names, .inl (cJ, 36, .inr (.inl w144))), (h_reserved, .inl (cJ, 23, .inr (.inl f_reserved))), (h_h, .inl (cI, 104, .inl w80)), (h0, .inr (10, vL 67 F156)), (h_tape, .inl (cB, 940, .inl f_tape))] := hD
        refine lv_iconst (v := 0) hx hb dX10_course_174 (by decide) ?_
        refine lv_istore_n (lv' := [(1, .int 0), (0, .ref h0)]) hx hb dX10_course_175 rfl hl (by decide) rfl (fun ls hl => ?_)
        refine mloop (α := (Int32) × (Nat → Int32)) (nL := 2) (D := D) (A := A) (H0 := s.heap) (fun a => (12 - a.1.toInt).toNat) (fun a => IR 0 12 a.1 ∧ KW 0 a.2 ∧ SG 0 0 0 40 a.2 ∧ SG 105 108 0 11 a.2 ∧ SG 114 114 0 5 a.2 ∧ SG 130 133 0 11 a.2 ∧ SG 139 139 0 5 a.2 ∧ SG 153 153 0 44 a.2 ∧ SG 44 55 0 9 a.2 ∧ SG 5 5 0 12 a.2 ∧ SG 6 6 0 12 a.2 ∧ SG 7 7 0 6 a.2) (fun a => [(h_s, .inl (cI, 335, .inl a.2)), (h_names, .inl (cJ, 36, .inr (.inl w144))), (h_reserved, .inl (cJ, 23, .inr (.inl f_reserved))), (h_h, .inl (cI, 104, .inl w80)), (h0, .inr (10, vL 67 F156)), (h_tape, .inl (cB, 940, .inl f_tape))]) (fun a => [(1, .int a.1), (0, .ref h0)]) (fun H locs ls => W p l e ({ frames := 4, cells := 0, slots := 0, locals := 87 } : Room) s m [.ref h0].toArray below meth c H locs 0 0 (MQ below (va_Qi (fun (r : Int32) (u : va_W) => ∃ (Gh : Nat → Value) (y_p : Int32) (y_token : Int32) (y_at : Int32) (y_span : Int32) (y_number : Int32) (y_fault : Int32) (y_faultAt : Int32) (y_ids : Int32) (y_word : Int64) (y_got : Int32) (y_lines : Int32) (y_onces : Int32) (y_undoMany : Int32) (g_s : Nat → Int32) (g_h : Nat → Int32) (g_names : Nat → Int64), SAME [0, 2, 3, 4, 5, 11, 12, 13, 14, 15, 16, 17, 18, 19, 20, 21, 41] Fh Gh ∧ Gh 0 = .int 0 ∧ Gh 2 = .int 0 ∧ Gh 3 = .int x_length ∧ Gh 4 = .int y_p ∧ IR 0 940 y_p ∧ Gh 5 = .int 900 ∧ Gh 11 = .int y_token ∧ IR 0 4 y_token ∧ Gh 12 = .int y_at ∧ Gh 13 = .int y_span ∧ Gh 14 = .int y_number ∧ Gh 15 = .int y_fault ∧ IR 0 4 y_fault ∧ Gh 16 = .int y_faultAt ∧ Gh 17 = .int y_ids ∧ Gh 18 = .long y_word ∧ Gh 19 = .int y_got ∧ Gh 20 = .int y_lines ∧ Gh 21 = .int y_onces ∧ Gh 41 = .int y_undoMany ∧ IR 0 8 y_undoMany ∧ SG 153 153 0 44 g_s ∧ SG 0 0 0 40 g_s ∧ SG 5 5 0 12 g_s ∧ SG 6 6 0 12 g_s ∧ SG 7 7 0 6 g_s ∧ SG 44 55 0 9 g_s ∧ KW 0 g_s ∧ SG 105 108 0 11 g_s ∧ SG 114 114 0 5 g_s ∧ SG 130 133 0 11 g_s ∧ SG 139 139 0 5 g_s ∧ SG 0 0 0 40 g_h ∧ SG 5 5 0 12 g_h ∧ SG 6 6 0 12 g_h ∧ SG 7 7 0 6 g_h ∧ SG 44 55 0 9 g_h ∧ ((y_token.toInt = 2 → 0 ≤ y_number.toInt ∧ y_number.toInt ≤ 999)) ∧ u = [(h0, .inr (10, vL 67 Gh)), (h_tape, .inl (cB, 940, .inl f_tape)), (h_s, .inl (cI, 335, .inl g_s)), (h_h, .inl (cI, 104, .inl g_h)), (h_names, .inl (cJ, 36, .inr (.inl g_names))), (h_reserved, .inl (cJ, 23, .inr (.inl f_reserved)))]) (PO D A) A) [.ref h0].toArray s 0 0 A) (F0 m 176 ls [])) ?_ (0, g177) ⟨(show 0 ≤ (0 : Int32).toInt ∧ (0 : Int32).toInt ≤ 12 by decide), r178, r179, r180, r181, r182, r183, (SG.wk r184 (by decide) (by decide)), r185, r186, r187, r188⟩ _ _ _ hP hD hS hl
        rintro ⟨u189, w190⟩ ⟨i191, i192, i193, i194, i195, i196, i197, i198, i199, i200, i201, i202⟩ ih_176 H locs ls hP hD hS hl
        have i191 : 0 ≤ u189.toInt ∧ u189.toInt ≤ 12 := i191
        have hP : va_P D vwCl [(h_s, .inl (cI, 335, .inl w190)), (h_names, .inl (cJ, 36, .inr (.inl w144))), (h_reserved, .inl (cJ, 23, .inr (.inl f_reserved))), (h_h, .inl (cI, 104, .inl w80)), (h0, .inr (10, vL 67 F156)), (h_tape, .inl (cB, 940, .inl f_tape))] H := hP
        have hD : va_D A [(h_s, .inl (cI, 335, .inl w190)), (h_names, .inl (cJ, 36, .inr (.inl w144))), (h_reserved, .inl (cJ, 23, .inr (.inl f_reserved))), (h_h, .inl (cI, 104, .inl w80)), (h0, .inr (10, vL 67 F156)), (h_tape, .inl (cB, 940, .inl f_tape))] := hD
        have hl : lv_has ls 2 [(1, .int u189), (0, .ref h0)] := hl
        refine lv_iload_n hx hb dX10_course_176 rfl (lv_at hl 0 rfl) ?_
        refine lv_aload_n hx hb dX10_course_177 rfl (lv_at hl 1 rfl) ?_
        refine get_f (D := D) (ci := 10) (v := .ref h_s) (C := RX10) (T := TX10) (N := 67) hx hb hw inAX10 hown hK hP 4 rfl rfl 6 (by decide) (hw _ q_1267) (fun _ h9 => h9) n164 dX10_course_178 ?_
        refine lv_bipush (v := 6) hx hb dX10_course_181 (by decide) ?_
        refine iald_n hx hb hK hP 0 0 rfl rfl 6 rfl (Nat.le_of_ble_eq_true rfl) (Nat.le_of_ble_eq_true rfl) rfl dX10_course_183 ?_
        refine lv_topi (fun v203 ev203 => ?_)
        have k204 : 0 ≤ v203.toInt ∧ v203.toInt ≤ 12 := by rw [ev203]; exact i201.atN 6 (by decide) (by decide)
        refine lv_icmp_ge (tgt := 211) hx hb dX10_course_184 (by decide) (fun c205 => ?_) (fun c205 => ?_)
        · have dc205 : v203.toInt ≤ u189.toInt := le_i (a := v203.toInt) (b := u189.toInt) rfl rfl c205
          refine lv_aload_n hx hb dX10_course_211 rfl (lv_at hl 1 rfl) ?_
          refine lv_iconst (v := 0) hx hb dX10_course_212 (by decide) ?_
          refine put_f (D := D) (ci := 10) (v := .int 0) (ty := .int) (C := RX10) (T := TX10) (N := 67) hx hb hw inAX10 tyX10 tyX10_ok nmX10 hown hK hP hD hS 4 rfl rfl 41 (by decide) (hw _ q_1302) (fun _ h9 => h9) rfl (by decide +kernel) rfl rfl dX10_course_213 (fun H locs F206 eF206 hP hD hS => ?_)
          have hP : va_P D vwCl [(h_s, .inl (cI, 335, .inl w190)), (h_names, .inl (cJ, 36, .inr (.inl w144))), (h_reserved, .inl (cJ, 23, .inr (.inl f_reserved))), (h_h, .inl (cI, 104, .inl w80)), (h0, .inr (10, vL 67 F206)), (h_tape, .inl (cB, 940, .inl f_tape))] H := hP
          have hD : va_D A [(h_s, .inl (cI, 335, .inl w190)), (h_names, .inl (cJ, 36, .inr (.inl w144))), (h_reserved, .inl (cJ, 23, .inr (.inl f_reserved))), (h_h, .inl (cI, 104, .inl w80)), (h0, .inr (10, vL 67 F206)), (h_tape, .inl (cB, 940, .inl f_tape))] := hD
          refine lv_aload_n hx hb dX10_course_216 rfl (lv_at hl 1 rfl) ?_
          have n207 : F156 20 = .int u91 := (get_ne eF156 (by decide) i109)
          have n208 : F206 20 = .int u91 := (get_ne eF206 (by decide) n207)
          refine get_f (D := D) (ci := 10) (v := .int u91) (C := RX10) (T := TX10) (N := 67) hx hb hw inAX10 hown hK hP 4 rfl rfl 20 (by decide) (hw _ q_1281) (fun _ h9 => h9) n208 dX10_course_217 ?_
          exact ret_i (v := u91) hx hb hr hlocks hS (hP.sub (ws' := [(h0, .inr (10, vL 67 F206)), (h_tape, .inl (cB, 940, .inl f_tape)), (h_s, .inl (cI, 335, .inl w190)), (h_h, .inl (cI, 104, .inl w80)), (h_names, .inl (cJ, 36, .inr (.inl w144))), (h_reserved, .inl (cJ, 23, .inr (.inl f_reserved)))]) [4, 5, 0, 3, 1, 2] rfl) (hD.sub (ws' := [(h0, .inr (10, vL 67 F206)), (h_tape, .inl (cB, 940, .inl f_tape)), (h_s, .inl (cI, 335, .inl w190)), (h_h, .inl (cI, 104, .inl w80)), (h_names, .inl (cJ, 36, .inr (.inl w144))), (h_reserved, .inl (cJ, 23, .inr (.inl f_reserved)))]) [4, 5, 0, 3, 1, 2] (by decide) rfl) dX10_course_220 rfl (Nat.le_of_ble_eq_true rfl) (Nat.le_of_ble_eq_true rfl) ⟨F206, u82, u83, u84, u85, u86, u87, u88, v155, u89, u90, u91, u92, 0, w190, w80, w144, (SAME.up eF206 (SAME.up eF156 (SAME.tr (SAME.tr (SAME.up eF13 (SAME.up eF12 (SAME.up eF11 (SAME.tr (SAME.up eF1 SAME.rf (by decide)) t5 (by decide)) (by decide)) (by decide)) (by decide)) t64 (by decide)) i99 (by decide)) (by decide)) (by decide)), (get_ne eF206 (by decide) (get_ne eF156 (by decide) (SAME.at i99 (by decide) (SAME.at t64 (by decide) (get_ne eF13 (by decide) (get_ne eF12 (by decide) (get_ne eF11 (by decide) (SAME.at t5 (by decide) (get_eq eF1))))))))), (get_ne eF206 (by decide) (get_ne eF156 (by decide) (SAME.at i99 (by decide) (SAME.at t64 (by decide) (get_ne eF13 (by decide) (get_ne eF12 (by decide) (get_ne eF11 (by decide) t6))))))), (get_ne eF206 (by decide) (get_ne eF156 (by decide) (SAME.at i99 (by decide) (SAME.at t64 (by decide) n34)))), (get_ne eF206 (by decide) (get_ne eF156 (by decide) i100)), i111, (get_ne eF206 (by decide) (get_ne eF156 (by decide) (SAME.at i99 (by decide) (SAME.at t64 (by decide) n40)))), (get_ne eF206 (by decide) (get_ne eF156 (by decide) i101)), i112, (get_ne eF206 (by decide) (get_ne eF156 (by decide) i102)), (get_ne eF206 (by decide) (get_ne eF156 (by decide) i103)), (get_ne eF206 (by decide) (get_ne eF156 (by decide) i104)), (get_ne eF206 (by decide) (get_ne eF156 (by decide) i105)), (ir_wk i115 (by decide) (by decide)), (get_ne eF206 (by decide) (get_ne eF156 (by decide) i106)), (get_ne eF206 (by decide) (get_eq eF156)), (get_ne eF206 (by decide) (get_ne eF156 (by decide) i107)), (get_ne eF206 (by decide) (get_ne eF156 (by decide) i108)), n208, (get_ne eF206 (by decide) (get_ne eF156 (by decide) i110)), (get_eq eF206), (show 0 ≤ (0 : Int32).toInt ∧ (0 : Int32).toInt ≤ 8 by decide), i198, i193, i200, i201, i202, i199, i192, i194, i195, i196, i197, i94, i96, i97, i98, i95, (by have zl0 : (0 : Int32).toInt = 0 := (by decide); omega), rfl⟩
        · have dc205 : u189.toInt < v203.toInt := nle_i (a := v203.toInt) (b := u189.toInt) rfl rfl c205
          have k209 : 0 ≤ u189.toInt ∧ u189.toInt ≤ 11 := ⟨i191.1, up_lt dc205 k204.2 (by decide)⟩
          have k210 : 1 ≤ v203.toInt ∧ v203.toInt ≤ 12 := ⟨lo_lt dc205 i191.1 (by decide), k204.2⟩
          refine lv_aload_n hx hb dX10_course_187 rfl (lv_at hl 1 rfl) ?_
          refine get_f (D := D) (ci := 10) (v := .ref h_s) (C := RX10) (T := TX10) (N := 67) hx hb hw inAX10 hown hK hP 4 rfl rfl 6 (by decide) (hw _ q_1267) (fun _ h9 => h9) n164 dX10_course_188 ?_
          refine lv_bipush (v := 116) hx hb dX10_course_191 (by decide) ?_
          refine lv_iload_n hx hb dX10_course_193 rfl (lv_at hl 0 rfl) ?_
          refine lv_iadd hx hb dX10_course_194 ?_
          refine lv_topi (fun v211 ev211 => ?_)
          have bv211 : v211.toInt = 116 + u189.toInt := by rw [ev211]; exact add_k rfl rfl ⟨Int.le_refl _, Int.le_refl _⟩ k209 (by decide)
          have k212 : 116 ≤ v211.toInt ∧ v211.toInt ≤ 127 := add_r bv211 ⟨Int.le_refl _, Int.le_refl _⟩ k209 (by decide)
          refine lv_aload_n hx hb dX10_course_195 rfl (lv_at hl 1 rfl) ?_
          refine get_f (D := D) (ci := 10) (v := .ref h_s) (C := RX10) (T := TX10) (N := 67) hx hb hw inAX10 hown hK hP 4 rfl rfl 6 (by decide) (hw _ q_1267) (fun _ h9 => h9) n164 dX10_course_196 ?_
          refine lv_bipush (v := 68) hx hb dX10_course_199 (by decide) ?_
          refine lv_iload_n hx hb dX10_course_201 rfl (lv_at hl 0 rfl) ?_
          refine lv_iadd hx hb dX10_course_202 ?_
          refine lv_topi (fun v213 ev213 => ?_)
          have bv213 : v213.toInt = 68 + u189.toInt := by rw [ev213]; exact add_k rfl rfl ⟨Int.le_refl _, Int.le_refl _⟩ k209 (by decide)
          have k214 : 68 ≤ v213.toInt ∧ v213.toInt ≤ 79 := add_r bv213 ⟨Int.le_refl _, Int.le_refl _⟩ k209 (by decide)
          refine va_iald hx hb hK hP 0 0 rfl rfl (ix_k k214 (by decide) (by decide)) dX10_course_203 ?_
          refine lv_topi (fun v215 ev215 => ?_)
          obtain ⟨g216, eg216⟩ : ∃ z : Nat → Int32, upd w190 v211.toNatClampNeg v215 = z := ⟨_, rfl⟩
          have r217 : KW 0 g216 := by rw [← eg216]; exact i192.up (Int.le_trans (by decide) k212.1) (Or.inl (lt_dec k212.2 (by decide)))
          have r218 : SG 0 0 0 40 g216 := by rw [← eg216]; exact i193.up (Int.le_trans (by decide) k212.1) (Or.inr (Or.inl (dec_lt k212.1 (by decide))))
          have r219 : SG 105 108 0 11 g216 := by rw [← eg216]; exact i194.up (Int.le_trans (by decide) k212.1) (Or.inr (Or.inl (dec_lt k212.1 (by decide))))
          have r220 : SG 114 114 0 5 g216 := by rw [← eg216]; exact i195.up (Int.le_trans (by decide) k212.1) (Or.inr (Or.inl (dec_lt k212.1 (by decide))))
          have r221 : SG 130 133 0 11 g216 := by rw [← eg216]; exact i196.up (Int.le_trans (by decide) k212.1) (Or.inl (lt_dec k212.2 (by decide)))
          have r222 : SG 139 139 0 5 g216 := by rw [← eg216]; exact i197.up (Int.le_trans (by decide) k212.1) (Or.inl (lt_dec k212.2 (by decide)))
          have r223 : SG 153 153 0 44 g216 := by rw [← eg216]; exact i198.up (Int.le_trans (by decide) k212.1) (Or.inl (lt_dec k212.2 (by decide)))
          have r224 : SG 44 55 0 9 g216 := by rw [← eg216]; exact i199.up (Int.le_trans (by decide) k212.1) (Or.inr (Or.inl (dec_lt k212.1 (by decide))))
          have r225 : SG 5 5 0 12 g216 := by rw [← eg216]; exact i200.up (Int.le_trans (by decide) k212.1) (Or.inr (Or.inl (dec_lt k212.1 (by decide))))
          have r226 : SG 6 6 0 12 g216 := by rw [← eg216]; exact i201.up (Int.le_trans (by decide) k212.1) (Or.inr (Or.inl (dec_lt k212.1 (by decide))))
          have r227 : SG 7 7 0 6 g216 := by rw [← eg216]; exact i202.up (Int.le_trans (by decide) k212.1) (Or.inr (Or.inl (dec_lt k212.1 (by decide))))
          refine iast_g hx hb hK hP hD hS 0 0 rfl rfl (ix_k k212 (by decide) (by decide)) eg216 dX10_course_204 (fun H locs hP hD hS => ?_)
          have hP : va_P D vwCl [(h_s, .inl (cI, 335, .inl g216)), (h_names, .inl (cJ, 36, .inr (.inl w144))), (h_reserved, .inl (cJ, 23, .inr (.inl f_reserved))), (h_h, .inl (cI, 104, .inl w80)), (h0, .inr (10, vL 67 F156)), (h_tape, .inl (cB, 940, .inl f_tape))] H := hP
          have hD : va_D A [(h_s, .inl (cI, 335, .inl g216)), (h_names, .inl (cJ, 36, .inr (.inl w144))), (h_reserved, .inl (cJ, 23, .inr (.inl f_reserved))), (h_h, .inl (cI, 104, .inl w80)), (h0, .inr (10, vL 67 F156)), (h_tape, .inl (cB, 940, .inl f_tape))] := hD
          obtain ⟨v228, ev228⟩ : ∃ z : Int32, z = u189 + 1 := ⟨_, rfl⟩
          have bv228 : v228.toInt = u189.toInt + 1 := by rw [ev228]; exact add_k rfl rfl k209 ⟨Int.le_refl _, Int.le_refl _⟩ (by decide)
          have k229 : 1 ≤ v228.toInt ∧ v228.toInt ≤ 12 := add_r bv228 k209 ⟨Int.le_refl _, Int.le_refl _⟩ (by decide)
          refine lv_iinc (v := v228) (lv' := [(1, .int v228), (0, .ref h0)]) hx hb dX10_course_205 hl (k := 0) rfl (by rw [ev228]; rfl) (by decide) rfl (fun ls hl => ?_)
          refine lv_goto (tgt := 176) hx hb dX10_course_208 (by decide) ?_
          exact ih_176 (v228, g216) ⟨(ir_wk k229 (by decide) (by decide)), r217, r218, r219, r220, r221, r222, r223, r224, r225, r226, r227⟩ (by show (12 - v228.toInt).toNat < (12 - u189.toInt).toNat; omega) _ _ _ hP hD hS (lv_sub hl [0, 1] rfl)
      · have dc146 : u143.toInt < 18 := nle_i (a := 18) (b := u143.toInt) rfl rfl c146
        have k230 : 0 ≤ u143.toInt ∧ u143.toInt ≤ 17 := ⟨i145.1, up_lt dc146 (Int.le_refl _) (by decide)⟩
        refine lv_aload_n hx hb dX10_course_123 rfl (lv_at hl 1 rfl) ?_
        have n231 : F1 9 = .ref h_names := (get_ne eF1 (by decide) e_names)
        have n232 : F4 9 = .ref h_names := (SAME.at t5 (by decide) n231)
        have n233 : F11 9 = .ref h_names := (get_ne eF11 (by decide) n232)
        have n234 : F12 9 = .ref h_names := (get_ne eF12 (by decide) n233)
        have n235 : F13 9 = .ref h_names := (get_ne eF13 (by decide) n234)
        have n236 : F57 9 = .ref h_names := (SAME.at t64 (by decide) n235)
        have n237 : G81 9 = .ref h_names := (SAME.at i99 (by decide) n236)
        refine get_f (D := D) (ci := 10) (v := .ref h_names) (C := RX10) (T := TX10) (N := 67) hx hb hw inAX10 hown hK hP 4 rfl rfl 9 (by decide) (hw _ q_1270) (fun _ h9 => h9) n237 dX10_course_124 ?_
        refine lv_iload_n hx hb dX10_course_127 rfl (lv_at hl 0 rfl) ?_
        refine lv_aload_n hx hb dX10_course_128 rfl (lv_at hl 1 rfl) ?_
        refine get_f (D := D) (ci := 10) (v := .ref h_names) (C := RX10) (T := TX10) (N := 67) hx hb hw inAX10 hown hK hP 4 rfl rfl 9 (by decide) (hw _ q_1270) (fun _ h9 => h9) n237 dX10_course_129 ?_
        refine lv_bipush (v := 18) hx hb dX10_course_132 (by decide) ?_
        refine lv_iload_n hx hb dX10_course_134 rfl (lv_at hl 0 rfl) ?_
        refine lv_iadd hx hb dX10_course_135 ?_
        refine lv_topi (fun v238 ev238 => ?_)
        have bv238 : v238.toInt = 18 + u143.toInt := by rw [ev238]; exact add_k rfl rfl ⟨Int.le_refl _, Int.le_refl _⟩ k230 (by decide)
        have k239 : 18 ≤ v238.toInt ∧ v238.toInt ≤ 35 := add_r bv238 ⟨Int.le_refl _, Int.le_refl _⟩ k230 (by decide)
        refine va_lald hx hb hK hP 1 1 rfl rfl (ix_k k239 (by decide) (by decide)) dX10_course_136 ?_
        refine lv_topl (fun v240 ev240 => ?_)
        obtain ⟨g241, eg241⟩ : ∃ z : Nat → Int64, vp_updL w144 u143.toNatClampNeg v240 = z := ⟨_, rfl⟩
        refine last_g hx hb hK hP hD hS 1 1 rfl rfl (ix_k k230 (by decide) (by decide)) eg241 dX10_course_137 (fun H locs hP hD hS => ?_)
        have hP : va_P D vwCl [(h_s, .inl (cI, 335, .inl w118)), (h_names, .inl (cJ, 36, .inr (.inl g241))), (h_reserved, .inl (cJ, 23, .inr (.inl f_reserved))), (h_h, .inl (cI, 104, .inl w80)), (h0, .inr (10, vL 67 G81)), (h_tape, .inl (cB, 940, .inl f_tape))] H := hP
        have hD : va_D A [(h_s, .inl (cI, 335, .inl w118)), (h_names, .inl (cJ, 36, .inr (.inl g241))), (h_reserved, .inl (cJ, 23, .inr (.inl f_reserved))), (h_h, .inl (cI, 104, .inl w80)), (h0, .inr (10, vL 67 G81)), (h_tape, .inl (cB, 940, .inl f_tape))] := hD
        obtain ⟨v242, ev242⟩ : ∃ z : Int32, z = u143 + 1 := ⟨_, rfl⟩
        have bv242 : v242.toInt = u143.toInt + 1 := by rw [ev242]; exact add_k rfl rfl k230 ⟨Int.le_refl _, Int.le_refl _⟩ (by decide)
        have k243 : 1 ≤ v242.toInt ∧ v242.toInt ≤ 18 := add_r bv242 k230 ⟨Int.le_refl _, Int.le_refl _⟩ (by decide)
        refine lv_iinc (v := v242) (lv' := [(1, .int v242), (0, .ref h0)]) hx hb dX10_course_138 hl (k := 0) rfl (by rw [ev242]; rfl) (by decide) rfl (fun ls hl => ?_)
        refine lv_goto (tgt := 117) hx hb dX10_course_141 (by decide) ?_
        exact ih_117 (v242, g241) (ir_wk k243 (by decide) (by decide)) (by show (18 - v242.toInt).toNat < (18 - u143.toInt).toNat; omega) _ _ _ hP hD hS (lv_sub hl [0, 1] rfl)
    · have dc130 : u117.toInt < 335 := nle_i (a := 335) (b := u117.toInt) rfl rfl c130
      have k244 : 0 ≤ u117.toInt ∧ u117.toInt ≤ 334 := ⟨i119.1, up_lt dc130 (Int.le_refl _) (by decide)⟩
      refine lv_aload_n hx hb dX10_course_87 rfl (lv_at hl 1 rfl) ?_
      have n245 : F1 6 = .ref h_s := (get_ne eF1 (by decide) e_s)
      have n246 : F4 6 = .ref h_s := (SAME.at t5 (by decide) n245)
      have n247 : F11 6 = .ref h_s := (get_ne eF11 (by decide) n246)
      have n248 : F12 6 = .ref h_s := (get_ne eF12 (by decide) n247)
      have n249 : F13 6 = .ref h_s := (get_ne eF13 (by decide) n248)
      have n250 : F57 6 = .ref h_s := (SAME.at t64 (by decide) n249)
      have n251 : G81 6 = .ref h_s := (SAME.at i99 (by decide) n250)
      refine get_f (D := D) (ci := 10) (v := .ref h_s) (C := RX10) (T := TX10) (N := 67) hx hb hw inAX10 hown hK hP 4 rfl rfl 6 (by decide) (hw _ q_1267) (fun _ h9 => h9) n251 dX10_course_88 ?_
      refine lv_iload_n hx hb dX10_course_91 rfl (lv_at hl 0 rfl) ?_
      refine lv_iload_n hx hb dX10_course_92 rfl (lv_at hl 0 rfl) ?_
      refine lv_bipush (v := 104) hx hb dX10_course_93 (by decide) ?_
      refine lv_icmp_ge (tgt := 107) hx hb dX10_course_95 (by decide) (fun c252 => ?_) (fun c252 => ?_)
      · have dc252 : 104 ≤ u117.toInt := le_i (a := 104) (b := u117.toInt) rfl rfl c252
        have k253 : 104 ≤ u117.toInt ∧ u117.toInt ≤ 334 := ⟨Int.le_trans (Int.le_refl _) dc252, k244.2⟩
        refine lv_iconst (v := 0) hx hb dX10_course_107 (by decide) ?_
        obtain ⟨g254, eg254⟩ : ∃ z : Nat → Int32, upd w118 u117.toNatClampNeg 0 = z := ⟨_, rfl⟩
        refine iast_g hx hb hK hP hD hS 0 0 rfl rfl (ix_k k253 (by decide) (by decide)) eg254 dX10_course_108 (fun H locs hP hD hS => ?_)
        have hP : va_P D vwCl [(h_s, .inl (cI, 335, .inl g254)), (h_names, .inl (cJ, 36, .inr (.inl w79))), (h_reserved, .inl (cJ, 23, .inr (.inl f_reserved))), (h_h, .inl (cI, 104, .inl w80)), (h0, .inr (10, vL 67 G81)), (h_tape, .inl (cB, 940, .inl f_tape))] H := hP
        have hD : va_D A [(h_s, .inl (cI, 335, .inl g254)), (h_names, .inl (cJ, 36, .inr (.inl w79))), (h_reserved, .inl (cJ, 23, .inr (.inl f_reserved))), (h_h, .inl (cI, 104, .inl w80)), (h0, .inr (10, vL 67 G81)), (h_tape, .inl (cB, 940, .inl f_tape))] := hD
        obtain ⟨v255, ev255⟩ : ∃ z : Int32, z = u117 + 1 := ⟨_, rfl⟩
        have bv255 : v255.toInt = u117.toInt + 1 := by rw [ev255]; exact add_k rfl rfl k253 ⟨Int.le_refl _, Int.le_refl _⟩ (by decide)
        have k256 : 105 ≤ v255.toInt ∧ v255.toInt ≤ 335 := add_r bv255 k253 ⟨Int.le_refl _, Int.le_refl _⟩ (by decide)
        refine lv_iinc (v := v255) (lv' := [(1, .int v255), (0, .ref h0)]) hx hb dX10_course_109 hl (k := 0) rfl (by rw [ev255]; rfl) (by decide) rfl (fun ls hl => ?_)
        refine lv_goto (tgt := 80) hx hb dX10_course_112 (by decide) ?_
        exact ih (v255, g254) ⟨(ir_wk k256 (by decide) (by decide)), (SGK.step i120 eg254 (by omega) (by omega) (by omega) (fun q1 q2 => ⟨by decide, by decide⟩)), (SGK.step i121 eg254 (by omega) (by omega) (by omega) (fun q1 q2 => ⟨by decide, by decide⟩)), (SGK.step i122 eg254 (by omega) (by omega) (by omega) (fun q1 q2 => ⟨by decide, by decide⟩)), (SGK.step i123 eg254 (by omega) (by omega) (by omega) (fun q1 q2 => ⟨by decide, by decide⟩)), (SGK.step i124 eg254 (by omega) (by omega) (by omega) (fun q1 q2 => ⟨by decide, by decide⟩)), (SGK.step i125 eg254 (by omega) (by omega) (by omega) (fun q1 q2 => ⟨by decide, by decide⟩)), (SGK.step i126 eg254 (by omega) (by omega) (by omega) (fun q1 q2 => ⟨by decide, by decide⟩)), (SGK.step i127 eg254 (by omega) (by omega) (by omega) (fun q1 q2 => ⟨by decide, by decide⟩)), (SGK.step i128 eg254 (by omega) (by omega) (by omega) (fun q1 q2 => ⟨by decide, by decide⟩)), (SGK.step i129 eg254 (by omega) (by omega) (by omega) (fun q1 q2 => ⟨by decide, by decide⟩))⟩ (by show (335 - v255.toInt).toNat < (335 - u117.toInt).toNat; omega) _ _ _ hP hD hS (lv_sub hl [0, 1] rfl)
      · have dc252 : u117.toInt < 104 := nle_i (a := 104) (b := u117.toInt) rfl rfl c252
        have k257 : 0 ≤ u117.toInt ∧ u117.toInt ≤ 103 := ⟨k244.1, up_lt dc252 (Int.le_refl _) (by decide)⟩
        refine lv_aload_n hx hb dX10_course_98 rfl (lv_at hl 1 rfl) ?_
        have n258 : F57 7 = .ref h_h := (SAME.at t64 (by decide) n18)
        have n259 : G81 7 = .ref h_h := (SAME.at i99 (by decide) n258)
        refine get_f (D := D) (ci := 10) (v := .ref h_h) (C := RX10) (T := TX10) (N := 67) hx hb hw inAX10 hown hK hP 4 rfl rfl 7 (by decide) (hw _ q_1268) (fun _ h9 => h9) n259 dX10_course_99 ?_
        refine lv_iload_n hx hb dX10_course_102 rfl (lv_at hl 0 rfl) ?_
        refine va_iald hx hb hK hP 3 0 rfl rfl (ix_k k257 (by decide) (by decide)) dX10_course_103 ?_
        refine lv_topi (fun v260 ev260 => ?_)
        have r261 : IMP (0 ≤ u117.toInt → u117.toInt ≤ 0 → 0 ≤ v260.toInt ∧ v260.toInt ≤ 40) := IMP.mk (fun q1 q2 => by rw [ev260]; exact i94.at _ q1 q2)
        have r262 : IMP (44 ≤ u117.toInt → u117.toInt ≤ 55 → 0 ≤ v260.toInt ∧ v260.toInt ≤ 9) := IMP.mk (fun q1 q2 => by rw [ev260]; exact i95.at _ q1 q2)
        have r263 : IMP (5 ≤ u117.toInt → u117.toInt ≤ 5 → 0 ≤ v260.toInt ∧ v260.toInt ≤ 12) := IMP.mk (fun q1 q2 => by rw [ev260]; exact i96.at _ q1 q2)
        have r264 : IMP (6 ≤ u117.toInt → u117.toInt ≤ 6 → 0 ≤ v260.toInt ∧ v260.toInt ≤ 12) := IMP.mk (fun q1 q2 => by rw [ev260]; exact i97.at _ q1 q2)
        have r265 : IMP (7 ≤ u117.toInt → u117.toInt ≤ 7 → 0 ≤ v260.toInt ∧ v260.toInt ≤ 6) := IMP.mk (fun q1 q2 => by rw [ev260]; exact i98.at _ q1 q2)
        refine lv_goto (tgt := 108) hx hb dX10_course_104 (by decide) ?_
        obtain ⟨g266, eg266⟩ : ∃ z : Nat → Int32, upd w118 u117.toNatClampNeg v260 = z := ⟨_, rfl⟩
        refine iast_g hx hb hK hP hD hS 0 0 rfl rfl (ix_k k257 (by decide) (by decide)) eg266 dX10_course_108 (fun H locs hP hD hS => ?_)
        have hP : va_P D vwCl [(h_s, .inl (cI, 335, .inl g266)), (h_names, .inl (cJ, 36, .inr (.inl w79))), (h_reserved, .inl (cJ, 23, .inr (.inl f_reserved))), (h_h, .inl (cI, 104, .inl w80)), (h0, .inr (10, vL 67 G81)), (h_tape, .inl (cB, 940, .inl f_tape))] H := hP
        have hD : va_D A [(h_s, .inl (cI, 335, .inl g266)), (h_names, .inl (cJ, 36, .inr (.inl w79))), (h_reserved, .inl (cJ, 23, .inr (.inl f_reserved))), (h_h, .inl (cI, 104, .inl w80)), (h0, .inr (10, vL 67 G81)), (h_tape, .inl (cB, 940, .inl f_tape))] := hD
        obtain ⟨v267, ev267⟩ : ∃ z : Int32, z = u117 + 1 := ⟨_, rfl⟩
        have bv267 : v267.toInt = u117.toInt + 1 := by rw [ev267]; exact add_k rfl rfl k257 ⟨Int.le_refl _, Int.le_refl _⟩ (by decide)
        have k268 : 1 ≤ v267.toInt ∧ v267.toInt ≤ 104 := add_r bv267 k257 ⟨Int.le_refl _, Int.le_refl _⟩ (by decide)
        refine lv_iinc (v := v267) (lv' := [(1, .int v267), (0, .ref h0)]) hx hb dX10_course_109 hl (k := 0) rfl (by rw [ev267]; rfl) (by decide) rfl (fun ls hl => ?_)
        refine lv_goto (tgt := 80) hx hb dX10_course_112 (by decide) ?_
        exact ih (v267, g266) ⟨(ir_wk k268 (by decide) (by decide)), (SGK.step i120 eg266 (by omega) (by omega) (by omega) (fun q1 q2 => ⟨Int.le_trans (by decide) (r261.h (by omega) (by omega)).1, Int.le_trans (r261.h (by omega) (by omega)).2 (by decide)⟩)), (SGK.step i121 eg266 (by omega) (by omega) (by omega) (fun q1 q2 => ⟨Int.le_trans (by decide) (r263.h (by omega) (by omega)).1, Int.le_trans (r263.h (by omega) (by omega)).2 (by decide)⟩)), (SGK.step i122 eg266 (by omega) (by omega) (by omega) (fun q1 q2 => ⟨Int.le_trans (by decide) (r264.h (by omega) (by omega)).1, Int.le_trans (r264.h (by omega) (by omega)).2 (by decide)⟩)), (SGK.step i123 eg266 (by omega) (by omega) (by omega) (fun q1 q2 => ⟨Int.le_trans (by decide) (r265.h (by omega) (by omega)).1, Int.le_trans (r265.h (by omega) (by omega)).2 (by decide)⟩)), (SGK.step i124 eg266 (by omega) (by omega) (by omega) (fun q1 q2 => ⟨Int.le_trans (by decide) (r262.h (by omega) (by omega)).1, Int.le_trans (r262.h (by omega) (by omega)).2 (by decide)⟩)), (SGK.step i125 eg266 (by omega) (by omega) (by omega) (fun q1 q2 => ⟨by omega, by omega⟩)), (SGK.step i126 eg266 (by omega) (by omega) (by omega) (fun q1 q2 => ⟨by omega, by omega⟩)), (SGK.step i127 eg266 (by omega) (by omega) (by omega) (fun q1 q2 => ⟨by omega, by omega⟩)), (SGK.step i128 eg266 (by omega) (by omega) (by omega) (fun q1 q2 => ⟨by omega, by omega⟩)), (SGK.step i129 eg266 (by omega) (by omega) (by omega) (fun q1 q2 => ⟨by omega, by omega⟩))⟩ (by show (335 - v267.toInt).toNat < (335 - u117.toInt).toNat; omega) _ _ _ hP hD hS (lv_sub hl [0, 1] rfl)
  have n269 : F12 15 = .int 0 := (get_ne eF12 (by decide) (get_eq eF11))
  have n270 : F13 15 = .int 0 := (get_ne eF13 (by decide) n269)
  have n271 : F57 15 = .int 0 := (SAME.at t64 (by decide) n270)
  have n272 : F1 16 = .int x_faultAt := (get_ne eF1 (by decide) e_faultAt)
  have n273 : F4 16 = .int x_faultAt := (SAME.at t5 (by decide) n272)
  have n274 : F11 16 = .int x_faultAt := (get_ne eF11 (by decide) n273)
  have n275 : F12 16 = .int x_faultAt := (get_ne eF12 (by decide) n274)
  have n276 : F13 16 = .int x_faultAt := (get_ne eF13 (by decide) n275)
  have n277 : F57 16 = .int x_faultAt := (SAME.at t64 (by decide) n276)
  have n278 : F1 19 = .int x_got := (get_ne eF1 (by decide) e_got)
  have n279 : F4 19 = .int x_got := (SAME.at t5 (by decide) n278)
  have n280 : F11 19 = .int x_got := (get_ne eF11 (by decide) n279)
  have n281 : F12 19 = .int x_got := (get_ne eF12 (by decide) n280)
  have n282 : F13 19 = .int x_got := (get_ne eF13 (by decide) n281)
  have n283 : F57 19 = .int x_got := (SAME.at t64 (by decide) n282)
  have n284 : F13 20 = .int 0 := (get_ne eF13 (by decide) (get_eq eF12))
  have n285 : F57 20 = .int 0 := (SAME.at t64 (by decide) n284)
  have n286 : F57 21 = .int 0 := (SAME.at t64 (by decide) (get_eq eF13))
  refine mloop (α := (Nat → Int64) × (Nat → Int32) × (Nat → Value) × (Int32) × (Int32) × (Int32) × (Int32) × (Int32) × (Int32) × (Int32) × (Int64) × (Int32) × (Int32) × (Int32)) (nL := 2) (D := D) (A := A) (H0 := s.heap) (fun a => (940 - a.2.2.2.1.toInt).toNat) (fun a => SG 0 0 0 40 a.2.1 ∧ SG 44 55 0 9 a.2.1 ∧ SG 5 5 0 12 a.2.1 ∧ SG 6 6 0 12 a.2.1 ∧ SG 7 7 0 6 a.2.1 ∧ SAME [4, 11, 12, 13, 14, 15, 16, 18, 19, 20, 21] F57 a.2.2.1 ∧ a.2.2.1 4 = .int a.2.2.2.1 ∧ a.2.2.1 11 = .int a.2.2.2.2.1 ∧ a.2.2.1 12 = .int a.2.2.2.2.2.1 ∧ a.2.2.1 13 = .int a.2.2.2.2.2.2.1 ∧ a.2.2.1 14 = .int a.2.2.2.2.2.2.2.1 ∧ a.2.2.1 15 = .int a.2.2.2.2.2.2.2.2.1 ∧ a.2.2.1 16 = .int a.2.2.2.2.2.2.2.2.2.1 ∧ a.2.2.1 18 = .long a.2.2.2.2.2.2.2.2.2.2.1 ∧ a.2.2.1 19 = .int a.2.2.2.2.2.2.2.2.2.2.2.1 ∧ a.2.2.1 20 = .int a.2.2.2.2.2.2.2.2.2.2.2.2.1 ∧ a.2.2.1 21 = .int a.2.2.2.2.2.2.2.2.2.2.2.2.2 ∧ IR 0 940 a.2.2.2.1 ∧ IR 0 4 a.2.2.2.2.1 ∧ IR 0 940 a.2.2.2.2.2.1 ∧ IR 0 940 a.2.2.2.2.2.2.1 ∧ IR 0 0 a.2.2.2.2.2.2.2.2.1 ∧ ((a.2.2.2.2.1.toInt = 2 → 0 ≤ a.2.2.2.2.2.2.2.1.toInt ∧ a.2.2.2.2.2.2.2.1.toInt ≤ 999))) (fun a => [(h_s, .inl (cI, 335, .inl f_s)), (h_names, .inl (cJ, 36, .inr (.inl a.1))), (h_reserved, .inl (cJ, 23, .inr (.inl f_reserved))), (h_h, .inl (cI, 104, .inl a.2.1)), (h0, .inr (10, vL 67 a.2.2.1)), (h_tape, .inl (cB, 940, .inl f_tape))]) (fun a => [(0, .ref h0)]) (fun H locs ls => W p l e ({ frames := 4, cells := 0, slots := 0, locals := 87 } : Room) s m [.ref h0].toArray below meth c H locs 0 0 (MQ below (va_Qi (fun (r : Int32) (u : va_W) => ∃ (Gh : Nat → Value) (y_p : Int32) (y_token : Int32) (y_at : Int32) (y_span : Int32) (y_number : Int32) (y_fault : Int32) (y_faultAt : Int32) (y_ids : Int32) (y_word : Int64) (y_got : Int32) (y_lines : Int32) (y_onces : Int32) (y_undoMany : Int32) (g_s : Nat → Int32) (g_h : Nat → Int32) (g_names : Nat → Int64), SAME [0, 2, 3, 4, 5, 11, 12, 13, 14, 15, 16, 17, 18, 19, 20, 21, 41] Fh Gh ∧ Gh 0 = .int 0 ∧ Gh 2 = .int 0 ∧ Gh 3 = .int x_length ∧ Gh 4 = .int y_p ∧ IR 0 940 y_p ∧ Gh 5 = .int 900 ∧ Gh 11 = .int y_token ∧ IR 0 4 y_token ∧ Gh 12 = .int y_at ∧ Gh 13 = .int y_span ∧ Gh 14 = .int y_number ∧ Gh 15 = .int y_fault ∧ IR 0 4 y_fault ∧ Gh 16 = .int y_faultAt ∧ Gh 17 = .int y_ids ∧ Gh 18 = .long y_word ∧ Gh 19 = .int y_got ∧ Gh 20 = .int y_lines ∧ Gh 21 = .int y_onces ∧ Gh 41 = .int y_undoMany ∧ IR 0 8 y_undoMany ∧ SG 153 153 0 44 g_s ∧ SG 0 0 0 40 g_s ∧ SG 5 5 0 12 g_s ∧ SG 6 6 0 12 g_s ∧ SG 7 7 0 6 g_s ∧ SG 44 55 0 9 g_s ∧ KW 0 g_s ∧ SG 105 108 0 11 g_s ∧ SG 114 114 0 5 g_s ∧ SG 130 133 0 11 g_s ∧ SG 139 139 0 5 g_s ∧ SG 0 0 0 40 g_h ∧ SG 5 5 0 12 g_h ∧ SG 6 6 0 12 g_h ∧ SG 7 7 0 6 g_h ∧ SG 44 55 0 9 g_h ∧ ((y_token.toInt = 2 → 0 ≤ y_number.toInt ∧ y_number.toInt ≤ 999)) ∧ u = [(h0, .inr (10, vL 67 Gh)), (h_tape, .inl (cB, 940, .inl f_tape)), (h_s, .inl (cI, 335, .inl g_s)), (h_h, .inl (cI, 104, .inl g_h)), (h_names, .inl (cJ, 36, .inr (.inl g_names))), (h_reserved, .inl (cJ, 23, .inr (.inl f_reserved)))]) (PO D A) A) [.ref h0].toArray s 0 0 A) (F0 m 35 ls [])) ?_ (f_names, g20, F57, y58, y59, y60, y61, y62, 0, x_faultAt, y63, x_got, 0, 0) ⟨t21, t25, t22, t23, t24, SAME.rf, t65, t67, t69, t71, t73, n271, n277, t74, n283, n285, n286, t66, t68, t70, t72, (show 0 ≤ (0 : Int32).toInt ∧ (0 : Int32).toInt ≤ 0 by decide), (by show (y59.toInt = 2 → 0 ≤ y62.toInt ∧ y62.toInt ≤ 999); omega)⟩ _ _ _ hP hD hS hl
  rintro ⟨w79, w80, G81, u82, u83, u84, u85, u86, u87, u88, u89, u90, u91, u92⟩ ⟨i287, i288, i289, i290, i291, i292, i293, i294, i295, i296, i297, i298, i299, i300, i301, i302, i303, i304, i305, i306, i307, i308, i309⟩ ih H locs ls hP hD hS hl
  have i304 : 0 ≤ u82.toInt ∧ u82.toInt ≤ 940 := i304
  have i305 : 0 ≤ u83.toInt ∧ u83.toInt ≤ 4 := i305
  have i306 : 0 ≤ u84.toInt ∧ u84.toInt ≤ 940 := i306
  have i307 : 0 ≤ u85.toInt ∧ u85.toInt ≤ 940 := i307
  have i308 : 0 ≤ u87.toInt ∧ u87.toInt ≤ 0 := i308
  have i309 : (u83.toInt = 2 → 0 ≤ u86.toInt ∧ u86.toInt ≤ 999) := i309
  have hP : va_P D vwCl [(h_s, .inl (cI, 335, .inl f_s)), (h_names, .inl (cJ, 36, .inr (.inl w79))), (h_reserved, .inl (cJ, 23, .inr (.inl f_reserved))), (h_h, .inl (cI, 104, .inl w80)), (h0, .inr (10, vL 67 G81)), (h_tape, .inl (cB, 940, .inl f_tape))] H := hP
  have hD : va_D A [(h_s, .inl (cI, 335, .inl f_s)), (h_names, .inl (cJ, 36, .inr (.inl w79))), (h_reserved, .inl (cJ, 23, .inr (.inl f_reserved))), (h_h, .inl (cI, 104, .inl w80)), (h0, .inr (10, vL 67 G81)), (h_tape, .inl (cB, 940, .inl f_tape))] := hD
  have hl : lv_has ls 2 [(0, .ref h0)] := hl
  refine lv_aload_n hx hb dX10_course_35 rfl (lv_at hl 0 rfl) ?_
  refine get_f (D := D) (ci := 10) (v := .int u83) (C := RX10) (T := TX10) (N := 67) hx hb hw inAX10 hown hK hP 4 rfl rfl 11 (by decide) (hw _ q_1272) (fun _ h9 => h9) i294 dX10_course_36 ?_
  refine lv_if_eq (tgt := 78) hx hb dX10_course_39 (by decide) (fun c310 => ?_) (fun c310 => ?_)
  · have dc310 : u83.toInt = 0 := eq_i (a := u83.toInt) (b := 0) rfl rfl c310
    have k311 : 0 ≤ u83.toInt ∧ u83.toInt ≤ 0 := ⟨i305.1, Int.le_trans (Int.le_of_eq dc310) (Int.le_refl _)⟩
    exact cut93 w79 w80 G81 u82 u83 u84 u85 u86 u87 u88 u89 u90 u91 u92 i287 i288 i289 i290 i291 (SAME.tr SAME.rf i292 (by decide)) i293 i294 i295 i296 i297 i298 i299 i300 i301 i302 i303 i304 (ir_wk k311 (by decide) (by decide)) i306 i307 i308 (by show (u83.toInt = 2 → 0 ≤ u86.toInt ∧ u86.toInt ≤ 999); omega) _ _ _ hP hD hS (lv_sub hl [0] rfl)
  · have dc310 : u83.toInt ≠ 0 := ne_i (a := u83.toInt) (b := 0) rfl rfl c310
    have k312 : 1 ≤ u83.toInt ∧ u83.toInt ≤ 4 := ⟨ne_lo dc310 i305.1 ⟨Int.le_refl _, Int.le_refl _⟩ (by decide), i305.2⟩
    refine lv_aload_n hx hb dX10_course_42 rfl (lv_at hl 0 rfl) ?_
    have n313 : F57 1 = .ref h_tape := (SAME.at t64 (by decide) n31)
    have n314 : G81 1 = .ref h_tape := (SAME.at i292 (by decide) n313)
    have n315 : F57 3 = .int x_length := (SAME.at t64 (by decide) n34)
    have n316 : G81 3 = .int x_length := (SAME.at i292 (by decide) n315)
    have n317 : F57 5 = .int 900 := (SAME.at t64 (by decide) n40)
    have n318 : G81 5 = .int 900 := (SAME.at i292 (by decide) n317)
    have n319 : F57 7 = .ref h_h := (SAME.at t64 (by decide) n18)
    have n320 : G81 7 = .ref h_h := (SAME.at i292 (by decide) n319)
    have n321 : F1 9 = .ref h_names := (get_ne eF1 (by decide) e_names)
    have n322 : F4 9 = .ref h_names := (SAME.at t5 (by decide) n321)
    have n323 : F11 9 = .ref h_names := (get_ne eF11 (by decide) n322)
    have n324 : F12 9 = .ref h_names := (get_ne eF12 (by decide) n323)
    have n325 : F13 9 = .ref h_names := (get_ne eF13 (by decide) n324)
    have n326 : F57 9 = .ref h_names := (SAME.at t64 (by decide) n325)
    have n327 : G81 9 = .ref h_names := (SAME.at i292 (by decide) n326)
    have n328 : F1 10 = .ref h_reserved := (get_ne eF1 (by decide) e_reserved)
    have n329 : F4 10 = .ref h_reserved := (SAME.at t5 (by decide) n328)
    have n330 : F11 10 = .ref h_reserved := (get_ne eF11 (by decide) n329)
    have n331 : F12 10 = .ref h_reserved := (get_ne eF12 (by decide) n330)
    have n332 : F13 10 = .ref h_reserved := (get_ne eF13 (by decide) n331)
    have n333 : F57 10 = .ref h_reserved := (SAME.at t64 (by decide) n332)
    have n334 : G81 10 = .ref h_reserved := (SAME.at i292 (by decide) n333)
    refine call_Vi (wr := [(h_s, .inl (cI, 335, .inl f_s))]) (As := []) (rest := []) hx hb hml hown hw (m_X10_line0 l D cI cJ cB cP cM cZ h0 h_tape h_h h_names h_reserved G81 x_length u82 900 u83 u84 u85 u86 u89 u90 u92 f_tape w80 w79 f_reserved _ n314 n316 i_x_length i293 i304 n318 (show 200 ≤ (900 : Int32).toInt ∧ (900 : Int32).toInt ≤ 940 by decide) n320 n327 n334 i294 (ir_wk k312 (by decide) (by decide)) i295 i296 i297 i300 i301 i303 i287 i288 i289 i290 i291 (by omega)) wV_X10_254_X10_line0 dX10_course_43 hK hP hD hS hA [4, 5, 3, 1, 2] [0] rfl rfl (by decide) (by decide) (by decide) 0 10 rfl rfl GG.fb hG.at hl.1 rfl (Nat.le_of_ble_eq_true rfl) ⟨(Nat.le_of_ble_eq_true rfl), (Nat.le_of_ble_eq_true rfl)⟩ ⟨(Nat.le_of_ble_eq_true rfl), (Nat.le_of_ble_eq_true rfl)⟩ (fun r335 u H locs hp hP hD hS => ?_)
    rcases hp with hp | hp
    · refine hp.elim (fun F336 h9z0 => h9z0.elim (fun y337 h9z1 => h9z1.elim (fun y338 h9z2 => h9z2.elim (fun y339 h9z3 => h9z3.elim (fun y340 h9z4 => h9z4.elim (fun y341 h9z5 => h9z5.elim (fun y342 h9z6 => h9z6.elim (fun y343 h9z7 => h9z7.elim (fun y344 h9z8 => h9z8.elim (fun y345 h9z9 => h9z9.elim (fun y346 h9z10 => h9z10.elim (fun g347 h9z11 => h9z11.elim (fun g348 h9z12 => h9z12.elim (fun t349 h9z13 => h9z13.elim (fun t350 h9z14 => h9z14.elim (fun t351 h9z15 => h9z15.elim (fun t352 h9z16 => h9z16.elim (fun t353 h9z17 => h9z17.elim (fun t354 h9z18 => h9z18.elim (fun t355 h9z19 => h9z19.elim (fun t356 h9z20 => h9z20.elim (fun t357 h9z21 => h9z21.elim (fun t358 h9z22 => h9z22.elim (fun t359 h9z23 => h9z23.elim (fun t360 h9z24 => h9z24.elim (fun t361 h9z25 => h9z25.elim (fun t362 h9z26 => h9z26.elim (fun t363 h9z27 => h9z27.elim (fun t364 h9z28 => h9z28.elim (fun t365 h9z29 => h9z29.elim (fun t366 h9z30 => h9z30.elim (fun t367 h9z31 => h9z31.elim (fun t368 h9z32 => h9z32.elim (fun heq933 h9z33 => ?_))))))))))))))))))))))))))))))))))
      clear h9z0 h9z1 h9z2 h9z3 h9z4 h9z5 h9z6 h9z7 h9z8 h9z9 h9z10 h9z11 h9z12 h9z13 h9z14 h9z15 h9z16 h9z17 h9z18 h9z19 h9z20 h9z21 h9z22 h9z23 h9z24 h9z25 h9z26 h9z27 h9z28 h9z29 h9z30 h9z31 h9z32
      subst heq933
      subst h9z33
      clear t77
      have hP : va_P D vwCl [(h_s, .inl (cI, 335, .inl f_s)), (h0, .inr (10, vL 67 F336)), (h_tape, .inl (cB, 940, .inl f_tape)), (h_h, .inl (cI, 104, .inl g347)), (h_names, .inl (cJ, 36, .inr (.inl g348))), (h_reserved, .inl (cJ, 23, .inr (.inl f_reserved)))] H := hP
      have hD : va_D A [(h_s, .inl (cI, 335, .inl f_s)), (h0, .inr (10, vL 67 F336)), (h_tape, .inl (cB, 940, .inl f_tape)), (h_h, .inl (cI, 104, .inl g347)), (h_names, .inl (cJ, 36, .inr (.inl g348))), (h_reserved, .inl (cJ, 23, .inr (.inl f_reserved)))] := hD
      refine W.widen (k := 0) (n := 0) (Nat.le_of_ble_eq_true rfl) (Nat.le_of_ble_eq_true rfl) ?_
      refine lv_if_eq (tgt := 58) hx hb dX10_course_46 (by decide) (fun _ => ?_) (fun g => absurd (by decide) g)
      refine lv_iconst (v := (-1)) hx hb dX10_course_58 (by decide) ?_
      refine lv_aload_n hx hb dX10_course_59 rfl (lv_at hl 0 rfl) ?_
      refine get_f (D := D) (ci := 10) (v := .int y343) (C := RX10) (T := TX10) (N := 67) hx hb hw inAX10 hown hK hP 1 rfl rfl 16 (by decide) (hw _ q_1277) (fun _ h9 => h9) t359 dX10_course_60 ?_
      refine lv_isub hx hb dX10_course_63 ?_
      refine lv_topi (fun v402 ev402 => ?_)
      have bv402 : v402.toInt = (-1) - y343.toInt := by rw [ev402]; exact sub_k rfl rfl ⟨Int.le_refl _, Int.le_refl _⟩ (ir_any _) (by decide)
      have k403 : (-2147483648) ≤ v402.toInt ∧ v402.toInt ≤ 2147483647 := sub_r bv402 ⟨Int.le_refl _, Int.le_refl _⟩ (ir_any _) (by decide)
      exact ret_i (v := v402) hx hb hr hlocks hS (hP.sub (ws' := [(h0, .inr (10, vL 67 F336)), (h_tape, .inl (cB, 940, .inl f_tape)), (h_s, .inl (cI, 335, .inl f_s)), (h_h, .inl (cI, 104, .inl g347)), (h_names, .inl (cJ, 36, .inr (.inl g348))), (h_reserved, .inl (cJ, 23, .inr (.inl f_reserved)))]) [1, 2, 0, 3, 4, 5] rfl) (hD.sub (ws' := [(h0, .inr (10, vL 67 F336)), (h_tape, .inl (cB, 940, .inl f_tape)), (h_s, .inl (cI, 335, .inl f_s)), (h_h, .inl (cI, 104, .inl g347)), (h_names, .inl (cJ, 36, .inr (.inl g348))), (h_reserved, .inl (cJ, 23, .inr (.inl f_reserved)))]) [1, 2, 0, 3, 4, 5] (by decide) rfl) dX10_course_64 rfl (Nat.le_of_ble_eq_true rfl) (Nat.le_of_ble_eq_true rfl) ⟨F336, y337, y338, y339, y340, y341, y342, y343, x_ids, y344, y345, u91, y346, x_undoMany, f_s, g347, g348, (SAME.tr (SAME.tr (SAME.tr (SAME.up eF13 (SAME.up eF12 (SAME.up eF11 (SAME.tr (SAME.up eF1 SAME.rf (by decide)) t5 (by decide)) (by decide)) (by decide)) (by decide)) t64 (by decide)) i292 (by decide)) t349 (by decide)), (SAME.at t349 (by decide) (SAME.at i292 (by decide) (SAME.at t64 (by decide) (get_ne eF13 (by decide) (get_ne eF12 (by decide) (get_ne eF11 (by decide) (SAME.at t5 (by decide) (get_eq eF1)))))))), (SAME.at t349 (by decide) (SAME.at i292 (by decide) (SAME.at t64 (by decide) (get_ne eF13 (by decide) (get_ne eF12 (by decide) (get_ne eF11 (by decide) t6)))))), (SAME.at t349 (by decide) n316), t350, t351, (SAME.at t349 (by decide) n318), t352, t353, t354, t355, t356, t357, (ir_wk t358 (by decide) (by decide)), t359, (SAME.at t349 (by decide) (SAME.at i292 (by decide) (SAME.at t64 (by decide) (get_ne eF13 (by decide) (get_ne eF12 (by decide) (get_ne eF11 (by decide) (SAME.at t5 (by decide) (get_ne eF1 (by decide) e_ids)))))))), t360, t361, (SAME.at t349 (by decide) i302), t362, (SAME.at t349 (by decide) (SAME.at i292 (by decide) (SAME.at t64 (by decide) (get_ne eF13 (by decide) (get_ne eF12 (by decide) (get_ne eF11 (by decide) (SAME.at t5 (by decide) (get_ne eF1 (by decide) e_undoMany)))))))), i_x_undoMany, s_s_153, s_s_0, s_s_5, s_s_6, s_s_7, s_s_44, s_s_K0, s_s_105, s_s_114, s_s_130, s_s_139, t363, t364, t365, t366, t367, (by omega), rfl⟩
    · refine hp.elim (fun F369 h9z0 => h9z0.elim (fun y370 h9z1 => h9z1.elim (fun y371 h9z2 => h9z2.elim (fun y372 h9z3 => h9z3.elim (fun y373 h9z4 => h9z4.elim (fun y374 h9z5 => h9z5.elim (fun y375 h9z6 => h9z6.elim (fun y376 h9z7 => h9z7.elim (fun y377 h9z8 => h9z8.elim (fun g378 h9z9 => h9z9.elim (fun g379 h9z10 => h9z10.elim (fun t380 h9z11 => h9z11.elim (fun t381 h9z12 => h9z12.elim (fun t382 h9z13 => h9z13.elim (fun t383 h9z14 => h9z14.elim (fun t384 h9z15 => h9z15.elim (fun t385 h9z16 => h9z16.elim (fun t386 h9z17 => h9z17.elim (fun t387 h9z18 => h9z18.elim (fun t388 h9z19 => h9z19.elim (fun t389 h9z20 => h9z20.elim (fun t390 h9z21 => h9z21.elim (fun t391 h9z22 => h9z22.elim (fun t392 h9z23 => h9z23.elim (fun t393 h9z24 => h9z24.elim (fun t394 h9z25 => h9z25.elim (fun t395 h9z26 => h9z26.elim (fun t396 h9z27 => h9z27.elim (fun t397 h9z28 => h9z28.elim (fun t398 h9z29 => h9z29.elim (fun t399 h9z30 => h9z30.elim (fun t400 h9z31 => h9z31.elim (fun heq932 h9z32 => ?_)))))))))))))))))))))))))))))))))
      clear h9z0 h9z1 h9z2 h9z3 h9z4 h9z5 h9z6 h9z7 h9z8 h9z9 h9z10 h9z11 h9z12 h9z13 h9z14 h9z15 h9z16 h9z17 h9z18 h9z19 h9z20 h9z21 h9z22 h9z23 h9z24 h9z25 h9z26 h9z27 h9z28 h9z29 h9z30 h9z31
      subst heq932
      subst h9z32
      clear t76 t77
      have hP : va_P D vwCl [(h_s, .inl (cI, 335, .inl f_s)), (h0, .inr (10, vL 67 F369)), (h_tape, .inl (cB, 940, .inl f_tape)), (h_h, .inl (cI, 104, .inl g378)), (h_names, .inl (cJ, 36, .inr (.inl g379))), (h_reserved, .inl (cJ, 23, .inr (.inl f_reserved)))] H := hP
      have hD : va_D A [(h_s, .inl (cI, 335, .inl f_s)), (h0, .inr (10, vL 67 F369)), (h_tape, .inl (cB, 940, .inl f_tape)), (h_h, .inl (cI, 104, .inl g378)), (h_names, .inl (cJ, 36, .inr (.inl g379))), (h_reserved, .inl (cJ, 23, .inr (.inl f_reserved)))] := hD
      refine W.widen (k := 0) (n := 0) (Nat.le_of_ble_eq_true rfl) (Nat.le_of_ble_eq_true rfl) ?_
      refine lv_if_eq (tgt := 58) hx hb dX10_course_46 (by decide) (fun g => absurd g (by decide)) (fun _ => ?_)
      refine lv_aload_n hx hb dX10_course_49 rfl (lv_at hl 0 rfl) ?_
      refine lv_bipush (v := 59) hx hb dX10_course_50 (by decide) ?_
      have n404 : F369 1 = .ref h_tape := (SAME.at t380 (by decide) n314)
      have n405 : F369 3 = .int x_length := (SAME.at t380 (by decide) n316)
      have n406 : F369 5 = .int 900 := (SAME.at t380 (by decide) n318)
      refine call_Vi (wr := [(h_s, .inl (cI, 335, .inl f_s)), (h_h, .inl (cI, 104, .inl g378)), (h_names, .inl (cJ, 36, .inr (.inl g379))), (h_reserved, .inl (cJ, 23, .inr (.inl f_reserved)))]) (As := [.int 59]) (rest := []) hx hb hml hown hw (m_X10_sign l D cI cJ cB cP cM cZ h0 h_tape F369 x_length y370 900 y371 y372 y374 y375 f_tape 59 _ n404 n405 i_x_length t381 t382 n406 (show 200 ≤ (900 : Int32).toInt ∧ (900 : Int32).toInt ≤ 940 by decide) t383 t384 t385 t389 t390 (by omega)) wV_X10_257_X10_sign dX10_course_52 hK hP hD hS hA [1, 2] [0, 3, 4, 5] rfl rfl (by decide) (by decide) (by decide) 0 10 rfl rfl GG.fb hG.at hl.1 rfl (Nat.le_of_ble_eq_true rfl) ⟨(Nat.le_of_ble_eq_true rfl), (Nat.le_of_ble_eq_true rfl)⟩ ⟨(Nat.le_of_ble_eq_true rfl), (Nat.le_of_ble_eq_true rfl)⟩ (fun r407 u H locs hp hP hD hS => ?_)
      have zl59 : (59 : Int32).toInt = 59 := by decide
      rcases hp with ⟨F408, y409, y410, y411, y412, y413, y414, t415, t416, t417, t418, t419, t420, t421, t422, t423, t424, t425, t426, t427, rfl, rfl⟩ | ⟨F428, t429, t430, t431, t432, rfl, rfl⟩
      · clear t400
        have hP : va_P D vwCl [(h_s, .inl (cI, 335, .inl f_s)), (h_h, .inl (cI, 104, .inl g378)), (h_names, .inl (cJ, 36, .inr (.inl g379))), (h_reserved, .inl (cJ, 23, .inr (.inl f_reserved))), (h0, .inr (10, vL 67 F408)), (h_tape, .inl (cB, 940, .inl f_tape))] H := hP
        have hD : va_D A [(h_s, .inl (cI, 335, .inl f_s)), (h_h, .inl (cI, 104, .inl g378)), (h_names, .inl (cJ, 36, .inr (.inl g379))), (h_reserved, .inl (cJ, 23, .inr (.inl f_reserved))), (h0, .inr (10, vL 67 F408)), (h_tape, .inl (cB, 940, .inl f_tape))] := hD
        refine W.widen (k := 0) (n := 0) (Nat.le_of_ble_eq_true rfl) (Nat.le_of_ble_eq_true rfl) ?_
        refine lv_if_ne (tgt := 65) hx hb dX10_course_55 (by decide) (fun _ => ?_) (fun g => absurd g (by decide))
        refine lv_aload_n hx hb dX10_course_65 rfl (lv_at hl 0 rfl) ?_
        refine lv_dup hx hb dX10_course_66 rfl ?_
        have n434 : F369 20 = .int u91 := (SAME.at t380 (by decide) i302)
        have n435 : F408 20 = .int u91 := (SAME.at t415 (by decide) n434)
        refine get_f (D := D) (ci := 10) (v := .int u91) (C := RX10) (T := TX10) (N := 67) hx hb hw inAX10 hown hK hP 4 rfl rfl 20 (by decide) (hw _ q_1281) (fun _ h9 => h9) n435 dX10_course_67 ?_
        refine lv_iconst (v := 1) hx hb dX10_course_70 (by decide) ?_
        refine lv_iadd hx hb dX10_course_71 ?_
        refine lv_topi (fun v436 ev436 => ?_)
        refine put_f (D := D) (ci := 10) (v := .int v436) (ty := .int) (C := RX10) (T := TX10) (N := 67) hx hb hw inAX10 tyX10 tyX10_ok nmX10 hown hK hP hD hS 4 rfl rfl 20 (by decide) (hw _ q_1281) (fun _ h9 => h9) rfl (by decide +kernel) rfl rfl dX10_course_72 (fun H locs F437 eF437 hP hD hS => ?_)
        have hP : va_P D vwCl [(h_s, .inl (cI, 335, .inl f_s)), (h_h, .inl (cI, 104, .inl g378)), (h_names, .inl (cJ, 36, .inr (.inl g379))), (h_reserved, .inl (cJ, 23, .inr (.inl f_reserved))), (h0, .inr (10, vL 67 F437)), (h_tape, .inl (cB, 940, .inl f_tape))] H := hP
        have hD : va_D A [(h_s, .inl (cI, 335, .inl f_s)), (h_h, .inl (cI, 104, .inl g378)), (h_names, .inl (cJ, 36, .inr (.inl g379))), (h_reserved, .inl (cJ, 23, .inr (.inl f_reserved))), (h0, .inr (10, vL 67 F437)), (h_tape, .inl (cB, 940, .inl f_tape))] := hD
        refine lv_goto (tgt := 35) hx hb dX10_course_75 (by decide) ?_
        have n438 : F437 4 = .int y409 := (get_ne eF437 (by decide) t416)
        have n439 : F437 11 = .int y410 := (get_ne eF437 (by decide) t418)
        have n440 : F437 12 = .int y411 := (get_ne eF437 (by decide) t420)
        have n441 : F437 13 = .int y412 := (get_ne eF437 (by decide) t422)
        have n442 : F437 14 = .int y413 := (get_ne eF437 (by decide) t424)
        have n443 : F369 15 = .int u87 := (SAME.at t380 (by decide) i298)
        have n444 : F408 15 = .int u87 := (SAME.at t415 (by decide) n443)
        have n445 : F437 15 = .int u87 := (get_ne eF437 (by decide) n444)
        have n446 : F369 16 = .int u88 := (SAME.at t380 (by decide) i299)
        have n447 : F408 16 = .int u88 := (SAME.at t415 (by decide) n446)
        have n448 : F437 16 = .int u88 := (get_ne eF437 (by decide) n447)
        have n449 : F437 18 = .long y414 := (get_ne eF437 (by decide) t425)
        have n450 : F408 19 = .int y376 := (SAME.at t415 (by decide) t391)
        have n451 : F437 19 = .int y376 := (get_ne eF437 (by decide) n450)
        have n452 : F408 21 = .int y377 := (SAME.at t415 (by decide) t392)
        have n453 : F437 21 = .int y377 := (get_ne eF437 (by decide) n452)
        exact ih (g379, g378, F437, y409, y410, y411, y412, y413, u87, u88, y414, y376, v436, y377) ⟨t393, t397, t394, t395, t396, (SAME.up eF437 (SAME.tr (SAME.tr (SAME.tr SAME.rf i292 (by decide)) t380 (by decide)) t415 (by decide)) (by decide)), n438, n439, n440, n441, n442, n445, n448, n449, n451, (get_eq eF437), n453, t417, t419, t421, t423, i308, (by show (y410.toInt = 2 → 0 ≤ y413.toInt ∧ y413.toInt ≤ 999); omega)⟩ (by show (940 - y409.toInt).toNat < (940 - u82.toInt).toNat; omega) _ _ _ (hP.sub [0, 2, 3, 1, 4, 5] rfl) (hD.sub [0, 2, 3, 1, 4, 5] (by decide) rfl) hS (lv_sub hl [0] rfl)
      · have hP : va_P D vwCl [(h_s, .inl (cI, 335, .inl f_s)), (h_h, .inl (cI, 104, .inl g378)), (h_names, .inl (cJ, 36, .inr (.inl g379))), (h_reserved, .inl (cJ, 23, .inr (.inl f_reserved))), (h0, .inr (10, vL 67 F428)), (h_tape, .inl (cB, 940, .inl f_tape))] H := hP
        have hD : va_D A [(h_s, .inl (cI, 335, .inl f_s)), (h_h, .inl (cI, 104, .inl g378)), (h_names, .inl (cJ, 36, .inr (.inl g379))), (h_reserved, .inl (cJ, 23, .inr (.inl f_reserved))), (h0, .inr (10, vL 67 F428)), (h_tape, .inl (cB, 940, .inl f_tape))] := hD
        refine W.widen (k := 0) (n := 0) (Nat.le_of_ble_eq_true rfl) (Nat.le_of_ble_eq_true rfl) ?_
        refine lv_if_ne (tgt := 65) hx hb dX10_course_55 (by decide) (fun g => absurd (by decide) g) (fun _ => ?_)
        refine lv_iconst (v := (-1)) hx hb dX10_course_58 (by decide) ?_
        refine lv_aload_n hx hb dX10_course_59 rfl (lv_at hl 0 rfl) ?_
        refine get_f (D := D) (ci := 10) (v := .int y372) (C := RX10) (T := TX10) (N := 67) hx hb hw inAX10 hown hK hP 4 rfl rfl 16 (by decide) (hw _ q_1277) (fun _ h9 => h9) t431 dX10_course_60 ?_
        refine lv_isub hx hb dX10_course_63 ?_
        refine lv_topi (fun v454 ev454 => ?_)
        have bv454 : v454.toInt = (-1) - y372.toInt := by rw [ev454]; exact sub_k rfl rfl ⟨Int.le_refl _, Int.le_refl _⟩ t386 (by decide)
        have k455 : (-941) ≤ v454.toInt ∧ v454.toInt ≤ (-1) := sub_r bv454 ⟨Int.le_refl _, Int.le_refl _⟩ t386 (by decide)
        exact ret_i (v := v454) hx hb hr hlocks hS (hP.sub (ws' := [(h0, .inr (10, vL 67 F428)), (h_tape, .inl (cB, 940, .inl f_tape)), (h_s, .inl (cI, 335, .inl f_s)), (h_h, .inl (cI, 104, .inl g378)), (h_names, .inl (cJ, 36, .inr (.inl g379))), (h_reserved, .inl (cJ, 23, .inr (.inl f_reserved)))]) [4, 5, 0, 1, 2, 3] rfl) (hD.sub (ws' := [(h0, .inr (10, vL 67 F428)), (h_tape, .inl (cB, 940, .inl f_tape)), (h_s, .inl (cI, 335, .inl f_s)), (h_h, .inl (cI, 104, .inl g378)), (h_names, .inl (cJ, 36, .inr (.inl g379))), (h_reserved, .inl (cJ, 23, .inr (.inl f_reserved)))]) [4, 5, 0, 1, 2, 3] (by decide) rfl) dX10_course_64 rfl (Nat.le_of_ble_eq_true rfl) (Nat.le_of_ble_eq_true rfl) ⟨F428, y370, y371, y372, y373, y374, 1, y372, x_ids, y375, y376, u91, y377, x_undoMany, f_s, g378, g379, (SAME.tr (SAME.tr (SAME.tr (SAME.tr (SAME.up eF13 (SAME.up eF12 (SAME.up eF11 (SAME.tr (SAME.up eF1 SAME.rf (by decide)) t5 (by decide)) (by decide)) (by decide)) (by decide)) t64 (by decide)) i292 (by decide)) t380 (by decide)) t429 (by decide)), (SAME.at t429 (by decide) (SAME.at t380 (by decide) (SAME.at i292 (by decide) (SAME.at t64 (by decide) (get_ne eF13 (by decide) (get_ne eF12 (by decide) (get_ne eF11 (by decide) (SAME.at t5 (by decide) (get_eq eF1))))))))), (SAME.at t429 (by decide) (SAME.at t380 (by decide) (SAME.at i292 (by decide) (SAME.at t64 (by decide) (get_ne eF13 (by decide) (get_ne eF12 (by decide) (get_ne eF11 (by decide) t6))))))), (SAME.at t429 (by decide) n405), (SAME.at t429 (by decide) t381), t382, (SAME.at t429 (by decide) n406), (SAME.at t429 (by decide) t383), t384, (SAME.at t429 (by decide) t385), (SAME.at t429 (by decide) t387), (SAME.at t429 (by decide) t389), t430, (show 0 ≤ (1 : Int32).toInt ∧ (1 : Int32).toInt ≤ 4 by decide), t431, (SAME.at t429 (by decide) (SAME.at t380 (by decide) (SAME.at i292 (by decide) (SAME.at t64 (by decide) (get_ne eF13 (by decide) (get_ne eF12 (by decide) (get_ne eF11 (by decide) (SAME.at t5 (by decide) (get_ne eF1 (by decide) e_ids))))))))), (SAME.at t429 (by decide) t390), (SAME.at t429 (by decide) t391), (SAME.at t429 (by decide) (SAME.at t380 (by decide) i302)), (SAME.at t429 (by decide) t392), (SAME.at t429 (by decide) (SAME.at t380 (by decide) (SAME.at i292 (by decide) (SAME.at t64 (by decide) (get_ne eF13 (by decide) (get_ne eF12 (by decide) (get_ne eF11 (by decide) (SAME.at t5 (by decide) (get_ne eF1 (by decide) e_undoMany))))))))), i_x_undoMany, s_s_153, s_s_0, s_s_5, s_s_6, s_s_7, s_s_44, s_s_K0, s_s_105, s_s_114, s_s_130, s_s_139, t393, t394, t395, t396, t397, (by have zl1 : (1 : Int32).toInt = 1 := (by decide); omega), rfl⟩
set_option maxHeartbeats 4000000 in
set_option maxRecDepth 100000 in
theorem m_X10_fault (l : Launch) (D : va_G) (cI cJ cB cP cM cZ : ClassId) (h0 : Nat) (Fh : Nat → Value) (x_fault : Int32) (sz : Nat) (e_fault : Fh 15 = .int x_fault) : CI l yX10_fault cX10_fault 1 (some .int) { frames := 0, cells := 0, slots := 0, locals := 0 } (GG D cI cJ cB cP cM cZ) D [(h0, .inr (10, vL 67 Fh))] sz [.ref h0] (fun (r : Int32) (u : va_W) => ∃ (Gh : Nat → Value), SAME [0] Fh Gh ∧ Gh 0 = .int 0 ∧ r = x_fault ∧ u = [(h0, .inr (10, vL 67 Gh))]) := by
  refine CI_mk (by decide) (Nat.le_of_ble_eq_true rfl) ?_
  intro p e s m below meth c A ls E hAe hG hsz hP hD hA hS hl
  obtain ⟨hx, hb, hr, hw, hown, hlocks, hml, hnm⟩ := E
  have hK := hG.1
  have hl : lv_has ls 1 [(0, .ref h0)] := hl
  refine lv_aload_n hx hb dX10_fault_0 rfl (lv_at hl 0 rfl) ?_
  refine lv_iconst (v := 0) hx hb dX10_fault_1 (by decide) ?_
  refine put_f (D := D) (ci := 10) (v := .int 0) (ty := .int) (C := RX10) (T := TX10) (N := 67) hx hb hw inAX10 tyX10 tyX10_ok nmX10 hown hK hP hD hS 0 rfl rfl 0 (by decide) (hw _ q_1261) (fun _ h9 => h9) rfl (by decide +kernel) rfl rfl dX10_fault_2 (fun H locs F1 eF1 hP hD hS => ?_)
  have hP : va_P D vwCl [(h0, .inr (10, vL 67 F1))] H := hP
  have hD : va_D A [(h0, .inr (10, vL 67 F1))] := hD
  refine lv_aload_n hx hb dX10_fault_5 rfl (lv_at hl 0 rfl) ?_
  have n2 : F1 15 = .int x_fault := (get_ne eF1 (by decide) e_fault)
  refine get_f (D := D) (ci := 10) (v := .int x_fault) (C := RX10) (T := TX10) (N := 67) hx hb hw inAX10 hown hK hP 0 rfl rfl 15 (by decide) (hw _ q_1276) (fun _ h9 => h9) n2 dX10_fault_6 ?_
  exact ret_i (v := x_fault) hx hb hr hlocks hS hP hD dX10_fault_9 rfl (Nat.le_of_ble_eq_true rfl) (Nat.le_of_ble_eq_true rfl) ⟨F1, (SAME.up eF1 SAME.rf (by decide)), (get_eq eF1), rfl, rfl⟩
set_option maxHeartbeats 4000000 in
set_option maxRecDepth 100000 in
theorem m_X10_looksAtMan (l : Launch) (D : va_G) (cI cJ cB cP cM cZ : ClassId) (h0 : Nat) (h_s : Nat) (h_names : Nat) (h_reserved : Nat) (Fh : Nat → Value) (x_token : Int32) (x_at : Int32) (x_number : Int32) (x_word : Int64) (x_got : Int32) (f_s : Nat → Int32) (f_names : Nat → Int64) (f_reserved : Nat → Int64) (sz : Nat) (e_s : Fh 6 = .ref h_s) (e_names : Fh 9 = .ref h_names) (e_reserved : Fh 10 = .ref h_reserved) (e_token : Fh 11 = .int x_token) (i_x_token : IR 0 4 x_token) (e_at : Fh 12 = .int x_at) (e_number : Fh 14 = .int x_number) (e_word : Fh 18 = .long x_word) (e_got : Fh 19 = .int x_got) (s_s_K0 : KW 0 f_s) (s_s_0 : SG 0 0 0 40 f_s) (s_s_105 : SG 105 108 0 11 f_s) (s_s_114 : SG 114 114 0 5 f_s) (s_s_130 : SG 130 133 0 11 f_s) (s_s_139 : SG 139 139 0 5 f_s) (s_s_153 : SG 153 153 0 44 f_s) (s_s_44 : SG 44 55 0 9 f_s) (s_s_5 : SG 5 5 0 12 f_s) (s_s_6 : SG 6 6 0 12 f_s) (s_s_7 : SG 7 7 0 6 f_s) (o_0 : (x_token.toInt = 2 → 0 ≤ x_number.toInt ∧ x_number.toInt ≤ 999)) : CI l yX10_looksAtMan cX10_looksAtMan 1 (some .boolean) { frames := 1, cells := 0, slots := 0, locals := 23 } (GG D cI cJ cB cP cM cZ) D [(h0, .inr (10, vL 67 Fh)), (h_s, .inl (cI, 335, .inl f_s)), (h_names, .inl (cJ, 36, .inr (.inl f_names))), (h_reserved, .inl (cJ, 23, .inr (.inl f_reserved)))] sz [.ref h0] (fun (r : Int32) (u : va_W) => (∃ (Gh : Nat → Value) (y_fault : Int32) (y_got : Int32), SAME [15, 16, 19] Fh Gh ∧ Gh 15 = .int y_fault ∧ IR 1 3 y_fault ∧ Gh 16 = .int x_at ∧ Gh 19 = .int y_got ∧ r = 0 ∧ u = [(h0, .inr (10, vL 67 Gh)), (h_s, .inl (cI, 335, .inl f_s)), (h_names, .inl (cJ, 36, .inr (.inl f_names))), (h_reserved, .inl (cJ, 23, .inr (.inl f_reserved)))]) ∨ (∃ (Gh : Nat → Value) (y_got : Int32), SAME [19] Fh Gh ∧ Gh 19 = .int y_got ∧ IR 0 11 y_got ∧ r = 1 ∧ u = [(h0, .inr (10, vL 67 Gh)), (h_s, .inl (cI, 335, .inl f_s)), (h_names, .inl (cJ, 36, .inr (.inl f_names))), (h_reserved, .inl (cJ, 23, .inr (.inl f_reserved)))])) := by
  refine CI_mk (by decide) (Nat.le_of_ble_eq_true rfl) ?_
  intro p e s m below meth c A ls E hAe hG hsz hP hD hA hS hl
  obtain ⟨hx, hb, hr, hw, hown, hlocks, hml, hnm⟩ := E
  have hK := hG.1
  have i_x_token : 0 ≤ x_token.toInt ∧ x_token.toInt ≤ 4 := i_x_token
  have hl : lv_has ls 1 [(0, .ref h0)] := hl
  refine lv_aload_n hx hb dX10_looksAtMan_0 rfl (lv_at hl 0 rfl) ?_
  refine call_Vi (wr := [(h_s, .inl (cI, 335, .inl f_s)), (h_names, .inl (cJ, 36, .inr (.inl f_names)))]) (As := []) (rest := []) hx hb hml hown hw (m_X10_isName l D cI cJ cB cP cM cZ h0 h_reserved Fh x_token x_number x_word f_reserved _ e_reserved e_token i_x_token e_number e_word (by omega)) wV_X10_218_X10_isName dX10_looksAtMan_1 hK hP hD hS hA [0, 3] [1, 2] rfl rfl (by decide) (by decide) (by decide) 0 10 rfl rfl GG.fb hG.at hl.1 rfl (Nat.le_of_ble_eq_true rfl) ⟨(Nat.le_of_ble_eq_true rfl), (Nat.le_of_ble_eq_true rfl)⟩ ⟨(Nat.le_of_ble_eq_true rfl), (Nat.le_of_ble_eq_true rfl)⟩ (fun r1 u H locs hp hP hD hS => ?_)
  obtain ⟨t2, rfl⟩ := hp
  have hP : va_P D vwCl [(h_s, .inl (cI, 335, .inl f_s)), (h_names, .inl (cJ, 36, .inr (.inl f_names))), (h0, .inr (10, vL 67 Fh)), (h_reserved, .inl (cJ, 23, .inr (.inl f_reserved)))] H := hP
  have hD : va_D A [(h_s, .inl (cI, 335, .inl f_s)), (h_names, .inl (cJ, 36, .inr (.inl f_names))), (h0, .inr (10, vL 67 Fh)), (h_reserved, .inl (cJ, 23, .inr (.inl f_reserved)))] := hD
  refine W.widen (k := 0) (n := 0) (Nat.le_of_ble_eq_true rfl) (Nat.le_of_ble_eq_true rfl) ?_
  refine lv_if_ne (tgt := 13) hx hb dX10_looksAtMan_4 (by decide) (fun c4 => ?_) (fun c4 => ?_)
  · have dc4 : r1.toInt ≠ 0 := ne_i (a := r1.toInt) (b := 0) rfl rfl c4
    have k5 : 1 ≤ r1.toInt ∧ r1.toInt ≤ 1 := ⟨ne_lo dc4 t2.1 ⟨Int.le_refl _, Int.le_refl _⟩ (by decide), t2.2⟩
    refine lv_aload_n hx hb dX10_looksAtMan_13 rfl (lv_at hl 0 rfl) ?_
    refine lv_aload_n hx hb dX10_looksAtMan_14 rfl (lv_at hl 0 rfl) ?_
    refine lv_iconst (v := 0) hx hb dX10_looksAtMan_15 (by decide) ?_
    refine lv_aload_n hx hb dX10_looksAtMan_16 rfl (lv_at hl 0 rfl) ?_
    refine get_f (D := D) (ci := 10) (v := .ref h_s) (C := RX10) (T := TX10) (N := 67) hx hb hw inAX10 hown hK hP 2 rfl rfl 6 (by decide) (hw _ q_1267) (fun _ h9 => h9) e_s dX10_looksAtMan_17 ?_
    refine lv_iconst (v := 5) hx hb dX10_looksAtMan_20 (by decide) ?_
    refine iald_n hx hb hK hP 0 0 rfl rfl 5 rfl (Nat.le_of_ble_eq_true rfl) (Nat.le_of_ble_eq_true rfl) rfl dX10_looksAtMan_21 ?_
    refine lv_topi (fun v6 ev6 => ?_)
    have k7 : 0 ≤ v6.toInt ∧ v6.toInt ≤ 12 := by rw [ev6]; exact s_s_5.atN 5 (by decide) (by decide)
    refine call_Vi (wr := [(h_s, .inl (cI, 335, .inl f_s)), (h_reserved, .inl (cJ, 23, .inr (.inl f_reserved)))]) (As := [.int 0, .int v6]) (rest := [.ref h0]) hx hb hml hown hw (m_X10_find l D cI cJ cB cP cM cZ h0 h_names Fh x_word f_names 0 v6 _ e_names e_word (show 0 ≤ (0 : Int32).toInt ∧ (0 : Int32).toInt ≤ 30 by decide) k7 (by have z0 : (0 : Int32).toInt = 0 := rfl; omega)) wV_X10_222_X10_find dX10_looksAtMan_22 hK hP hD hS hA [2, 1] [0, 3] rfl rfl (by decide) (by decide) (by decide) 0 10 rfl rfl GG.fb hG.at hl.1 rfl (Nat.le_of_ble_eq_true rfl) ⟨(Nat.le_of_ble_eq_true rfl), (Nat.le_of_ble_eq_true rfl)⟩ ⟨(Nat.le_of_ble_eq_true rfl), (Nat.le_of_ble_eq_true rfl)⟩ (fun r8 u H locs hp hP hD hS => ?_)
    have zl0 : (0 : Int32).toInt = 0 := by decide
    rcases hp with ⟨t9, t10, rfl, rfl⟩ | ⟨t11, t12, t13, rfl⟩
    · have hP : va_P D vwCl [(h_s, .inl (cI, 335, .inl f_s)), (h_reserved, .inl (cJ, 23, .inr (.inl f_reserved))), (h0, .inr (10, vL 67 Fh)), (h_names, .inl (cJ, 36, .inr (.inl f_names)))] H := hP
      have hD : va_D A [(h_s, .inl (cI, 335, .inl f_s)), (h_reserved, .inl (cJ, 23, .inr (.inl f_reserved))), (h0, .inr (10, vL 67 Fh)), (h_names, .inl (cJ, 36, .inr (.inl f_names)))] := hD
      refine W.widen (k := 0) (n := 0) (Nat.le_of_ble_eq_true rfl) (Nat.le_of_ble_eq_true rfl) ?_
      refine put_f (D := D) (ci := 10) (v := .int (-1)) (ty := .int) (C := RX10) (T := TX10) (N := 67) hx hb hw inAX10 tyX10 tyX10_ok nmX10 hown hK hP hD hS 2 rfl rfl 19 (by decide) (hw _ q_1280) (fun _ h9 => h9) rfl (by decide +kernel) rfl rfl dX10_looksAtMan_25 (fun H locs F15 eF15 hP hD hS => ?_)
      have hP : va_P D vwCl [(h_s, .inl (cI, 335, .inl f_s)), (h_reserved, .inl (cJ, 23, .inr (.inl f_reserved))), (h0, .inr (10, vL 67 F15)), (h_names, .inl (cJ, 36, .inr (.inl f_names)))] H := hP
      have hD : va_D A [(h_s, .inl (cI, 335, .inl f_s)), (h_reserved, .inl (cJ, 23, .inr (.inl f_reserved))), (h0, .inr (10, vL 67 F15)), (h_names, .inl (cJ, 36, .inr (.inl f_names)))] := hD
      refine lv_aload_n hx hb dX10_looksAtMan_28 rfl (lv_at hl 0 rfl) ?_
      refine get_f (D := D) (ci := 10) (v := .int (-1)) (C := RX10) (T := TX10) (N := 67) hx hb hw inAX10 hown hK hP 2 rfl rfl 19 (by decide) (hw _ q_1280) (fun _ h9 => h9) (get_eq eF15) dX10_looksAtMan_29 ?_
      refine lv_if_ge (tgt := 43) hx hb dX10_looksAtMan_32 (by decide) (fun g => absurd g (by decide)) (fun _ => ?_)
      refine lv_aload_n hx hb dX10_looksAtMan_35 rfl (lv_at hl 0 rfl) ?_
      refine lv_iconst (v := 3) hx hb dX10_looksAtMan_36 (by decide) ?_
      have n16 : F15 12 = .int x_at := (get_ne eF15 (by decide) e_at)
      refine call_Vi (wr := [(h_s, .inl (cI, 335, .inl f_s)), (h_reserved, .inl (cJ, 23, .inr (.inl f_reserved))), (h_names, .inl (cJ, 36, .inr (.inl f_names)))]) (As := [.int 3]) (rest := []) hx hb hml hown hw (m_X10_bad l D cI cJ cB cP cM cZ h0 F15 x_at 3 _ n16) wV_X10_205_X10_bad dX10_looksAtMan_37 hK hP hD hS hA [2] [0, 1, 3] rfl rfl (by decide) (by decide) (by decide) 0 10 rfl rfl GG.fb hG.at hl.1 rfl (Nat.le_of_ble_eq_true rfl) ⟨(Nat.le_of_ble_eq_true rfl), (Nat.le_of_ble_eq_true rfl)⟩ ⟨(Nat.le_of_ble_eq_true rfl), (Nat.le_of_ble_eq_true rfl)⟩ (fun r17 u H locs hp hP hD hS => ?_)
      have zl3 : (3 : Int32).toInt = 3 := by decide
      obtain ⟨F18, t19, t20, t21, rfl, rfl⟩ := hp
      have hP : va_P D vwCl [(h_s, .inl (cI, 335, .inl f_s)), (h_reserved, .inl (cJ, 23, .inr (.inl f_reserved))), (h_names, .inl (cJ, 36, .inr (.inl f_names))), (h0, .inr (10, vL 67 F18))] H := hP
      have hD : va_D A [(h_s, .inl (cI, 335, .inl f_s)), (h_reserved, .inl (cJ, 23, .inr (.inl f_reserved))), (h_names, .inl (cJ, 36, .inr (.inl f_names))), (h0, .inr (10, vL 67 F18))] := hD
      refine W.widen (k := 0) (n := 0) (Nat.le_of_ble_eq_true rfl) (Nat.le_of_ble_eq_true rfl) ?_
      refine lv_if_eq (tgt := 47) hx hb dX10_looksAtMan_40 (by decide) (fun _ => ?_) (fun g => absurd (by decide) g)
      refine lv_iconst (v := 0) hx hb dX10_looksAtMan_47 (by decide) ?_
      exact ret_i (v := 0) hx hb hr hlocks hS (hP.sub (ws' := [(h0, .inr (10, vL 67 F18)), (h_s, .inl (cI, 335, .inl f_s)), (h_names, .inl (cJ, 36, .inr (.inl f_names))), (h_reserved, .inl (cJ, 23, .inr (.inl f_reserved)))]) [3, 0, 2, 1] rfl) (hD.sub (ws' := [(h0, .inr (10, vL 67 F18)), (h_s, .inl (cI, 335, .inl f_s)), (h_names, .inl (cJ, 36, .inr (.inl f_names))), (h_reserved, .inl (cJ, 23, .inr (.inl f_reserved)))]) [3, 0, 2, 1] (by decide) rfl) dX10_looksAtMan_48 rfl (Nat.le_of_ble_eq_true rfl) (Nat.le_of_ble_eq_true rfl) (Or.inl ⟨F18, 3, (-1), (SAME.tr (SAME.up eF15 SAME.rf (by decide)) t19 (by decide)), t20, (show 1 ≤ (3 : Int32).toInt ∧ (3 : Int32).toInt ≤ 3 by decide), t21, (SAME.at t19 (by decide) (get_eq eF15)), rfl, rfl⟩)
    · have hP : va_P D vwCl [(h_s, .inl (cI, 335, .inl f_s)), (h_reserved, .inl (cJ, 23, .inr (.inl f_reserved))), (h0, .inr (10, vL 67 Fh)), (h_names, .inl (cJ, 36, .inr (.inl f_names)))] H := hP
      have hD : va_D A [(h_s, .inl (cI, 335, .inl f_s)), (h_reserved, .inl (cJ, 23, .inr (.inl f_reserved))), (h0, .inr (10, vL 67 Fh)), (h_names, .inl (cJ, 36, .inr (.inl f_names)))] := hD
      refine W.widen (k := 0) (n := 0) (Nat.le_of_ble_eq_true rfl) (Nat.le_of_ble_eq_true rfl) ?_
      have k23 : 1 ≤ v6.toInt ∧ v6.toInt ≤ 12 := ⟨lo_lt t12 (Int.le_refl _) (by decide), k7.2⟩
      refine put_f (D := D) (ci := 10) (v := .int r8) (ty := .int) (C := RX10) (T := TX10) (N := 67) hx hb hw inAX10 tyX10 tyX10_ok nmX10 hown hK hP hD hS 2 rfl rfl 19 (by decide) (hw _ q_1280) (fun _ h9 => h9) rfl (by decide +kernel) rfl rfl dX10_looksAtMan_25 (fun H locs F24 eF24 hP hD hS => ?_)
      have hP : va_P D vwCl [(h_s, .inl (cI, 335, .inl f_s)), (h_reserved, .inl (cJ, 23, .inr (.inl f_reserved))), (h0, .inr (10, vL 67 F24)), (h_names, .inl (cJ, 36, .inr (.inl f_names)))] H := hP
      have hD : va_D A [(h_s, .inl (cI, 335, .inl f_s)), (h_reserved, .inl (cJ, 23, .inr (.inl f_reserved))), (h0, .inr (10, vL 67 F24)), (h_names, .inl (cJ, 36, .inr (.inl f_names)))] := hD
      refine lv_aload_n hx hb dX10_looksAtMan_28 rfl (lv_at hl 0 rfl) ?_
      refine get_f (D := D) (ci := 10) (v := .int r8) (C := RX10) (T := TX10) (N := 67) hx hb hw inAX10 hown hK hP 2 rfl rfl 19 (by decide) (hw _ q_1280) (fun _ h9 => h9) (get_eq eF24) dX10_looksAtMan_29 ?_
      refine lv_if_ge (tgt := 43) hx hb dX10_looksAtMan_32 (by decide) (fun c25 => ?_) (fun c25 => False.elim (bad_lt (nle_i (a := 0) (b := r8.toInt) rfl rfl c25) t11.1 (Int.le_refl _) (by decide)))
      have dc25 : 0 ≤ r8.toInt := le_i (a := 0) (b := r8.toInt) rfl rfl c25
      refine lv_iconst (v := 1) hx hb dX10_looksAtMan_43 (by decide) ?_
      refine lv_goto (tgt := 48) hx hb dX10_looksAtMan_44 (by decide) ?_
      exact ret_i (v := 1) hx hb hr hlocks hS (hP.sub (ws' := [(h0, .inr (10, vL 67 F24)), (h_s, .inl (cI, 335, .inl f_s)), (h_names, .inl (cJ, 36, .inr (.inl f_names))), (h_reserved, .inl (cJ, 23, .inr (.inl f_reserved)))]) [2, 0, 3, 1] rfl) (hD.sub (ws' := [(h0, .inr (10, vL 67 F24)), (h_s, .inl (cI, 335, .inl f_s)), (h_names, .inl (cJ, 36, .inr (.inl f_names))), (h_reserved, .inl (cJ, 23, .inr (.inl f_reserved)))]) [2, 0, 3, 1] (by decide) rfl) dX10_looksAtMan_48 rfl (Nat.le_of_ble_eq_true rfl) (Nat.le_of_ble_eq_true rfl) (Or.inr ⟨F24, r8, (SAME.up eF24 SAME.rf (by decide)), (get_eq eF24), t11, rfl, rfl⟩)
  · have dc4 : r1.toInt = 0 := eq_i (a := r1.toInt) (b := 0) rfl rfl c4
    have k26 : 0 ≤ r1.toInt ∧ r1.toInt ≤ 0 := ⟨t2.1, Int.le_trans (Int.le_of_eq dc4) (Int.le_refl _)⟩
    refine lv_aload_n hx hb dX10_looksAtMan_7 rfl (lv_at hl 0 rfl) ?_
    refine lv_iconst (v := 1) hx hb dX10_looksAtMan_8 (by decide) ?_
    refine call_Vi (wr := [(h_s, .inl (cI, 335, .inl f_s)), (h_names, .inl (cJ, 36, .inr (.inl f_names))), (h_reserved, .inl (cJ, 23, .inr (.inl f_reserved)))]) (As := [.int 1]) (rest := []) hx hb hml hown hw (m_X10_bad l D cI cJ cB cP cM cZ h0 Fh x_at 1 _ e_at) wV_X10_205_X10_bad dX10_looksAtMan_9 hK hP hD hS hA [2] [0, 1, 3] rfl rfl (by decide) (by decide) (by decide) 0 10 rfl rfl GG.fb hG.at hl.1 rfl (Nat.le_of_ble_eq_true rfl) ⟨(Nat.le_of_ble_eq_true rfl), (Nat.le_of_ble_eq_true rfl)⟩ ⟨(Nat.le_of_ble_eq_true rfl), (Nat.le_of_ble_eq_true rfl)⟩ (fun r27 u H locs hp hP hD hS => ?_)
    have zl1 : (1 : Int32).toInt = 1 := by decide
    obtain ⟨F28, t29, t30, t31, rfl, rfl⟩ := hp
    have hP : va_P D vwCl [(h_s, .inl (cI, 335, .inl f_s)), (h_names, .inl (cJ, 36, .inr (.inl f_names))), (h_reserved, .inl (cJ, 23, .inr (.inl f_reserved))), (h0, .inr (10, vL 67 F28))] H := hP
    have hD : va_D A [(h_s, .inl (cI, 335, .inl f_s)), (h_names, .inl (cJ, 36, .inr (.inl f_names))), (h_reserved, .inl (cJ, 23, .inr (.inl f_reserved))), (h0, .inr (10, vL 67 F28))] := hD
    refine W.widen (k := 0) (n := 0) (Nat.le_of_ble_eq_true rfl) (Nat.le_of_ble_eq_true rfl) ?_
    exact ret_i (v := 0) hx hb hr hlocks hS (hP.sub (ws' := [(h0, .inr (10, vL 67 F28)), (h_s, .inl (cI, 335, .inl f_s)), (h_names, .inl (cJ, 36, .inr (.inl f_names))), (h_reserved, .inl (cJ, 23, .inr (.inl f_reserved)))]) [3, 0, 1, 2] rfl) (hD.sub (ws' := [(h0, .inr (10, vL 67 F28)), (h_s, .inl (cI, 335, .inl f_s)), (h_names, .inl (cJ, 36, .inr (.inl f_names))), (h_reserved, .inl (cJ, 23, .inr (.inl f_reserved)))]) [3, 0, 1, 2] (by decide) rfl) dX10_looksAtMan_12 rfl (Nat.le_of_ble_eq_true rfl) (Nat.le_of_ble_eq_true rfl) (Or.inl ⟨F28, 1, x_got, (SAME.tr SAME.rf t29 (by decide)), t30, (show 1 ≤ (1 : Int32).toInt ∧ (1 : Int32).toInt ≤ 3 by decide), t31, (SAME.at t29 (by decide) e_got), rfl, rfl⟩)
set_option maxHeartbeats 4000000 in
set_option maxRecDepth 100000 in
theorem m_X10_placeIn (l : Launch) (D : va_G) (cI cJ cB cP cM cZ : ClassId) (h0 : Nat) (h_planRead : Nat) (Fh : Nat → Value) (f_planRead : Nat → Int32) (p0 : Int32) (p1 : Int32) (sz : Nat) (e_planRead : Fh 22 = .ref h_planRead) (s_planRead_1 : SG 1 4 0 11 f_planRead) (s_planRead_10 : SG 10 10 0 5 f_planRead) (i_p1 : IR 0 4 p1) : CI l yX10_placeIn cX10_placeIn 4 (some .int) { frames := 0, cells := 0, slots := 0, locals := 0 } (GG D cI cJ cB cP cM cZ) D [(h0, .inr (10, vL 67 Fh)), (h_planRead, .inl (cI, 24, .inl f_planRead))] sz [.ref h0, .int p0, .int p1] (fun (r : Int32) (u : va_W) => IR (-1) 3 r ∧ u = [(h0, .inr (10, vL 67 Fh)), (h_planRead, .inl (cI, 24, .inl f_planRead))]) := by
  refine CI_mk (by decide) (Nat.le_of_ble_eq_true rfl) ?_
  intro p e s m below meth c A ls E hAe hG hsz hP hD hA hS hl
  obtain ⟨hx, hb, hr, hw, hown, hlocks, hml, hnm⟩ := E
  have hK := hG.1
  have i_p1 : 0 ≤ p1.toInt ∧ p1.toInt ≤ 4 := i_p1
  have hl : lv_has ls 4 [(0, .ref h0), (1, .int p0), (2, .int p1)] := hl
  refine lv_iconst (v := 0) hx hb dX10_placeIn_0 (by decide) ?_
  refine lv_istore_n (lv' := [(3, .int 0), (0, .ref h0), (1, .int p0), (2, .int p1)]) hx hb dX10_placeIn_1 rfl hl (by decide) rfl (fun ls hl => ?_)
  refine mloop (α := (Int32)) (nL := 4) (D := D) (A := A) (H0 := s.heap) (fun a => (4 - a.toInt).toNat) (fun a => IR 0 4 a) (fun a => [(h0, .inr (10, vL 67 Fh)), (h_planRead, .inl (cI, 24, .inl f_planRead))]) (fun a => [(3, .int a), (0, .ref h0), (1, .int p0), (2, .int p1)]) (fun H locs ls => W p l e ({ frames := 0, cells := 0, slots := 0, locals := 0 } : Room) s m [.ref h0, .int p0, .int p1].toArray below meth c H locs 0 0 (MQ below (va_Qi (fun (r : Int32) (u : va_W) => IR (-1) 3 r ∧ u = [(h0, .inr (10, vL 67 Fh)), (h_planRead, .inl (cI, 24, .inl f_planRead))]) (PO D A) A) [.ref h0, .int p0, .int p1].toArray s 0 0 A) (F0 m 2 ls [])) ?_ (0) (show 0 ≤ (0 : Int32).toInt ∧ (0 : Int32).toInt ≤ 4 by decide) _ _ _ hP hD hS hl
  rintro u1 i2 ih H locs ls hP hD hS hl
  have i2 : 0 ≤ u1.toInt ∧ u1.toInt ≤ 4 := i2
  have hP : va_P D vwCl [(h0, .inr (10, vL 67 Fh)), (h_planRead, .inl (cI, 24, .inl f_planRead))] H := hP
  have hD : va_D A [(h0, .inr (10, vL 67 Fh)), (h_planRead, .inl (cI, 24, .inl f_planRead))] := hD
  have hl : lv_has ls 4 [(3, .int u1), (0, .ref h0), (1, .int p0), (2, .int p1)] := hl
  refine lv_iload_n hx hb dX10_placeIn_2 rfl (lv_at hl 0 rfl) ?_
  refine lv_iload_n hx hb dX10_placeIn_3 rfl (lv_at hl 3 rfl) ?_
  refine lv_icmp_ge (tgt := 27) hx hb dX10_placeIn_4 (by decide) (fun c3 => ?_) (fun c3 => ?_)
  · have dc3 : p1.toInt ≤ u1.toInt := le_i (a := p1.toInt) (b := u1.toInt) rfl rfl c3
    refine lv_iconst (v := (-1)) hx hb dX10_placeIn_27 (by decide) ?_
    exact ret_i (v := (-1)) hx hb hr hlocks hS hP hD dX10_placeIn_28 rfl (Nat.le_of_ble_eq_true rfl) (Nat.le_of_ble_eq_true rfl) ⟨(show (-1) ≤ ((-1) : Int32).toInt ∧ ((-1) : Int32).toInt ≤ 3 by decide), rfl⟩
  · have dc3 : u1.toInt < p1.toInt := nle_i (a := p1.toInt) (b := u1.toInt) rfl rfl c3
    have k4 : 0 ≤ u1.toInt ∧ u1.toInt ≤ 3 := ⟨i2.1, up_lt dc3 i_p1.2 (by decide)⟩
    have k5 : 1 ≤ p1.toInt ∧ p1.toInt ≤ 4 := ⟨lo_lt dc3 i2.1 (by decide), i_p1.2⟩
    refine lv_aload_n hx hb dX10_placeIn_7 rfl (lv_at hl 1 rfl) ?_
    refine get_f (D := D) (ci := 10) (v := .ref h_planRead) (C := RX10) (T := TX10) (N := 67) hx hb hw inAX10 hown hK hP 0 rfl rfl 22 (by decide) (hw _ q_1283) (fun _ h9 => h9) e_planRead dX10_placeIn_8 ?_
    refine lv_iconst (v := 1) hx hb dX10_placeIn_11 (by decide) ?_
    refine lv_iload_n hx hb dX10_placeIn_12 rfl (lv_at hl 0 rfl) ?_
    refine lv_iadd hx hb dX10_placeIn_13 ?_
    refine lv_topi (fun v6 ev6 => ?_)
    have bv6 : v6.toInt = 1 + u1.toInt := by rw [ev6]; exact add_k rfl rfl ⟨Int.le_refl _, Int.le_refl _⟩ k4 (by decide)
    have k7 : 1 ≤ v6.toInt ∧ v6.toInt ≤ 4 := add_r bv6 ⟨Int.le_refl _, Int.le_refl _⟩ k4 (by decide)
    refine va_iald hx hb hK hP 1 0 rfl rfl (ix_k k7 (by decide) (by decide)) dX10_placeIn_14 ?_
    refine lv_topi (fun v8 ev8 => ?_)
    have k9 : 0 ≤ v8.toInt ∧ v8.toInt ≤ 11 := by rw [ev8]; exact s_planRead_1.at _ (Int.le_trans (by decide) k7.1) (Int.le_trans k7.2 (by decide))
    refine lv_iload_n hx hb dX10_placeIn_15 rfl (lv_at hl 2 rfl) ?_
    refine lv_icmp_ne (tgt := 21) hx hb dX10_placeIn_16 (by decide) (fun c10 => ?_) (fun c10 => ?_)
    · have dc10 : v8.toInt ≠ p0.toInt := ne_i (a := v8.toInt) (b := p0.toInt) rfl rfl c10
      obtain ⟨v11, ev11⟩ : ∃ z : Int32, z = u1 + 1 := ⟨_, rfl⟩
      have bv11 : v11.toInt = u1.toInt + 1 := by rw [ev11]; exact add_k rfl rfl k4 ⟨Int.le_refl _, Int.le_refl _⟩ (by decide)
      have k12 : 1 ≤ v11.toInt ∧ v11.toInt ≤ 4 := add_r bv11 k4 ⟨Int.le_refl _, Int.le_refl _⟩ (by decide)
      refine lv_iinc (v := v11) (lv' := [(3, .int v11), (0, .ref h0), (1, .int p0), (2, .int p1)]) hx hb dX10_placeIn_21 hl (k := 0) rfl (by rw [ev11]; rfl) (by decide) rfl (fun ls hl => ?_)
      refine lv_goto (tgt := 2) hx hb dX10_placeIn_24 (by decide) ?_
      exact ih (v11) (ir_wk k12 (by decide) (by decide)) (by show (4 - v11.toInt).toNat < (4 - u1.toInt).toNat; omega) _ _ _ hP hD hS (lv_sub hl [0, 1, 2, 3] rfl)
    · have dc10 : v8.toInt = p0.toInt := eq_i (a := v8.toInt) (b := p0.toInt) rfl rfl c10
      have k13 : 0 ≤ p0.toInt ∧ p0.toInt ≤ 11 := ⟨Int.le_trans k9.1 (Int.le_of_eq dc10), Int.le_trans (Int.le_of_eq dc10.symm) k9.2⟩
      refine lv_iload_n hx hb dX10_placeIn_19 rfl (lv_at hl 0 rfl) ?_
      exact ret_i (v := u1) hx hb hr hlocks hS hP hD dX10_placeIn_20 rfl (Nat.le_of_ble_eq_true rfl) (Nat.le_of_ble_eq_true rfl) ⟨(ir_wk k4 (by decide) (by decide)), rfl⟩
set_option maxHeartbeats 4000000 in
set_option maxRecDepth 100000 in
theorem m_X10_planLine (l : Launch) (D : va_G) (cI cJ cB cP cM cZ : ClassId) (h0 : Nat) (h_tape : Nat) (h_s : Nat) (h_names : Nat) (h_reserved : Nat) (h_planRead : Nat) (Fh : Nat → Value) (x_size : Int32) (x_p : Int32) (x_limit : Int32) (x_token : Int32) (x_at : Int32) (x_span : Int32) (x_number : Int32) (x_fault : Int32) (x_faultAt : Int32) (x_word : Int64) (x_got : Int32) (x_onces : Int32) (x_jumped : Int32) (x_heights : Int32) (f_tape : Nat → Int32) (f_s : Nat → Int32) (f_names : Nat → Int64) (f_reserved : Nat → Int64) (f_planRead : Nat → Int32) (sz : Nat) (e_tape : Fh 1 = .ref h_tape) (e_size : Fh 3 = .int x_size) (i_x_size : IR 0 940 x_size) (e_p : Fh 4 = .int x_p) (i_x_p : IR 0 940 x_p) (e_limit : Fh 5 = .int x_limit) (i_x_limit : IR 200 940 x_limit) (e_s : Fh 6 = .ref h_s) (e_names : Fh 9 = .ref h_names) (e_reserved : Fh 10 = .ref h_reserved) (e_token : Fh 11 = .int x_token) (i_x_token : IR 0 4 x_token) (e_at : Fh 12 = .int x_at) (e_span : Fh 13 = .int x_span) (e_number : Fh 14 = .int x_number) (e_fault : Fh 15 = .int x_fault) (e_faultAt : Fh 16 = .int x_faultAt) (e_word : Fh 18 = .long x_word) (e_got : Fh 19 = .int x_got) (e_onces : Fh 21 = .int x_onces) (e_planRead : Fh 22 = .ref h_planRead) (e_jumped : Fh 23 = .int x_jumped) (e_heights : Fh 24 = .int x_heights) (s_s_K0 : KW 0 f_s) (s_s_0 : SG 0 0 0 40 f_s) (s_s_105 : SG 105 108 0 11 f_s) (s_s_114 : SG 114 114 0 5 f_s) (s_s_130 : SG 130 133 0 11 f_s) (s_s_139 : SG 139 139 0 5 f_s) (s_s_153 : SG 153 153 0 44 f_s) (s_s_44 : SG 44 55 0 9 f_s) (s_s_5 : SG 5 5 0 12 f_s) (s_s_6 : SG 6 6 0 12 f_s) (s_s_7 : SG 7 7 0 6 f_s) (s_planRead_1 : SG 1 4 0 11 f_planRead) (s_planRead_10 : SG 10 10 0 5 f_planRead) (o_0 : (x_token.toInt = 2 → 0 ≤ x_number.toInt ∧ x_number.toInt ≤ 999)) : CI l yX10_planLine cX10_planLine 2 (some .boolean) { frames := 3, cells := 0, slots := 0, locals := 65 } (GG D cI cJ cB cP cM cZ) D [(h0, .inr (10, vL 67 Fh)), (h_tape, .inl (cB, 940, .inl f_tape)), (h_s, .inl (cI, 335, .inl f_s)), (h_names, .inl (cJ, 36, .inr (.inl f_names))), (h_reserved, .inl (cJ, 23, .inr (.inl f_reserved))), (h_planRead, .inl (cI, 24, .inl f_planRead))] sz [.ref h0] (fun (r : Int32) (u : va_W) => (∃ (Gh : Nat → Value) (y_p : Int32) (y_token : Int32) (y_at : Int32) (y_span : Int32) (y_number : Int32) (y_fault : Int32) (y_faultAt : Int32) (y_word : Int64) (y_got : Int32) (y_onces : Int32) (y_jumped : Int32) (y_heights : Int32) (g_planRead : Nat → Int32), SAME [4, 11, 12, 13, 14, 15, 16, 18, 19, 21, 23, 24] Fh Gh ∧ Gh 4 = .int y_p ∧ IR 0 940 y_p ∧ Gh 11 = .int y_token ∧ IR 0 4 y_token ∧ Gh 12 = .int y_at ∧ Gh 13 = .int y_span ∧ Gh 14 = .int y_number ∧ Gh 15 = .int y_fault ∧ IR 1 3 y_fault ∧ Gh 16 = .int y_faultAt ∧ Gh 18 = .long y_word ∧ Gh 19 = .int y_got ∧ Gh 21 = .int y_onces ∧ Gh 23 = .int y_jumped ∧ Gh 24 = .int y_heights ∧ SG 1 4 0 11 g_planRead ∧ SG 10 10 0 5 g_planRead ∧ ((y_token.toInt = 2 → 0 ≤ y_number.toInt ∧ y_number.toInt ≤ 999)) ∧ r = 0 ∧ u = [(h0, .inr (10, vL 67 Gh)), (h_tape, .inl (cB, 940, .inl f_tape)), (h_s, .inl (cI, 335, .inl f_s)), (h_names, .inl (cJ, 36, .inr (.inl f_names))), (h_reserved, .inl (cJ, 23, .inr (.inl f_reserved))), (h_planRead, .inl (cI, 24, .inl g_planRead))]) ∨ (∃ (Gh : Nat → Value) (y_p : Int32) (y_token : Int32) (y_at : Int32) (y_span : Int32) (y_number : Int32) (y_fault : Int32) (y_faultAt : Int32) (y_word : Int64) (y_got : Int32) (y_onces : Int32) (y_jumped : Int32) (y_heights : Int32) (g_planRead : Nat → Int32), SAME [4, 11, 12, 13, 14, 15, 16, 18, 19, 21, 23, 24] Fh Gh ∧ Gh 4 = .int y_p ∧ IR 0 940 y_p ∧ Gh 11 = .int y_token ∧ IR 0 4 y_token ∧ Gh 12 = .int y_at ∧ IR 0 940 y_at ∧ Gh 13 = .int y_span ∧ IR 0 940 y_span ∧ Gh 14 = .int y_number ∧ Gh 15 = .int y_fault ∧ Gh 16 = .int y_faultAt ∧ Gh 18 = .long y_word ∧ Gh 19 = .int y_got ∧ Gh 21 = .int y_onces ∧ Gh 23 = .int y_jumped ∧ Gh 24 = .int y_heights ∧ SG 1 4 0 11 g_planRead ∧ SG 10 10 0 5 g_planRead ∧ (x_p.toInt ≤ y_p.toInt) ∧ ((1 ≤ y_token.toInt → y_token.toInt ≤ 3 → x_p.toInt < y_p.toInt)) ∧ ((y_token.toInt = 2 → 0 ≤ y_number.toInt ∧ y_number.toInt ≤ 999)) ∧ r = 1 ∧ u = [(h0, .inr (10, vL 67 Gh)), (h_tape, .inl (cB, 940, .inl f_tape)), (h_s, .inl (cI, 335, .inl f_s)), (h_names, .inl (cJ, 36, .inr (.inl f_names))), (h_reserved, .inl (cJ, 23, .inr (.inl f_reserved))), (h_planRead, .inl (cI, 24, .inl g_planRead))])) := by
  refine CI_mk (by decide) (Nat.le_of_ble_eq_true rfl) ?_
  intro p e s m below meth c A ls E hAe hG hsz hP hD hA hS hl
  obtain ⟨hx, hb, hr, hw, hown, hlocks, hml, hnm⟩ := E
  have hK := hG.1
  have i_x_size : 0 ≤ x_size.toInt ∧ x_size.toInt ≤ 940 := i_x_size
  have i_x_p : 0 ≤ x_p.toInt ∧ x_p.toInt ≤ 940 := i_x_p
  have i_x_limit : 200 ≤ x_limit.toInt ∧ x_limit.toInt ≤ 940 := i_x_limit
  have i_x_token : 0 ≤ x_token.toInt ∧ x_token.toInt ≤ 4 := i_x_token
  have hl : lv_has ls 2 [(0, .ref h0)] := hl
  refine lv_aload_n hx hb dX10_planLine_0 rfl (lv_at hl 0 rfl) ?_
  refine lv_ldc2 hx hb hown (hw _ q_1242) dX10_planLine_1 ?_
  refine call_Vi (wr := [(h_tape, .inl (cB, 940, .inl f_tape)), (h_s, .inl (cI, 335, .inl f_s)), (h_names, .inl (cJ, 36, .inr (.inl f_names))), (h_reserved, .inl (cJ, 23, .inr (.inl f_reserved))), (h_planRead, .inl (cI, 24, .inl f_planRead))]) (As := [.long 1668441463]) (rest := []) hx hb hml hown hw (m_X10_isWord l D cI cJ cB cP cM cZ h0 Fh x_token x_number x_word 1668441463 _ e_token i_x_token e_number e_word (by omega)) wV_X10_225_X10_isWord dX10_planLine_4 hK hP hD hS hA [0] [1, 2, 3, 4, 5] rfl rfl (by decide) (by decide) (by decide) 0 10 rfl rfl GG.fb hG.at hl.1 rfl (Nat.le_of_ble_eq_true rfl) ⟨(Nat.le_of_ble_eq_true rfl), (Nat.le_of_ble_eq_true rfl)⟩ ⟨(Nat.le_of_ble_eq_true rfl), (Nat.le_of_ble_eq_true rfl)⟩ (fun r1 u H locs hp hP hD hS => ?_)
  have zl1668441463 : (1668441463 : Int32).toInt = 1668441463 := by decide
  obtain ⟨t2, t3, rfl⟩ := hp
  have hP : va_P D vwCl [(h_tape, .inl (cB, 940, .inl f_tape)), (h_s, .inl (cI, 335, .inl f_s)), (h_names, .inl (cJ, 36, .inr (.inl f_names))), (h_reserved, .inl (cJ, 23, .inr (.inl f_reserved))), (h_planRead, .inl (cI, 24, .inl f_planRead)), (h0, .inr (10, vL 67 Fh))] H := hP
  have hD : va_D A [(h_tape, .inl (cB, 940, .inl f_tape)), (h_s, .inl (cI, 335, .inl f_s)), (h_names, .inl (cJ, 36, .inr (.inl f_names))), (h_reserved, .inl (cJ, 23, .inr (.inl f_reserved))), (h_planRead, .inl (cI, 24, .inl f_planRead)), (h0, .inr (10, vL 67 Fh))] := hD
  refine W.widen (k := 0) (n := 0) (Nat.le_of_ble_eq_true rfl) (Nat.le_of_ble_eq_true rfl) ?_
  refine lv_if_eq (tgt := 85) hx hb dX10_planLine_7 (by decide) (fun c5 => ?_) (fun c5 => ?_)
  · have dc5 : r1.toInt = 0 := eq_i (a := r1.toInt) (b := 0) rfl rfl c5
    have k6 : 0 ≤ r1.toInt ∧ r1.toInt ≤ 0 := ⟨t2.1, Int.le_trans (Int.le_of_eq dc5) (Int.le_refl _)⟩
    refine lv_aload_n hx hb dX10_planLine_85 rfl (lv_at hl 0 rfl) ?_
    refine lv_ldc2 hx hb hown (hw _ q_1243) dX10_planLine_86 ?_
    refine call_Vi (wr := [(h_tape, .inl (cB, 940, .inl f_tape)), (h_s, .inl (cI, 335, .inl f_s)), (h_names, .inl (cJ, 36, .inr (.inl f_names))), (h_reserved, .inl (cJ, 23, .inr (.inl f_reserved))), (h_planRead, .inl (cI, 24, .inl f_planRead))]) (As := [.long 1786080624]) (rest := []) hx hb hml hown hw (m_X10_isWord l D cI cJ cB cP cM cZ h0 Fh x_token x_number x_word 1786080624 _ e_token i_x_token e_number e_word (by omega)) wV_X10_225_X10_isWord dX10_planLine_89 hK hP hD hS hA [5] [0, 1, 2, 3, 4] rfl rfl (by decide) (by decide) (by decide) 0 10 rfl rfl GG.fb hG.at hl.1 rfl (Nat.le_of_ble_eq_true rfl) ⟨(Nat.le_of_ble_eq_true rfl), (Nat.le_of_ble_eq_true rfl)⟩ ⟨(Nat.le_of_ble_eq_true rfl), (Nat.le_of_ble_eq_true rfl)⟩ (fun r7 u H locs hp hP hD hS => ?_)
    have zl1786080624 : (1786080624 : Int32).toInt = 1786080624 := by decide
    obtain ⟨t8, t9, rfl⟩ := hp
    have hP : va_P D vwCl [(h_tape, .inl (cB, 940, .inl f_tape)), (h_s, .inl (cI, 335, .inl f_s)), (h_names, .inl (cJ, 36, .inr (.inl f_names))), (h_reserved, .inl (cJ, 23, .inr (.inl f_reserved))), (h_planRead, .inl (cI, 24, .inl f_planRead)), (h0, .inr (10, vL 67 Fh))] H := hP
    have hD : va_D A [(h_tape, .inl (cB, 940, .inl f_tape)), (h_s, .inl (cI, 335, .inl f_s)), (h_names, .inl (cJ, 36, .inr (.inl f_names))), (h_reserved, .inl (cJ, 23, .inr (.inl f_reserved))), (h_planRead, .inl (cI, 24, .inl f_planRead)), (h0, .inr (10, vL 67 Fh))] := hD
    refine W.widen (k := 0) (n := 0) (Nat.le_of_ble_eq_true rfl) (Nat.le_of_ble_eq_true rfl) ?_
    refine lv_if_eq (tgt := 201) hx hb dX10_planLine_92 (by decide) (fun c11 => ?_) (fun c11 => ?_)
    · have dc11 : r7.toInt = 0 := eq_i (a := r7.toInt) (b := 0) rfl rfl c11
      have k12 : 0 ≤ r7.toInt ∧ r7.toInt ≤ 0 := ⟨t8.1, Int.le_trans (Int.le_of_eq dc11) (Int.le_refl _)⟩
      refine lv_aload_n hx hb dX10_planLine_201 rfl (lv_at hl 0 rfl) ?_
      refine lv_ldc2 hx hb hown (hw _ q_1245) dX10_planLine_202 ?_
      refine call_Vi (wr := [(h_tape, .inl (cB, 940, .inl f_tape)), (h_s, .inl (cI, 335, .inl f_s)), (h_names, .inl (cJ, 36, .inr (.inl f_names))), (h_reserved, .inl (cJ, 23, .inr (.inl f_reserved))), (h_planRead, .inl (cI, 24, .inl f_planRead))]) (As := [.long 1751738216]) (rest := []) hx hb hml hown hw (m_X10_isWord l D cI cJ cB cP cM cZ h0 Fh x_token x_number x_word 1751738216 _ e_token i_x_token e_number e_word (by omega)) wV_X10_225_X10_isWord dX10_planLine_205 hK hP hD hS hA [5] [0, 1, 2, 3, 4] rfl rfl (by decide) (by decide) (by decide) 0 10 rfl rfl GG.fb hG.at hl.1 rfl (Nat.le_of_ble_eq_true rfl) ⟨(Nat.le_of_ble_eq_true rfl), (Nat.le_of_ble_eq_true rfl)⟩ ⟨(Nat.le_of_ble_eq_true rfl), (Nat.le_of_ble_eq_true rfl)⟩ (fun r13 u H locs hp hP hD hS => ?_)
      have zl1751738216 : (1751738216 : Int32).toInt = 1751738216 := by decide
      obtain ⟨t14, t15, rfl⟩ := hp
      have hP : va_P D vwCl [(h_tape, .inl (cB, 940, .inl f_tape)), (h_s, .inl (cI, 335, .inl f_s)), (h_names, .inl (cJ, 36, .inr (.inl f_names))), (h_reserved, .inl (cJ, 23, .inr (.inl f_reserved))), (h_planRead, .inl (cI, 24, .inl f_planRead)), (h0, .inr (10, vL 67 Fh))] H := hP
      have hD : va_D A [(h_tape, .inl (cB, 940, .inl f_tape)), (h_s, .inl (cI, 335, .inl f_s)), (h_names, .inl (cJ, 36, .inr (.inl f_names))), (h_reserved, .inl (cJ, 23, .inr (.inl f_reserved))), (h_planRead, .inl (cI, 24, .inl f_planRead)), (h0, .inr (10, vL 67 Fh))] := hD
      refine W.widen (k := 0) (n := 0) (Nat.le_of_ble_eq_true rfl) (Nat.le_of_ble_eq_true rfl) ?_
      refine lv_if_eq (tgt := 320) hx hb dX10_planLine_208 (by decide) (fun c17 => ?_) (fun c17 => ?_)
      · have dc17 : r13.toInt = 0 := eq_i (a := r13.toInt) (b := 0) rfl rfl c17
        have k18 : 0 ≤ r13.toInt ∧ r13.toInt ≤ 0 := ⟨t14.1, Int.le_trans (Int.le_of_eq dc17) (Int.le_refl _)⟩
        refine lv_aload_n hx hb dX10_planLine_320 rfl (lv_at hl 0 rfl) ?_
        refine lv_ldc2 hx hb hown (hw _ q_1244) dX10_planLine_321 ?_
        refine call_Vi (wr := [(h_tape, .inl (cB, 940, .inl f_tape)), (h_s, .inl (cI, 335, .inl f_s)), (h_names, .inl (cJ, 36, .inr (.inl f_names))), (h_reserved, .inl (cJ, 23, .inr (.inl f_reserved))), (h_planRead, .inl (cI, 24, .inl f_planRead))]) (As := [.long 1818583396]) (rest := []) hx hb hml hown hw (m_X10_isWord l D cI cJ cB cP cM cZ h0 Fh x_token x_number x_word 1818583396 _ e_token i_x_token e_number e_word (by omega)) wV_X10_225_X10_isWord dX10_planLine_324 hK hP hD hS hA [5] [0, 1, 2, 3, 4] rfl rfl (by decide) (by decide) (by decide) 0 10 rfl rfl GG.fb hG.at hl.1 rfl (Nat.le_of_ble_eq_true rfl) ⟨(Nat.le_of_ble_eq_true rfl), (Nat.le_of_ble_eq_true rfl)⟩ ⟨(Nat.le_of_ble_eq_true rfl), (Nat.le_of_ble_eq_true rfl)⟩ (fun r19 u H locs hp hP hD hS => ?_)
        have zl1818583396 : (1818583396 : Int32).toInt = 1818583396 := by decide
        obtain ⟨t20, t21, rfl⟩ := hp
        have hP : va_P D vwCl [(h_tape, .inl (cB, 940, .inl f_tape)), (h_s, .inl (cI, 335, .inl f_s)), (h_names, .inl (cJ, 36, .inr (.inl f_names))), (h_reserved, .inl (cJ, 23, .inr (.inl f_reserved))), (h_planRead, .inl (cI, 24, .inl f_planRead)), (h0, .inr (10, vL 67 Fh))] H := hP
        have hD : va_D A [(h_tape, .inl (cB, 940, .inl f_tape)), (h_s, .inl (cI, 335, .inl f_s)), (h_names, .inl (cJ, 36, .inr (.inl f_names))), (h_reserved, .inl (cJ, 23, .inr (.inl f_reserved))), (h_planRead, .inl (cI, 24, .inl f_planRead)), (h0, .inr (10, vL 67 Fh))] := hD
        refine W.widen (k := 0) (n := 0) (Nat.le_of_ble_eq_true rfl) (Nat.le_of_ble_eq_true rfl) ?_
        refine lv_if_eq (tgt := 363) hx hb dX10_planLine_327 (by decide) (fun c23 => ?_) (fun c23 => ?_)
        · have dc23 : r19.toInt = 0 := eq_i (a := r19.toInt) (b := 0) rfl rfl c23
          have k24 : 0 ≤ r19.toInt ∧ r19.toInt ≤ 0 := ⟨t20.1, Int.le_trans (Int.le_of_eq dc23) (Int.le_refl _)⟩
          refine lv_aload_n hx hb dX10_planLine_363 rfl (lv_at hl 0 rfl) ?_
          refine lv_ldc2 hx hb hown (hw _ q_1247) dX10_planLine_364 ?_
          refine call_Vi (wr := [(h_tape, .inl (cB, 940, .inl f_tape)), (h_s, .inl (cI, 335, .inl f_s)), (h_names, .inl (cJ, 36, .inr (.inl f_names))), (h_reserved, .inl (cJ, 23, .inr (.inl f_reserved))), (h_planRead, .inl (cI, 24, .inl f_planRead))]) (As := [.long 495873782388]) (rest := []) hx hb hml hown hw (m_X10_isWord l D cI cJ cB cP cM cZ h0 Fh x_token x_number x_word 495873782388 _ e_token i_x_token e_number e_word (by omega)) wV_X10_225_X10_isWord dX10_planLine_367 hK hP hD hS hA [5] [0, 1, 2, 3, 4] rfl rfl (by decide) (by decide) (by decide) 0 10 rfl rfl GG.fb hG.at hl.1 rfl (Nat.le_of_ble_eq_true rfl) ⟨(Nat.le_of_ble_eq_true rfl), (Nat.le_of_ble_eq_true rfl)⟩ ⟨(Nat.le_of_ble_eq_true rfl), (Nat.le_of_ble_eq_true rfl)⟩ (fun r25 u H locs hp hP hD hS => ?_)
          obtain ⟨t26, t27, rfl⟩ := hp
          have hP : va_P D vwCl [(h_tape, .inl (cB, 940, .inl f_tape)), (h_s, .inl (cI, 335, .inl f_s)), (h_names, .inl (cJ, 36, .inr (.inl f_names))), (h_reserved, .inl (cJ, 23, .inr (.inl f_reserved))), (h_planRead, .inl (cI, 24, .inl f_planRead)), (h0, .inr (10, vL 67 Fh))] H := hP
          have hD : va_D A [(h_tape, .inl (cB, 940, .inl f_tape)), (h_s, .inl (cI, 335, .inl f_s)), (h_names, .inl (cJ, 36, .inr (.inl f_names))), (h_reserved, .inl (cJ, 23, .inr (.inl f_reserved))), (h_planRead, .inl (cI, 24, .inl f_planRead)), (h0, .inr (10, vL 67 Fh))] := hD
          refine W.widen (k := 0) (n := 0) (Nat.le_of_ble_eq_true rfl) (Nat.le_of_ble_eq_true rfl) ?_
          refine lv_if_eq (tgt := 406) hx hb dX10_planLine_370 (by decide) (fun c29 => ?_) (fun c29 => ?_)
          · have dc29 : r25.toInt = 0 := eq_i (a := r25.toInt) (b := 0) rfl rfl c29
            have k30 : 0 ≤ r25.toInt ∧ r25.toInt ≤ 0 := ⟨t26.1, Int.le_trans (Int.le_of_eq dc29) (Int.le_refl _)⟩
            refine lv_aload_n hx hb dX10_planLine_406 rfl (lv_at hl 0 rfl) ?_
            refine lv_ldc2 hx hb hown (hw _ q_1246) dX10_planLine_407 ?_
            refine call_Vi (wr := [(h_tape, .inl (cB, 940, .inl f_tape)), (h_s, .inl (cI, 335, .inl f_s)), (h_names, .inl (cJ, 36, .inr (.inl f_names))), (h_reserved, .inl (cJ, 23, .inr (.inl f_reserved))), (h_planRead, .inl (cI, 24, .inl f_planRead))]) (As := [.long 28526]) (rest := []) hx hb hml hown hw (m_X10_isWord l D cI cJ cB cP cM cZ h0 Fh x_token x_number x_word 28526 _ e_token i_x_token e_number e_word (by omega)) wV_X10_225_X10_isWord dX10_planLine_410 hK hP hD hS hA [5] [0, 1, 2, 3, 4] rfl rfl (by decide) (by decide) (by decide) 0 10 rfl rfl GG.fb hG.at hl.1 rfl (Nat.le_of_ble_eq_true rfl) ⟨(Nat.le_of_ble_eq_true rfl), (Nat.le_of_ble_eq_true rfl)⟩ ⟨(Nat.le_of_ble_eq_true rfl), (Nat.le_of_ble_eq_true rfl)⟩ (fun r31 u H locs hp hP hD hS => ?_)
            have zl28526 : (28526 : Int32).toInt = 28526 := by decide
            obtain ⟨t32, t33, rfl⟩ := hp
            have hP : va_P D vwCl [(h_tape, .inl (cB, 940, .inl f_tape)), (h_s, .inl (cI, 335, .inl f_s)), (h_names, .inl (cJ, 36, .inr (.inl f_names))), (h_reserved, .inl (cJ, 23, .inr (.inl f_reserved))), (h_planRead, .inl (cI, 24, .inl f_planRead)), (h0, .inr (10, vL 67 Fh))] H := hP
            have hD : va_D A [(h_tape, .inl (cB, 940, .inl f_tape)), (h_s, .inl (cI, 335, .inl f_s)), (h_names, .inl (cJ, 36, .inr (.inl f_names))), (h_reserved, .inl (cJ, 23, .inr (.inl f_reserved))), (h_planRead, .inl (cI, 24, .inl f_planRead)), (h0, .inr (10, vL 67 Fh))] := hD
            refine W.widen (k := 0) (n := 0) (Nat.le_of_ble_eq_true rfl) (Nat.le_of_ble_eq_true rfl) ?_
            refine lv_if_ne (tgt := 422) hx hb dX10_planLine_413 (by decide) (fun c35 => ?_) (fun c35 => ?_)
            · have dc35 : r31.toInt ≠ 0 := ne_i (a := r31.toInt) (b := 0) rfl rfl c35
              have k36 : 1 ≤ r31.toInt ∧ r31.toInt ≤ 1 := ⟨ne_lo dc35 t32.1 ⟨Int.le_refl _, Int.le_refl _⟩ (by decide), t32.2⟩
              refine lv_aload_n hx hb dX10_planLine_422 rfl (lv_at hl 0 rfl) ?_
              refine lv_iconst (v := 3) hx hb dX10_planLine_423 (by decide) ?_
              refine call_Vi (wr := [(h_s, .inl (cI, 335, .inl f_s)), (h_names, .inl (cJ, 36, .inr (.inl f_names))), (h_reserved, .inl (cJ, 23, .inr (.inl f_reserved))), (h_planRead, .inl (cI, 24, .inl f_planRead))]) (As := [.int 3]) (rest := []) hx hb hml hown hw (m_X10_isOnce l D cI cJ cB cP cM cZ h0 h_tape Fh x_size x_p x_limit x_token x_at x_number x_word x_onces f_tape 3 _ e_tape e_size i_x_size e_p i_x_p e_limit i_x_limit e_token i_x_token e_at e_number e_word e_onces (by omega)) wV_X10_239_X10_isOnce dX10_planLine_424 hK hP hD hS hA [5, 0] [1, 2, 3, 4] rfl rfl (by decide) (by decide) (by decide) 0 10 rfl rfl GG.fb hG.at hl.1 rfl (Nat.le_of_ble_eq_true rfl) ⟨(Nat.le_of_ble_eq_true rfl), (Nat.le_of_ble_eq_true rfl)⟩ ⟨(Nat.le_of_ble_eq_true rfl), (Nat.le_of_ble_eq_true rfl)⟩ (fun r37 u H locs hp hP hD hS => ?_)
              have zl3 : (3 : Int32).toInt = 3 := by decide
              rcases hp with hp | hp
              · refine hp.elim (fun F38 h9z0 => h9z0.elim (fun y39 h9z1 => h9z1.elim (fun y40 h9z2 => h9z2.elim (fun y41 h9z3 => h9z3.elim (fun y42 h9z4 => h9z4.elim (fun y43 h9z5 => h9z5.elim (fun y44 h9z6 => h9z6.elim (fun y45 h9z7 => h9z7.elim (fun t46 h9z8 => h9z8.elim (fun t47 h9z9 => h9z9.elim (fun t48 h9z10 => h9z10.elim (fun t49 h9z11 => h9z11.elim (fun t50 h9z12 => h9z12.elim (fun t51 h9z13 => h9z13.elim (fun t52 h9z14 => h9z14.elim (fun t53 h9z15 => h9z15.elim (fun t54 h9z16 => h9z16.elim (fun t55 h9z17 => h9z17.elim (fun t56 h9z18 => h9z18.elim (fun t57 h9z19 => h9z19.elim (fun t58 h9z20 => h9z20.elim (fun t59 h9z21 => h9z21.elim (fun t60 h9z22 => h9z22.elim (fun heq923 h9z23 => ?_))))))))))))))))))))))))
                clear h9z0 h9z1 h9z2 h9z3 h9z4 h9z5 h9z6 h9z7 h9z8 h9z9 h9z10 h9z11 h9z12 h9z13 h9z14 h9z15 h9z16 h9z17 h9z18 h9z19 h9z20 h9z21 h9z22
                subst heq923
                subst h9z23
                have hP : va_P D vwCl [(h_s, .inl (cI, 335, .inl f_s)), (h_names, .inl (cJ, 36, .inr (.inl f_names))), (h_reserved, .inl (cJ, 23, .inr (.inl f_reserved))), (h_planRead, .inl (cI, 24, .inl f_planRead)), (h0, .inr (10, vL 67 F38)), (h_tape, .inl (cB, 940, .inl f_tape))] H := hP
                have hD : va_D A [(h_s, .inl (cI, 335, .inl f_s)), (h_names, .inl (cJ, 36, .inr (.inl f_names))), (h_reserved, .inl (cJ, 23, .inr (.inl f_reserved))), (h_planRead, .inl (cI, 24, .inl f_planRead)), (h0, .inr (10, vL 67 F38)), (h_tape, .inl (cB, 940, .inl f_tape))] := hD
                refine W.widen (k := 0) (n := 0) (Nat.le_of_ble_eq_true rfl) (Nat.le_of_ble_eq_true rfl) ?_
                refine lv_if_ne (tgt := 432) hx hb dX10_planLine_427 (by decide) (fun _ => ?_) (fun g => absurd g (by decide))
                refine lv_aload_n hx hb dX10_planLine_432 rfl (lv_at hl 0 rfl) ?_
                have n67 : F38 10 = .ref h_reserved := (SAME.at t46 (by decide) e_reserved)
                refine call_Vi (wr := [(h_s, .inl (cI, 335, .inl f_s)), (h_names, .inl (cJ, 36, .inr (.inl f_names))), (h_planRead, .inl (cI, 24, .inl f_planRead)), (h_tape, .inl (cB, 940, .inl f_tape))]) (As := []) (rest := []) hx hb hml hown hw (m_X10_isName l D cI cJ cB cP cM cZ h0 h_reserved F38 y40 y43 y44 f_reserved _ n67 t49 t50 t55 t56 (by omega)) wV_X10_218_X10_isName dX10_planLine_433 hK hP hD hS hA [4, 2] [0, 1, 3, 5] rfl rfl (by decide) (by decide) (by decide) 0 10 rfl rfl GG.fb hG.at hl.1 rfl (Nat.le_of_ble_eq_true rfl) ⟨(Nat.le_of_ble_eq_true rfl), (Nat.le_of_ble_eq_true rfl)⟩ ⟨(Nat.le_of_ble_eq_true rfl), (Nat.le_of_ble_eq_true rfl)⟩ (fun r68 u H locs hp hP hD hS => ?_)
                obtain ⟨t69, rfl⟩ := hp
                have hP : va_P D vwCl [(h_s, .inl (cI, 335, .inl f_s)), (h_names, .inl (cJ, 36, .inr (.inl f_names))), (h_planRead, .inl (cI, 24, .inl f_planRead)), (h_tape, .inl (cB, 940, .inl f_tape)), (h0, .inr (10, vL 67 F38)), (h_reserved, .inl (cJ, 23, .inr (.inl f_reserved)))] H := hP
                have hD : va_D A [(h_s, .inl (cI, 335, .inl f_s)), (h_names, .inl (cJ, 36, .inr (.inl f_names))), (h_planRead, .inl (cI, 24, .inl f_planRead)), (h_tape, .inl (cB, 940, .inl f_tape)), (h0, .inr (10, vL 67 F38)), (h_reserved, .inl (cJ, 23, .inr (.inl f_reserved)))] := hD
                refine W.widen (k := 0) (n := 0) (Nat.le_of_ble_eq_true rfl) (Nat.le_of_ble_eq_true rfl) ?_
                refine lv_if_ne (tgt := 445) hx hb dX10_planLine_436 (by decide) (fun c71 => ?_) (fun c71 => ?_)
                · have dc71 : r68.toInt ≠ 0 := ne_i (a := r68.toInt) (b := 0) rfl rfl c71
                  have k72 : 1 ≤ r68.toInt ∧ r68.toInt ≤ 1 := ⟨ne_lo dc71 t69.1 ⟨Int.le_refl _, Int.le_refl _⟩ (by decide), t69.2⟩
                  refine lv_aload_n hx hb dX10_planLine_445 rfl (lv_at hl 0 rfl) ?_
                  refine lv_bipush (v := 12) hx hb dX10_planLine_446 (by decide) ?_
                  refine lv_aload_n hx hb dX10_planLine_448 rfl (lv_at hl 0 rfl) ?_
                  have n73 : F38 6 = .ref h_s := (SAME.at t46 (by decide) e_s)
                  refine get_f (D := D) (ci := 10) (v := .ref h_s) (C := RX10) (T := TX10) (N := 67) hx hb hw inAX10 hown hK hP 4 rfl rfl 6 (by decide) (hw _ q_1267) (fun _ h9 => h9) n73 dX10_planLine_449 ?_
                  refine lv_bipush (v := 7) hx hb dX10_planLine_452 (by decide) ?_
                  refine iald_n hx hb hK hP 0 0 rfl rfl 7 rfl (Nat.le_of_ble_eq_true rfl) (Nat.le_of_ble_eq_true rfl) rfl dX10_planLine_454 ?_
                  refine lv_topi (fun v74 ev74 => ?_)
                  have k75 : 0 ≤ v74.toInt ∧ v74.toInt ≤ 6 := by rw [ev74]; exact s_s_7.atN 7 (by decide) (by decide)
                  have n76 : F38 9 = .ref h_names := (SAME.at t46 (by decide) e_names)
                  refine call_Vi (wr := [(h_s, .inl (cI, 335, .inl f_s)), (h_planRead, .inl (cI, 24, .inl f_planRead)), (h_tape, .inl (cB, 940, .inl f_tape)), (h_reserved, .inl (cJ, 23, .inr (.inl f_reserved)))]) (As := [.int 12, .int v74]) (rest := []) hx hb hml hown hw (m_X10_find l D cI cJ cB cP cM cZ h0 h_names F38 y44 f_names 12 v74 _ n76 t56 (show 0 ≤ (12 : Int32).toInt ∧ (12 : Int32).toInt ≤ 30 by decide) (ir_wk k75 (by decide) (by decide)) (by have z0 : (12 : Int32).toInt = 12 := rfl; omega)) wV_X10_222_X10_find dX10_planLine_455 hK hP hD hS hA [4, 1] [0, 2, 3, 5] rfl rfl (by decide) (by decide) (by decide) 0 10 rfl rfl GG.fb hG.at hl.1 rfl (Nat.le_of_ble_eq_true rfl) ⟨(Nat.le_of_ble_eq_true rfl), (Nat.le_of_ble_eq_true rfl)⟩ ⟨(Nat.le_of_ble_eq_true rfl), (Nat.le_of_ble_eq_true rfl)⟩ (fun r77 u H locs hp hP hD hS => ?_)
                  have zl12 : (12 : Int32).toInt = 12 := by decide
                  rcases hp with ⟨t78, t79, rfl, rfl⟩ | ⟨t80, t81, t82, rfl⟩
                  · have hP : va_P D vwCl [(h_s, .inl (cI, 335, .inl f_s)), (h_planRead, .inl (cI, 24, .inl f_planRead)), (h_tape, .inl (cB, 940, .inl f_tape)), (h_reserved, .inl (cJ, 23, .inr (.inl f_reserved))), (h0, .inr (10, vL 67 F38)), (h_names, .inl (cJ, 36, .inr (.inl f_names)))] H := hP
                    have hD : va_D A [(h_s, .inl (cI, 335, .inl f_s)), (h_planRead, .inl (cI, 24, .inl f_planRead)), (h_tape, .inl (cB, 940, .inl f_tape)), (h_reserved, .inl (cJ, 23, .inr (.inl f_reserved))), (h0, .inr (10, vL 67 F38)), (h_names, .inl (cJ, 36, .inr (.inl f_names)))] := hD
                    refine W.widen (k := 0) (n := 0) (Nat.le_of_ble_eq_true rfl) (Nat.le_of_ble_eq_true rfl) ?_
                    refine lv_istore_n (lv' := [(1, .int (-1)), (0, .ref h0)]) hx hb dX10_planLine_458 rfl hl (by decide) rfl (fun ls hl => ?_)
                    refine lv_iload_n hx hb dX10_planLine_459 rfl (lv_at hl 0 rfl) ?_
                    refine lv_if_ge (tgt := 469) hx hb dX10_planLine_460 (by decide) (fun g => absurd g (by decide)) (fun _ => ?_)
                    refine lv_aload_n hx hb dX10_planLine_463 rfl (lv_at hl 1 rfl) ?_
                    refine lv_iconst (v := 3) hx hb dX10_planLine_464 (by decide) ?_
                    refine call_Vi (wr := [(h_s, .inl (cI, 335, .inl f_s)), (h_planRead, .inl (cI, 24, .inl f_planRead)), (h_tape, .inl (cB, 940, .inl f_tape)), (h_reserved, .inl (cJ, 23, .inr (.inl f_reserved))), (h_names, .inl (cJ, 36, .inr (.inl f_names)))]) (As := [.int 3]) (rest := []) hx hb hml hown hw (m_X10_bad l D cI cJ cB cP cM cZ h0 F38 y41 3 _ t51) wV_X10_205_X10_bad dX10_planLine_465 hK hP hD hS hA [4] [0, 1, 2, 3, 5] rfl rfl (by decide) (by decide) (by decide) 0 10 rfl rfl GG.fb hG.at hl.1 rfl (Nat.le_of_ble_eq_true rfl) ⟨(Nat.le_of_ble_eq_true rfl), (Nat.le_of_ble_eq_true rfl)⟩ ⟨(Nat.le_of_ble_eq_true rfl), (Nat.le_of_ble_eq_true rfl)⟩ (fun r84 u H locs hp hP hD hS => ?_)
                    obtain ⟨F85, t86, t87, t88, rfl, rfl⟩ := hp
                    have hP : va_P D vwCl [(h_s, .inl (cI, 335, .inl f_s)), (h_planRead, .inl (cI, 24, .inl f_planRead)), (h_tape, .inl (cB, 940, .inl f_tape)), (h_reserved, .inl (cJ, 23, .inr (.inl f_reserved))), (h_names, .inl (cJ, 36, .inr (.inl f_names))), (h0, .inr (10, vL 67 F85))] H := hP
                    have hD : va_D A [(h_s, .inl (cI, 335, .inl f_s)), (h_planRead, .inl (cI, 24, .inl f_planRead)), (h_tape, .inl (cB, 940, .inl f_tape)), (h_reserved, .inl (cJ, 23, .inr (.inl f_reserved))), (h_names, .inl (cJ, 36, .inr (.inl f_names))), (h0, .inr (10, vL 67 F85))] := hD
                    refine W.widen (k := 0) (n := 0) (Nat.le_of_ble_eq_true rfl) (Nat.le_of_ble_eq_true rfl) ?_
                    exact ret_i (v := 0) hx hb hr hlocks hS (hP.sub (ws' := [(h0, .inr (10, vL 67 F85)), (h_tape, .inl (cB, 940, .inl f_tape)), (h_s, .inl (cI, 335, .inl f_s)), (h_names, .inl (cJ, 36, .inr (.inl f_names))), (h_reserved, .inl (cJ, 23, .inr (.inl f_reserved))), (h_planRead, .inl (cI, 24, .inl f_planRead))]) [5, 2, 0, 4, 3, 1] rfl) (hD.sub (ws' := [(h0, .inr (10, vL 67 F85)), (h_tape, .inl (cB, 940, .inl f_tape)), (h_s, .inl (cI, 335, .inl f_s)), (h_names, .inl (cJ, 36, .inr (.inl f_names))), (h_reserved, .inl (cJ, 23, .inr (.inl f_reserved))), (h_planRead, .inl (cI, 24, .inl f_planRead))]) [5, 2, 0, 4, 3, 1] (by decide) rfl) dX10_planLine_468 rfl (Nat.le_of_ble_eq_true rfl) (Nat.le_of_ble_eq_true rfl) (Or.inl ⟨F85, y39, y40, y41, y42, y43, 3, y41, y44, x_got, y45, x_jumped, x_heights, f_planRead, (SAME.tr (SAME.tr SAME.rf t46 (by decide)) t86 (by decide)), (SAME.at t86 (by decide) t47), t48, (SAME.at t86 (by decide) t49), t50, (SAME.at t86 (by decide) t51), (SAME.at t86 (by decide) t53), (SAME.at t86 (by decide) t55), t87, (show 1 ≤ (3 : Int32).toInt ∧ (3 : Int32).toInt ≤ 3 by decide), t88, (SAME.at t86 (by decide) t56), (SAME.at t86 (by decide) (SAME.at t46 (by decide) e_got)), (SAME.at t86 (by decide) t57), (SAME.at t86 (by decide) (SAME.at t46 (by decide) e_jumped)), (SAME.at t86 (by decide) (SAME.at t46 (by decide) e_heights)), s_planRead_1, s_planRead_10, (by have zl3 : (3 : Int32).toInt = 3 := (by decide); omega), rfl, rfl⟩)
                  · have hP : va_P D vwCl [(h_s, .inl (cI, 335, .inl f_s)), (h_planRead, .inl (cI, 24, .inl f_planRead)), (h_tape, .inl (cB, 940, .inl f_tape)), (h_reserved, .inl (cJ, 23, .inr (.inl f_reserved))), (h0, .inr (10, vL 67 F38)), (h_names, .inl (cJ, 36, .inr (.inl f_names)))] H := hP
                    have hD : va_D A [(h_s, .inl (cI, 335, .inl f_s)), (h_planRead, .inl (cI, 24, .inl f_planRead)), (h_tape, .inl (cB, 940, .inl f_tape)), (h_reserved, .inl (cJ, 23, .inr (.inl f_reserved))), (h0, .inr (10, vL 67 F38)), (h_names, .inl (cJ, 36, .inr (.inl f_names)))] := hD
                    refine W.widen (k := 0) (n := 0) (Nat.le_of_ble_eq_true rfl) (Nat.le_of_ble_eq_true rfl) ?_
                    have k90 : 1 ≤ v74.toInt ∧ v74.toInt ≤ 6 := ⟨lo_lt t81 (Int.le_refl _) (by decide), k75.2⟩
                    refine lv_istore_n (lv' := [(1, .int r77), (0, .ref h0)]) hx hb dX10_planLine_458 rfl hl (by decide) rfl (fun ls hl => ?_)
                    refine lv_iload_n hx hb dX10_planLine_459 rfl (lv_at hl 0 rfl) ?_
                    refine lv_if_ge (tgt := 469) hx hb dX10_planLine_460 (by decide) (fun c91 => ?_) (fun c91 => False.elim (bad_lt (nle_i (a := 0) (b := r77.toInt) rfl rfl c91) t80.1 (Int.le_refl _) (by decide)))
                    have dc91 : 0 ≤ r77.toInt := le_i (a := 0) (b := r77.toInt) rfl rfl c91
                    refine lv_aload_n hx hb dX10_planLine_469 rfl (lv_at hl 1 rfl) ?_
                    have n92 : F38 22 = .ref h_planRead := (SAME.at t46 (by decide) e_planRead)
                    refine get_f (D := D) (ci := 10) (v := .ref h_planRead) (C := RX10) (T := TX10) (N := 67) hx hb hw inAX10 hown hK hP 4 rfl rfl 22 (by decide) (hw _ q_1283) (fun _ h9 => h9) n92 dX10_planLine_470 ?_
                    refine lv_bipush (v := 10) hx hb dX10_planLine_473 (by decide) ?_
                    refine lv_iload_n hx hb dX10_planLine_475 rfl (lv_at hl 0 rfl) ?_
                    obtain ⟨g93, eg93⟩ : ∃ z : Nat → Int32, upd f_planRead 10 r77 = z := ⟨_, rfl⟩
                    have r94 : SG 1 4 0 11 g93 := by rw [← eg93]; exact s_planRead_1.upN (Or.inr (Or.inl (by decide)))
                    have r95 : SG 10 10 0 5 g93 := by rw [← eg93]; exact s_planRead_10.upN (by omega)
                    refine iast_n hx hb hK hP hD hS 1 0 rfl rfl 10 rfl (Nat.le_of_ble_eq_true rfl) (Nat.le_of_ble_eq_true rfl) eg93 dX10_planLine_476 (fun H locs hP hD hS => ?_)
                    have hP : va_P D vwCl [(h_s, .inl (cI, 335, .inl f_s)), (h_planRead, .inl (cI, 24, .inl g93)), (h_tape, .inl (cB, 940, .inl f_tape)), (h_reserved, .inl (cJ, 23, .inr (.inl f_reserved))), (h0, .inr (10, vL 67 F38)), (h_names, .inl (cJ, 36, .inr (.inl f_names)))] H := hP
                    have hD : va_D A [(h_s, .inl (cI, 335, .inl f_s)), (h_planRead, .inl (cI, 24, .inl g93)), (h_tape, .inl (cB, 940, .inl f_tape)), (h_reserved, .inl (cJ, 23, .inr (.inl f_reserved))), (h0, .inr (10, vL 67 F38)), (h_names, .inl (cJ, 36, .inr (.inl f_names)))] := hD
                    refine lv_aload_n hx hb dX10_planLine_477 rfl (lv_at hl 1 rfl) ?_
                    have n96 : F38 1 = .ref h_tape := (SAME.at t46 (by decide) e_tape)
                    have n97 : F38 3 = .int x_size := (SAME.at t46 (by decide) e_size)
                    have n98 : F38 5 = .int x_limit := (SAME.at t46 (by decide) e_limit)
                    refine call_Vv (wr := [(h_s, .inl (cI, 335, .inl f_s)), (h_planRead, .inl (cI, 24, .inl g93)), (h_reserved, .inl (cJ, 23, .inr (.inl f_reserved))), (h_names, .inl (cJ, 36, .inr (.inl f_names)))]) (As := []) (rest := []) hx hb hml hown hw (m_X10_next l D cI cJ cB cP cM cZ h0 h_tape F38 x_size y39 x_limit y40 y43 y44 f_tape _ n96 n97 i_x_size t47 t48 n98 i_x_limit t49 t50 t55 t56 (by omega)) wV_X10_208_X10_next dX10_planLine_478 hK hP hD hS hA [4, 2] [0, 1, 3, 5] rfl rfl (by decide) (by decide) (by decide) 0 10 rfl rfl GG.fb hG.at hl.1 rfl (Nat.le_of_ble_eq_true rfl) ⟨(Nat.le_of_ble_eq_true rfl), (Nat.le_of_ble_eq_true rfl)⟩ ⟨(Nat.le_of_ble_eq_true rfl), (Nat.le_of_ble_eq_true rfl)⟩ (fun u H locs hp hP hD hS => ?_)
                    obtain ⟨F100, y101, y102, y103, y104, y105, y106, t107, t108, t109, t110, t111, t112, t113, t114, t115, t116, t117, t118, t119, t120, rfl⟩ := hp
                    clear t59 t60
                    have hP : va_P D vwCl [(h_s, .inl (cI, 335, .inl f_s)), (h_planRead, .inl (cI, 24, .inl g93)), (h_reserved, .inl (cJ, 23, .inr (.inl f_reserved))), (h_names, .inl (cJ, 36, .inr (.inl f_names))), (h0, .inr (10, vL 67 F100)), (h_tape, .inl (cB, 940, .inl f_tape))] H := hP
                    have hD : va_D A [(h_s, .inl (cI, 335, .inl f_s)), (h_planRead, .inl (cI, 24, .inl g93)), (h_reserved, .inl (cJ, 23, .inr (.inl f_reserved))), (h_names, .inl (cJ, 36, .inr (.inl f_names))), (h0, .inr (10, vL 67 F100)), (h_tape, .inl (cB, 940, .inl f_tape))] := hD
                    refine W.widen (k := 0) (n := 0) (Nat.le_of_ble_eq_true rfl) (Nat.le_of_ble_eq_true rfl) ?_
                    refine lv_iconst (v := 1) hx hb dX10_planLine_481 (by decide) ?_
                    exact ret_i (v := 1) hx hb hr hlocks hS (hP.sub (ws' := [(h0, .inr (10, vL 67 F100)), (h_tape, .inl (cB, 940, .inl f_tape)), (h_s, .inl (cI, 335, .inl f_s)), (h_names, .inl (cJ, 36, .inr (.inl f_names))), (h_reserved, .inl (cJ, 23, .inr (.inl f_reserved))), (h_planRead, .inl (cI, 24, .inl g93))]) [4, 5, 0, 3, 2, 1] rfl) (hD.sub (ws' := [(h0, .inr (10, vL 67 F100)), (h_tape, .inl (cB, 940, .inl f_tape)), (h_s, .inl (cI, 335, .inl f_s)), (h_names, .inl (cJ, 36, .inr (.inl f_names))), (h_reserved, .inl (cJ, 23, .inr (.inl f_reserved))), (h_planRead, .inl (cI, 24, .inl g93))]) [4, 5, 0, 3, 2, 1] (by decide) rfl) dX10_planLine_482 rfl (Nat.le_of_ble_eq_true rfl) (Nat.le_of_ble_eq_true rfl) (Or.inr ⟨F100, y101, y102, y103, y104, y105, x_fault, x_faultAt, y106, x_got, y45, x_jumped, x_heights, g93, (SAME.tr (SAME.tr SAME.rf t46 (by decide)) t107 (by decide)), t108, t109, t110, t111, t112, t113, t114, t115, t116, (SAME.at t107 (by decide) (SAME.at t46 (by decide) e_fault)), (SAME.at t107 (by decide) (SAME.at t46 (by decide) e_faultAt)), t117, (SAME.at t107 (by decide) (SAME.at t46 (by decide) e_got)), (SAME.at t107 (by decide) t57), (SAME.at t107 (by decide) (SAME.at t46 (by decide) e_jumped)), (SAME.at t107 (by decide) (SAME.at t46 (by decide) e_heights)), r94, r95, (by have zl1 : (1 : Int32).toInt = 1 := (by decide); omega), (by have zl1 : (1 : Int32).toInt = 1 := (by decide); omega), (by omega), rfl, rfl⟩)
                · have dc71 : r68.toInt = 0 := eq_i (a := r68.toInt) (b := 0) rfl rfl c71
                  have k122 : 0 ≤ r68.toInt ∧ r68.toInt ≤ 0 := ⟨t69.1, Int.le_trans (Int.le_of_eq dc71) (Int.le_refl _)⟩
                  refine lv_aload_n hx hb dX10_planLine_439 rfl (lv_at hl 0 rfl) ?_
                  refine lv_iconst (v := 1) hx hb dX10_planLine_440 (by decide) ?_
                  refine call_Vi (wr := [(h_s, .inl (cI, 335, .inl f_s)), (h_names, .inl (cJ, 36, .inr (.inl f_names))), (h_planRead, .inl (cI, 24, .inl f_planRead)), (h_tape, .inl (cB, 940, .inl f_tape)), (h_reserved, .inl (cJ, 23, .inr (.inl f_reserved)))]) (As := [.int 1]) (rest := []) hx hb hml hown hw (m_X10_bad l D cI cJ cB cP cM cZ h0 F38 y41 1 _ t51) wV_X10_205_X10_bad dX10_planLine_441 hK hP hD hS hA [4] [0, 1, 2, 3, 5] rfl rfl (by decide) (by decide) (by decide) 0 10 rfl rfl GG.fb hG.at hl.1 rfl (Nat.le_of_ble_eq_true rfl) ⟨(Nat.le_of_ble_eq_true rfl), (Nat.le_of_ble_eq_true rfl)⟩ ⟨(Nat.le_of_ble_eq_true rfl), (Nat.le_of_ble_eq_true rfl)⟩ (fun r123 u H locs hp hP hD hS => ?_)
                  have zl1 : (1 : Int32).toInt = 1 := by decide
                  obtain ⟨F124, t125, t126, t127, rfl, rfl⟩ := hp
                  have hP : va_P D vwCl [(h_s, .inl (cI, 335, .inl f_s)), (h_names, .inl (cJ, 36, .inr (.inl f_names))), (h_planRead, .inl (cI, 24, .inl f_planRead)), (h_tape, .inl (cB, 940, .inl f_tape)), (h_reserved, .inl (cJ, 23, .inr (.inl f_reserved))), (h0, .inr (10, vL 67 F124))] H := hP
                  have hD : va_D A [(h_s, .inl (cI, 335, .inl f_s)), (h_names, .inl (cJ, 36, .inr (.inl f_names))), (h_planRead, .inl (cI, 24, .inl f_planRead)), (h_tape, .inl (cB, 940, .inl f_tape)), (h_reserved, .inl (cJ, 23, .inr (.inl f_reserved))), (h0, .inr (10, vL 67 F124))] := hD
                  refine W.widen (k := 0) (n := 0) (Nat.le_of_ble_eq_true rfl) (Nat.le_of_ble_eq_true rfl) ?_
                  exact ret_i (v := 0) hx hb hr hlocks hS (hP.sub (ws' := [(h0, .inr (10, vL 67 F124)), (h_tape, .inl (cB, 940, .inl f_tape)), (h_s, .inl (cI, 335, .inl f_s)), (h_names, .inl (cJ, 36, .inr (.inl f_names))), (h_reserved, .inl (cJ, 23, .inr (.inl f_reserved))), (h_planRead, .inl (cI, 24, .inl f_planRead))]) [5, 3, 0, 1, 4, 2] rfl) (hD.sub (ws' := [(h0, .inr (10, vL 67 F124)), (h_tape, .inl (cB, 940, .inl f_tape)), (h_s, .inl (cI, 335, .inl f_s)), (h_names, .inl (cJ, 36, .inr (.inl f_names))), (h_reserved, .inl (cJ, 23, .inr (.inl f_reserved))), (h_planRead, .inl (cI, 24, .inl f_planRead))]) [5, 3, 0, 1, 4, 2] (by decide) rfl) dX10_planLine_444 rfl (Nat.le_of_ble_eq_true rfl) (Nat.le_of_ble_eq_true rfl) (Or.inl ⟨F124, y39, y40, y41, y42, y43, 1, y41, y44, x_got, y45, x_jumped, x_heights, f_planRead, (SAME.tr (SAME.tr SAME.rf t46 (by decide)) t125 (by decide)), (SAME.at t125 (by decide) t47), t48, (SAME.at t125 (by decide) t49), t50, (SAME.at t125 (by decide) t51), (SAME.at t125 (by decide) t53), (SAME.at t125 (by decide) t55), t126, (show 1 ≤ (1 : Int32).toInt ∧ (1 : Int32).toInt ≤ 3 by decide), t127, (SAME.at t125 (by decide) t56), (SAME.at t125 (by decide) (SAME.at t46 (by decide) e_got)), (SAME.at t125 (by decide) t57), (SAME.at t125 (by decide) (SAME.at t46 (by decide) e_jumped)), (SAME.at t125 (by decide) (SAME.at t46 (by decide) e_heights)), s_planRead_1, s_planRead_10, (by have zl1 : (1 : Int32).toInt = 1 := (by decide); omega), rfl, rfl⟩)
              · obtain ⟨F61, t62, t63, t64, t65, rfl, rfl⟩ := hp
                have hP : va_P D vwCl [(h_s, .inl (cI, 335, .inl f_s)), (h_names, .inl (cJ, 36, .inr (.inl f_names))), (h_reserved, .inl (cJ, 23, .inr (.inl f_reserved))), (h_planRead, .inl (cI, 24, .inl f_planRead)), (h0, .inr (10, vL 67 F61)), (h_tape, .inl (cB, 940, .inl f_tape))] H := hP
                have hD : va_D A [(h_s, .inl (cI, 335, .inl f_s)), (h_names, .inl (cJ, 36, .inr (.inl f_names))), (h_reserved, .inl (cJ, 23, .inr (.inl f_reserved))), (h_planRead, .inl (cI, 24, .inl f_planRead)), (h0, .inr (10, vL 67 F61)), (h_tape, .inl (cB, 940, .inl f_tape))] := hD
                refine W.widen (k := 0) (n := 0) (Nat.le_of_ble_eq_true rfl) (Nat.le_of_ble_eq_true rfl) ?_
                refine lv_if_ne (tgt := 432) hx hb dX10_planLine_427 (by decide) (fun g => absurd (by decide) g) (fun _ => ?_)
                refine lv_iconst (v := 0) hx hb dX10_planLine_430 (by decide) ?_
                exact ret_i (v := 0) hx hb hr hlocks hS (hP.sub (ws' := [(h0, .inr (10, vL 67 F61)), (h_tape, .inl (cB, 940, .inl f_tape)), (h_s, .inl (cI, 335, .inl f_s)), (h_names, .inl (cJ, 36, .inr (.inl f_names))), (h_reserved, .inl (cJ, 23, .inr (.inl f_reserved))), (h_planRead, .inl (cI, 24, .inl f_planRead))]) [4, 5, 0, 1, 2, 3] rfl) (hD.sub (ws' := [(h0, .inr (10, vL 67 F61)), (h_tape, .inl (cB, 940, .inl f_tape)), (h_s, .inl (cI, 335, .inl f_s)), (h_names, .inl (cJ, 36, .inr (.inl f_names))), (h_reserved, .inl (cJ, 23, .inr (.inl f_reserved))), (h_planRead, .inl (cI, 24, .inl f_planRead))]) [4, 5, 0, 1, 2, 3] (by decide) rfl) dX10_planLine_431 rfl (Nat.le_of_ble_eq_true rfl) (Nat.le_of_ble_eq_true rfl) (Or.inl ⟨F61, x_p, x_token, x_at, x_span, x_number, 3, x_at, x_word, x_got, x_onces, x_jumped, x_heights, f_planRead, (SAME.tr SAME.rf t62 (by decide)), (SAME.at t62 (by decide) e_p), i_x_p, (SAME.at t62 (by decide) e_token), i_x_token, (SAME.at t62 (by decide) e_at), (SAME.at t62 (by decide) e_span), (SAME.at t62 (by decide) e_number), t63, (show 1 ≤ (3 : Int32).toInt ∧ (3 : Int32).toInt ≤ 3 by decide), t64, (SAME.at t62 (by decide) e_word), (SAME.at t62 (by decide) e_got), (SAME.at t62 (by decide) e_onces), (SAME.at t62 (by decide) e_jumped), (SAME.at t62 (by decide) e_heights), s_planRead_1, s_planRead_10, (by have zl3 : (3 : Int32).toInt = 3 := (by decide); omega), rfl, rfl⟩)
            · have dc35 : r31.toInt = 0 := eq_i (a := r31.toInt) (b := 0) rfl rfl c35
              have k129 : 0 ≤ r31.toInt ∧ r31.toInt ≤ 0 := ⟨t32.1, Int.le_trans (Int.le_of_eq dc35) (Int.le_refl _)⟩
              refine lv_aload_n hx hb dX10_planLine_416 rfl (lv_at hl 0 rfl) ?_
              refine lv_iconst (v := 1) hx hb dX10_planLine_417 (by decide) ?_
              refine call_Vi (wr := [(h_tape, .inl (cB, 940, .inl f_tape)), (h_s, .inl (cI, 335, .inl f_s)), (h_names, .inl (cJ, 36, .inr (.inl f_names))), (h_reserved, .inl (cJ, 23, .inr (.inl f_reserved))), (h_planRead, .inl (cI, 24, .inl f_planRead))]) (As := [.int 1]) (rest := []) hx hb hml hown hw (m_X10_bad l D cI cJ cB cP cM cZ h0 Fh x_at 1 _ e_at) wV_X10_205_X10_bad dX10_planLine_418 hK hP hD hS hA [5] [0, 1, 2, 3, 4] rfl rfl (by decide) (by decide) (by decide) 0 10 rfl rfl GG.fb hG.at hl.1 rfl (Nat.le_of_ble_eq_true rfl) ⟨(Nat.le_of_ble_eq_true rfl), (Nat.le_of_ble_eq_true rfl)⟩ ⟨(Nat.le_of_ble_eq_true rfl), (Nat.le_of_ble_eq_true rfl)⟩ (fun r130 u H locs hp hP hD hS => ?_)
              have zl1 : (1 : Int32).toInt = 1 := by decide
              obtain ⟨F131, t132, t133, t134, rfl, rfl⟩ := hp
              have hP : va_P D vwCl [(h_tape, .inl (cB, 940, .inl f_tape)), (h_s, .inl (cI, 335, .inl f_s)), (h_names, .inl (cJ, 36, .inr (.inl f_names))), (h_reserved, .inl (cJ, 23, .inr (.inl f_reserved))), (h_planRead, .inl (cI, 24, .inl f_planRead)), (h0, .inr (10, vL 67 F131))] H := hP
              have hD : va_D A [(h_tape, .inl (cB, 940, .inl f_tape)), (h_s, .inl (cI, 335, .inl f_s)), (h_names, .inl (cJ, 36, .inr (.inl f_names))), (h_reserved, .inl (cJ, 23, .inr (.inl f_reserved))), (h_planRead, .inl (cI, 24, .inl f_planRead)), (h0, .inr (10, vL 67 F131))] := hD
              refine W.widen (k := 0) (n := 0) (Nat.le_of_ble_eq_true rfl) (Nat.le_of_ble_eq_true rfl) ?_
              exact ret_i (v := 0) hx hb hr hlocks hS (hP.sub (ws' := [(h0, .inr (10, vL 67 F131)), (h_tape, .inl (cB, 940, .inl f_tape)), (h_s, .inl (cI, 335, .inl f_s)), (h_names, .inl (cJ, 36, .inr (.inl f_names))), (h_reserved, .inl (cJ, 23, .inr (.inl f_reserved))), (h_planRead, .inl (cI, 24, .inl f_planRead))]) [5, 0, 1, 2, 3, 4] rfl) (hD.sub (ws' := [(h0, .inr (10, vL 67 F131)), (h_tape, .inl (cB, 940, .inl f_tape)), (h_s, .inl (cI, 335, .inl f_s)), (h_names, .inl (cJ, 36, .inr (.inl f_names))), (h_reserved, .inl (cJ, 23, .inr (.inl f_reserved))), (h_planRead, .inl (cI, 24, .inl f_planRead))]) [5, 0, 1, 2, 3, 4] (by decide) rfl) dX10_planLine_421 rfl (Nat.le_of_ble_eq_true rfl) (Nat.le_of_ble_eq_true rfl) (Or.inl ⟨F131, x_p, x_token, x_at, x_span, x_number, 1, x_at, x_word, x_got, x_onces, x_jumped, x_heights, f_planRead, (SAME.tr SAME.rf t132 (by decide)), (SAME.at t132 (by decide) e_p), i_x_p, (SAME.at t132 (by decide) e_token), i_x_token, (SAME.at t132 (by decide) e_at), (SAME.at t132 (by decide) e_span), (SAME.at t132 (by decide) e_number), t133, (show 1 ≤ (1 : Int32).toInt ∧ (1 : Int32).toInt ≤ 3 by decide), t134, (SAME.at t132 (by decide) e_word), (SAME.at t132 (by decide) e_got), (SAME.at t132 (by decide) e_onces), (SAME.at t132 (by decide) e_jumped), (SAME.at t132 (by decide) e_heights), s_planRead_1, s_planRead_10, (by have zl1 : (1 : Int32).toInt = 1 := (by decide); omega), rfl, rfl⟩)
          · have dc29 : r25.toInt ≠ 0 := ne_i (a := r25.toInt) (b := 0) rfl rfl c29
            have k136 : 1 ≤ r25.toInt ∧ r25.toInt ≤ 1 := ⟨ne_lo dc29 t26.1 ⟨Int.le_refl _, Int.le_refl _⟩ (by decide), t26.2⟩
            refine lv_aload_n hx hb dX10_planLine_373 rfl (lv_at hl 0 rfl) ?_
            refine lv_iconst (v := 2) hx hb dX10_planLine_374 (by decide) ?_
            refine call_Vi (wr := [(h_s, .inl (cI, 335, .inl f_s)), (h_names, .inl (cJ, 36, .inr (.inl f_names))), (h_reserved, .inl (cJ, 23, .inr (.inl f_reserved))), (h_planRead, .inl (cI, 24, .inl f_planRead))]) (As := [.int 2]) (rest := []) hx hb hml hown hw (m_X10_isOnce l D cI cJ cB cP cM cZ h0 h_tape Fh x_size x_p x_limit x_token x_at x_number x_word x_onces f_tape 2 _ e_tape e_size i_x_size e_p i_x_p e_limit i_x_limit e_token i_x_token e_at e_number e_word e_onces (by omega)) wV_X10_239_X10_isOnce dX10_planLine_375 hK hP hD hS hA [5, 0] [1, 2, 3, 4] rfl rfl (by decide) (by decide) (by decide) 0 10 rfl rfl GG.fb hG.at hl.1 rfl (Nat.le_of_ble_eq_true rfl) ⟨(Nat.le_of_ble_eq_true rfl), (Nat.le_of_ble_eq_true rfl)⟩ ⟨(Nat.le_of_ble_eq_true rfl), (Nat.le_of_ble_eq_true rfl)⟩ (fun r137 u H locs hp hP hD hS => ?_)
            have zl2 : (2 : Int32).toInt = 2 := by decide
            rcases hp with hp | hp
            · refine hp.elim (fun F138 h9z0 => h9z0.elim (fun y139 h9z1 => h9z1.elim (fun y140 h9z2 => h9z2.elim (fun y141 h9z3 => h9z3.elim (fun y142 h9z4 => h9z4.elim (fun y143 h9z5 => h9z5.elim (fun y144 h9z6 => h9z6.elim (fun y145 h9z7 => h9z7.elim (fun t146 h9z8 => h9z8.elim (fun t147 h9z9 => h9z9.elim (fun t148 h9z10 => h9z10.elim (fun t149 h9z11 => h9z11.elim (fun t150 h9z12 => h9z12.elim (fun t151 h9z13 => h9z13.elim (fun t152 h9z14 => h9z14.elim (fun t153 h9z15 => h9z15.elim (fun t154 h9z16 => h9z16.elim (fun t155 h9z17 => h9z17.elim (fun t156 h9z18 => h9z18.elim (fun t157 h9z19 => h9z19.elim (fun t158 h9z20 => h9z20.elim (fun t159 h9z21 => h9z21.elim (fun t160 h9z22 => h9z22.elim (fun heq923 h9z23 => ?_))))))))))))))))))))))))
              clear h9z0 h9z1 h9z2 h9z3 h9z4 h9z5 h9z6 h9z7 h9z8 h9z9 h9z10 h9z11 h9z12 h9z13 h9z14 h9z15 h9z16 h9z17 h9z18 h9z19 h9z20 h9z21 h9z22
              subst heq923
              subst h9z23
              have hP : va_P D vwCl [(h_s, .inl (cI, 335, .inl f_s)), (h_names, .inl (cJ, 36, .inr (.inl f_names))), (h_reserved, .inl (cJ, 23, .inr (.inl f_reserved))), (h_planRead, .inl (cI, 24, .inl f_planRead)), (h0, .inr (10, vL 67 F138)), (h_tape, .inl (cB, 940, .inl f_tape))] H := hP
              have hD : va_D A [(h_s, .inl (cI, 335, .inl f_s)), (h_names, .inl (cJ, 36, .inr (.inl f_names))), (h_reserved, .inl (cJ, 23, .inr (.inl f_reserved))), (h_planRead, .inl (cI, 24, .inl f_planRead)), (h0, .inr (10, vL 67 F138)), (h_tape, .inl (cB, 940, .inl f_tape))] := hD
              refine W.widen (k := 0) (n := 0) (Nat.le_of_ble_eq_true rfl) (Nat.le_of_ble_eq_true rfl) ?_
              refine lv_if_eq (tgt := 391) hx hb dX10_planLine_378 (by decide) (fun g => absurd g (by decide)) (fun _ => ?_)
              refine lv_aload_n hx hb dX10_planLine_381 rfl (lv_at hl 0 rfl) ?_
              refine lv_iconst (v := 1) hx hb dX10_planLine_382 (by decide) ?_
              refine lv_bipush (v := 60) hx hb dX10_planLine_383 (by decide) ?_
              have n167 : F138 1 = .ref h_tape := (SAME.at t146 (by decide) e_tape)
              have n168 : F138 3 = .int x_size := (SAME.at t146 (by decide) e_size)
              have n169 : F138 5 = .int x_limit := (SAME.at t146 (by decide) e_limit)
              have n170 : F138 19 = .int x_got := (SAME.at t146 (by decide) e_got)
              refine call_Vi (wr := [(h_s, .inl (cI, 335, .inl f_s)), (h_names, .inl (cJ, 36, .inr (.inl f_names))), (h_reserved, .inl (cJ, 23, .inr (.inl f_reserved))), (h_planRead, .inl (cI, 24, .inl f_planRead))]) (As := [.int 1, .int 60]) (rest := []) hx hb hml hown hw (m_X10_takes l D cI cJ cB cP cM cZ h0 h_tape F138 x_size y139 x_limit y140 y141 y143 y144 x_got f_tape 1 60 _ n167 n168 i_x_size t147 t148 n169 i_x_limit t149 t150 t151 t155 t156 n170 (by omega)) wV_X10_242_X10_takes dX10_planLine_385 hK hP hD hS hA [4, 5] [0, 1, 2, 3] rfl rfl (by decide) (by decide) (by decide) 0 10 rfl rfl GG.fb hG.at hl.1 rfl (Nat.le_of_ble_eq_true rfl) ⟨(Nat.le_of_ble_eq_true rfl), (Nat.le_of_ble_eq_true rfl)⟩ ⟨(Nat.le_of_ble_eq_true rfl), (Nat.le_of_ble_eq_true rfl)⟩ (fun r171 u H locs hp hP hD hS => ?_)
              have zl1 : (1 : Int32).toInt = 1 := by decide
              have zl60 : (60 : Int32).toInt = 60 := by decide
              rcases hp with hp | hp
              · obtain ⟨F172, y173, t174, t175, t176, t177, rfl, rfl⟩ := hp
                have hP : va_P D vwCl [(h_s, .inl (cI, 335, .inl f_s)), (h_names, .inl (cJ, 36, .inr (.inl f_names))), (h_reserved, .inl (cJ, 23, .inr (.inl f_reserved))), (h_planRead, .inl (cI, 24, .inl f_planRead)), (h0, .inr (10, vL 67 F172)), (h_tape, .inl (cB, 940, .inl f_tape))] H := hP
                have hD : va_D A [(h_s, .inl (cI, 335, .inl f_s)), (h_names, .inl (cJ, 36, .inr (.inl f_names))), (h_reserved, .inl (cJ, 23, .inr (.inl f_reserved))), (h_planRead, .inl (cI, 24, .inl f_planRead)), (h0, .inr (10, vL 67 F172)), (h_tape, .inl (cB, 940, .inl f_tape))] := hD
                refine W.widen (k := 0) (n := 0) (Nat.le_of_ble_eq_true rfl) (Nat.le_of_ble_eq_true rfl) ?_
                refine lv_if_ne (tgt := 393) hx hb dX10_planLine_388 (by decide) (fun g => absurd (by decide) g) (fun _ => ?_)
                refine lv_iconst (v := 0) hx hb dX10_planLine_391 (by decide) ?_
                exact ret_i (v := 0) hx hb hr hlocks hS (hP.sub (ws' := [(h0, .inr (10, vL 67 F172)), (h_tape, .inl (cB, 940, .inl f_tape)), (h_s, .inl (cI, 335, .inl f_s)), (h_names, .inl (cJ, 36, .inr (.inl f_names))), (h_reserved, .inl (cJ, 23, .inr (.inl f_reserved))), (h_planRead, .inl (cI, 24, .inl f_planRead))]) [4, 5, 0, 1, 2, 3] rfl) (hD.sub (ws' := [(h0, .inr (10, vL 67 F172)), (h_tape, .inl (cB, 940, .inl f_tape)), (h_s, .inl (cI, 335, .inl f_s)), (h_names, .inl (cJ, 36, .inr (.inl f_names))), (h_reserved, .inl (cJ, 23, .inr (.inl f_reserved))), (h_planRead, .inl (cI, 24, .inl f_planRead))]) [4, 5, 0, 1, 2, 3] (by decide) rfl) dX10_planLine_392 rfl (Nat.le_of_ble_eq_true rfl) (Nat.le_of_ble_eq_true rfl) (Or.inl ⟨F172, y139, y140, y141, y142, y143, y173, y141, y144, x_got, y145, x_jumped, x_heights, f_planRead, (SAME.tr (SAME.tr SAME.rf t146 (by decide)) t174 (by decide)), (SAME.at t174 (by decide) t147), t148, (SAME.at t174 (by decide) t149), t150, (SAME.at t174 (by decide) t151), (SAME.at t174 (by decide) t153), (SAME.at t174 (by decide) t155), t175, (ir_wk t176 (by decide) (by decide)), t177, (SAME.at t174 (by decide) t156), (SAME.at t174 (by decide) n170), (SAME.at t174 (by decide) t157), (SAME.at t174 (by decide) (SAME.at t146 (by decide) e_jumped)), (SAME.at t174 (by decide) (SAME.at t146 (by decide) e_heights)), s_planRead_1, s_planRead_10, (by omega), rfl, rfl⟩)
              · refine hp.elim (fun F178 h9z0 => h9z0.elim (fun y179 h9z1 => h9z1.elim (fun y180 h9z2 => h9z2.elim (fun y181 h9z3 => h9z3.elim (fun y182 h9z4 => h9z4.elim (fun y183 h9z5 => h9z5.elim (fun y184 h9z6 => h9z6.elim (fun y185 h9z7 => h9z7.elim (fun t186 h9z8 => h9z8.elim (fun t187 h9z9 => h9z9.elim (fun t188 h9z10 => h9z10.elim (fun t189 h9z11 => h9z11.elim (fun t190 h9z12 => h9z12.elim (fun t191 h9z13 => h9z13.elim (fun t192 h9z14 => h9z14.elim (fun t193 h9z15 => h9z15.elim (fun t194 h9z16 => h9z16.elim (fun t195 h9z17 => h9z17.elim (fun t196 h9z18 => h9z18.elim (fun t197 h9z19 => h9z19.elim (fun t198 h9z20 => h9z20.elim (fun t199 h9z21 => h9z21.elim (fun t200 h9z22 => h9z22.elim (fun t201 h9z23 => h9z23.elim (fun t202 h9z24 => h9z24.elim (fun t203 h9z25 => h9z25.elim (fun t204 h9z26 => h9z26.elim (fun heq927 h9z27 => ?_))))))))))))))))))))))))))))
                clear h9z0 h9z1 h9z2 h9z3 h9z4 h9z5 h9z6 h9z7 h9z8 h9z9 h9z10 h9z11 h9z12 h9z13 h9z14 h9z15 h9z16 h9z17 h9z18 h9z19 h9z20 h9z21 h9z22 h9z23 h9z24 h9z25 h9z26
                subst heq927
                subst h9z27
                clear t159 t160
                have hP : va_P D vwCl [(h_s, .inl (cI, 335, .inl f_s)), (h_names, .inl (cJ, 36, .inr (.inl f_names))), (h_reserved, .inl (cJ, 23, .inr (.inl f_reserved))), (h_planRead, .inl (cI, 24, .inl f_planRead)), (h0, .inr (10, vL 67 F178)), (h_tape, .inl (cB, 940, .inl f_tape))] H := hP
                have hD : va_D A [(h_s, .inl (cI, 335, .inl f_s)), (h_names, .inl (cJ, 36, .inr (.inl f_names))), (h_reserved, .inl (cJ, 23, .inr (.inl f_reserved))), (h_planRead, .inl (cI, 24, .inl f_planRead)), (h0, .inr (10, vL 67 F178)), (h_tape, .inl (cB, 940, .inl f_tape))] := hD
                refine W.widen (k := 0) (n := 0) (Nat.le_of_ble_eq_true rfl) (Nat.le_of_ble_eq_true rfl) ?_
                have k206 : 2 ≤ y140.toInt ∧ y140.toInt ≤ 2 := ⟨Int.le_trans (Int.le_refl _) (Int.le_of_eq t198.symm), Int.le_trans (Int.le_of_eq t198) (Int.le_refl _)⟩
                have k207 : 1 ≤ y143.toInt ∧ y143.toInt ≤ 2147483647 := ⟨Int.le_trans (Int.le_refl _) t199, (ir_any _).2⟩
                have k208 : 1 ≤ y143.toInt ∧ y143.toInt ≤ 60 := ⟨k207.1, Int.le_trans t200 (Int.le_refl _)⟩
                refine lv_if_ne (tgt := 393) hx hb dX10_planLine_388 (by decide) (fun _ => ?_) (fun g => absurd g (by decide))
                refine lv_aload_n hx hb dX10_planLine_393 rfl (lv_at hl 0 rfl) ?_
                have n209 : F138 22 = .ref h_planRead := (SAME.at t146 (by decide) e_planRead)
                have n210 : F178 22 = .ref h_planRead := (SAME.at t186 (by decide) n209)
                refine get_f (D := D) (ci := 10) (v := .ref h_planRead) (C := RX10) (T := TX10) (N := 67) hx hb hw inAX10 hown hK hP 4 rfl rfl 22 (by decide) (hw _ q_1283) (fun _ h9 => h9) n210 dX10_planLine_394 ?_
                refine lv_bipush (v := 11) hx hb dX10_planLine_397 (by decide) ?_
                refine lv_aload_n hx hb dX10_planLine_399 rfl (lv_at hl 0 rfl) ?_
                refine get_f (D := D) (ci := 10) (v := .int y185) (C := RX10) (T := TX10) (N := 67) hx hb hw inAX10 hown hK hP 4 rfl rfl 19 (by decide) (hw _ q_1280) (fun _ h9 => h9) t197 dX10_planLine_400 ?_
                obtain ⟨g211, eg211⟩ : ∃ z : Nat → Int32, upd f_planRead 11 y185 = z := ⟨_, rfl⟩
                have r212 : SG 1 4 0 11 g211 := by rw [← eg211]; exact s_planRead_1.upN (Or.inr (Or.inl (by decide)))
                have r213 : SG 10 10 0 5 g211 := by rw [← eg211]; exact s_planRead_10.upN (Or.inr (Or.inl (by decide)))
                refine iast_n hx hb hK hP hD hS 3 0 rfl rfl 11 rfl (Nat.le_of_ble_eq_true rfl) (Nat.le_of_ble_eq_true rfl) eg211 dX10_planLine_403 (fun H locs hP hD hS => ?_)
                have hP : va_P D vwCl [(h_s, .inl (cI, 335, .inl f_s)), (h_names, .inl (cJ, 36, .inr (.inl f_names))), (h_reserved, .inl (cJ, 23, .inr (.inl f_reserved))), (h_planRead, .inl (cI, 24, .inl g211)), (h0, .inr (10, vL 67 F178)), (h_tape, .inl (cB, 940, .inl f_tape))] H := hP
                have hD : va_D A [(h_s, .inl (cI, 335, .inl f_s)), (h_names, .inl (cJ, 36, .inr (.inl f_names))), (h_reserved, .inl (cJ, 23, .inr (.inl f_reserved))), (h_planRead, .inl (cI, 24, .inl g211)), (h0, .inr (10, vL 67 F178)), (h_tape, .inl (cB, 940, .inl f_tape))] := hD
                refine lv_iconst (v := 1) hx hb dX10_planLine_404 (by decide) ?_
                exact ret_i (v := 1) hx hb hr hlocks hS (hP.sub (ws' := [(h0, .inr (10, vL 67 F178)), (h_tape, .inl (cB, 940, .inl f_tape)), (h_s, .inl (cI, 335, .inl f_s)), (h_names, .inl (cJ, 36, .inr (.inl f_names))), (h_reserved, .inl (cJ, 23, .inr (.inl f_reserved))), (h_planRead, .inl (cI, 24, .inl g211))]) [4, 5, 0, 1, 2, 3] rfl) (hD.sub (ws' := [(h0, .inr (10, vL 67 F178)), (h_tape, .inl (cB, 940, .inl f_tape)), (h_s, .inl (cI, 335, .inl f_s)), (h_names, .inl (cJ, 36, .inr (.inl f_names))), (h_reserved, .inl (cJ, 23, .inr (.inl f_reserved))), (h_planRead, .inl (cI, 24, .inl g211))]) [4, 5, 0, 1, 2, 3] (by decide) rfl) dX10_planLine_405 rfl (Nat.le_of_ble_eq_true rfl) (Nat.le_of_ble_eq_true rfl) (Or.inr ⟨F178, y179, y180, y181, y182, y183, x_fault, x_faultAt, y184, y185, y145, x_jumped, x_heights, g211, (SAME.tr (SAME.tr SAME.rf t146 (by decide)) t186 (by decide)), t187, t188, t189, t190, t191, t192, t193, t194, t195, (SAME.at t186 (by decide) (SAME.at t146 (by decide) e_fault)), (SAME.at t186 (by decide) (SAME.at t146 (by decide) e_faultAt)), t196, t197, (SAME.at t186 (by decide) t157), (SAME.at t186 (by decide) (SAME.at t146 (by decide) e_jumped)), (SAME.at t186 (by decide) (SAME.at t146 (by decide) e_heights)), r212, r213, (by have zl1 : (1 : Int32).toInt = 1 := (by decide); omega), (by have zl1 : (1 : Int32).toInt = 1 := (by decide); omega), (by omega), rfl, rfl⟩)
            · obtain ⟨F161, t162, t163, t164, t165, rfl, rfl⟩ := hp
              have hP : va_P D vwCl [(h_s, .inl (cI, 335, .inl f_s)), (h_names, .inl (cJ, 36, .inr (.inl f_names))), (h_reserved, .inl (cJ, 23, .inr (.inl f_reserved))), (h_planRead, .inl (cI, 24, .inl f_planRead)), (h0, .inr (10, vL 67 F161)), (h_tape, .inl (cB, 940, .inl f_tape))] H := hP
              have hD : va_D A [(h_s, .inl (cI, 335, .inl f_s)), (h_names, .inl (cJ, 36, .inr (.inl f_names))), (h_reserved, .inl (cJ, 23, .inr (.inl f_reserved))), (h_planRead, .inl (cI, 24, .inl f_planRead)), (h0, .inr (10, vL 67 F161)), (h_tape, .inl (cB, 940, .inl f_tape))] := hD
              refine W.widen (k := 0) (n := 0) (Nat.le_of_ble_eq_true rfl) (Nat.le_of_ble_eq_true rfl) ?_
              refine lv_if_eq (tgt := 391) hx hb dX10_planLine_378 (by decide) (fun _ => ?_) (fun g => absurd (by decide) g)
              refine lv_iconst (v := 0) hx hb dX10_planLine_391 (by decide) ?_
              exact ret_i (v := 0) hx hb hr hlocks hS (hP.sub (ws' := [(h0, .inr (10, vL 67 F161)), (h_tape, .inl (cB, 940, .inl f_tape)), (h_s, .inl (cI, 335, .inl f_s)), (h_names, .inl (cJ, 36, .inr (.inl f_names))), (h_reserved, .inl (cJ, 23, .inr (.inl f_reserved))), (h_planRead, .inl (cI, 24, .inl f_planRead))]) [4, 5, 0, 1, 2, 3] rfl) (hD.sub (ws' := [(h0, .inr (10, vL 67 F161)), (h_tape, .inl (cB, 940, .inl f_tape)), (h_s, .inl (cI, 335, .inl f_s)), (h_names, .inl (cJ, 36, .inr (.inl f_names))), (h_reserved, .inl (cJ, 23, .inr (.inl f_reserved))), (h_planRead, .inl (cI, 24, .inl f_planRead))]) [4, 5, 0, 1, 2, 3] (by decide) rfl) dX10_planLine_392 rfl (Nat.le_of_ble_eq_true rfl) (Nat.le_of_ble_eq_true rfl) (Or.inl ⟨F161, x_p, x_token, x_at, x_span, x_number, 3, x_at, x_word, x_got, x_onces, x_jumped, x_heights, f_planRead, (SAME.tr SAME.rf t162 (by decide)), (SAME.at t162 (by decide) e_p), i_x_p, (SAME.at t162 (by decide) e_token), i_x_token, (SAME.at t162 (by decide) e_at), (SAME.at t162 (by decide) e_span), (SAME.at t162 (by decide) e_number), t163, (show 1 ≤ (3 : Int32).toInt ∧ (3 : Int32).toInt ≤ 3 by decide), t164, (SAME.at t162 (by decide) e_word), (SAME.at t162 (by decide) e_got), (SAME.at t162 (by decide) e_onces), (SAME.at t162 (by decide) e_jumped), (SAME.at t162 (by decide) e_heights), s_planRead_1, s_planRead_10, (by have zl3 : (3 : Int32).toInt = 3 := (by decide); omega), rfl, rfl⟩)
        · have dc23 : r19.toInt ≠ 0 := ne_i (a := r19.toInt) (b := 0) rfl rfl c23
          have k214 : 1 ≤ r19.toInt ∧ r19.toInt ≤ 1 := ⟨ne_lo dc23 t20.1 ⟨Int.le_refl _, Int.le_refl _⟩ (by decide), t20.2⟩
          refine lv_aload_n hx hb dX10_planLine_330 rfl (lv_at hl 0 rfl) ?_
          refine lv_iconst (v := 1) hx hb dX10_planLine_331 (by decide) ?_
          refine call_Vi (wr := [(h_s, .inl (cI, 335, .inl f_s)), (h_names, .inl (cJ, 36, .inr (.inl f_names))), (h_reserved, .inl (cJ, 23, .inr (.inl f_reserved))), (h_planRead, .inl (cI, 24, .inl f_planRead))]) (As := [.int 1]) (rest := []) hx hb hml hown hw (m_X10_isOnce l D cI cJ cB cP cM cZ h0 h_tape Fh x_size x_p x_limit x_token x_at x_number x_word x_onces f_tape 1 _ e_tape e_size i_x_size e_p i_x_p e_limit i_x_limit e_token i_x_token e_at e_number e_word e_onces (by omega)) wV_X10_239_X10_isOnce dX10_planLine_332 hK hP hD hS hA [5, 0] [1, 2, 3, 4] rfl rfl (by decide) (by decide) (by decide) 0 10 rfl rfl GG.fb hG.at hl.1 rfl (Nat.le_of_ble_eq_true rfl) ⟨(Nat.le_of_ble_eq_true rfl), (Nat.le_of_ble_eq_true rfl)⟩ ⟨(Nat.le_of_ble_eq_true rfl), (Nat.le_of_ble_eq_true rfl)⟩ (fun r215 u H locs hp hP hD hS => ?_)
          have zl1 : (1 : Int32).toInt = 1 := by decide
          rcases hp with hp | hp
          · refine hp.elim (fun F216 h9z0 => h9z0.elim (fun y217 h9z1 => h9z1.elim (fun y218 h9z2 => h9z2.elim (fun y219 h9z3 => h9z3.elim (fun y220 h9z4 => h9z4.elim (fun y221 h9z5 => h9z5.elim (fun y222 h9z6 => h9z6.elim (fun y223 h9z7 => h9z7.elim (fun t224 h9z8 => h9z8.elim (fun t225 h9z9 => h9z9.elim (fun t226 h9z10 => h9z10.elim (fun t227 h9z11 => h9z11.elim (fun t228 h9z12 => h9z12.elim (fun t229 h9z13 => h9z13.elim (fun t230 h9z14 => h9z14.elim (fun t231 h9z15 => h9z15.elim (fun t232 h9z16 => h9z16.elim (fun t233 h9z17 => h9z17.elim (fun t234 h9z18 => h9z18.elim (fun t235 h9z19 => h9z19.elim (fun t236 h9z20 => h9z20.elim (fun t237 h9z21 => h9z21.elim (fun t238 h9z22 => h9z22.elim (fun heq923 h9z23 => ?_))))))))))))))))))))))))
            clear h9z0 h9z1 h9z2 h9z3 h9z4 h9z5 h9z6 h9z7 h9z8 h9z9 h9z10 h9z11 h9z12 h9z13 h9z14 h9z15 h9z16 h9z17 h9z18 h9z19 h9z20 h9z21 h9z22
            subst heq923
            subst h9z23
            have hP : va_P D vwCl [(h_s, .inl (cI, 335, .inl f_s)), (h_names, .inl (cJ, 36, .inr (.inl f_names))), (h_reserved, .inl (cJ, 23, .inr (.inl f_reserved))), (h_planRead, .inl (cI, 24, .inl f_planRead)), (h0, .inr (10, vL 67 F216)), (h_tape, .inl (cB, 940, .inl f_tape))] H := hP
            have hD : va_D A [(h_s, .inl (cI, 335, .inl f_s)), (h_names, .inl (cJ, 36, .inr (.inl f_names))), (h_reserved, .inl (cJ, 23, .inr (.inl f_reserved))), (h_planRead, .inl (cI, 24, .inl f_planRead)), (h0, .inr (10, vL 67 F216)), (h_tape, .inl (cB, 940, .inl f_tape))] := hD
            refine W.widen (k := 0) (n := 0) (Nat.le_of_ble_eq_true rfl) (Nat.le_of_ble_eq_true rfl) ?_
            refine lv_if_eq (tgt := 348) hx hb dX10_planLine_335 (by decide) (fun g => absurd g (by decide)) (fun _ => ?_)
            refine lv_aload_n hx hb dX10_planLine_338 rfl (lv_at hl 0 rfl) ?_
            refine lv_iconst (v := 0) hx hb dX10_planLine_339 (by decide) ?_
            refine lv_bipush (v := 99) hx hb dX10_planLine_340 (by decide) ?_
            have n245 : F216 1 = .ref h_tape := (SAME.at t224 (by decide) e_tape)
            have n246 : F216 3 = .int x_size := (SAME.at t224 (by decide) e_size)
            have n247 : F216 5 = .int x_limit := (SAME.at t224 (by decide) e_limit)
            have n248 : F216 19 = .int x_got := (SAME.at t224 (by decide) e_got)
            refine call_Vi (wr := [(h_s, .inl (cI, 335, .inl f_s)), (h_names, .inl (cJ, 36, .inr (.inl f_names))), (h_reserved, .inl (cJ, 23, .inr (.inl f_reserved))), (h_planRead, .inl (cI, 24, .inl f_planRead))]) (As := [.int 0, .int 99]) (rest := []) hx hb hml hown hw (m_X10_takes l D cI cJ cB cP cM cZ h0 h_tape F216 x_size y217 x_limit y218 y219 y221 y222 x_got f_tape 0 99 _ n245 n246 i_x_size t225 t226 n247 i_x_limit t227 t228 t229 t233 t234 n248 (by omega)) wV_X10_242_X10_takes dX10_planLine_342 hK hP hD hS hA [4, 5] [0, 1, 2, 3] rfl rfl (by decide) (by decide) (by decide) 0 10 rfl rfl GG.fb hG.at hl.1 rfl (Nat.le_of_ble_eq_true rfl) ⟨(Nat.le_of_ble_eq_true rfl), (Nat.le_of_ble_eq_true rfl)⟩ ⟨(Nat.le_of_ble_eq_true rfl), (Nat.le_of_ble_eq_true rfl)⟩ (fun r249 u H locs hp hP hD hS => ?_)
            have zl0 : (0 : Int32).toInt = 0 := by decide
            have zl99 : (99 : Int32).toInt = 99 := by decide
            rcases hp with hp | hp
            · obtain ⟨F250, y251, t252, t253, t254, t255, rfl, rfl⟩ := hp
              have hP : va_P D vwCl [(h_s, .inl (cI, 335, .inl f_s)), (h_names, .inl (cJ, 36, .inr (.inl f_names))), (h_reserved, .inl (cJ, 23, .inr (.inl f_reserved))), (h_planRead, .inl (cI, 24, .inl f_planRead)), (h0, .inr (10, vL 67 F250)), (h_tape, .inl (cB, 940, .inl f_tape))] H := hP
              have hD : va_D A [(h_s, .inl (cI, 335, .inl f_s)), (h_names, .inl (cJ, 36, .inr (.inl f_names))), (h_reserved, .inl (cJ, 23, .inr (.inl f_reserved))), (h_planRead, .inl (cI, 24, .inl f_planRead)), (h0, .inr (10, vL 67 F250)), (h_tape, .inl (cB, 940, .inl f_tape))] := hD
              refine W.widen (k := 0) (n := 0) (Nat.le_of_ble_eq_true rfl) (Nat.le_of_ble_eq_true rfl) ?_
              refine lv_if_ne (tgt := 350) hx hb dX10_planLine_345 (by decide) (fun g => absurd (by decide) g) (fun _ => ?_)
              refine lv_iconst (v := 0) hx hb dX10_planLine_348 (by decide) ?_
              exact ret_i (v := 0) hx hb hr hlocks hS (hP.sub (ws' := [(h0, .inr (10, vL 67 F250)), (h_tape, .inl (cB, 940, .inl f_tape)), (h_s, .inl (cI, 335, .inl f_s)), (h_names, .inl (cJ, 36, .inr (.inl f_names))), (h_reserved, .inl (cJ, 23, .inr (.inl f_reserved))), (h_planRead, .inl (cI, 24, .inl f_planRead))]) [4, 5, 0, 1, 2, 3] rfl) (hD.sub (ws' := [(h0, .inr (10, vL 67 F250)), (h_tape, .inl (cB, 940, .inl f_tape)), (h_s, .inl (cI, 335, .inl f_s)), (h_names, .inl (cJ, 36, .inr (.inl f_names))), (h_reserved, .inl (cJ, 23, .inr (.inl f_reserved))), (h_planRead, .inl (cI, 24, .inl f_planRead))]) [4, 5, 0, 1, 2, 3] (by decide) rfl) dX10_planLine_349 rfl (Nat.le_of_ble_eq_true rfl) (Nat.le_of_ble_eq_true rfl) (Or.inl ⟨F250, y217, y218, y219, y220, y221, y251, y219, y222, x_got, y223, x_jumped, x_heights, f_planRead, (SAME.tr (SAME.tr SAME.rf t224 (by decide)) t252 (by decide)), (SAME.at t252 (by decide) t225), t226, (SAME.at t252 (by decide) t227), t228, (SAME.at t252 (by decide) t229), (SAME.at t252 (by decide) t231), (SAME.at t252 (by decide) t233), t253, (ir_wk t254 (by decide) (by decide)), t255, (SAME.at t252 (by decide) t234), (SAME.at t252 (by decide) n248), (SAME.at t252 (by decide) t235), (SAME.at t252 (by decide) (SAME.at t224 (by decide) e_jumped)), (SAME.at t252 (by decide) (SAME.at t224 (by decide) e_heights)), s_planRead_1, s_planRead_10, (by omega), rfl, rfl⟩)
            · refine hp.elim (fun F256 h9z0 => h9z0.elim (fun y257 h9z1 => h9z1.elim (fun y258 h9z2 => h9z2.elim (fun y259 h9z3 => h9z3.elim (fun y260 h9z4 => h9z4.elim (fun y261 h9z5 => h9z5.elim (fun y262 h9z6 => h9z6.elim (fun y263 h9z7 => h9z7.elim (fun t264 h9z8 => h9z8.elim (fun t265 h9z9 => h9z9.elim (fun t266 h9z10 => h9z10.elim (fun t267 h9z11 => h9z11.elim (fun t268 h9z12 => h9z12.elim (fun t269 h9z13 => h9z13.elim (fun t270 h9z14 => h9z14.elim (fun t271 h9z15 => h9z15.elim (fun t272 h9z16 => h9z16.elim (fun t273 h9z17 => h9z17.elim (fun t274 h9z18 => h9z18.elim (fun t275 h9z19 => h9z19.elim (fun t276 h9z20 => h9z20.elim (fun t277 h9z21 => h9z21.elim (fun t278 h9z22 => h9z22.elim (fun t279 h9z23 => h9z23.elim (fun t280 h9z24 => h9z24.elim (fun t281 h9z25 => h9z25.elim (fun t282 h9z26 => h9z26.elim (fun heq927 h9z27 => ?_))))))))))))))))))))))))))))
              clear h9z0 h9z1 h9z2 h9z3 h9z4 h9z5 h9z6 h9z7 h9z8 h9z9 h9z10 h9z11 h9z12 h9z13 h9z14 h9z15 h9z16 h9z17 h9z18 h9z19 h9z20 h9z21 h9z22 h9z23 h9z24 h9z25 h9z26
              subst heq927
              subst h9z27
              clear t237 t238
              have hP : va_P D vwCl [(h_s, .inl (cI, 335, .inl f_s)), (h_names, .inl (cJ, 36, .inr (.inl f_names))), (h_reserved, .inl (cJ, 23, .inr (.inl f_reserved))), (h_planRead, .inl (cI, 24, .inl f_planRead)), (h0, .inr (10, vL 67 F256)), (h_tape, .inl (cB, 940, .inl f_tape))] H := hP
              have hD : va_D A [(h_s, .inl (cI, 335, .inl f_s)), (h_names, .inl (cJ, 36, .inr (.inl f_names))), (h_reserved, .inl (cJ, 23, .inr (.inl f_reserved))), (h_planRead, .inl (cI, 24, .inl f_planRead)), (h0, .inr (10, vL 67 F256)), (h_tape, .inl (cB, 940, .inl f_tape))] := hD
              refine W.widen (k := 0) (n := 0) (Nat.le_of_ble_eq_true rfl) (Nat.le_of_ble_eq_true rfl) ?_
              have k284 : 2 ≤ y218.toInt ∧ y218.toInt ≤ 2 := ⟨Int.le_trans (Int.le_refl _) (Int.le_of_eq t276.symm), Int.le_trans (Int.le_of_eq t276) (Int.le_refl _)⟩
              have k285 : 0 ≤ y221.toInt ∧ y221.toInt ≤ 2147483647 := ⟨Int.le_trans (Int.le_refl _) t277, (ir_any _).2⟩
              have k286 : 0 ≤ y221.toInt ∧ y221.toInt ≤ 99 := ⟨k285.1, Int.le_trans t278 (Int.le_refl _)⟩
              refine lv_if_ne (tgt := 350) hx hb dX10_planLine_345 (by decide) (fun _ => ?_) (fun g => absurd g (by decide))
              refine lv_aload_n hx hb dX10_planLine_350 rfl (lv_at hl 0 rfl) ?_
              have n287 : F216 22 = .ref h_planRead := (SAME.at t224 (by decide) e_planRead)
              have n288 : F256 22 = .ref h_planRead := (SAME.at t264 (by decide) n287)
              refine get_f (D := D) (ci := 10) (v := .ref h_planRead) (C := RX10) (T := TX10) (N := 67) hx hb hw inAX10 hown hK hP 4 rfl rfl 22 (by decide) (hw _ q_1283) (fun _ h9 => h9) n288 dX10_planLine_351 ?_
              refine lv_bipush (v := 9) hx hb dX10_planLine_354 (by decide) ?_
              refine lv_aload_n hx hb dX10_planLine_356 rfl (lv_at hl 0 rfl) ?_
              refine get_f (D := D) (ci := 10) (v := .int y263) (C := RX10) (T := TX10) (N := 67) hx hb hw inAX10 hown hK hP 4 rfl rfl 19 (by decide) (hw _ q_1280) (fun _ h9 => h9) t275 dX10_planLine_357 ?_
              obtain ⟨g289, eg289⟩ : ∃ z : Nat → Int32, upd f_planRead 9 y263 = z := ⟨_, rfl⟩
              have r290 : SG 1 4 0 11 g289 := by rw [← eg289]; exact s_planRead_1.upN (Or.inr (Or.inl (by decide)))
              have r291 : SG 10 10 0 5 g289 := by rw [← eg289]; exact s_planRead_10.upN (Or.inl (by decide))
              refine iast_n hx hb hK hP hD hS 3 0 rfl rfl 9 rfl (Nat.le_of_ble_eq_true rfl) (Nat.le_of_ble_eq_true rfl) eg289 dX10_planLine_360 (fun H locs hP hD hS => ?_)
              have hP : va_P D vwCl [(h_s, .inl (cI, 335, .inl f_s)), (h_names, .inl (cJ, 36, .inr (.inl f_names))), (h_reserved, .inl (cJ, 23, .inr (.inl f_reserved))), (h_planRead, .inl (cI, 24, .inl g289)), (h0, .inr (10, vL 67 F256)), (h_tape, .inl (cB, 940, .inl f_tape))] H := hP
              have hD : va_D A [(h_s, .inl (cI, 335, .inl f_s)), (h_names, .inl (cJ, 36, .inr (.inl f_names))), (h_reserved, .inl (cJ, 23, .inr (.inl f_reserved))), (h_planRead, .inl (cI, 24, .inl g289)), (h0, .inr (10, vL 67 F256)), (h_tape, .inl (cB, 940, .inl f_tape))] := hD
              refine lv_iconst (v := 1) hx hb dX10_planLine_361 (by decide) ?_
              exact ret_i (v := 1) hx hb hr hlocks hS (hP.sub (ws' := [(h0, .inr (10, vL 67 F256)), (h_tape, .inl (cB, 940, .inl f_tape)), (h_s, .inl (cI, 335, .inl f_s)), (h_names, .inl (cJ, 36, .inr (.inl f_names))), (h_reserved, .inl (cJ, 23, .inr (.inl f_reserved))), (h_planRead, .inl (cI, 24, .inl g289))]) [4, 5, 0, 1, 2, 3] rfl) (hD.sub (ws' := [(h0, .inr (10, vL 67 F256)), (h_tape, .inl (cB, 940, .inl f_tape)), (h_s, .inl (cI, 335, .inl f_s)), (h_names, .inl (cJ, 36, .inr (.inl f_names))), (h_reserved, .inl (cJ, 23, .inr (.inl f_reserved))), (h_planRead, .inl (cI, 24, .inl g289))]) [4, 5, 0, 1, 2, 3] (by decide) rfl) dX10_planLine_362 rfl (Nat.le_of_ble_eq_true rfl) (Nat.le_of_ble_eq_true rfl) (Or.inr ⟨F256, y257, y258, y259, y260, y261, x_fault, x_faultAt, y262, y263, y223, x_jumped, x_heights, g289, (SAME.tr (SAME.tr SAME.rf t224 (by decide)) t264 (by decide)), t265, t266, t267, t268, t269, t270, t271, t272, t273, (SAME.at t264 (by decide) (SAME.at t224 (by decide) e_fault)), (SAME.at t264 (by decide) (SAME.at t224 (by decide) e_faultAt)), t274, t275, (SAME.at t264 (by decide) t235), (SAME.at t264 (by decide) (SAME.at t224 (by decide) e_jumped)), (SAME.at t264 (by decide) (SAME.at t224 (by decide) e_heights)), r290, r291, (by have zl1 : (1 : Int32).toInt = 1 := (by decide); omega), (by have zl1 : (1 : Int32).toInt = 1 := (by decide); omega), (by omega), rfl, rfl⟩)
          · obtain ⟨F239, t240, t241, t242, t243, rfl, rfl⟩ := hp
            have hP : va_P D vwCl [(h_s, .inl (cI, 335, .inl f_s)), (h_names, .inl (cJ, 36, .inr (.inl f_names))), (h_reserved, .inl (cJ, 23, .inr (.inl f_reserved))), (h_planRead, .inl (cI, 24, .inl f_planRead)), (h0, .inr (10, vL 67 F239)), (h_tape, .inl (cB, 940, .inl f_tape))] H := hP
            have hD : va_D A [(h_s, .inl (cI, 335, .inl f_s)), (h_names, .inl (cJ, 36, .inr (.inl f_names))), (h_reserved, .inl (cJ, 23, .inr (.inl f_reserved))), (h_planRead, .inl (cI, 24, .inl f_planRead)), (h0, .inr (10, vL 67 F239)), (h_tape, .inl (cB, 940, .inl f_tape))] := hD
            refine W.widen (k := 0) (n := 0) (Nat.le_of_ble_eq_true rfl) (Nat.le_of_ble_eq_true rfl) ?_
            refine lv_if_eq (tgt := 348) hx hb dX10_planLine_335 (by decide) (fun _ => ?_) (fun g => absurd (by decide) g)
            refine lv_iconst (v := 0) hx hb dX10_planLine_348 (by decide) ?_
            exact ret_i (v := 0) hx hb hr hlocks hS (hP.sub (ws' := [(h0, .inr (10, vL 67 F239)), (h_tape, .inl (cB, 940, .inl f_tape)), (h_s, .inl (cI, 335, .inl f_s)), (h_names, .inl (cJ, 36, .inr (.inl f_names))), (h_reserved, .inl (cJ, 23, .inr (.inl f_reserved))), (h_planRead, .inl (cI, 24, .inl f_planRead))]) [4, 5, 0, 1, 2, 3] rfl) (hD.sub (ws' := [(h0, .inr (10, vL 67 F239)), (h_tape, .inl (cB, 940, .inl f_tape)), (h_s, .inl (cI, 335, .inl f_s)), (h_names, .inl (cJ, 36, .inr (.inl f_names))), (h_reserved, .inl (cJ, 23, .inr (.inl f_reserved))), (h_planRead, .inl (cI, 24, .inl f_planRead))]) [4, 5, 0, 1, 2, 3] (by decide) rfl) dX10_planLine_349 rfl (Nat.le_of_ble_eq_true rfl) (Nat.le_of_ble_eq_true rfl) (Or.inl ⟨F239, x_p, x_token, x_at, x_span, x_number, 3, x_at, x_word, x_got, x_onces, x_jumped, x_heights, f_planRead, (SAME.tr SAME.rf t240 (by decide)), (SAME.at t240 (by decide) e_p), i_x_p, (SAME.at t240 (by decide) e_token), i_x_token, (SAME.at t240 (by decide) e_at), (SAME.at t240 (by decide) e_span), (SAME.at t240 (by decide) e_number), t241, (show 1 ≤ (3 : Int32).toInt ∧ (3 : Int32).toInt ≤ 3 by decide), t242, (SAME.at t240 (by decide) e_word), (SAME.at t240 (by decide) e_got), (SAME.at t240 (by decide) e_onces), (SAME.at t240 (by decide) e_jumped), (SAME.at t240 (by decide) e_heights), s_planRead_1, s_planRead_10, (by have zl3 : (3 : Int32).toInt = 3 := (by decide); omega), rfl, rfl⟩)
      · have dc17 : r13.toInt ≠ 0 := ne_i (a := r13.toInt) (b := 0) rfl rfl c17
        have k292 : 1 ≤ r13.toInt ∧ r13.toInt ≤ 1 := ⟨ne_lo dc17 t14.1 ⟨Int.le_refl _, Int.le_refl _⟩ (by decide), t14.2⟩
        refine lv_aload_n hx hb dX10_planLine_211 rfl (lv_at hl 0 rfl) ?_
        refine call_Vv (wr := [(h_s, .inl (cI, 335, .inl f_s)), (h_names, .inl (cJ, 36, .inr (.inl f_names))), (h_reserved, .inl (cJ, 23, .inr (.inl f_reserved))), (h_planRead, .inl (cI, 24, .inl f_planRead))]) (As := []) (rest := []) hx hb hml hown hw (m_X10_next l D cI cJ cB cP cM cZ h0 h_tape Fh x_size x_p x_limit x_token x_number x_word f_tape _ e_tape e_size i_x_size e_p i_x_p e_limit i_x_limit e_token i_x_token e_number e_word (by omega)) wV_X10_208_X10_next dX10_planLine_212 hK hP hD hS hA [5, 0] [1, 2, 3, 4] rfl rfl (by decide) (by decide) (by decide) 0 10 rfl rfl GG.fb hG.at hl.1 rfl (Nat.le_of_ble_eq_true rfl) ⟨(Nat.le_of_ble_eq_true rfl), (Nat.le_of_ble_eq_true rfl)⟩ ⟨(Nat.le_of_ble_eq_true rfl), (Nat.le_of_ble_eq_true rfl)⟩ (fun u H locs hp hP hD hS => ?_)
        obtain ⟨F294, y295, y296, y297, y298, y299, y300, t301, t302, t303, t304, t305, t306, t307, t308, t309, t310, t311, t312, t313, t314, rfl⟩ := hp
        have hP : va_P D vwCl [(h_s, .inl (cI, 335, .inl f_s)), (h_names, .inl (cJ, 36, .inr (.inl f_names))), (h_reserved, .inl (cJ, 23, .inr (.inl f_reserved))), (h_planRead, .inl (cI, 24, .inl f_planRead)), (h0, .inr (10, vL 67 F294)), (h_tape, .inl (cB, 940, .inl f_tape))] H := hP
        have hD : va_D A [(h_s, .inl (cI, 335, .inl f_s)), (h_names, .inl (cJ, 36, .inr (.inl f_names))), (h_reserved, .inl (cJ, 23, .inr (.inl f_reserved))), (h_planRead, .inl (cI, 24, .inl f_planRead)), (h0, .inr (10, vL 67 F294)), (h_tape, .inl (cB, 940, .inl f_tape))] := hD
        refine W.widen (k := 0) (n := 0) (Nat.le_of_ble_eq_true rfl) (Nat.le_of_ble_eq_true rfl) ?_
        refine lv_aload_n hx hb dX10_planLine_215 rfl (lv_at hl 0 rfl) ?_
        refine get_f (D := D) (ci := 10) (v := .int y296) (C := RX10) (T := TX10) (N := 67) hx hb hw inAX10 hown hK hP 4 rfl rfl 11 (by decide) (hw _ q_1272) (fun _ h9 => h9) t304 dX10_planLine_216 ?_
        refine lv_iconst (v := 2) hx hb dX10_planLine_219 (by decide) ?_
        refine lv_icmp_eq (tgt := 229) hx hb dX10_planLine_220 (by decide) (fun c316 => ?_) (fun c316 => ?_)
        · have dc316 : y296.toInt = 2 := eq_i (a := y296.toInt) (b := 2) rfl rfl c316
          have k317 : 2 ≤ y296.toInt ∧ y296.toInt ≤ 2 := ⟨Int.le_trans (Int.le_refl _) (Int.le_of_eq dc316.symm), Int.le_trans (Int.le_of_eq dc316) (Int.le_refl _)⟩
          have k318 : 0 ≤ y299.toInt ∧ y299.toInt ≤ 999 := ⟨by omega, by omega⟩
          refine lv_aload_n hx hb dX10_planLine_229 rfl (lv_at hl 0 rfl) ?_
          refine get_f (D := D) (ci := 10) (v := .int y299) (C := RX10) (T := TX10) (N := 67) hx hb hw inAX10 hown hK hP 4 rfl rfl 14 (by decide) (hw _ q_1275) (fun _ h9 => h9) t310 dX10_planLine_230 ?_
          refine lv_aload_n hx hb dX10_planLine_233 rfl (lv_at hl 0 rfl) ?_
          have n319 : F294 6 = .ref h_s := (SAME.at t301 (by decide) e_s)
          refine get_f (D := D) (ci := 10) (v := .ref h_s) (C := RX10) (T := TX10) (N := 67) hx hb hw inAX10 hown hK hP 4 rfl rfl 6 (by decide) (hw _ q_1267) (fun _ h9 => h9) n319 dX10_planLine_234 ?_
          refine lv_bipush (v := 6) hx hb dX10_planLine_237 (by decide) ?_
          refine iald_n hx hb hK hP 0 0 rfl rfl 6 rfl (Nat.le_of_ble_eq_true rfl) (Nat.le_of_ble_eq_true rfl) rfl dX10_planLine_239 ?_
          refine lv_topi (fun v320 ev320 => ?_)
          have k321 : 0 ≤ v320.toInt ∧ v320.toInt ≤ 12 := by rw [ev320]; exact s_s_6.atN 6 (by decide) (by decide)
          refine lv_icmp_lt (tgt := 249) hx hb dX10_planLine_240 (by decide) (fun c322 => ?_) (fun c322 => ?_)
          · have dc322 : y299.toInt < v320.toInt := lt_i (a := y299.toInt) (b := v320.toInt) rfl rfl c322
            have k323 : 0 ≤ y299.toInt ∧ y299.toInt ≤ 11 := ⟨k318.1, up_lt dc322 k321.2 (by decide)⟩
            have k324 : 1 ≤ v320.toInt ∧ v320.toInt ≤ 12 := ⟨lo_lt dc322 k318.1 (by decide), k321.2⟩
            refine lv_aload_n hx hb dX10_planLine_249 rfl (lv_at hl 0 rfl) ?_
            have n325 : F294 24 = .int x_heights := (SAME.at t301 (by decide) e_heights)
            refine get_f (D := D) (ci := 10) (v := .int x_heights) (C := RX10) (T := TX10) (N := 67) hx hb hw inAX10 hown hK hP 4 rfl rfl 24 (by decide) (hw _ q_1285) (fun _ h9 => h9) n325 dX10_planLine_250 ?_
            refine lv_aload_n hx hb dX10_planLine_253 rfl (lv_at hl 0 rfl) ?_
            refine get_f (D := D) (ci := 10) (v := .int y299) (C := RX10) (T := TX10) (N := 67) hx hb hw inAX10 hown hK hP 4 rfl rfl 14 (by decide) (hw _ q_1275) (fun _ h9 => h9) t310 dX10_planLine_254 ?_
            refine call_Si (wr := [(h_s, .inl (cI, 335, .inl f_s)), (h_names, .inl (cJ, 36, .inr (.inl f_names))), (h_reserved, .inl (cJ, 23, .inr (.inl f_reserved))), (h_planRead, .inl (cI, 24, .inl f_planRead)), (h0, .inr (10, vL 67 F294)), (h_tape, .inl (cB, 940, .inl f_tape))]) (As := [.int x_heights, .int y299]) (rest := []) hx hb hml hown hw (m_X10_bitOf l D cI cJ cB cP cM cZ x_heights y299 _ ) wS_X10_232_X10_bitOf dX10_planLine_257 hP hD hS hA [] [0, 1, 2, 3, 4, 5] rfl rfl (by decide) (by decide) (by decide) GG.fb hG.at hl.1 rfl (Nat.le_of_ble_eq_true rfl) ⟨(Nat.le_of_ble_eq_true rfl), (Nat.le_of_ble_eq_true rfl)⟩ ⟨(Nat.le_of_ble_eq_true rfl), (Nat.le_of_ble_eq_true rfl)⟩ (fun r326 u H locs hp hP hD hS => ?_)
            rcases hp with ⟨rfl, rfl⟩ | ⟨rfl, rfl⟩
            · have hP : va_P D vwCl [(h_s, .inl (cI, 335, .inl f_s)), (h_names, .inl (cJ, 36, .inr (.inl f_names))), (h_reserved, .inl (cJ, 23, .inr (.inl f_reserved))), (h_planRead, .inl (cI, 24, .inl f_planRead)), (h0, .inr (10, vL 67 F294)), (h_tape, .inl (cB, 940, .inl f_tape))] H := hP
              have hD : va_D A [(h_s, .inl (cI, 335, .inl f_s)), (h_names, .inl (cJ, 36, .inr (.inl f_names))), (h_reserved, .inl (cJ, 23, .inr (.inl f_reserved))), (h_planRead, .inl (cI, 24, .inl f_planRead)), (h0, .inr (10, vL 67 F294)), (h_tape, .inl (cB, 940, .inl f_tape))] := hD
              refine W.widen (k := 0) (n := 0) (Nat.le_of_ble_eq_true rfl) (Nat.le_of_ble_eq_true rfl) ?_
              refine lv_if_eq (tgt := 269) hx hb dX10_planLine_260 (by decide) (fun _ => ?_) (fun g => absurd (by decide) g)
              refine lv_aload_n hx hb dX10_planLine_269 rfl (lv_at hl 0 rfl) ?_
              refine lv_dup hx hb dX10_planLine_270 rfl ?_
              refine get_f (D := D) (ci := 10) (v := .int x_heights) (C := RX10) (T := TX10) (N := 67) hx hb hw inAX10 hown hK hP 4 rfl rfl 24 (by decide) (hw _ q_1285) (fun _ h9 => h9) n325 dX10_planLine_271 ?_
              refine lv_iconst (v := 1) hx hb dX10_planLine_274 (by decide) ?_
              refine lv_aload_n hx hb dX10_planLine_275 rfl (lv_at hl 0 rfl) ?_
              refine get_f (D := D) (ci := 10) (v := .int y299) (C := RX10) (T := TX10) (N := 67) hx hb hw inAX10 hown hK hP 4 rfl rfl 14 (by decide) (hw _ q_1275) (fun _ h9 => h9) t310 dX10_planLine_276 ?_
              refine lv_ishl hx hb dX10_planLine_279 ?_
              refine lv_topi (fun v328 ev328 => ?_)
              refine lv_ior hx hb dX10_planLine_280 ?_
              refine lv_topi (fun v329 ev329 => ?_)
              refine put_f (D := D) (ci := 10) (v := .int v329) (ty := .int) (C := RX10) (T := TX10) (N := 67) hx hb hw inAX10 tyX10 tyX10_ok nmX10 hown hK hP hD hS 4 rfl rfl 24 (by decide) (hw _ q_1285) (fun _ h9 => h9) rfl (by decide +kernel) rfl rfl dX10_planLine_281 (fun H locs F330 eF330 hP hD hS => ?_)
              have hP : va_P D vwCl [(h_s, .inl (cI, 335, .inl f_s)), (h_names, .inl (cJ, 36, .inr (.inl f_names))), (h_reserved, .inl (cJ, 23, .inr (.inl f_reserved))), (h_planRead, .inl (cI, 24, .inl f_planRead)), (h0, .inr (10, vL 67 F330)), (h_tape, .inl (cB, 940, .inl f_tape))] H := hP
              have hD : va_D A [(h_s, .inl (cI, 335, .inl f_s)), (h_names, .inl (cJ, 36, .inr (.inl f_names))), (h_reserved, .inl (cJ, 23, .inr (.inl f_reserved))), (h_planRead, .inl (cI, 24, .inl f_planRead)), (h0, .inr (10, vL 67 F330)), (h_tape, .inl (cB, 940, .inl f_tape))] := hD
              refine lv_aload_n hx hb dX10_planLine_284 rfl (lv_at hl 0 rfl) ?_
              have n331 : F330 14 = .int y299 := (get_ne eF330 (by decide) t310)
              refine get_f (D := D) (ci := 10) (v := .int y299) (C := RX10) (T := TX10) (N := 67) hx hb hw inAX10 hown hK hP 4 rfl rfl 14 (by decide) (hw _ q_1275) (fun _ h9 => h9) n331 dX10_planLine_285 ?_
              refine lv_istore_n (lv' := [(1, .int y299), (0, .ref h0)]) hx hb dX10_planLine_288 rfl hl (by decide) rfl (fun ls hl => ?_)
              refine lv_aload_n hx hb dX10_planLine_289 rfl (lv_at hl 1 rfl) ?_
              have n332 : F294 1 = .ref h_tape := (SAME.at t301 (by decide) e_tape)
              have n333 : F330 1 = .ref h_tape := (get_ne eF330 (by decide) n332)
              have n334 : F294 3 = .int x_size := (SAME.at t301 (by decide) e_size)
              have n335 : F330 3 = .int x_size := (get_ne eF330 (by decide) n334)
              have n336 : F330 4 = .int y295 := (get_ne eF330 (by decide) t302)
              have n337 : F294 5 = .int x_limit := (SAME.at t301 (by decide) e_limit)
              have n338 : F330 5 = .int x_limit := (get_ne eF330 (by decide) n337)
              have n339 : F330 11 = .int y296 := (get_ne eF330 (by decide) t304)
              have n340 : F330 18 = .long y300 := (get_ne eF330 (by decide) t311)
              refine call_Vv (wr := [(h_s, .inl (cI, 335, .inl f_s)), (h_names, .inl (cJ, 36, .inr (.inl f_names))), (h_reserved, .inl (cJ, 23, .inr (.inl f_reserved))), (h_planRead, .inl (cI, 24, .inl f_planRead))]) (As := []) (rest := []) hx hb hml hown hw (m_X10_next l D cI cJ cB cP cM cZ h0 h_tape F330 x_size y295 x_limit y296 y299 y300 f_tape _ n333 n335 i_x_size n336 t303 n338 i_x_limit n339 (ir_wk k317 (by decide) (by decide)) n331 n340 (by omega)) wV_X10_208_X10_next dX10_planLine_290 hK hP hD hS hA [4, 5] [0, 1, 2, 3] rfl rfl (by decide) (by decide) (by decide) 0 10 rfl rfl GG.fb hG.at hl.1 rfl (Nat.le_of_ble_eq_true rfl) ⟨(Nat.le_of_ble_eq_true rfl), (Nat.le_of_ble_eq_true rfl)⟩ ⟨(Nat.le_of_ble_eq_true rfl), (Nat.le_of_ble_eq_true rfl)⟩ (fun u H locs hp hP hD hS => ?_)
              obtain ⟨F342, y343, y344, y345, y346, y347, y348, t349, t350, t351, t352, t353, t354, t355, t356, t357, t358, t359, t360, t361, t362, rfl⟩ := hp
              clear t313 t314
              have hP : va_P D vwCl [(h_s, .inl (cI, 335, .inl f_s)), (h_names, .inl (cJ, 36, .inr (.inl f_names))), (h_reserved, .inl (cJ, 23, .inr (.inl f_reserved))), (h_planRead, .inl (cI, 24, .inl f_planRead)), (h0, .inr (10, vL 67 F342)), (h_tape, .inl (cB, 940, .inl f_tape))] H := hP
              have hD : va_D A [(h_s, .inl (cI, 335, .inl f_s)), (h_names, .inl (cJ, 36, .inr (.inl f_names))), (h_reserved, .inl (cJ, 23, .inr (.inl f_reserved))), (h_planRead, .inl (cI, 24, .inl f_planRead)), (h0, .inr (10, vL 67 F342)), (h_tape, .inl (cB, 940, .inl f_tape))] := hD
              refine W.widen (k := 0) (n := 0) (Nat.le_of_ble_eq_true rfl) (Nat.le_of_ble_eq_true rfl) ?_
              refine lv_aload_n hx hb dX10_planLine_293 rfl (lv_at hl 1 rfl) ?_
              refine lv_iconst (v := 0) hx hb dX10_planLine_294 (by decide) ?_
              refine lv_bipush (v := 9) hx hb dX10_planLine_295 (by decide) ?_
              have n364 : F342 1 = .ref h_tape := (SAME.at t349 (by decide) n333)
              have n365 : F342 3 = .int x_size := (SAME.at t349 (by decide) n335)
              have n366 : F342 5 = .int x_limit := (SAME.at t349 (by decide) n338)
              have n367 : F294 19 = .int x_got := (SAME.at t301 (by decide) e_got)
              have n368 : F330 19 = .int x_got := (get_ne eF330 (by decide) n367)
              have n369 : F342 19 = .int x_got := (SAME.at t349 (by decide) n368)
              refine call_Vi (wr := [(h_s, .inl (cI, 335, .inl f_s)), (h_names, .inl (cJ, 36, .inr (.inl f_names))), (h_reserved, .inl (cJ, 23, .inr (.inl f_reserved))), (h_planRead, .inl (cI, 24, .inl f_planRead))]) (As := [.int 0, .int 9]) (rest := []) hx hb hml hown hw (m_X10_takes l D cI cJ cB cP cM cZ h0 h_tape F342 x_size y343 x_limit y344 y345 y347 y348 x_got f_tape 0 9 _ n364 n365 i_x_size t350 t351 n366 i_x_limit t352 t353 t354 t358 t359 n369 (by omega)) wV_X10_242_X10_takes dX10_planLine_297 hK hP hD hS hA [4, 5] [0, 1, 2, 3] rfl rfl (by decide) (by decide) (by decide) 0 10 rfl rfl GG.fb hG.at hl.1 rfl (Nat.le_of_ble_eq_true rfl) ⟨(Nat.le_of_ble_eq_true rfl), (Nat.le_of_ble_eq_true rfl)⟩ ⟨(Nat.le_of_ble_eq_true rfl), (Nat.le_of_ble_eq_true rfl)⟩ (fun r370 u H locs hp hP hD hS => ?_)
              have zl0 : (0 : Int32).toInt = 0 := by decide
              have zl9 : (9 : Int32).toInt = 9 := by decide
              rcases hp with hp | hp
              · obtain ⟨F371, y372, t373, t374, t375, t376, rfl, rfl⟩ := hp
                have hP : va_P D vwCl [(h_s, .inl (cI, 335, .inl f_s)), (h_names, .inl (cJ, 36, .inr (.inl f_names))), (h_reserved, .inl (cJ, 23, .inr (.inl f_reserved))), (h_planRead, .inl (cI, 24, .inl f_planRead)), (h0, .inr (10, vL 67 F371)), (h_tape, .inl (cB, 940, .inl f_tape))] H := hP
                have hD : va_D A [(h_s, .inl (cI, 335, .inl f_s)), (h_names, .inl (cJ, 36, .inr (.inl f_names))), (h_reserved, .inl (cJ, 23, .inr (.inl f_reserved))), (h_planRead, .inl (cI, 24, .inl f_planRead)), (h0, .inr (10, vL 67 F371)), (h_tape, .inl (cB, 940, .inl f_tape))] := hD
                refine W.widen (k := 0) (n := 0) (Nat.le_of_ble_eq_true rfl) (Nat.le_of_ble_eq_true rfl) ?_
                refine lv_if_ne (tgt := 305) hx hb dX10_planLine_300 (by decide) (fun g => absurd (by decide) g) (fun _ => ?_)
                refine lv_iconst (v := 0) hx hb dX10_planLine_303 (by decide) ?_
                exact ret_i (v := 0) hx hb hr hlocks hS (hP.sub (ws' := [(h0, .inr (10, vL 67 F371)), (h_tape, .inl (cB, 940, .inl f_tape)), (h_s, .inl (cI, 335, .inl f_s)), (h_names, .inl (cJ, 36, .inr (.inl f_names))), (h_reserved, .inl (cJ, 23, .inr (.inl f_reserved))), (h_planRead, .inl (cI, 24, .inl f_planRead))]) [4, 5, 0, 1, 2, 3] rfl) (hD.sub (ws' := [(h0, .inr (10, vL 67 F371)), (h_tape, .inl (cB, 940, .inl f_tape)), (h_s, .inl (cI, 335, .inl f_s)), (h_names, .inl (cJ, 36, .inr (.inl f_names))), (h_reserved, .inl (cJ, 23, .inr (.inl f_reserved))), (h_planRead, .inl (cI, 24, .inl f_planRead))]) [4, 5, 0, 1, 2, 3] (by decide) rfl) dX10_planLine_304 rfl (Nat.le_of_ble_eq_true rfl) (Nat.le_of_ble_eq_true rfl) (Or.inl ⟨F371, y343, y344, y345, y346, y347, y372, y345, y348, x_got, x_onces, x_jumped, v329, f_planRead, (SAME.tr (SAME.tr (SAME.up eF330 (SAME.tr SAME.rf t301 (by decide)) (by decide)) t349 (by decide)) t373 (by decide)), (SAME.at t373 (by decide) t350), t351, (SAME.at t373 (by decide) t352), t353, (SAME.at t373 (by decide) t354), (SAME.at t373 (by decide) t356), (SAME.at t373 (by decide) t358), t374, (ir_wk t375 (by decide) (by decide)), t376, (SAME.at t373 (by decide) t359), (SAME.at t373 (by decide) n369), (SAME.at t373 (by decide) (SAME.at t349 (by decide) (get_ne eF330 (by decide) (SAME.at t301 (by decide) e_onces)))), (SAME.at t373 (by decide) (SAME.at t349 (by decide) (get_ne eF330 (by decide) (SAME.at t301 (by decide) e_jumped)))), (SAME.at t373 (by decide) (SAME.at t349 (by decide) (get_eq eF330))), s_planRead_1, s_planRead_10, (by omega), rfl, rfl⟩)
              · refine hp.elim (fun F377 h9z0 => h9z0.elim (fun y378 h9z1 => h9z1.elim (fun y379 h9z2 => h9z2.elim (fun y380 h9z3 => h9z3.elim (fun y381 h9z4 => h9z4.elim (fun y382 h9z5 => h9z5.elim (fun y383 h9z6 => h9z6.elim (fun y384 h9z7 => h9z7.elim (fun t385 h9z8 => h9z8.elim (fun t386 h9z9 => h9z9.elim (fun t387 h9z10 => h9z10.elim (fun t388 h9z11 => h9z11.elim (fun t389 h9z12 => h9z12.elim (fun t390 h9z13 => h9z13.elim (fun t391 h9z14 => h9z14.elim (fun t392 h9z15 => h9z15.elim (fun t393 h9z16 => h9z16.elim (fun t394 h9z17 => h9z17.elim (fun t395 h9z18 => h9z18.elim (fun t396 h9z19 => h9z19.elim (fun t397 h9z20 => h9z20.elim (fun t398 h9z21 => h9z21.elim (fun t399 h9z22 => h9z22.elim (fun t400 h9z23 => h9z23.elim (fun t401 h9z24 => h9z24.elim (fun t402 h9z25 => h9z25.elim (fun t403 h9z26 => h9z26.elim (fun heq927 h9z27 => ?_))))))))))))))))))))))))))))
                clear h9z0 h9z1 h9z2 h9z3 h9z4 h9z5 h9z6 h9z7 h9z8 h9z9 h9z10 h9z11 h9z12 h9z13 h9z14 h9z15 h9z16 h9z17 h9z18 h9z19 h9z20 h9z21 h9z22 h9z23 h9z24 h9z25 h9z26
                subst heq927
                subst h9z27
                clear t361 t362
                have hP : va_P D vwCl [(h_s, .inl (cI, 335, .inl f_s)), (h_names, .inl (cJ, 36, .inr (.inl f_names))), (h_reserved, .inl (cJ, 23, .inr (.inl f_reserved))), (h_planRead, .inl (cI, 24, .inl f_planRead)), (h0, .inr (10, vL 67 F377)), (h_tape, .inl (cB, 940, .inl f_tape))] H := hP
                have hD : va_D A [(h_s, .inl (cI, 335, .inl f_s)), (h_names, .inl (cJ, 36, .inr (.inl f_names))), (h_reserved, .inl (cJ, 23, .inr (.inl f_reserved))), (h_planRead, .inl (cI, 24, .inl f_planRead)), (h0, .inr (10, vL 67 F377)), (h_tape, .inl (cB, 940, .inl f_tape))] := hD
                refine W.widen (k := 0) (n := 0) (Nat.le_of_ble_eq_true rfl) (Nat.le_of_ble_eq_true rfl) ?_
                have k405 : 2 ≤ y344.toInt ∧ y344.toInt ≤ 2 := ⟨Int.le_trans (Int.le_refl _) (Int.le_of_eq t397.symm), Int.le_trans (Int.le_of_eq t397) (Int.le_refl _)⟩
                have k406 : 0 ≤ y347.toInt ∧ y347.toInt ≤ 2147483647 := ⟨Int.le_trans (Int.le_refl _) t398, (ir_any _).2⟩
                have k407 : 0 ≤ y347.toInt ∧ y347.toInt ≤ 9 := ⟨k406.1, Int.le_trans t399 (Int.le_refl _)⟩
                refine lv_if_ne (tgt := 305) hx hb dX10_planLine_300 (by decide) (fun _ => ?_) (fun g => absurd g (by decide))
                refine lv_aload_n hx hb dX10_planLine_305 rfl (lv_at hl 1 rfl) ?_
                have n408 : F294 22 = .ref h_planRead := (SAME.at t301 (by decide) e_planRead)
                have n409 : F330 22 = .ref h_planRead := (get_ne eF330 (by decide) n408)
                have n410 : F342 22 = .ref h_planRead := (SAME.at t349 (by decide) n409)
                have n411 : F377 22 = .ref h_planRead := (SAME.at t385 (by decide) n410)
                refine get_f (D := D) (ci := 10) (v := .ref h_planRead) (C := RX10) (T := TX10) (N := 67) hx hb hw inAX10 hown hK hP 4 rfl rfl 22 (by decide) (hw _ q_1283) (fun _ h9 => h9) n411 dX10_planLine_306 ?_
                refine lv_bipush (v := 12) hx hb dX10_planLine_309 (by decide) ?_
                refine lv_iload_n hx hb dX10_planLine_311 rfl (lv_at hl 0 rfl) ?_
                refine lv_iadd hx hb dX10_planLine_312 ?_
                refine lv_topi (fun v412 ev412 => ?_)
                have bv412 : v412.toInt = 12 + y299.toInt := by rw [ev412]; exact add_k rfl rfl ⟨Int.le_refl _, Int.le_refl _⟩ k323 (by decide)
                have k413 : 12 ≤ v412.toInt ∧ v412.toInt ≤ 23 := add_r bv412 ⟨Int.le_refl _, Int.le_refl _⟩ k323 (by decide)
                refine lv_aload_n hx hb dX10_planLine_313 rfl (lv_at hl 1 rfl) ?_
                refine get_f (D := D) (ci := 10) (v := .int y384) (C := RX10) (T := TX10) (N := 67) hx hb hw inAX10 hown hK hP 4 rfl rfl 19 (by decide) (hw _ q_1280) (fun _ h9 => h9) t396 dX10_planLine_314 ?_
                obtain ⟨g414, eg414⟩ : ∃ z : Nat → Int32, upd f_planRead v412.toNatClampNeg y384 = z := ⟨_, rfl⟩
                have r415 : SG 1 4 0 11 g414 := by rw [← eg414]; exact s_planRead_1.up (Int.le_trans (by decide) k413.1) (Or.inr (Or.inl (dec_lt k413.1 (by decide))))
                have r416 : SG 10 10 0 5 g414 := by rw [← eg414]; exact s_planRead_10.up (Int.le_trans (by decide) k413.1) (Or.inr (Or.inl (dec_lt k413.1 (by decide))))
                refine iast_g hx hb hK hP hD hS 3 0 rfl rfl (ix_k k413 (by decide) (by decide)) eg414 dX10_planLine_317 (fun H locs hP hD hS => ?_)
                have hP : va_P D vwCl [(h_s, .inl (cI, 335, .inl f_s)), (h_names, .inl (cJ, 36, .inr (.inl f_names))), (h_reserved, .inl (cJ, 23, .inr (.inl f_reserved))), (h_planRead, .inl (cI, 24, .inl g414)), (h0, .inr (10, vL 67 F377)), (h_tape, .inl (cB, 940, .inl f_tape))] H := hP
                have hD : va_D A [(h_s, .inl (cI, 335, .inl f_s)), (h_names, .inl (cJ, 36, .inr (.inl f_names))), (h_reserved, .inl (cJ, 23, .inr (.inl f_reserved))), (h_planRead, .inl (cI, 24, .inl g414)), (h0, .inr (10, vL 67 F377)), (h_tape, .inl (cB, 940, .inl f_tape))] := hD
                refine lv_iconst (v := 1) hx hb dX10_planLine_318 (by decide) ?_
                exact ret_i (v := 1) hx hb hr hlocks hS (hP.sub (ws' := [(h0, .inr (10, vL 67 F377)), (h_tape, .inl (cB, 940, .inl f_tape)), (h_s, .inl (cI, 335, .inl f_s)), (h_names, .inl (cJ, 36, .inr (.inl f_names))), (h_reserved, .inl (cJ, 23, .inr (.inl f_reserved))), (h_planRead, .inl (cI, 24, .inl g414))]) [4, 5, 0, 1, 2, 3] rfl) (hD.sub (ws' := [(h0, .inr (10, vL 67 F377)), (h_tape, .inl (cB, 940, .inl f_tape)), (h_s, .inl (cI, 335, .inl f_s)), (h_names, .inl (cJ, 36, .inr (.inl f_names))), (h_reserved, .inl (cJ, 23, .inr (.inl f_reserved))), (h_planRead, .inl (cI, 24, .inl g414))]) [4, 5, 0, 1, 2, 3] (by decide) rfl) dX10_planLine_319 rfl (Nat.le_of_ble_eq_true rfl) (Nat.le_of_ble_eq_true rfl) (Or.inr ⟨F377, y378, y379, y380, y381, y382, x_fault, x_faultAt, y383, y384, x_onces, x_jumped, v329, g414, (SAME.tr (SAME.tr (SAME.up eF330 (SAME.tr SAME.rf t301 (by decide)) (by decide)) t349 (by decide)) t385 (by decide)), t386, t387, t388, t389, t390, t391, t392, t393, t394, (SAME.at t385 (by decide) (SAME.at t349 (by decide) (get_ne eF330 (by decide) (SAME.at t301 (by decide) e_fault)))), (SAME.at t385 (by decide) (SAME.at t349 (by decide) (get_ne eF330 (by decide) (SAME.at t301 (by decide) e_faultAt)))), t395, t396, (SAME.at t385 (by decide) (SAME.at t349 (by decide) (get_ne eF330 (by decide) (SAME.at t301 (by decide) e_onces)))), (SAME.at t385 (by decide) (SAME.at t349 (by decide) (get_ne eF330 (by decide) (SAME.at t301 (by decide) e_jumped)))), (SAME.at t385 (by decide) (SAME.at t349 (by decide) (get_eq eF330))), r415, r416, (by have zl1 : (1 : Int32).toInt = 1 := (by decide); omega), (by have zl1 : (1 : Int32).toInt = 1 := (by decide); omega), (by omega), rfl, rfl⟩)
            · have hP : va_P D vwCl [(h_s, .inl (cI, 335, .inl f_s)), (h_names, .inl (cJ, 36, .inr (.inl f_names))), (h_reserved, .inl (cJ, 23, .inr (.inl f_reserved))), (h_planRead, .inl (cI, 24, .inl f_planRead)), (h0, .inr (10, vL 67 F294)), (h_tape, .inl (cB, 940, .inl f_tape))] H := hP
              have hD : va_D A [(h_s, .inl (cI, 335, .inl f_s)), (h_names, .inl (cJ, 36, .inr (.inl f_names))), (h_reserved, .inl (cJ, 23, .inr (.inl f_reserved))), (h_planRead, .inl (cI, 24, .inl f_planRead)), (h0, .inr (10, vL 67 F294)), (h_tape, .inl (cB, 940, .inl f_tape))] := hD
              refine W.widen (k := 0) (n := 0) (Nat.le_of_ble_eq_true rfl) (Nat.le_of_ble_eq_true rfl) ?_
              refine lv_if_eq (tgt := 269) hx hb dX10_planLine_260 (by decide) (fun g => absurd g (by decide)) (fun _ => ?_)
              refine lv_aload_n hx hb dX10_planLine_263 rfl (lv_at hl 0 rfl) ?_
              refine lv_iconst (v := 3) hx hb dX10_planLine_264 (by decide) ?_
              refine call_Vi (wr := [(h_s, .inl (cI, 335, .inl f_s)), (h_names, .inl (cJ, 36, .inr (.inl f_names))), (h_reserved, .inl (cJ, 23, .inr (.inl f_reserved))), (h_planRead, .inl (cI, 24, .inl f_planRead)), (h_tape, .inl (cB, 940, .inl f_tape))]) (As := [.int 3]) (rest := []) hx hb hml hown hw (m_X10_bad l D cI cJ cB cP cM cZ h0 F294 y297 3 _ t306) wV_X10_205_X10_bad dX10_planLine_265 hK hP hD hS hA [4] [0, 1, 2, 3, 5] rfl rfl (by decide) (by decide) (by decide) 0 10 rfl rfl GG.fb hG.at hl.1 rfl (Nat.le_of_ble_eq_true rfl) ⟨(Nat.le_of_ble_eq_true rfl), (Nat.le_of_ble_eq_true rfl)⟩ ⟨(Nat.le_of_ble_eq_true rfl), (Nat.le_of_ble_eq_true rfl)⟩ (fun r417 u H locs hp hP hD hS => ?_)
              have zl3 : (3 : Int32).toInt = 3 := by decide
              obtain ⟨F418, t419, t420, t421, rfl, rfl⟩ := hp
              have hP : va_P D vwCl [(h_s, .inl (cI, 335, .inl f_s)), (h_names, .inl (cJ, 36, .inr (.inl f_names))), (h_reserved, .inl (cJ, 23, .inr (.inl f_reserved))), (h_planRead, .inl (cI, 24, .inl f_planRead)), (h_tape, .inl (cB, 940, .inl f_tape)), (h0, .inr (10, vL 67 F418))] H := hP
              have hD : va_D A [(h_s, .inl (cI, 335, .inl f_s)), (h_names, .inl (cJ, 36, .inr (.inl f_names))), (h_reserved, .inl (cJ, 23, .inr (.inl f_reserved))), (h_planRead, .inl (cI, 24, .inl f_planRead)), (h_tape, .inl (cB, 940, .inl f_tape)), (h0, .inr (10, vL 67 F418))] := hD
              refine W.widen (k := 0) (n := 0) (Nat.le_of_ble_eq_true rfl) (Nat.le_of_ble_eq_true rfl) ?_
              exact ret_i (v := 0) hx hb hr hlocks hS (hP.sub (ws' := [(h0, .inr (10, vL 67 F418)), (h_tape, .inl (cB, 940, .inl f_tape)), (h_s, .inl (cI, 335, .inl f_s)), (h_names, .inl (cJ, 36, .inr (.inl f_names))), (h_reserved, .inl (cJ, 23, .inr (.inl f_reserved))), (h_planRead, .inl (cI, 24, .inl f_planRead))]) [5, 4, 0, 1, 2, 3] rfl) (hD.sub (ws' := [(h0, .inr (10, vL 67 F418)), (h_tape, .inl (cB, 940, .inl f_tape)), (h_s, .inl (cI, 335, .inl f_s)), (h_names, .inl (cJ, 36, .inr (.inl f_names))), (h_reserved, .inl (cJ, 23, .inr (.inl f_reserved))), (h_planRead, .inl (cI, 24, .inl f_planRead))]) [5, 4, 0, 1, 2, 3] (by decide) rfl) dX10_planLine_268 rfl (Nat.le_of_ble_eq_true rfl) (Nat.le_of_ble_eq_true rfl) (Or.inl ⟨F418, y295, y296, y297, y298, y299, 3, y297, y300, x_got, x_onces, x_jumped, x_heights, f_planRead, (SAME.tr (SAME.tr SAME.rf t301 (by decide)) t419 (by decide)), (SAME.at t419 (by decide) t302), t303, (SAME.at t419 (by decide) t304), (ir_wk k317 (by decide) (by decide)), (SAME.at t419 (by decide) t306), (SAME.at t419 (by decide) t308), (SAME.at t419 (by decide) t310), t420, (show 1 ≤ (3 : Int32).toInt ∧ (3 : Int32).toInt ≤ 3 by decide), t421, (SAME.at t419 (by decide) t311), (SAME.at t419 (by decide) (SAME.at t301 (by decide) e_got)), (SAME.at t419 (by decide) (SAME.at t301 (by decide) e_onces)), (SAME.at t419 (by decide) (SAME.at t301 (by decide) e_jumped)), (SAME.at t419 (by decide) n325), s_planRead_1, s_planRead_10, (by have zl3 : (3 : Int32).toInt = 3 := (by decide); omega), rfl, rfl⟩)
          · have dc322 : v320.toInt ≤ y299.toInt := nlt_i (a := y299.toInt) (b := v320.toInt) rfl rfl c322
            refine lv_aload_n hx hb dX10_planLine_243 rfl (lv_at hl 0 rfl) ?_
            refine lv_iconst (v := 2) hx hb dX10_planLine_244 (by decide) ?_
            refine call_Vi (wr := [(h_s, .inl (cI, 335, .inl f_s)), (h_names, .inl (cJ, 36, .inr (.inl f_names))), (h_reserved, .inl (cJ, 23, .inr (.inl f_reserved))), (h_planRead, .inl (cI, 24, .inl f_planRead)), (h_tape, .inl (cB, 940, .inl f_tape))]) (As := [.int 2]) (rest := []) hx hb hml hown hw (m_X10_bad l D cI cJ cB cP cM cZ h0 F294 y297 2 _ t306) wV_X10_205_X10_bad dX10_planLine_245 hK hP hD hS hA [4] [0, 1, 2, 3, 5] rfl rfl (by decide) (by decide) (by decide) 0 10 rfl rfl GG.fb hG.at hl.1 rfl (Nat.le_of_ble_eq_true rfl) ⟨(Nat.le_of_ble_eq_true rfl), (Nat.le_of_ble_eq_true rfl)⟩ ⟨(Nat.le_of_ble_eq_true rfl), (Nat.le_of_ble_eq_true rfl)⟩ (fun r423 u H locs hp hP hD hS => ?_)
            have zl2 : (2 : Int32).toInt = 2 := by decide
            obtain ⟨F424, t425, t426, t427, rfl, rfl⟩ := hp
            have hP : va_P D vwCl [(h_s, .inl (cI, 335, .inl f_s)), (h_names, .inl (cJ, 36, .inr (.inl f_names))), (h_reserved, .inl (cJ, 23, .inr (.inl f_reserved))), (h_planRead, .inl (cI, 24, .inl f_planRead)), (h_tape, .inl (cB, 940, .inl f_tape)), (h0, .inr (10, vL 67 F424))] H := hP
            have hD : va_D A [(h_s, .inl (cI, 335, .inl f_s)), (h_names, .inl (cJ, 36, .inr (.inl f_names))), (h_reserved, .inl (cJ, 23, .inr (.inl f_reserved))), (h_planRead, .inl (cI, 24, .inl f_planRead)), (h_tape, .inl (cB, 940, .inl f_tape)), (h0, .inr (10, vL 67 F424))] := hD
            refine W.widen (k := 0) (n := 0) (Nat.le_of_ble_eq_true rfl) (Nat.le_of_ble_eq_true rfl) ?_
            exact ret_i (v := 0) hx hb hr hlocks hS (hP.sub (ws' := [(h0, .inr (10, vL 67 F424)), (h_tape, .inl (cB, 940, .inl f_tape)), (h_s, .inl (cI, 335, .inl f_s)), (h_names, .inl (cJ, 36, .inr (.inl f_names))), (h_reserved, .inl (cJ, 23, .inr (.inl f_reserved))), (h_planRead, .inl (cI, 24, .inl f_planRead))]) [5, 4, 0, 1, 2, 3] rfl) (hD.sub (ws' := [(h0, .inr (10, vL 67 F424)), (h_tape, .inl (cB, 940, .inl f_tape)), (h_s, .inl (cI, 335, .inl f_s)), (h_names, .inl (cJ, 36, .inr (.inl f_names))), (h_reserved, .inl (cJ, 23, .inr (.inl f_reserved))), (h_planRead, .inl (cI, 24, .inl f_planRead))]) [5, 4, 0, 1, 2, 3] (by decide) rfl) dX10_planLine_248 rfl (Nat.le_of_ble_eq_true rfl) (Nat.le_of_ble_eq_true rfl) (Or.inl ⟨F424, y295, y296, y297, y298, y299, 2, y297, y300, x_got, x_onces, x_jumped, x_heights, f_planRead, (SAME.tr (SAME.tr SAME.rf t301 (by decide)) t425 (by decide)), (SAME.at t425 (by decide) t302), t303, (SAME.at t425 (by decide) t304), (ir_wk k317 (by decide) (by decide)), (SAME.at t425 (by decide) t306), (SAME.at t425 (by decide) t308), (SAME.at t425 (by decide) t310), t426, (show 1 ≤ (2 : Int32).toInt ∧ (2 : Int32).toInt ≤ 3 by decide), t427, (SAME.at t425 (by decide) t311), (SAME.at t425 (by decide) (SAME.at t301 (by decide) e_got)), (SAME.at t425 (by decide) (SAME.at t301 (by decide) e_onces)), (SAME.at t425 (by decide) (SAME.at t301 (by decide) e_jumped)), (SAME.at t425 (by decide) (SAME.at t301 (by decide) e_heights)), s_planRead_1, s_planRead_10, (by have zl2 : (2 : Int32).toInt = 2 := (by decide); omega), rfl, rfl⟩)
        · have dc316 : y296.toInt ≠ 2 := ne_i (a := y296.toInt) (b := 2) rfl rfl c316
          refine lv_aload_n hx hb dX10_planLine_223 rfl (lv_at hl 0 rfl) ?_
          refine lv_iconst (v := 1) hx hb dX10_planLine_224 (by decide) ?_
          refine call_Vi (wr := [(h_s, .inl (cI, 335, .inl f_s)), (h_names, .inl (cJ, 36, .inr (.inl f_names))), (h_reserved, .inl (cJ, 23, .inr (.inl f_reserved))), (h_planRead, .inl (cI, 24, .inl f_planRead)), (h_tape, .inl (cB, 940, .inl f_tape))]) (As := [.int 1]) (rest := []) hx hb hml hown hw (m_X10_bad l D cI cJ cB cP cM cZ h0 F294 y297 1 _ t306) wV_X10_205_X10_bad dX10_planLine_225 hK hP hD hS hA [4] [0, 1, 2, 3, 5] rfl rfl (by decide) (by decide) (by decide) 0 10 rfl rfl GG.fb hG.at hl.1 rfl (Nat.le_of_ble_eq_true rfl) ⟨(Nat.le_of_ble_eq_true rfl), (Nat.le_of_ble_eq_true rfl)⟩ ⟨(Nat.le_of_ble_eq_true rfl), (Nat.le_of_ble_eq_true rfl)⟩ (fun r429 u H locs hp hP hD hS => ?_)
          have zl1 : (1 : Int32).toInt = 1 := by decide
          obtain ⟨F430, t431, t432, t433, rfl, rfl⟩ := hp
          have hP : va_P D vwCl [(h_s, .inl (cI, 335, .inl f_s)), (h_names, .inl (cJ, 36, .inr (.inl f_names))), (h_reserved, .inl (cJ, 23, .inr (.inl f_reserved))), (h_planRead, .inl (cI, 24, .inl f_planRead)), (h_tape, .inl (cB, 940, .inl f_tape)), (h0, .inr (10, vL 67 F430))] H := hP
          have hD : va_D A [(h_s, .inl (cI, 335, .inl f_s)), (h_names, .inl (cJ, 36, .inr (.inl f_names))), (h_reserved, .inl (cJ, 23, .inr (.inl f_reserved))), (h_planRead, .inl (cI, 24, .inl f_planRead)), (h_tape, .inl (cB, 940, .inl f_tape)), (h0, .inr (10, vL 67 F430))] := hD
          refine W.widen (k := 0) (n := 0) (Nat.le_of_ble_eq_true rfl) (Nat.le_of_ble_eq_true rfl) ?_
          exact ret_i (v := 0) hx hb hr hlocks hS (hP.sub (ws' := [(h0, .inr (10, vL 67 F430)), (h_tape, .inl (cB, 940, .inl f_tape)), (h_s, .inl (cI, 335, .inl f_s)), (h_names, .inl (cJ, 36, .inr (.inl f_names))), (h_reserved, .inl (cJ, 23, .inr (.inl f_reserved))), (h_planRead, .inl (cI, 24, .inl f_planRead))]) [5, 4, 0, 1, 2, 3] rfl) (hD.sub (ws' := [(h0, .inr (10, vL 67 F430)), (h_tape, .inl (cB, 940, .inl f_tape)), (h_s, .inl (cI, 335, .inl f_s)), (h_names, .inl (cJ, 36, .inr (.inl f_names))), (h_reserved, .inl (cJ, 23, .inr (.inl f_reserved))), (h_planRead, .inl (cI, 24, .inl f_planRead))]) [5, 4, 0, 1, 2, 3] (by decide) rfl) dX10_planLine_228 rfl (Nat.le_of_ble_eq_true rfl) (Nat.le_of_ble_eq_true rfl) (Or.inl ⟨F430, y295, y296, y297, y298, y299, 1, y297, y300, x_got, x_onces, x_jumped, x_heights, f_planRead, (SAME.tr (SAME.tr SAME.rf t301 (by decide)) t431 (by decide)), (SAME.at t431 (by decide) t302), t303, (SAME.at t431 (by decide) t304), t305, (SAME.at t431 (by decide) t306), (SAME.at t431 (by decide) t308), (SAME.at t431 (by decide) t310), t432, (show 1 ≤ (1 : Int32).toInt ∧ (1 : Int32).toInt ≤ 3 by decide), t433, (SAME.at t431 (by decide) t311), (SAME.at t431 (by decide) (SAME.at t301 (by decide) e_got)), (SAME.at t431 (by decide) (SAME.at t301 (by decide) e_onces)), (SAME.at t431 (by decide) (SAME.at t301 (by decide) e_jumped)), (SAME.at t431 (by decide) (SAME.at t301 (by decide) e_heights)), s_planRead_1, s_planRead_10, (by have zl1 : (1 : Int32).toInt = 1 := (by decide); omega), rfl, rfl⟩)
    · have dc11 : r7.toInt ≠ 0 := ne_i (a := r7.toInt) (b := 0) rfl rfl c11
      have k435 : 1 ≤ r7.toInt ∧ r7.toInt ≤ 1 := ⟨ne_lo dc11 t8.1 ⟨Int.le_refl _, Int.le_refl _⟩ (by decide), t8.2⟩
      refine lv_aload_n hx hb dX10_planLine_95 rfl (lv_at hl 0 rfl) ?_
      refine call_Vv (wr := [(h_s, .inl (cI, 335, .inl f_s)), (h_names, .inl (cJ, 36, .inr (.inl f_names))), (h_reserved, .inl (cJ, 23, .inr (.inl f_reserved))), (h_planRead, .inl (cI, 24, .inl f_planRead))]) (As := []) (rest := []) hx hb hml hown hw (m_X10_next l D cI cJ cB cP cM cZ h0 h_tape Fh x_size x_p x_limit x_token x_number x_word f_tape _ e_tape e_size i_x_size e_p i_x_p e_limit i_x_limit e_token i_x_token e_number e_word (by omega)) wV_X10_208_X10_next dX10_planLine_96 hK hP hD hS hA [5, 0] [1, 2, 3, 4] rfl rfl (by decide) (by decide) (by decide) 0 10 rfl rfl GG.fb hG.at hl.1 rfl (Nat.le_of_ble_eq_true rfl) ⟨(Nat.le_of_ble_eq_true rfl), (Nat.le_of_ble_eq_true rfl)⟩ ⟨(Nat.le_of_ble_eq_true rfl), (Nat.le_of_ble_eq_true rfl)⟩ (fun u H locs hp hP hD hS => ?_)
      obtain ⟨F437, y438, y439, y440, y441, y442, y443, t444, t445, t446, t447, t448, t449, t450, t451, t452, t453, t454, t455, t456, t457, rfl⟩ := hp
      have hP : va_P D vwCl [(h_s, .inl (cI, 335, .inl f_s)), (h_names, .inl (cJ, 36, .inr (.inl f_names))), (h_reserved, .inl (cJ, 23, .inr (.inl f_reserved))), (h_planRead, .inl (cI, 24, .inl f_planRead)), (h0, .inr (10, vL 67 F437)), (h_tape, .inl (cB, 940, .inl f_tape))] H := hP
      have hD : va_D A [(h_s, .inl (cI, 335, .inl f_s)), (h_names, .inl (cJ, 36, .inr (.inl f_names))), (h_reserved, .inl (cJ, 23, .inr (.inl f_reserved))), (h_planRead, .inl (cI, 24, .inl f_planRead)), (h0, .inr (10, vL 67 F437)), (h_tape, .inl (cB, 940, .inl f_tape))] := hD
      refine W.widen (k := 0) (n := 0) (Nat.le_of_ble_eq_true rfl) (Nat.le_of_ble_eq_true rfl) ?_
      refine lv_aload_n hx hb dX10_planLine_99 rfl (lv_at hl 0 rfl) ?_
      have n459 : F437 6 = .ref h_s := (SAME.at t444 (by decide) e_s)
      have n460 : F437 9 = .ref h_names := (SAME.at t444 (by decide) e_names)
      have n461 : F437 10 = .ref h_reserved := (SAME.at t444 (by decide) e_reserved)
      have n462 : F437 19 = .int x_got := (SAME.at t444 (by decide) e_got)
      refine call_Vi (wr := [(h_planRead, .inl (cI, 24, .inl f_planRead)), (h_tape, .inl (cB, 940, .inl f_tape))]) (As := []) (rest := []) hx hb hml hown hw (m_X10_looksAtMan l D cI cJ cB cP cM cZ h0 h_s h_names h_reserved F437 y439 y440 y442 y443 x_got f_s f_names f_reserved _ n459 n460 n461 t447 t448 t449 t453 t454 n462 s_s_K0 s_s_0 s_s_105 s_s_114 s_s_130 s_s_139 s_s_153 s_s_44 s_s_5 s_s_6 s_s_7 (by omega)) wV_X10_266_X10_looksAtMan dX10_planLine_100 hK hP hD hS hA [4, 0, 1, 2] [3, 5] rfl rfl (by decide) (by decide) (by decide) 0 10 rfl rfl GG.fb hG.at hl.1 rfl (Nat.le_of_ble_eq_true rfl) ⟨(Nat.le_of_ble_eq_true rfl), (Nat.le_of_ble_eq_true rfl)⟩ ⟨(Nat.le_of_ble_eq_true rfl), (Nat.le_of_ble_eq_true rfl)⟩ (fun r463 u H locs hp hP hD hS => ?_)
      rcases hp with ⟨F464, y465, y466, t467, t468, t469, t470, t471, rfl, rfl⟩ | ⟨F472, y473, t474, t475, t476, rfl, rfl⟩
      · have hP : va_P D vwCl [(h_planRead, .inl (cI, 24, .inl f_planRead)), (h_tape, .inl (cB, 940, .inl f_tape)), (h0, .inr (10, vL 67 F464)), (h_s, .inl (cI, 335, .inl f_s)), (h_names, .inl (cJ, 36, .inr (.inl f_names))), (h_reserved, .inl (cJ, 23, .inr (.inl f_reserved)))] H := hP
        have hD : va_D A [(h_planRead, .inl (cI, 24, .inl f_planRead)), (h_tape, .inl (cB, 940, .inl f_tape)), (h0, .inr (10, vL 67 F464)), (h_s, .inl (cI, 335, .inl f_s)), (h_names, .inl (cJ, 36, .inr (.inl f_names))), (h_reserved, .inl (cJ, 23, .inr (.inl f_reserved)))] := hD
        refine W.widen (k := 0) (n := 0) (Nat.le_of_ble_eq_true rfl) (Nat.le_of_ble_eq_true rfl) ?_
        refine lv_if_ne (tgt := 108) hx hb dX10_planLine_103 (by decide) (fun g => absurd (by decide) g) (fun _ => ?_)
        refine lv_iconst (v := 0) hx hb dX10_planLine_106 (by decide) ?_
        exact ret_i (v := 0) hx hb hr hlocks hS (hP.sub (ws' := [(h0, .inr (10, vL 67 F464)), (h_tape, .inl (cB, 940, .inl f_tape)), (h_s, .inl (cI, 335, .inl f_s)), (h_names, .inl (cJ, 36, .inr (.inl f_names))), (h_reserved, .inl (cJ, 23, .inr (.inl f_reserved))), (h_planRead, .inl (cI, 24, .inl f_planRead))]) [2, 1, 3, 4, 5, 0] rfl) (hD.sub (ws' := [(h0, .inr (10, vL 67 F464)), (h_tape, .inl (cB, 940, .inl f_tape)), (h_s, .inl (cI, 335, .inl f_s)), (h_names, .inl (cJ, 36, .inr (.inl f_names))), (h_reserved, .inl (cJ, 23, .inr (.inl f_reserved))), (h_planRead, .inl (cI, 24, .inl f_planRead))]) [2, 1, 3, 4, 5, 0] (by decide) rfl) dX10_planLine_107 rfl (Nat.le_of_ble_eq_true rfl) (Nat.le_of_ble_eq_true rfl) (Or.inl ⟨F464, y438, y439, y440, y441, y442, y465, y440, y443, y466, x_onces, x_jumped, x_heights, f_planRead, (SAME.tr (SAME.tr SAME.rf t444 (by decide)) t467 (by decide)), (SAME.at t467 (by decide) t445), t446, (SAME.at t467 (by decide) t447), t448, (SAME.at t467 (by decide) t449), (SAME.at t467 (by decide) t451), (SAME.at t467 (by decide) t453), t468, t469, t470, (SAME.at t467 (by decide) t454), t471, (SAME.at t467 (by decide) (SAME.at t444 (by decide) e_onces)), (SAME.at t467 (by decide) (SAME.at t444 (by decide) e_jumped)), (SAME.at t467 (by decide) (SAME.at t444 (by decide) e_heights)), s_planRead_1, s_planRead_10, (by omega), rfl, rfl⟩)
      · have hP : va_P D vwCl [(h_planRead, .inl (cI, 24, .inl f_planRead)), (h_tape, .inl (cB, 940, .inl f_tape)), (h0, .inr (10, vL 67 F472)), (h_s, .inl (cI, 335, .inl f_s)), (h_names, .inl (cJ, 36, .inr (.inl f_names))), (h_reserved, .inl (cJ, 23, .inr (.inl f_reserved)))] H := hP
        have hD : va_D A [(h_planRead, .inl (cI, 24, .inl f_planRead)), (h_tape, .inl (cB, 940, .inl f_tape)), (h0, .inr (10, vL 67 F472)), (h_s, .inl (cI, 335, .inl f_s)), (h_names, .inl (cJ, 36, .inr (.inl f_names))), (h_reserved, .inl (cJ, 23, .inr (.inl f_reserved)))] := hD
        refine W.widen (k := 0) (n := 0) (Nat.le_of_ble_eq_true rfl) (Nat.le_of_ble_eq_true rfl) ?_
        refine lv_if_ne (tgt := 108) hx hb dX10_planLine_103 (by decide) (fun _ => ?_) (fun g => absurd g (by decide))
        refine lv_aload_n hx hb dX10_planLine_108 rfl (lv_at hl 0 rfl) ?_
        have n478 : F437 22 = .ref h_planRead := (SAME.at t444 (by decide) e_planRead)
        have n479 : F472 22 = .ref h_planRead := (SAME.at t474 (by decide) n478)
        refine get_f (D := D) (ci := 10) (v := .ref h_planRead) (C := RX10) (T := TX10) (N := 67) hx hb hw inAX10 hown hK hP 2 rfl rfl 22 (by decide) (hw _ q_1283) (fun _ h9 => h9) n479 dX10_planLine_109 ?_
        refine lv_iconst (v := 0) hx hb dX10_planLine_112 (by decide) ?_
        refine iald_n hx hb hK hP 0 0 rfl rfl 0 rfl (Nat.le_of_ble_eq_true rfl) (Nat.le_of_ble_eq_true rfl) rfl dX10_planLine_113 ?_
        refine lv_topi (fun v480 ev480 => ?_)
        refine lv_iconst (v := 1) hx hb dX10_planLine_114 (by decide) ?_
        refine lv_icmp_ne (tgt := 130) hx hb dX10_planLine_115 (by decide) (fun c481 => ?_) (fun c481 => ?_)
        · have dc481 : v480.toInt ≠ 1 := ne_i (a := v480.toInt) (b := 1) rfl rfl c481
          refine lv_iconst (v := (-1)) hx hb dX10_planLine_130 (by decide) ?_
          refine lv_istore_n (lv' := [(1, .int (-1)), (0, .ref h0)]) hx hb dX10_planLine_131 rfl hl (by decide) rfl (fun ls hl => ?_)
          refine lv_iload_n hx hb dX10_planLine_132 rfl (lv_at hl 0 rfl) ?_
          refine lv_if_lt (tgt := 147) hx hb dX10_planLine_133 (by decide) (fun _ => ?_) (fun g => absurd (by decide) g)
          refine lv_aload_n hx hb dX10_planLine_147 rfl (lv_at hl 1 rfl) ?_
          refine lv_iconst (v := 3) hx hb dX10_planLine_148 (by decide) ?_
          have n482 : F472 12 = .int y440 := (SAME.at t474 (by decide) t449)
          refine call_Vi (wr := [(h_planRead, .inl (cI, 24, .inl f_planRead)), (h_tape, .inl (cB, 940, .inl f_tape)), (h_s, .inl (cI, 335, .inl f_s)), (h_names, .inl (cJ, 36, .inr (.inl f_names))), (h_reserved, .inl (cJ, 23, .inr (.inl f_reserved)))]) (As := [.int 3]) (rest := []) hx hb hml hown hw (m_X10_bad l D cI cJ cB cP cM cZ h0 F472 y440 3 _ n482) wV_X10_205_X10_bad dX10_planLine_149 hK hP hD hS hA [2] [0, 1, 3, 4, 5] rfl rfl (by decide) (by decide) (by decide) 0 10 rfl rfl GG.fb hG.at hl.1 rfl (Nat.le_of_ble_eq_true rfl) ⟨(Nat.le_of_ble_eq_true rfl), (Nat.le_of_ble_eq_true rfl)⟩ ⟨(Nat.le_of_ble_eq_true rfl), (Nat.le_of_ble_eq_true rfl)⟩ (fun r483 u H locs hp hP hD hS => ?_)
          have zl3 : (3 : Int32).toInt = 3 := by decide
          obtain ⟨F484, t485, t486, t487, rfl, rfl⟩ := hp
          have hP : va_P D vwCl [(h_planRead, .inl (cI, 24, .inl f_planRead)), (h_tape, .inl (cB, 940, .inl f_tape)), (h_s, .inl (cI, 335, .inl f_s)), (h_names, .inl (cJ, 36, .inr (.inl f_names))), (h_reserved, .inl (cJ, 23, .inr (.inl f_reserved))), (h0, .inr (10, vL 67 F484))] H := hP
          have hD : va_D A [(h_planRead, .inl (cI, 24, .inl f_planRead)), (h_tape, .inl (cB, 940, .inl f_tape)), (h_s, .inl (cI, 335, .inl f_s)), (h_names, .inl (cJ, 36, .inr (.inl f_names))), (h_reserved, .inl (cJ, 23, .inr (.inl f_reserved))), (h0, .inr (10, vL 67 F484))] := hD
          refine W.widen (k := 0) (n := 0) (Nat.le_of_ble_eq_true rfl) (Nat.le_of_ble_eq_true rfl) ?_
          exact ret_i (v := 0) hx hb hr hlocks hS (hP.sub (ws' := [(h0, .inr (10, vL 67 F484)), (h_tape, .inl (cB, 940, .inl f_tape)), (h_s, .inl (cI, 335, .inl f_s)), (h_names, .inl (cJ, 36, .inr (.inl f_names))), (h_reserved, .inl (cJ, 23, .inr (.inl f_reserved))), (h_planRead, .inl (cI, 24, .inl f_planRead))]) [5, 1, 2, 3, 4, 0] rfl) (hD.sub (ws' := [(h0, .inr (10, vL 67 F484)), (h_tape, .inl (cB, 940, .inl f_tape)), (h_s, .inl (cI, 335, .inl f_s)), (h_names, .inl (cJ, 36, .inr (.inl f_names))), (h_reserved, .inl (cJ, 23, .inr (.inl f_reserved))), (h_planRead, .inl (cI, 24, .inl f_planRead))]) [5, 1, 2, 3, 4, 0] (by decide) rfl) dX10_planLine_152 rfl (Nat.le_of_ble_eq_true rfl) (Nat.le_of_ble_eq_true rfl) (Or.inl ⟨F484, y438, y439, y440, y441, y442, 3, y440, y443, y473, x_onces, x_jumped, x_heights, f_planRead, (SAME.tr (SAME.tr (SAME.tr SAME.rf t444 (by decide)) t474 (by decide)) t485 (by decide)), (SAME.at t485 (by decide) (SAME.at t474 (by decide) t445)), t446, (SAME.at t485 (by decide) (SAME.at t474 (by decide) t447)), t448, (SAME.at t485 (by decide) n482), (SAME.at t485 (by decide) (SAME.at t474 (by decide) t451)), (SAME.at t485 (by decide) (SAME.at t474 (by decide) t453)), t486, (show 1 ≤ (3 : Int32).toInt ∧ (3 : Int32).toInt ≤ 3 by decide), t487, (SAME.at t485 (by decide) (SAME.at t474 (by decide) t454)), (SAME.at t485 (by decide) t475), (SAME.at t485 (by decide) (SAME.at t474 (by decide) (SAME.at t444 (by decide) e_onces))), (SAME.at t485 (by decide) (SAME.at t474 (by decide) (SAME.at t444 (by decide) e_jumped))), (SAME.at t485 (by decide) (SAME.at t474 (by decide) (SAME.at t444 (by decide) e_heights))), s_planRead_1, s_planRead_10, (by have zl3 : (3 : Int32).toInt = 3 := (by decide); omega), rfl, rfl⟩)
        · have dc481 : v480.toInt = 1 := eq_i (a := v480.toInt) (b := 1) rfl rfl c481
          have k489 : 1 ≤ v480.toInt ∧ v480.toInt ≤ 1 := ⟨Int.le_trans (Int.le_refl _) (Int.le_of_eq dc481.symm), Int.le_trans (Int.le_of_eq dc481) (Int.le_refl _)⟩
          refine lv_aload_n hx hb dX10_planLine_118 rfl (lv_at hl 0 rfl) ?_
          refine lv_aload_n hx hb dX10_planLine_119 rfl (lv_at hl 0 rfl) ?_
          refine get_f (D := D) (ci := 10) (v := .int y473) (C := RX10) (T := TX10) (N := 67) hx hb hw inAX10 hown hK hP 2 rfl rfl 19 (by decide) (hw _ q_1280) (fun _ h9 => h9) t475 dX10_planLine_120 ?_
          refine lv_iconst (v := 4) hx hb dX10_planLine_123 (by decide) ?_
          refine call_Vi (wr := [(h_tape, .inl (cB, 940, .inl f_tape)), (h_s, .inl (cI, 335, .inl f_s)), (h_names, .inl (cJ, 36, .inr (.inl f_names))), (h_reserved, .inl (cJ, 23, .inr (.inl f_reserved)))]) (As := [.int y473, .int 4]) (rest := []) hx hb hml hown hw (m_X10_placeIn l D cI cJ cB cP cM cZ h0 h_planRead F472 f_planRead y473 4 _ n479 s_planRead_1 s_planRead_10 (show 0 ≤ (4 : Int32).toInt ∧ (4 : Int32).toInt ≤ 4 by decide)) wV_X10_269_X10_placeIn dX10_planLine_124 hK hP hD hS hA [2, 0] [1, 3, 4, 5] rfl rfl (by decide) (by decide) (by decide) 0 10 rfl rfl GG.fb hG.at hl.1 rfl (Nat.le_of_ble_eq_true rfl) ⟨(Nat.le_of_ble_eq_true rfl), (Nat.le_of_ble_eq_true rfl)⟩ ⟨(Nat.le_of_ble_eq_true rfl), (Nat.le_of_ble_eq_true rfl)⟩ (fun r490 u H locs hp hP hD hS => ?_)
          have zl4 : (4 : Int32).toInt = 4 := by decide
          obtain ⟨t491, rfl⟩ := hp
          have hP : va_P D vwCl [(h_tape, .inl (cB, 940, .inl f_tape)), (h_s, .inl (cI, 335, .inl f_s)), (h_names, .inl (cJ, 36, .inr (.inl f_names))), (h_reserved, .inl (cJ, 23, .inr (.inl f_reserved))), (h0, .inr (10, vL 67 F472)), (h_planRead, .inl (cI, 24, .inl f_planRead))] H := hP
          have hD : va_D A [(h_tape, .inl (cB, 940, .inl f_tape)), (h_s, .inl (cI, 335, .inl f_s)), (h_names, .inl (cJ, 36, .inr (.inl f_names))), (h_reserved, .inl (cJ, 23, .inr (.inl f_reserved))), (h0, .inr (10, vL 67 F472)), (h_planRead, .inl (cI, 24, .inl f_planRead))] := hD
          refine W.widen (k := 0) (n := 0) (Nat.le_of_ble_eq_true rfl) (Nat.le_of_ble_eq_true rfl) ?_
          refine lv_goto (tgt := 131) hx hb dX10_planLine_127 (by decide) ?_
          refine lv_istore_n (lv' := [(1, .int r490), (0, .ref h0)]) hx hb dX10_planLine_131 rfl hl (by decide) rfl (fun ls hl => ?_)
          refine lv_iload_n hx hb dX10_planLine_132 rfl (lv_at hl 0 rfl) ?_
          refine lv_if_lt (tgt := 147) hx hb dX10_planLine_133 (by decide) (fun c493 => ?_) (fun c493 => ?_)
          · have dc493 : r490.toInt < 0 := lt_i (a := r490.toInt) (b := 0) rfl rfl c493
            have k494 : (-1) ≤ r490.toInt ∧ r490.toInt ≤ (-1) := ⟨t491.1, up_lt dc493 (Int.le_refl _) (by decide)⟩
            refine lv_aload_n hx hb dX10_planLine_147 rfl (lv_at hl 1 rfl) ?_
            refine lv_iconst (v := 3) hx hb dX10_planLine_148 (by decide) ?_
            have n495 : F472 12 = .int y440 := (SAME.at t474 (by decide) t449)
            refine call_Vi (wr := [(h_tape, .inl (cB, 940, .inl f_tape)), (h_s, .inl (cI, 335, .inl f_s)), (h_names, .inl (cJ, 36, .inr (.inl f_names))), (h_reserved, .inl (cJ, 23, .inr (.inl f_reserved))), (h_planRead, .inl (cI, 24, .inl f_planRead))]) (As := [.int 3]) (rest := []) hx hb hml hown hw (m_X10_bad l D cI cJ cB cP cM cZ h0 F472 y440 3 _ n495) wV_X10_205_X10_bad dX10_planLine_149 hK hP hD hS hA [4] [0, 1, 2, 3, 5] rfl rfl (by decide) (by decide) (by decide) 0 10 rfl rfl GG.fb hG.at hl.1 rfl (Nat.le_of_ble_eq_true rfl) ⟨(Nat.le_of_ble_eq_true rfl), (Nat.le_of_ble_eq_true rfl)⟩ ⟨(Nat.le_of_ble_eq_true rfl), (Nat.le_of_ble_eq_true rfl)⟩ (fun r496 u H locs hp hP hD hS => ?_)
            have zl3 : (3 : Int32).toInt = 3 := by decide
            obtain ⟨F497, t498, t499, t500, rfl, rfl⟩ := hp
            have hP : va_P D vwCl [(h_tape, .inl (cB, 940, .inl f_tape)), (h_s, .inl (cI, 335, .inl f_s)), (h_names, .inl (cJ, 36, .inr (.inl f_names))), (h_reserved, .inl (cJ, 23, .inr (.inl f_reserved))), (h_planRead, .inl (cI, 24, .inl f_planRead)), (h0, .inr (10, vL 67 F497))] H := hP
            have hD : va_D A [(h_tape, .inl (cB, 940, .inl f_tape)), (h_s, .inl (cI, 335, .inl f_s)), (h_names, .inl (cJ, 36, .inr (.inl f_names))), (h_reserved, .inl (cJ, 23, .inr (.inl f_reserved))), (h_planRead, .inl (cI, 24, .inl f_planRead)), (h0, .inr (10, vL 67 F497))] := hD
            refine W.widen (k := 0) (n := 0) (Nat.le_of_ble_eq_true rfl) (Nat.le_of_ble_eq_true rfl) ?_
            exact ret_i (v := 0) hx hb hr hlocks hS (hP.sub (ws' := [(h0, .inr (10, vL 67 F497)), (h_tape, .inl (cB, 940, .inl f_tape)), (h_s, .inl (cI, 335, .inl f_s)), (h_names, .inl (cJ, 36, .inr (.inl f_names))), (h_reserved, .inl (cJ, 23, .inr (.inl f_reserved))), (h_planRead, .inl (cI, 24, .inl f_planRead))]) [5, 0, 1, 2, 3, 4] rfl) (hD.sub (ws' := [(h0, .inr (10, vL 67 F497)), (h_tape, .inl (cB, 940, .inl f_tape)), (h_s, .inl (cI, 335, .inl f_s)), (h_names, .inl (cJ, 36, .inr (.inl f_names))), (h_reserved, .inl (cJ, 23, .inr (.inl f_reserved))), (h_planRead, .inl (cI, 24, .inl f_planRead))]) [5, 0, 1, 2, 3, 4] (by decide) rfl) dX10_planLine_152 rfl (Nat.le_of_ble_eq_true rfl) (Nat.le_of_ble_eq_true rfl) (Or.inl ⟨F497, y438, y439, y440, y441, y442, 3, y440, y443, y473, x_onces, x_jumped, x_heights, f_planRead, (SAME.tr (SAME.tr (SAME.tr SAME.rf t444 (by decide)) t474 (by decide)) t498 (by decide)), (SAME.at t498 (by decide) (SAME.at t474 (by decide) t445)), t446, (SAME.at t498 (by decide) (SAME.at t474 (by decide) t447)), t448, (SAME.at t498 (by decide) n495), (SAME.at t498 (by decide) (SAME.at t474 (by decide) t451)), (SAME.at t498 (by decide) (SAME.at t474 (by decide) t453)), t499, (show 1 ≤ (3 : Int32).toInt ∧ (3 : Int32).toInt ≤ 3 by decide), t500, (SAME.at t498 (by decide) (SAME.at t474 (by decide) t454)), (SAME.at t498 (by decide) t475), (SAME.at t498 (by decide) (SAME.at t474 (by decide) (SAME.at t444 (by decide) e_onces))), (SAME.at t498 (by decide) (SAME.at t474 (by decide) (SAME.at t444 (by decide) e_jumped))), (SAME.at t498 (by decide) (SAME.at t474 (by decide) (SAME.at t444 (by decide) e_heights))), s_planRead_1, s_planRead_10, (by have zl3 : (3 : Int32).toInt = 3 := (by decide); omega), rfl, rfl⟩)
          · have dc493 : 0 ≤ r490.toInt := nlt_i (a := r490.toInt) (b := 0) rfl rfl c493
            have k502 : 0 ≤ r490.toInt ∧ r490.toInt ≤ 3 := ⟨Int.le_trans (Int.le_refl _) dc493, t491.2⟩
            refine lv_aload_n hx hb dX10_planLine_136 rfl (lv_at hl 1 rfl) ?_
            have n503 : F437 23 = .int x_jumped := (SAME.at t444 (by decide) e_jumped)
            have n504 : F472 23 = .int x_jumped := (SAME.at t474 (by decide) n503)
            refine get_f (D := D) (ci := 10) (v := .int x_jumped) (C := RX10) (T := TX10) (N := 67) hx hb hw inAX10 hown hK hP 4 rfl rfl 23 (by decide) (hw _ q_1284) (fun _ h9 => h9) n504 dX10_planLine_137 ?_
            refine lv_iload_n hx hb dX10_planLine_140 rfl (lv_at hl 0 rfl) ?_
            refine call_Si (wr := [(h_tape, .inl (cB, 940, .inl f_tape)), (h_s, .inl (cI, 335, .inl f_s)), (h_names, .inl (cJ, 36, .inr (.inl f_names))), (h_reserved, .inl (cJ, 23, .inr (.inl f_reserved))), (h0, .inr (10, vL 67 F472)), (h_planRead, .inl (cI, 24, .inl f_planRead))]) (As := [.int x_jumped, .int r490]) (rest := []) hx hb hml hown hw (m_X10_bitOf l D cI cJ cB cP cM cZ x_jumped r490 _ ) wS_X10_232_X10_bitOf dX10_planLine_141 hP hD hS hA [] [0, 1, 2, 3, 4, 5] rfl rfl (by decide) (by decide) (by decide) GG.fb hG.at hl.1 rfl (Nat.le_of_ble_eq_true rfl) ⟨(Nat.le_of_ble_eq_true rfl), (Nat.le_of_ble_eq_true rfl)⟩ ⟨(Nat.le_of_ble_eq_true rfl), (Nat.le_of_ble_eq_true rfl)⟩ (fun r505 u H locs hp hP hD hS => ?_)
            rcases hp with ⟨rfl, rfl⟩ | ⟨rfl, rfl⟩
            · have hP : va_P D vwCl [(h_tape, .inl (cB, 940, .inl f_tape)), (h_s, .inl (cI, 335, .inl f_s)), (h_names, .inl (cJ, 36, .inr (.inl f_names))), (h_reserved, .inl (cJ, 23, .inr (.inl f_reserved))), (h0, .inr (10, vL 67 F472)), (h_planRead, .inl (cI, 24, .inl f_planRead))] H := hP
              have hD : va_D A [(h_tape, .inl (cB, 940, .inl f_tape)), (h_s, .inl (cI, 335, .inl f_s)), (h_names, .inl (cJ, 36, .inr (.inl f_names))), (h_reserved, .inl (cJ, 23, .inr (.inl f_reserved))), (h0, .inr (10, vL 67 F472)), (h_planRead, .inl (cI, 24, .inl f_planRead))] := hD
              refine W.widen (k := 0) (n := 0) (Nat.le_of_ble_eq_true rfl) (Nat.le_of_ble_eq_true rfl) ?_
              refine lv_if_eq (tgt := 153) hx hb dX10_planLine_144 (by decide) (fun _ => ?_) (fun g => absurd (by decide) g)
              refine lv_aload_n hx hb dX10_planLine_153 rfl (lv_at hl 1 rfl) ?_
              refine lv_dup hx hb dX10_planLine_154 rfl ?_
              refine get_f (D := D) (ci := 10) (v := .int x_jumped) (C := RX10) (T := TX10) (N := 67) hx hb hw inAX10 hown hK hP 4 rfl rfl 23 (by decide) (hw _ q_1284) (fun _ h9 => h9) n504 dX10_planLine_155 ?_
              refine lv_iconst (v := 1) hx hb dX10_planLine_158 (by decide) ?_
              refine lv_iload_n hx hb dX10_planLine_159 rfl (lv_at hl 0 rfl) ?_
              refine lv_ishl hx hb dX10_planLine_160 ?_
              refine lv_topi (fun v507 ev507 => ?_)
              have k508 : 1 ≤ v507.toInt ∧ v507.toInt ≤ 8 := by rw [ev507]; exact shl1_i (Int.le_trans (by decide) k502.1) (Int.le_trans k502.2 (by decide))
              refine lv_ior hx hb dX10_planLine_161 ?_
              refine lv_topi (fun v509 ev509 => ?_)
              refine put_f (D := D) (ci := 10) (v := .int v509) (ty := .int) (C := RX10) (T := TX10) (N := 67) hx hb hw inAX10 tyX10 tyX10_ok nmX10 hown hK hP hD hS 4 rfl rfl 23 (by decide) (hw _ q_1284) (fun _ h9 => h9) rfl (by decide +kernel) rfl rfl dX10_planLine_162 (fun H locs F510 eF510 hP hD hS => ?_)
              have hP : va_P D vwCl [(h_tape, .inl (cB, 940, .inl f_tape)), (h_s, .inl (cI, 335, .inl f_s)), (h_names, .inl (cJ, 36, .inr (.inl f_names))), (h_reserved, .inl (cJ, 23, .inr (.inl f_reserved))), (h0, .inr (10, vL 67 F510)), (h_planRead, .inl (cI, 24, .inl f_planRead))] H := hP
              have hD : va_D A [(h_tape, .inl (cB, 940, .inl f_tape)), (h_s, .inl (cI, 335, .inl f_s)), (h_names, .inl (cJ, 36, .inr (.inl f_names))), (h_reserved, .inl (cJ, 23, .inr (.inl f_reserved))), (h0, .inr (10, vL 67 F510)), (h_planRead, .inl (cI, 24, .inl f_planRead))] := hD
              refine lv_aload_n hx hb dX10_planLine_165 rfl (lv_at hl 1 rfl) ?_
              have n511 : F437 1 = .ref h_tape := (SAME.at t444 (by decide) e_tape)
              have n512 : F472 1 = .ref h_tape := (SAME.at t474 (by decide) n511)
              have n513 : F510 1 = .ref h_tape := (get_ne eF510 (by decide) n512)
              have n514 : F437 3 = .int x_size := (SAME.at t444 (by decide) e_size)
              have n515 : F472 3 = .int x_size := (SAME.at t474 (by decide) n514)
              have n516 : F510 3 = .int x_size := (get_ne eF510 (by decide) n515)
              have n517 : F472 4 = .int y438 := (SAME.at t474 (by decide) t445)
              have n518 : F510 4 = .int y438 := (get_ne eF510 (by decide) n517)
              have n519 : F437 5 = .int x_limit := (SAME.at t444 (by decide) e_limit)
              have n520 : F472 5 = .int x_limit := (SAME.at t474 (by decide) n519)
              have n521 : F510 5 = .int x_limit := (get_ne eF510 (by decide) n520)
              have n522 : F472 11 = .int y439 := (SAME.at t474 (by decide) t447)
              have n523 : F510 11 = .int y439 := (get_ne eF510 (by decide) n522)
              have n524 : F472 14 = .int y442 := (SAME.at t474 (by decide) t453)
              have n525 : F510 14 = .int y442 := (get_ne eF510 (by decide) n524)
              have n526 : F472 18 = .long y443 := (SAME.at t474 (by decide) t454)
              have n527 : F510 18 = .long y443 := (get_ne eF510 (by decide) n526)
              refine call_Vv (wr := [(h_s, .inl (cI, 335, .inl f_s)), (h_names, .inl (cJ, 36, .inr (.inl f_names))), (h_reserved, .inl (cJ, 23, .inr (.inl f_reserved))), (h_planRead, .inl (cI, 24, .inl f_planRead))]) (As := []) (rest := []) hx hb hml hown hw (m_X10_next l D cI cJ cB cP cM cZ h0 h_tape F510 x_size y438 x_limit y439 y442 y443 f_tape _ n513 n516 i_x_size n518 t446 n521 i_x_limit n523 t448 n525 n527 (by omega)) wV_X10_208_X10_next dX10_planLine_166 hK hP hD hS hA [4, 0] [1, 2, 3, 5] rfl rfl (by decide) (by decide) (by decide) 0 10 rfl rfl GG.fb hG.at hl.1 rfl (Nat.le_of_ble_eq_true rfl) ⟨(Nat.le_of_ble_eq_true rfl), (Nat.le_of_ble_eq_true rfl)⟩ ⟨(Nat.le_of_ble_eq_true rfl), (Nat.le_of_ble_eq_true rfl)⟩ (fun u H locs hp hP hD hS => ?_)
              obtain ⟨F529, y530, y531, y532, y533, y534, y535, t536, t537, t538, t539, t540, t541, t542, t543, t544, t545, t546, t547, t548, t549, rfl⟩ := hp
              clear t456 t457
              have hP : va_P D vwCl [(h_s, .inl (cI, 335, .inl f_s)), (h_names, .inl (cJ, 36, .inr (.inl f_names))), (h_reserved, .inl (cJ, 23, .inr (.inl f_reserved))), (h_planRead, .inl (cI, 24, .inl f_planRead)), (h0, .inr (10, vL 67 F529)), (h_tape, .inl (cB, 940, .inl f_tape))] H := hP
              have hD : va_D A [(h_s, .inl (cI, 335, .inl f_s)), (h_names, .inl (cJ, 36, .inr (.inl f_names))), (h_reserved, .inl (cJ, 23, .inr (.inl f_reserved))), (h_planRead, .inl (cI, 24, .inl f_planRead)), (h0, .inr (10, vL 67 F529)), (h_tape, .inl (cB, 940, .inl f_tape))] := hD
              refine W.widen (k := 0) (n := 0) (Nat.le_of_ble_eq_true rfl) (Nat.le_of_ble_eq_true rfl) ?_
              refine lv_aload_n hx hb dX10_planLine_169 rfl (lv_at hl 1 rfl) ?_
              refine lv_iconst (v := 0) hx hb dX10_planLine_170 (by decide) ?_
              refine lv_aload_n hx hb dX10_planLine_171 rfl (lv_at hl 1 rfl) ?_
              have n551 : F472 6 = .ref h_s := (SAME.at t474 (by decide) n459)
              have n552 : F510 6 = .ref h_s := (get_ne eF510 (by decide) n551)
              have n553 : F529 6 = .ref h_s := (SAME.at t536 (by decide) n552)
              refine get_f (D := D) (ci := 10) (v := .ref h_s) (C := RX10) (T := TX10) (N := 67) hx hb hw inAX10 hown hK hP 4 rfl rfl 6 (by decide) (hw _ q_1267) (fun _ h9 => h9) n553 dX10_planLine_172 ?_
              refine lv_iconst (v := 0) hx hb dX10_planLine_175 (by decide) ?_
              refine iald_n hx hb hK hP 0 0 rfl rfl 0 rfl (Nat.le_of_ble_eq_true rfl) (Nat.le_of_ble_eq_true rfl) rfl dX10_planLine_176 ?_
              refine lv_topi (fun v554 ev554 => ?_)
              have k555 : 0 ≤ v554.toInt ∧ v554.toInt ≤ 40 := by rw [ev554]; exact s_s_0.atN 0 (by decide) (by decide)
              refine lv_iconst (v := 1) hx hb dX10_planLine_177 (by decide) ?_
              refine lv_isub hx hb dX10_planLine_178 ?_
              refine lv_topi (fun v556 ev556 => ?_)
              have bv556 : v556.toInt = v554.toInt - 1 := by rw [ev556]; exact sub_k rfl rfl k555 ⟨Int.le_refl _, Int.le_refl _⟩ (by decide)
              have k557 : (-1) ≤ v556.toInt ∧ v556.toInt ≤ 39 := sub_r bv556 k555 ⟨Int.le_refl _, Int.le_refl _⟩ (by decide)
              have n558 : F529 1 = .ref h_tape := (SAME.at t536 (by decide) n513)
              have n559 : F529 3 = .int x_size := (SAME.at t536 (by decide) n516)
              have n560 : F529 5 = .int x_limit := (SAME.at t536 (by decide) n521)
              have n561 : F510 19 = .int y473 := (get_ne eF510 (by decide) t475)
              have n562 : F529 19 = .int y473 := (SAME.at t536 (by decide) n561)
              refine call_Vi (wr := [(h_s, .inl (cI, 335, .inl f_s)), (h_names, .inl (cJ, 36, .inr (.inl f_names))), (h_reserved, .inl (cJ, 23, .inr (.inl f_reserved))), (h_planRead, .inl (cI, 24, .inl f_planRead))]) (As := [.int 0, .int v556]) (rest := []) hx hb hml hown hw (m_X10_takes l D cI cJ cB cP cM cZ h0 h_tape F529 x_size y530 x_limit y531 y532 y534 y535 y473 f_tape 0 v556 _ n558 n559 i_x_size t537 t538 n560 i_x_limit t539 t540 t541 t545 t546 n562 (by omega)) wV_X10_242_X10_takes dX10_planLine_179 hK hP hD hS hA [4, 5] [0, 1, 2, 3] rfl rfl (by decide) (by decide) (by decide) 0 10 rfl rfl GG.fb hG.at hl.1 rfl (Nat.le_of_ble_eq_true rfl) ⟨(Nat.le_of_ble_eq_true rfl), (Nat.le_of_ble_eq_true rfl)⟩ ⟨(Nat.le_of_ble_eq_true rfl), (Nat.le_of_ble_eq_true rfl)⟩ (fun r563 u H locs hp hP hD hS => ?_)
              have zl0 : (0 : Int32).toInt = 0 := by decide
              rcases hp with hp | hp
              · obtain ⟨F564, y565, t566, t567, t568, t569, rfl, rfl⟩ := hp
                have hP : va_P D vwCl [(h_s, .inl (cI, 335, .inl f_s)), (h_names, .inl (cJ, 36, .inr (.inl f_names))), (h_reserved, .inl (cJ, 23, .inr (.inl f_reserved))), (h_planRead, .inl (cI, 24, .inl f_planRead)), (h0, .inr (10, vL 67 F564)), (h_tape, .inl (cB, 940, .inl f_tape))] H := hP
                have hD : va_D A [(h_s, .inl (cI, 335, .inl f_s)), (h_names, .inl (cJ, 36, .inr (.inl f_names))), (h_reserved, .inl (cJ, 23, .inr (.inl f_reserved))), (h_planRead, .inl (cI, 24, .inl f_planRead)), (h0, .inr (10, vL 67 F564)), (h_tape, .inl (cB, 940, .inl f_tape))] := hD
                refine W.widen (k := 0) (n := 0) (Nat.le_of_ble_eq_true rfl) (Nat.le_of_ble_eq_true rfl) ?_
                refine lv_if_ne (tgt := 187) hx hb dX10_planLine_182 (by decide) (fun g => absurd (by decide) g) (fun _ => ?_)
                refine lv_iconst (v := 0) hx hb dX10_planLine_185 (by decide) ?_
                exact ret_i (v := 0) hx hb hr hlocks hS (hP.sub (ws' := [(h0, .inr (10, vL 67 F564)), (h_tape, .inl (cB, 940, .inl f_tape)), (h_s, .inl (cI, 335, .inl f_s)), (h_names, .inl (cJ, 36, .inr (.inl f_names))), (h_reserved, .inl (cJ, 23, .inr (.inl f_reserved))), (h_planRead, .inl (cI, 24, .inl f_planRead))]) [4, 5, 0, 1, 2, 3] rfl) (hD.sub (ws' := [(h0, .inr (10, vL 67 F564)), (h_tape, .inl (cB, 940, .inl f_tape)), (h_s, .inl (cI, 335, .inl f_s)), (h_names, .inl (cJ, 36, .inr (.inl f_names))), (h_reserved, .inl (cJ, 23, .inr (.inl f_reserved))), (h_planRead, .inl (cI, 24, .inl f_planRead))]) [4, 5, 0, 1, 2, 3] (by decide) rfl) dX10_planLine_186 rfl (Nat.le_of_ble_eq_true rfl) (Nat.le_of_ble_eq_true rfl) (Or.inl ⟨F564, y530, y531, y532, y533, y534, y565, y532, y535, y473, x_onces, v509, x_heights, f_planRead, (SAME.tr (SAME.tr (SAME.up eF510 (SAME.tr (SAME.tr SAME.rf t444 (by decide)) t474 (by decide)) (by decide)) t536 (by decide)) t566 (by decide)), (SAME.at t566 (by decide) t537), t538, (SAME.at t566 (by decide) t539), t540, (SAME.at t566 (by decide) t541), (SAME.at t566 (by decide) t543), (SAME.at t566 (by decide) t545), t567, (ir_wk t568 (by decide) (by decide)), t569, (SAME.at t566 (by decide) t546), (SAME.at t566 (by decide) n562), (SAME.at t566 (by decide) (SAME.at t536 (by decide) (get_ne eF510 (by decide) (SAME.at t474 (by decide) (SAME.at t444 (by decide) e_onces))))), (SAME.at t566 (by decide) (SAME.at t536 (by decide) (get_eq eF510))), (SAME.at t566 (by decide) (SAME.at t536 (by decide) (get_ne eF510 (by decide) (SAME.at t474 (by decide) (SAME.at t444 (by decide) e_heights))))), s_planRead_1, s_planRead_10, (by omega), rfl, rfl⟩)
              · refine hp.elim (fun F570 h9z0 => h9z0.elim (fun y571 h9z1 => h9z1.elim (fun y572 h9z2 => h9z2.elim (fun y573 h9z3 => h9z3.elim (fun y574 h9z4 => h9z4.elim (fun y575 h9z5 => h9z5.elim (fun y576 h9z6 => h9z6.elim (fun y577 h9z7 => h9z7.elim (fun t578 h9z8 => h9z8.elim (fun t579 h9z9 => h9z9.elim (fun t580 h9z10 => h9z10.elim (fun t581 h9z11 => h9z11.elim (fun t582 h9z12 => h9z12.elim (fun t583 h9z13 => h9z13.elim (fun t584 h9z14 => h9z14.elim (fun t585 h9z15 => h9z15.elim (fun t586 h9z16 => h9z16.elim (fun t587 h9z17 => h9z17.elim (fun t588 h9z18 => h9z18.elim (fun t589 h9z19 => h9z19.elim (fun t590 h9z20 => h9z20.elim (fun t591 h9z21 => h9z21.elim (fun t592 h9z22 => h9z22.elim (fun t593 h9z23 => h9z23.elim (fun t594 h9z24 => h9z24.elim (fun t595 h9z25 => h9z25.elim (fun t596 h9z26 => h9z26.elim (fun heq927 h9z27 => ?_))))))))))))))))))))))))))))
                clear h9z0 h9z1 h9z2 h9z3 h9z4 h9z5 h9z6 h9z7 h9z8 h9z9 h9z10 h9z11 h9z12 h9z13 h9z14 h9z15 h9z16 h9z17 h9z18 h9z19 h9z20 h9z21 h9z22 h9z23 h9z24 h9z25 h9z26
                subst heq927
                subst h9z27
                clear t548 t549
                have hP : va_P D vwCl [(h_s, .inl (cI, 335, .inl f_s)), (h_names, .inl (cJ, 36, .inr (.inl f_names))), (h_reserved, .inl (cJ, 23, .inr (.inl f_reserved))), (h_planRead, .inl (cI, 24, .inl f_planRead)), (h0, .inr (10, vL 67 F570)), (h_tape, .inl (cB, 940, .inl f_tape))] H := hP
                have hD : va_D A [(h_s, .inl (cI, 335, .inl f_s)), (h_names, .inl (cJ, 36, .inr (.inl f_names))), (h_reserved, .inl (cJ, 23, .inr (.inl f_reserved))), (h_planRead, .inl (cI, 24, .inl f_planRead)), (h0, .inr (10, vL 67 F570)), (h_tape, .inl (cB, 940, .inl f_tape))] := hD
                refine W.widen (k := 0) (n := 0) (Nat.le_of_ble_eq_true rfl) (Nat.le_of_ble_eq_true rfl) ?_
                have k598 : 2 ≤ y531.toInt ∧ y531.toInt ≤ 2 := ⟨Int.le_trans (Int.le_refl _) (Int.le_of_eq t590.symm), Int.le_trans (Int.le_of_eq t590) (Int.le_refl _)⟩
                have k599 : 0 ≤ y534.toInt ∧ y534.toInt ≤ 2147483647 := ⟨Int.le_trans (Int.le_refl _) t591, (ir_any _).2⟩
                have k600 : 0 ≤ y534.toInt ∧ y534.toInt ≤ 39 := ⟨k599.1, Int.le_trans t592 k557.2⟩
                have k601 : 0 ≤ v556.toInt ∧ v556.toInt ≤ 39 := ⟨Int.le_trans k599.1 t592, k557.2⟩
                have k602 : 1 ≤ v554.toInt ∧ v554.toInt ≤ 40 := ⟨lin_lo (lin_m bv556) k601.1 (by decide), k555.2⟩
                refine lv_if_ne (tgt := 187) hx hb dX10_planLine_182 (by decide) (fun _ => ?_) (fun g => absurd g (by decide))
                refine lv_aload_n hx hb dX10_planLine_187 rfl (lv_at hl 1 rfl) ?_
                have n603 : F510 22 = .ref h_planRead := (get_ne eF510 (by decide) n479)
                have n604 : F529 22 = .ref h_planRead := (SAME.at t536 (by decide) n603)
                have n605 : F570 22 = .ref h_planRead := (SAME.at t578 (by decide) n604)
                refine get_f (D := D) (ci := 10) (v := .ref h_planRead) (C := RX10) (T := TX10) (N := 67) hx hb hw inAX10 hown hK hP 4 rfl rfl 22 (by decide) (hw _ q_1283) (fun _ h9 => h9) n605 dX10_planLine_188 ?_
                refine lv_iconst (v := 5) hx hb dX10_planLine_191 (by decide) ?_
                refine lv_iload_n hx hb dX10_planLine_192 rfl (lv_at hl 0 rfl) ?_
                refine lv_iadd hx hb dX10_planLine_193 ?_
                refine lv_topi (fun v606 ev606 => ?_)
                have bv606 : v606.toInt = 5 + r490.toInt := by rw [ev606]; exact add_k rfl rfl ⟨Int.le_refl _, Int.le_refl _⟩ k502 (by decide)
                have k607 : 5 ≤ v606.toInt ∧ v606.toInt ≤ 8 := add_r bv606 ⟨Int.le_refl _, Int.le_refl _⟩ k502 (by decide)
                refine lv_aload_n hx hb dX10_planLine_194 rfl (lv_at hl 1 rfl) ?_
                refine get_f (D := D) (ci := 10) (v := .int y577) (C := RX10) (T := TX10) (N := 67) hx hb hw inAX10 hown hK hP 4 rfl rfl 19 (by decide) (hw _ q_1280) (fun _ h9 => h9) t589 dX10_planLine_195 ?_
                obtain ⟨g608, eg608⟩ : ∃ z : Nat → Int32, upd f_planRead v606.toNatClampNeg y577 = z := ⟨_, rfl⟩
                have r609 : SG 1 4 0 11 g608 := by rw [← eg608]; exact s_planRead_1.up (Int.le_trans (by decide) k607.1) (Or.inr (Or.inl (dec_lt k607.1 (by decide))))
                have r610 : SG 10 10 0 5 g608 := by rw [← eg608]; exact s_planRead_10.up (Int.le_trans (by decide) k607.1) (Or.inl (lt_dec k607.2 (by decide)))
                refine iast_g hx hb hK hP hD hS 3 0 rfl rfl (ix_k k607 (by decide) (by decide)) eg608 dX10_planLine_198 (fun H locs hP hD hS => ?_)
                have hP : va_P D vwCl [(h_s, .inl (cI, 335, .inl f_s)), (h_names, .inl (cJ, 36, .inr (.inl f_names))), (h_reserved, .inl (cJ, 23, .inr (.inl f_reserved))), (h_planRead, .inl (cI, 24, .inl g608)), (h0, .inr (10, vL 67 F570)), (h_tape, .inl (cB, 940, .inl f_tape))] H := hP
                have hD : va_D A [(h_s, .inl (cI, 335, .inl f_s)), (h_names, .inl (cJ, 36, .inr (.inl f_names))), (h_reserved, .inl (cJ, 23, .inr (.inl f_reserved))), (h_planRead, .inl (cI, 24, .inl g608)), (h0, .inr (10, vL 67 F570)), (h_tape, .inl (cB, 940, .inl f_tape))] := hD
                refine lv_iconst (v := 1) hx hb dX10_planLine_199 (by decide) ?_
                exact ret_i (v := 1) hx hb hr hlocks hS (hP.sub (ws' := [(h0, .inr (10, vL 67 F570)), (h_tape, .inl (cB, 940, .inl f_tape)), (h_s, .inl (cI, 335, .inl f_s)), (h_names, .inl (cJ, 36, .inr (.inl f_names))), (h_reserved, .inl (cJ, 23, .inr (.inl f_reserved))), (h_planRead, .inl (cI, 24, .inl g608))]) [4, 5, 0, 1, 2, 3] rfl) (hD.sub (ws' := [(h0, .inr (10, vL 67 F570)), (h_tape, .inl (cB, 940, .inl f_tape)), (h_s, .inl (cI, 335, .inl f_s)), (h_names, .inl (cJ, 36, .inr (.inl f_names))), (h_reserved, .inl (cJ, 23, .inr (.inl f_reserved))), (h_planRead, .inl (cI, 24, .inl g608))]) [4, 5, 0, 1, 2, 3] (by decide) rfl) dX10_planLine_200 rfl (Nat.le_of_ble_eq_true rfl) (Nat.le_of_ble_eq_true rfl) (Or.inr ⟨F570, y571, y572, y573, y574, y575, x_fault, x_faultAt, y576, y577, x_onces, v509, x_heights, g608, (SAME.tr (SAME.tr (SAME.up eF510 (SAME.tr (SAME.tr SAME.rf t444 (by decide)) t474 (by decide)) (by decide)) t536 (by decide)) t578 (by decide)), t579, t580, t581, t582, t583, t584, t585, t586, t587, (SAME.at t578 (by decide) (SAME.at t536 (by decide) (get_ne eF510 (by decide) (SAME.at t474 (by decide) (SAME.at t444 (by decide) e_fault))))), (SAME.at t578 (by decide) (SAME.at t536 (by decide) (get_ne eF510 (by decide) (SAME.at t474 (by decide) (SAME.at t444 (by decide) e_faultAt))))), t588, t589, (SAME.at t578 (by decide) (SAME.at t536 (by decide) (get_ne eF510 (by decide) (SAME.at t474 (by decide) (SAME.at t444 (by decide) e_onces))))), (SAME.at t578 (by decide) (SAME.at t536 (by decide) (get_eq eF510))), (SAME.at t578 (by decide) (SAME.at t536 (by decide) (get_ne eF510 (by decide) (SAME.at t474 (by decide) (SAME.at t444 (by decide) e_heights))))), r609, r610, (by have zl1 : (1 : Int32).toInt = 1 := (by decide); omega), (by have zl1 : (1 : Int32).toInt = 1 := (by decide); omega), (by omega), rfl, rfl⟩)
            · have hP : va_P D vwCl [(h_tape, .inl (cB, 940, .inl f_tape)), (h_s, .inl (cI, 335, .inl f_s)), (h_names, .inl (cJ, 36, .inr (.inl f_names))), (h_reserved, .inl (cJ, 23, .inr (.inl f_reserved))), (h0, .inr (10, vL 67 F472)), (h_planRead, .inl (cI, 24, .inl f_planRead))] H := hP
              have hD : va_D A [(h_tape, .inl (cB, 940, .inl f_tape)), (h_s, .inl (cI, 335, .inl f_s)), (h_names, .inl (cJ, 36, .inr (.inl f_names))), (h_reserved, .inl (cJ, 23, .inr (.inl f_reserved))), (h0, .inr (10, vL 67 F472)), (h_planRead, .inl (cI, 24, .inl f_planRead))] := hD
              refine W.widen (k := 0) (n := 0) (Nat.le_of_ble_eq_true rfl) (Nat.le_of_ble_eq_true rfl) ?_
              refine lv_if_eq (tgt := 153) hx hb dX10_planLine_144 (by decide) (fun g => absurd g (by decide)) (fun _ => ?_)
              refine lv_aload_n hx hb dX10_planLine_147 rfl (lv_at hl 1 rfl) ?_
              refine lv_iconst (v := 3) hx hb dX10_planLine_148 (by decide) ?_
              have n611 : F472 12 = .int y440 := (SAME.at t474 (by decide) t449)
              refine call_Vi (wr := [(h_tape, .inl (cB, 940, .inl f_tape)), (h_s, .inl (cI, 335, .inl f_s)), (h_names, .inl (cJ, 36, .inr (.inl f_names))), (h_reserved, .inl (cJ, 23, .inr (.inl f_reserved))), (h_planRead, .inl (cI, 24, .inl f_planRead))]) (As := [.int 3]) (rest := []) hx hb hml hown hw (m_X10_bad l D cI cJ cB cP cM cZ h0 F472 y440 3 _ n611) wV_X10_205_X10_bad dX10_planLine_149 hK hP hD hS hA [4] [0, 1, 2, 3, 5] rfl rfl (by decide) (by decide) (by decide) 0 10 rfl rfl GG.fb hG.at hl.1 rfl (Nat.le_of_ble_eq_true rfl) ⟨(Nat.le_of_ble_eq_true rfl), (Nat.le_of_ble_eq_true rfl)⟩ ⟨(Nat.le_of_ble_eq_true rfl), (Nat.le_of_ble_eq_true rfl)⟩ (fun r612 u H locs hp hP hD hS => ?_)
              have zl3 : (3 : Int32).toInt = 3 := by decide
              obtain ⟨F613, t614, t615, t616, rfl, rfl⟩ := hp
              have hP : va_P D vwCl [(h_tape, .inl (cB, 940, .inl f_tape)), (h_s, .inl (cI, 335, .inl f_s)), (h_names, .inl (cJ, 36, .inr (.inl f_names))), (h_reserved, .inl (cJ, 23, .inr (.inl f_reserved))), (h_planRead, .inl (cI, 24, .inl f_planRead)), (h0, .inr (10, vL 67 F613))] H := hP
              have hD : va_D A [(h_tape, .inl (cB, 940, .inl f_tape)), (h_s, .inl (cI, 335, .inl f_s)), (h_names, .inl (cJ, 36, .inr (.inl f_names))), (h_reserved, .inl (cJ, 23, .inr (.inl f_reserved))), (h_planRead, .inl (cI, 24, .inl f_planRead)), (h0, .inr (10, vL 67 F613))] := hD
              refine W.widen (k := 0) (n := 0) (Nat.le_of_ble_eq_true rfl) (Nat.le_of_ble_eq_true rfl) ?_
              exact ret_i (v := 0) hx hb hr hlocks hS (hP.sub (ws' := [(h0, .inr (10, vL 67 F613)), (h_tape, .inl (cB, 940, .inl f_tape)), (h_s, .inl (cI, 335, .inl f_s)), (h_names, .inl (cJ, 36, .inr (.inl f_names))), (h_reserved, .inl (cJ, 23, .inr (.inl f_reserved))), (h_planRead, .inl (cI, 24, .inl f_planRead))]) [5, 0, 1, 2, 3, 4] rfl) (hD.sub (ws' := [(h0, .inr (10, vL 67 F613)), (h_tape, .inl (cB, 940, .inl f_tape)), (h_s, .inl (cI, 335, .inl f_s)), (h_names, .inl (cJ, 36, .inr (.inl f_names))), (h_reserved, .inl (cJ, 23, .inr (.inl f_reserved))), (h_planRead, .inl (cI, 24, .inl f_planRead))]) [5, 0, 1, 2, 3, 4] (by decide) rfl) dX10_planLine_152 rfl (Nat.le_of_ble_eq_true rfl) (Nat.le_of_ble_eq_true rfl) (Or.inl ⟨F613, y438, y439, y440, y441, y442, 3, y440, y443, y473, x_onces, x_jumped, x_heights, f_planRead, (SAME.tr (SAME.tr (SAME.tr SAME.rf t444 (by decide)) t474 (by decide)) t614 (by decide)), (SAME.at t614 (by decide) (SAME.at t474 (by decide) t445)), t446, (SAME.at t614 (by decide) (SAME.at t474 (by decide) t447)), t448, (SAME.at t614 (by decide) n611), (SAME.at t614 (by decide) (SAME.at t474 (by decide) t451)), (SAME.at t614 (by decide) (SAME.at t474 (by decide) t453)), t615, (show 1 ≤ (3 : Int32).toInt ∧ (3 : Int32).toInt ≤ 3 by decide), t616, (SAME.at t614 (by decide) (SAME.at t474 (by decide) t454)), (SAME.at t614 (by decide) t475), (SAME.at t614 (by decide) (SAME.at t474 (by decide) (SAME.at t444 (by decide) e_onces))), (SAME.at t614 (by decide) n504), (SAME.at t614 (by decide) (SAME.at t474 (by decide) (SAME.at t444 (by decide) e_heights))), s_planRead_1, s_planRead_10, (by have zl3 : (3 : Int32).toInt = 3 := (by decide); omega), rfl, rfl⟩)
  · have dc5 : r1.toInt ≠ 0 := ne_i (a := r1.toInt) (b := 0) rfl rfl c5
    have k618 : 1 ≤ r1.toInt ∧ r1.toInt ≤ 1 := ⟨ne_lo dc5 t2.1 ⟨Int.le_refl _, Int.le_refl _⟩ (by decide), t2.2⟩
    refine lv_aload_n hx hb dX10_planLine_10 rfl (lv_at hl 0 rfl) ?_
    refine lv_iconst (v := 0) hx hb dX10_planLine_11 (by decide) ?_
    refine call_Vi (wr := [(h_s, .inl (cI, 335, .inl f_s)), (h_names, .inl (cJ, 36, .inr (.inl f_names))), (h_reserved, .inl (cJ, 23, .inr (.inl f_reserved))), (h_planRead, .inl (cI, 24, .inl f_planRead))]) (As := [.int 0]) (rest := []) hx hb hml hown hw (m_X10_isOnce l D cI cJ cB cP cM cZ h0 h_tape Fh x_size x_p x_limit x_token x_at x_number x_word x_onces f_tape 0 _ e_tape e_size i_x_size e_p i_x_p e_limit i_x_limit e_token i_x_token e_at e_number e_word e_onces (by omega)) wV_X10_239_X10_isOnce dX10_planLine_12 hK hP hD hS hA [5, 0] [1, 2, 3, 4] rfl rfl (by decide) (by decide) (by decide) 0 10 rfl rfl GG.fb hG.at hl.1 rfl (Nat.le_of_ble_eq_true rfl) ⟨(Nat.le_of_ble_eq_true rfl), (Nat.le_of_ble_eq_true rfl)⟩ ⟨(Nat.le_of_ble_eq_true rfl), (Nat.le_of_ble_eq_true rfl)⟩ (fun r619 u H locs hp hP hD hS => ?_)
    have zl0 : (0 : Int32).toInt = 0 := by decide
    rcases hp with hp | hp
    · refine hp.elim (fun F620 h9z0 => h9z0.elim (fun y621 h9z1 => h9z1.elim (fun y622 h9z2 => h9z2.elim (fun y623 h9z3 => h9z3.elim (fun y624 h9z4 => h9z4.elim (fun y625 h9z5 => h9z5.elim (fun y626 h9z6 => h9z6.elim (fun y627 h9z7 => h9z7.elim (fun t628 h9z8 => h9z8.elim (fun t629 h9z9 => h9z9.elim (fun t630 h9z10 => h9z10.elim (fun t631 h9z11 => h9z11.elim (fun t632 h9z12 => h9z12.elim (fun t633 h9z13 => h9z13.elim (fun t634 h9z14 => h9z14.elim (fun t635 h9z15 => h9z15.elim (fun t636 h9z16 => h9z16.elim (fun t637 h9z17 => h9z17.elim (fun t638 h9z18 => h9z18.elim (fun t639 h9z19 => h9z19.elim (fun t640 h9z20 => h9z20.elim (fun t641 h9z21 => h9z21.elim (fun t642 h9z22 => h9z22.elim (fun heq923 h9z23 => ?_))))))))))))))))))))))))
      clear h9z0 h9z1 h9z2 h9z3 h9z4 h9z5 h9z6 h9z7 h9z8 h9z9 h9z10 h9z11 h9z12 h9z13 h9z14 h9z15 h9z16 h9z17 h9z18 h9z19 h9z20 h9z21 h9z22
      subst heq923
      subst h9z23
      have hP : va_P D vwCl [(h_s, .inl (cI, 335, .inl f_s)), (h_names, .inl (cJ, 36, .inr (.inl f_names))), (h_reserved, .inl (cJ, 23, .inr (.inl f_reserved))), (h_planRead, .inl (cI, 24, .inl f_planRead)), (h0, .inr (10, vL 67 F620)), (h_tape, .inl (cB, 940, .inl f_tape))] H := hP
      have hD : va_D A [(h_s, .inl (cI, 335, .inl f_s)), (h_names, .inl (cJ, 36, .inr (.inl f_names))), (h_reserved, .inl (cJ, 23, .inr (.inl f_reserved))), (h_planRead, .inl (cI, 24, .inl f_planRead)), (h0, .inr (10, vL 67 F620)), (h_tape, .inl (cB, 940, .inl f_tape))] := hD
      refine W.widen (k := 0) (n := 0) (Nat.le_of_ble_eq_true rfl) (Nat.le_of_ble_eq_true rfl) ?_
      refine lv_if_ne (tgt := 20) hx hb dX10_planLine_15 (by decide) (fun _ => ?_) (fun g => absurd g (by decide))
      refine lv_iconst (v := 0) hx hb dX10_planLine_20 (by decide) ?_
      refine lv_istore_n (lv' := [(1, .int 0), (0, .ref h0)]) hx hb dX10_planLine_21 rfl hl (by decide) rfl (fun ls hl => ?_)
      have n661 : F620 15 = .int x_fault := (SAME.at t628 (by decide) e_fault)
      have n662 : F620 16 = .int x_faultAt := (SAME.at t628 (by decide) e_faultAt)
      have n663 : F620 19 = .int x_got := (SAME.at t628 (by decide) e_got)
      refine mloop (α := (Int32) × (Nat → Int32) × (Nat → Value) × (Int32) × (Int32) × (Int32) × (Int32) × (Int32) × (Int32) × (Int32) × (Int64) × (Int32)) (nL := 2) (D := D) (A := A) (H0 := s.heap) (fun a => (4 - a.1.toInt).toNat) (fun a => IR 0 4 a.1 ∧ SG 1 4 0 11 a.2.1 ∧ SG 10 10 0 5 a.2.1 ∧ SAME [4, 11, 12, 13, 14, 15, 16, 18, 19] F620 a.2.2.1 ∧ a.2.2.1 4 = .int a.2.2.2.1 ∧ a.2.2.1 11 = .int a.2.2.2.2.1 ∧ a.2.2.1 12 = .int a.2.2.2.2.2.1 ∧ a.2.2.1 13 = .int a.2.2.2.2.2.2.1 ∧ a.2.2.1 14 = .int a.2.2.2.2.2.2.2.1 ∧ a.2.2.1 15 = .int a.2.2.2.2.2.2.2.2.1 ∧ a.2.2.1 16 = .int a.2.2.2.2.2.2.2.2.2.1 ∧ a.2.2.1 18 = .long a.2.2.2.2.2.2.2.2.2.2.1 ∧ a.2.2.1 19 = .int a.2.2.2.2.2.2.2.2.2.2.2 ∧ IR 0 940 a.2.2.2.1 ∧ IR 0 4 a.2.2.2.2.1 ∧ IR 0 940 a.2.2.2.2.2.1 ∧ IR 0 940 a.2.2.2.2.2.2.1 ∧ (x_p.toInt ≤ a.2.2.2.1.toInt) ∧ ((1 ≤ a.2.2.2.2.1.toInt → a.2.2.2.2.1.toInt ≤ 3 → x_p.toInt < a.2.2.2.1.toInt)) ∧ ((a.2.2.2.2.1.toInt = 2 → 0 ≤ a.2.2.2.2.2.2.2.1.toInt ∧ a.2.2.2.2.2.2.2.1.toInt ≤ 999))) (fun a => [(h_s, .inl (cI, 335, .inl f_s)), (h_names, .inl (cJ, 36, .inr (.inl f_names))), (h_reserved, .inl (cJ, 23, .inr (.inl f_reserved))), (h_planRead, .inl (cI, 24, .inl a.2.1)), (h0, .inr (10, vL 67 a.2.2.1)), (h_tape, .inl (cB, 940, .inl f_tape))]) (fun a => [(1, .int a.1), (0, .ref h0)]) (fun H locs ls => W p l e ({ frames := 3, cells := 0, slots := 0, locals := 65 } : Room) s m [.ref h0].toArray below meth c H locs 0 0 (MQ below (va_Qi (fun (r : Int32) (u : va_W) => (∃ (Gh : Nat → Value) (y_p : Int32) (y_token : Int32) (y_at : Int32) (y_span : Int32) (y_number : Int32) (y_fault : Int32) (y_faultAt : Int32) (y_word : Int64) (y_got : Int32) (y_onces : Int32) (y_jumped : Int32) (y_heights : Int32) (g_planRead : Nat → Int32), SAME [4, 11, 12, 13, 14, 15, 16, 18, 19, 21, 23, 24] Fh Gh ∧ Gh 4 = .int y_p ∧ IR 0 940 y_p ∧ Gh 11 = .int y_token ∧ IR 0 4 y_token ∧ Gh 12 = .int y_at ∧ Gh 13 = .int y_span ∧ Gh 14 = .int y_number ∧ Gh 15 = .int y_fault ∧ IR 1 3 y_fault ∧ Gh 16 = .int y_faultAt ∧ Gh 18 = .long y_word ∧ Gh 19 = .int y_got ∧ Gh 21 = .int y_onces ∧ Gh 23 = .int y_jumped ∧ Gh 24 = .int y_heights ∧ SG 1 4 0 11 g_planRead ∧ SG 10 10 0 5 g_planRead ∧ ((y_token.toInt = 2 → 0 ≤ y_number.toInt ∧ y_number.toInt ≤ 999)) ∧ r = 0 ∧ u = [(h0, .inr (10, vL 67 Gh)), (h_tape, .inl (cB, 940, .inl f_tape)), (h_s, .inl (cI, 335, .inl f_s)), (h_names, .inl (cJ, 36, .inr (.inl f_names))), (h_reserved, .inl (cJ, 23, .inr (.inl f_reserved))), (h_planRead, .inl (cI, 24, .inl g_planRead))]) ∨ (∃ (Gh : Nat → Value) (y_p : Int32) (y_token : Int32) (y_at : Int32) (y_span : Int32) (y_number : Int32) (y_fault : Int32) (y_faultAt : Int32) (y_word : Int64) (y_got : Int32) (y_onces : Int32) (y_jumped : Int32) (y_heights : Int32) (g_planRead : Nat → Int32), SAME [4, 11, 12, 13, 14, 15, 16, 18, 19, 21, 23, 24] Fh Gh ∧ Gh 4 = .int y_p ∧ IR 0 940 y_p ∧ Gh 11 = .int y_token ∧ IR 0 4 y_token ∧ Gh 12 = .int y_at ∧ IR 0 940 y_at ∧ Gh 13 = .int y_span ∧ IR 0 940 y_span ∧ Gh 14 = .int y_number ∧ Gh 15 = .int y_fault ∧ Gh 16 = .int y_faultAt ∧ Gh 18 = .long y_word ∧ Gh 19 = .int y_got ∧ Gh 21 = .int y_onces ∧ Gh 23 = .int y_jumped ∧ Gh 24 = .int y_heights ∧ SG 1 4 0 11 g_planRead ∧ SG 10 10 0 5 g_planRead ∧ (x_p.toInt ≤ y_p.toInt) ∧ ((1 ≤ y_token.toInt → y_token.toInt ≤ 3 → x_p.toInt < y_p.toInt)) ∧ ((y_token.toInt = 2 → 0 ≤ y_number.toInt ∧ y_number.toInt ≤ 999)) ∧ r = 1 ∧ u = [(h0, .inr (10, vL 67 Gh)), (h_tape, .inl (cB, 940, .inl f_tape)), (h_s, .inl (cI, 335, .inl f_s)), (h_names, .inl (cJ, 36, .inr (.inl f_names))), (h_reserved, .inl (cJ, 23, .inr (.inl f_reserved))), (h_planRead, .inl (cI, 24, .inl g_planRead))])) (PO D A) A) [.ref h0].toArray s 0 0 A) (F0 m 22 ls [])) ?_ (0, f_planRead, F620, y621, y622, y623, y624, y625, x_fault, x_faultAt, y626, x_got) ⟨(show 0 ≤ (0 : Int32).toInt ∧ (0 : Int32).toInt ≤ 4 by decide), s_planRead_1, s_planRead_10, SAME.rf, t629, t631, t633, t635, t637, n661, n662, t638, n663, t630, t632, t634, t636, (by show x_p.toInt ≤ y621.toInt; omega), (by show (1 ≤ y622.toInt → y622.toInt ≤ 3 → x_p.toInt < y621.toInt); omega), (by show (y622.toInt = 2 → 0 ≤ y625.toInt ∧ y625.toInt ≤ 999); omega)⟩ _ _ _ hP hD hS hl
      rintro ⟨u649, w650, G651, u652, u653, u654, u655, u656, u657, u658, u659, u660⟩ ⟨i664, i665, i666, i667, i668, i669, i670, i671, i672, i673, i674, i675, i676, i677, i678, i679, i680, i681, i682, i683⟩ ih H locs ls hP hD hS hl
      have i664 : 0 ≤ u649.toInt ∧ u649.toInt ≤ 4 := i664
      have i677 : 0 ≤ u652.toInt ∧ u652.toInt ≤ 940 := i677
      have i678 : 0 ≤ u653.toInt ∧ u653.toInt ≤ 4 := i678
      have i679 : 0 ≤ u654.toInt ∧ u654.toInt ≤ 940 := i679
      have i680 : 0 ≤ u655.toInt ∧ u655.toInt ≤ 940 := i680
      have i681 : x_p.toInt ≤ u652.toInt := i681
      have i682 : (1 ≤ u653.toInt → u653.toInt ≤ 3 → x_p.toInt < u652.toInt) := i682
      have i683 : (u653.toInt = 2 → 0 ≤ u656.toInt ∧ u656.toInt ≤ 999) := i683
      have hP : va_P D vwCl [(h_s, .inl (cI, 335, .inl f_s)), (h_names, .inl (cJ, 36, .inr (.inl f_names))), (h_reserved, .inl (cJ, 23, .inr (.inl f_reserved))), (h_planRead, .inl (cI, 24, .inl w650)), (h0, .inr (10, vL 67 G651)), (h_tape, .inl (cB, 940, .inl f_tape))] H := hP
      have hD : va_D A [(h_s, .inl (cI, 335, .inl f_s)), (h_names, .inl (cJ, 36, .inr (.inl f_names))), (h_reserved, .inl (cJ, 23, .inr (.inl f_reserved))), (h_planRead, .inl (cI, 24, .inl w650)), (h0, .inr (10, vL 67 G651)), (h_tape, .inl (cB, 940, .inl f_tape))] := hD
      have hl : lv_has ls 2 [(1, .int u649), (0, .ref h0)] := hl
      refine lv_iload_n hx hb dX10_planLine_22 rfl (lv_at hl 0 rfl) ?_
      refine lv_iconst (v := 4) hx hb dX10_planLine_23 (by decide) ?_
      refine lv_icmp_ge (tgt := 76) hx hb dX10_planLine_24 (by decide) (fun c684 => ?_) (fun c684 => ?_)
      · have dc684 : 4 ≤ u649.toInt := le_i (a := 4) (b := u649.toInt) rfl rfl c684
        have k685 : 4 ≤ u649.toInt ∧ u649.toInt ≤ 4 := ⟨Int.le_trans (Int.le_refl _) dc684, i664.2⟩
        refine lv_aload_n hx hb dX10_planLine_76 rfl (lv_at hl 1 rfl) ?_
        have n686 : F620 22 = .ref h_planRead := (SAME.at t628 (by decide) e_planRead)
        have n687 : G651 22 = .ref h_planRead := (SAME.at i667 (by decide) n686)
        refine get_f (D := D) (ci := 10) (v := .ref h_planRead) (C := RX10) (T := TX10) (N := 67) hx hb hw inAX10 hown hK hP 4 rfl rfl 22 (by decide) (hw _ q_1283) (fun _ h9 => h9) n687 dX10_planLine_77 ?_
        refine lv_iconst (v := 0) hx hb dX10_planLine_80 (by decide) ?_
        refine lv_iconst (v := 1) hx hb dX10_planLine_81 (by decide) ?_
        obtain ⟨g688, eg688⟩ : ∃ z : Nat → Int32, upd w650 0 1 = z := ⟨_, rfl⟩
        have r689 : SG 1 4 0 11 g688 := by rw [← eg688]; exact i665.upN (Or.inl (by decide))
        have r690 : SG 10 10 0 5 g688 := by rw [← eg688]; exact i666.upN (Or.inl (by decide))
        refine iast_n hx hb hK hP hD hS 3 0 rfl rfl 0 rfl (Nat.le_of_ble_eq_true rfl) (Nat.le_of_ble_eq_true rfl) eg688 dX10_planLine_82 (fun H locs hP hD hS => ?_)
        have hP : va_P D vwCl [(h_s, .inl (cI, 335, .inl f_s)), (h_names, .inl (cJ, 36, .inr (.inl f_names))), (h_reserved, .inl (cJ, 23, .inr (.inl f_reserved))), (h_planRead, .inl (cI, 24, .inl g688)), (h0, .inr (10, vL 67 G651)), (h_tape, .inl (cB, 940, .inl f_tape))] H := hP
        have hD : va_D A [(h_s, .inl (cI, 335, .inl f_s)), (h_names, .inl (cJ, 36, .inr (.inl f_names))), (h_reserved, .inl (cJ, 23, .inr (.inl f_reserved))), (h_planRead, .inl (cI, 24, .inl g688)), (h0, .inr (10, vL 67 G651)), (h_tape, .inl (cB, 940, .inl f_tape))] := hD
        refine lv_iconst (v := 1) hx hb dX10_planLine_83 (by decide) ?_
        exact ret_i (v := 1) hx hb hr hlocks hS (hP.sub (ws' := [(h0, .inr (10, vL 67 G651)), (h_tape, .inl (cB, 940, .inl f_tape)), (h_s, .inl (cI, 335, .inl f_s)), (h_names, .inl (cJ, 36, .inr (.inl f_names))), (h_reserved, .inl (cJ, 23, .inr (.inl f_reserved))), (h_planRead, .inl (cI, 24, .inl g688))]) [4, 5, 0, 1, 2, 3] rfl) (hD.sub (ws' := [(h0, .inr (10, vL 67 G651)), (h_tape, .inl (cB, 940, .inl f_tape)), (h_s, .inl (cI, 335, .inl f_s)), (h_names, .inl (cJ, 36, .inr (.inl f_names))), (h_reserved, .inl (cJ, 23, .inr (.inl f_reserved))), (h_planRead, .inl (cI, 24, .inl g688))]) [4, 5, 0, 1, 2, 3] (by decide) rfl) dX10_planLine_84 rfl (Nat.le_of_ble_eq_true rfl) (Nat.le_of_ble_eq_true rfl) (Or.inr ⟨G651, u652, u653, u654, u655, u656, u657, u658, u659, u660, y627, x_jumped, x_heights, g688, (SAME.tr (SAME.tr SAME.rf t628 (by decide)) i667 (by decide)), i668, i677, i669, i678, i670, i679, i671, i680, i672, i673, i674, i675, i676, (SAME.at i667 (by decide) t639), (SAME.at i667 (by decide) (SAME.at t628 (by decide) e_jumped)), (SAME.at i667 (by decide) (SAME.at t628 (by decide) e_heights)), r689, r690, (by have zl1 : (1 : Int32).toInt = 1 := (by decide); omega), (by have zl1 : (1 : Int32).toInt = 1 := (by decide); omega), (by omega), rfl, rfl⟩)
      · have dc684 : u649.toInt < 4 := nle_i (a := 4) (b := u649.toInt) rfl rfl c684
        have k691 : 0 ≤ u649.toInt ∧ u649.toInt ≤ 3 := ⟨i664.1, up_lt dc684 (Int.le_refl _) (by decide)⟩
        refine lv_aload_n hx hb dX10_planLine_27 rfl (lv_at hl 1 rfl) ?_
        have n692 : F620 6 = .ref h_s := (SAME.at t628 (by decide) e_s)
        have n693 : G651 6 = .ref h_s := (SAME.at i667 (by decide) n692)
        have n694 : F620 9 = .ref h_names := (SAME.at t628 (by decide) e_names)
        have n695 : G651 9 = .ref h_names := (SAME.at i667 (by decide) n694)
        have n696 : F620 10 = .ref h_reserved := (SAME.at t628 (by decide) e_reserved)
        have n697 : G651 10 = .ref h_reserved := (SAME.at i667 (by decide) n696)
        refine call_Vi (wr := [(h_planRead, .inl (cI, 24, .inl w650)), (h_tape, .inl (cB, 940, .inl f_tape))]) (As := []) (rest := []) hx hb hml hown hw (m_X10_looksAtMan l D cI cJ cB cP cM cZ h0 h_s h_names h_reserved G651 u653 u654 u656 u659 u660 f_s f_names f_reserved _ n693 n695 n697 i669 i678 i670 i672 i675 i676 s_s_K0 s_s_0 s_s_105 s_s_114 s_s_130 s_s_139 s_s_153 s_s_44 s_s_5 s_s_6 s_s_7 (by omega)) wV_X10_266_X10_looksAtMan dX10_planLine_28 hK hP hD hS hA [4, 0, 1, 2] [3, 5] rfl rfl (by decide) (by decide) (by decide) 0 10 rfl rfl GG.fb hG.at hl.1 rfl (Nat.le_of_ble_eq_true rfl) ⟨(Nat.le_of_ble_eq_true rfl), (Nat.le_of_ble_eq_true rfl)⟩ ⟨(Nat.le_of_ble_eq_true rfl), (Nat.le_of_ble_eq_true rfl)⟩ (fun r698 u H locs hp hP hD hS => ?_)
        rcases hp with ⟨F699, y700, y701, t702, t703, t704, t705, t706, rfl, rfl⟩ | ⟨F707, y708, t709, t710, t711, rfl, rfl⟩
        · have hP : va_P D vwCl [(h_planRead, .inl (cI, 24, .inl w650)), (h_tape, .inl (cB, 940, .inl f_tape)), (h0, .inr (10, vL 67 F699)), (h_s, .inl (cI, 335, .inl f_s)), (h_names, .inl (cJ, 36, .inr (.inl f_names))), (h_reserved, .inl (cJ, 23, .inr (.inl f_reserved)))] H := hP
          have hD : va_D A [(h_planRead, .inl (cI, 24, .inl w650)), (h_tape, .inl (cB, 940, .inl f_tape)), (h0, .inr (10, vL 67 F699)), (h_s, .inl (cI, 335, .inl f_s)), (h_names, .inl (cJ, 36, .inr (.inl f_names))), (h_reserved, .inl (cJ, 23, .inr (.inl f_reserved)))] := hD
          refine W.widen (k := 0) (n := 0) (Nat.le_of_ble_eq_true rfl) (Nat.le_of_ble_eq_true rfl) ?_
          refine lv_if_ne (tgt := 36) hx hb dX10_planLine_31 (by decide) (fun g => absurd (by decide) g) (fun _ => ?_)
          refine lv_iconst (v := 0) hx hb dX10_planLine_34 (by decide) ?_
          exact ret_i (v := 0) hx hb hr hlocks hS (hP.sub (ws' := [(h0, .inr (10, vL 67 F699)), (h_tape, .inl (cB, 940, .inl f_tape)), (h_s, .inl (cI, 335, .inl f_s)), (h_names, .inl (cJ, 36, .inr (.inl f_names))), (h_reserved, .inl (cJ, 23, .inr (.inl f_reserved))), (h_planRead, .inl (cI, 24, .inl w650))]) [2, 1, 3, 4, 5, 0] rfl) (hD.sub (ws' := [(h0, .inr (10, vL 67 F699)), (h_tape, .inl (cB, 940, .inl f_tape)), (h_s, .inl (cI, 335, .inl f_s)), (h_names, .inl (cJ, 36, .inr (.inl f_names))), (h_reserved, .inl (cJ, 23, .inr (.inl f_reserved))), (h_planRead, .inl (cI, 24, .inl w650))]) [2, 1, 3, 4, 5, 0] (by decide) rfl) dX10_planLine_35 rfl (Nat.le_of_ble_eq_true rfl) (Nat.le_of_ble_eq_true rfl) (Or.inl ⟨F699, u652, u653, u654, u655, u656, y700, u654, u659, y701, y627, x_jumped, x_heights, w650, (SAME.tr (SAME.tr (SAME.tr SAME.rf t628 (by decide)) i667 (by decide)) t702 (by decide)), (SAME.at t702 (by decide) i668), i677, (SAME.at t702 (by decide) i669), i678, (SAME.at t702 (by decide) i670), (SAME.at t702 (by decide) i671), (SAME.at t702 (by decide) i672), t703, t704, t705, (SAME.at t702 (by decide) i675), t706, (SAME.at t702 (by decide) (SAME.at i667 (by decide) t639)), (SAME.at t702 (by decide) (SAME.at i667 (by decide) (SAME.at t628 (by decide) e_jumped))), (SAME.at t702 (by decide) (SAME.at i667 (by decide) (SAME.at t628 (by decide) e_heights))), i665, i666, (by omega), rfl, rfl⟩)
        · have hP : va_P D vwCl [(h_planRead, .inl (cI, 24, .inl w650)), (h_tape, .inl (cB, 940, .inl f_tape)), (h0, .inr (10, vL 67 F707)), (h_s, .inl (cI, 335, .inl f_s)), (h_names, .inl (cJ, 36, .inr (.inl f_names))), (h_reserved, .inl (cJ, 23, .inr (.inl f_reserved)))] H := hP
          have hD : va_D A [(h_planRead, .inl (cI, 24, .inl w650)), (h_tape, .inl (cB, 940, .inl f_tape)), (h0, .inr (10, vL 67 F707)), (h_s, .inl (cI, 335, .inl f_s)), (h_names, .inl (cJ, 36, .inr (.inl f_names))), (h_reserved, .inl (cJ, 23, .inr (.inl f_reserved)))] := hD
          refine W.widen (k := 0) (n := 0) (Nat.le_of_ble_eq_true rfl) (Nat.le_of_ble_eq_true rfl) ?_
          refine lv_if_ne (tgt := 36) hx hb dX10_planLine_31 (by decide) (fun _ => ?_) (fun g => absurd g (by decide))
          refine lv_aload_n hx hb dX10_planLine_36 rfl (lv_at hl 1 rfl) ?_
          refine lv_aload_n hx hb dX10_planLine_37 rfl (lv_at hl 1 rfl) ?_
          refine get_f (D := D) (ci := 10) (v := .int y708) (C := RX10) (T := TX10) (N := 67) hx hb hw inAX10 hown hK hP 2 rfl rfl 19 (by decide) (hw _ q_1280) (fun _ h9 => h9) t710 dX10_planLine_38 ?_
          refine lv_iload_n hx hb dX10_planLine_41 rfl (lv_at hl 0 rfl) ?_
          have n713 : F620 22 = .ref h_planRead := (SAME.at t628 (by decide) e_planRead)
          have n714 : G651 22 = .ref h_planRead := (SAME.at i667 (by decide) n713)
          have n715 : F707 22 = .ref h_planRead := (SAME.at t709 (by decide) n714)
          refine call_Vi (wr := [(h_tape, .inl (cB, 940, .inl f_tape)), (h_s, .inl (cI, 335, .inl f_s)), (h_names, .inl (cJ, 36, .inr (.inl f_names))), (h_reserved, .inl (cJ, 23, .inr (.inl f_reserved)))]) (As := [.int y708, .int u649]) (rest := []) hx hb hml hown hw (m_X10_placeIn l D cI cJ cB cP cM cZ h0 h_planRead F707 w650 y708 u649 _ n715 i665 i666 (ir_wk k691 (by decide) (by decide))) wV_X10_269_X10_placeIn dX10_planLine_42 hK hP hD hS hA [2, 0] [1, 3, 4, 5] rfl rfl (by decide) (by decide) (by decide) 0 10 rfl rfl GG.fb hG.at hl.1 rfl (Nat.le_of_ble_eq_true rfl) ⟨(Nat.le_of_ble_eq_true rfl), (Nat.le_of_ble_eq_true rfl)⟩ ⟨(Nat.le_of_ble_eq_true rfl), (Nat.le_of_ble_eq_true rfl)⟩ (fun r716 u H locs hp hP hD hS => ?_)
          obtain ⟨t717, rfl⟩ := hp
          have hP : va_P D vwCl [(h_tape, .inl (cB, 940, .inl f_tape)), (h_s, .inl (cI, 335, .inl f_s)), (h_names, .inl (cJ, 36, .inr (.inl f_names))), (h_reserved, .inl (cJ, 23, .inr (.inl f_reserved))), (h0, .inr (10, vL 67 F707)), (h_planRead, .inl (cI, 24, .inl w650))] H := hP
          have hD : va_D A [(h_tape, .inl (cB, 940, .inl f_tape)), (h_s, .inl (cI, 335, .inl f_s)), (h_names, .inl (cJ, 36, .inr (.inl f_names))), (h_reserved, .inl (cJ, 23, .inr (.inl f_reserved))), (h0, .inr (10, vL 67 F707)), (h_planRead, .inl (cI, 24, .inl w650))] := hD
          refine W.widen (k := 0) (n := 0) (Nat.le_of_ble_eq_true rfl) (Nat.le_of_ble_eq_true rfl) ?_
          refine lv_if_lt (tgt := 54) hx hb dX10_planLine_45 (by decide) (fun c719 => ?_) (fun c719 => ?_)
          · have dc719 : r716.toInt < 0 := lt_i (a := r716.toInt) (b := 0) rfl rfl c719
            have k720 : (-1) ≤ r716.toInt ∧ r716.toInt ≤ (-1) := ⟨t717.1, up_lt dc719 (Int.le_refl _) (by decide)⟩
            refine lv_aload_n hx hb dX10_planLine_54 rfl (lv_at hl 1 rfl) ?_
            refine get_f (D := D) (ci := 10) (v := .ref h_planRead) (C := RX10) (T := TX10) (N := 67) hx hb hw inAX10 hown hK hP 4 rfl rfl 22 (by decide) (hw _ q_1283) (fun _ h9 => h9) n715 dX10_planLine_55 ?_
            refine lv_iconst (v := 1) hx hb dX10_planLine_58 (by decide) ?_
            refine lv_iload_n hx hb dX10_planLine_59 rfl (lv_at hl 0 rfl) ?_
            refine lv_iadd hx hb dX10_planLine_60 ?_
            refine lv_topi (fun v721 ev721 => ?_)
            have bv721 : v721.toInt = 1 + u649.toInt := by rw [ev721]; exact add_k rfl rfl ⟨Int.le_refl _, Int.le_refl _⟩ k691 (by decide)
            have k722 : 1 ≤ v721.toInt ∧ v721.toInt ≤ 4 := add_r bv721 ⟨Int.le_refl _, Int.le_refl _⟩ k691 (by decide)
            refine lv_aload_n hx hb dX10_planLine_61 rfl (lv_at hl 1 rfl) ?_
            refine get_f (D := D) (ci := 10) (v := .int y708) (C := RX10) (T := TX10) (N := 67) hx hb hw inAX10 hown hK hP 4 rfl rfl 19 (by decide) (hw _ q_1280) (fun _ h9 => h9) t710 dX10_planLine_62 ?_
            obtain ⟨g723, eg723⟩ : ∃ z : Nat → Int32, upd w650 v721.toNatClampNeg y708 = z := ⟨_, rfl⟩
            have r724 : SG 1 4 0 11 g723 := by rw [← eg723]; exact i665.up (Int.le_trans (by decide) k722.1) (Or.inr (Or.inr (ir_wk t711 (by decide) (by decide))))
            have r725 : SG 10 10 0 5 g723 := by rw [← eg723]; exact i666.up (Int.le_trans (by decide) k722.1) (Or.inl (lt_dec k722.2 (by decide)))
            refine iast_g hx hb hK hP hD hS 5 0 rfl rfl (ix_k k722 (by decide) (by decide)) eg723 dX10_planLine_65 (fun H locs hP hD hS => ?_)
            have hP : va_P D vwCl [(h_tape, .inl (cB, 940, .inl f_tape)), (h_s, .inl (cI, 335, .inl f_s)), (h_names, .inl (cJ, 36, .inr (.inl f_names))), (h_reserved, .inl (cJ, 23, .inr (.inl f_reserved))), (h0, .inr (10, vL 67 F707)), (h_planRead, .inl (cI, 24, .inl g723))] H := hP
            have hD : va_D A [(h_tape, .inl (cB, 940, .inl f_tape)), (h_s, .inl (cI, 335, .inl f_s)), (h_names, .inl (cJ, 36, .inr (.inl f_names))), (h_reserved, .inl (cJ, 23, .inr (.inl f_reserved))), (h0, .inr (10, vL 67 F707)), (h_planRead, .inl (cI, 24, .inl g723))] := hD
            refine lv_aload_n hx hb dX10_planLine_66 rfl (lv_at hl 1 rfl) ?_
            have n726 : F620 1 = .ref h_tape := (SAME.at t628 (by decide) e_tape)
            have n727 : G651 1 = .ref h_tape := (SAME.at i667 (by decide) n726)
            have n728 : F707 1 = .ref h_tape := (SAME.at t709 (by decide) n727)
            have n729 : F620 3 = .int x_size := (SAME.at t628 (by decide) e_size)
            have n730 : G651 3 = .int x_size := (SAME.at i667 (by decide) n729)
            have n731 : F707 3 = .int x_size := (SAME.at t709 (by decide) n730)
            have n732 : F707 4 = .int u652 := (SAME.at t709 (by decide) i668)
            have n733 : F620 5 = .int x_limit := (SAME.at t628 (by decide) e_limit)
            have n734 : G651 5 = .int x_limit := (SAME.at i667 (by decide) n733)
            have n735 : F707 5 = .int x_limit := (SAME.at t709 (by decide) n734)
            have n736 : F707 11 = .int u653 := (SAME.at t709 (by decide) i669)
            have n737 : F707 14 = .int u656 := (SAME.at t709 (by decide) i672)
            have n738 : F707 18 = .long u659 := (SAME.at t709 (by decide) i675)
            refine call_Vv (wr := [(h_s, .inl (cI, 335, .inl f_s)), (h_names, .inl (cJ, 36, .inr (.inl f_names))), (h_reserved, .inl (cJ, 23, .inr (.inl f_reserved))), (h_planRead, .inl (cI, 24, .inl g723))]) (As := []) (rest := []) hx hb hml hown hw (m_X10_next l D cI cJ cB cP cM cZ h0 h_tape F707 x_size u652 x_limit u653 u656 u659 f_tape _ n728 n731 i_x_size n732 i677 n735 i_x_limit n736 i678 n737 n738 (by omega)) wV_X10_208_X10_next dX10_planLine_67 hK hP hD hS hA [4, 0] [1, 2, 3, 5] rfl rfl (by decide) (by decide) (by decide) 0 10 rfl rfl GG.fb hG.at hl.1 rfl (Nat.le_of_ble_eq_true rfl) ⟨(Nat.le_of_ble_eq_true rfl), (Nat.le_of_ble_eq_true rfl)⟩ ⟨(Nat.le_of_ble_eq_true rfl), (Nat.le_of_ble_eq_true rfl)⟩ (fun u H locs hp hP hD hS => ?_)
            obtain ⟨F740, y741, y742, y743, y744, y745, y746, t747, t748, t749, t750, t751, t752, t753, t754, t755, t756, t757, t758, t759, t760, rfl⟩ := hp
            clear t641 t642
            have hP : va_P D vwCl [(h_s, .inl (cI, 335, .inl f_s)), (h_names, .inl (cJ, 36, .inr (.inl f_names))), (h_reserved, .inl (cJ, 23, .inr (.inl f_reserved))), (h_planRead, .inl (cI, 24, .inl g723)), (h0, .inr (10, vL 67 F740)), (h_tape, .inl (cB, 940, .inl f_tape))] H := hP
            have hD : va_D A [(h_s, .inl (cI, 335, .inl f_s)), (h_names, .inl (cJ, 36, .inr (.inl f_names))), (h_reserved, .inl (cJ, 23, .inr (.inl f_reserved))), (h_planRead, .inl (cI, 24, .inl g723)), (h0, .inr (10, vL 67 F740)), (h_tape, .inl (cB, 940, .inl f_tape))] := hD
            refine W.widen (k := 0) (n := 0) (Nat.le_of_ble_eq_true rfl) (Nat.le_of_ble_eq_true rfl) ?_
            obtain ⟨v762, ev762⟩ : ∃ z : Int32, z = u649 + 1 := ⟨_, rfl⟩
            have bv762 : v762.toInt = u649.toInt + 1 := by rw [ev762]; exact add_k rfl rfl k691 ⟨Int.le_refl _, Int.le_refl _⟩ (by decide)
            have k763 : 1 ≤ v762.toInt ∧ v762.toInt ≤ 4 := add_r bv762 k691 ⟨Int.le_refl _, Int.le_refl _⟩ (by decide)
            refine lv_iinc (v := v762) (lv' := [(1, .int v762), (0, .ref h0)]) hx hb dX10_planLine_70 hl (k := 0) rfl (by rw [ev762]; rfl) (by decide) rfl (fun ls hl => ?_)
            refine lv_goto (tgt := 22) hx hb dX10_planLine_73 (by decide) ?_
            have n764 : F707 15 = .int u657 := (SAME.at t709 (by decide) i673)
            have n765 : F740 15 = .int u657 := (SAME.at t747 (by decide) n764)
            have n766 : F707 16 = .int u658 := (SAME.at t709 (by decide) i674)
            have n767 : F740 16 = .int u658 := (SAME.at t747 (by decide) n766)
            have n768 : F740 19 = .int y708 := (SAME.at t747 (by decide) t710)
            exact ih (v762, g723, F740, y741, y742, y743, y744, y745, u657, u658, y746, y708) ⟨(ir_wk k763 (by decide) (by decide)), r724, r725, (SAME.tr (SAME.tr (SAME.tr SAME.rf i667 (by decide)) t709 (by decide)) t747 (by decide)), t748, t750, t752, t754, t756, n765, n767, t757, n768, t749, t751, t753, t755, (by show x_p.toInt ≤ y741.toInt; omega), (by show (1 ≤ y742.toInt → y742.toInt ≤ 3 → x_p.toInt < y741.toInt); omega), (by show (y742.toInt = 2 → 0 ≤ y745.toInt ∧ y745.toInt ≤ 999); omega)⟩ (by show (4 - v762.toInt).toNat < (4 - u649.toInt).toNat; omega) _ _ _ hP hD hS (lv_sub hl [0, 1] rfl)
          · have dc719 : 0 ≤ r716.toInt := nlt_i (a := r716.toInt) (b := 0) rfl rfl c719
            have k769 : 0 ≤ r716.toInt ∧ r716.toInt ≤ 3 := ⟨Int.le_trans (Int.le_refl _) dc719, t717.2⟩
            refine lv_aload_n hx hb dX10_planLine_48 rfl (lv_at hl 1 rfl) ?_
            refine lv_iconst (v := 3) hx hb dX10_planLine_49 (by decide) ?_
            have n770 : F707 12 = .int u654 := (SAME.at t709 (by decide) i670)
            refine call_Vi (wr := [(h_tape, .inl (cB, 940, .inl f_tape)), (h_s, .inl (cI, 335, .inl f_s)), (h_names, .inl (cJ, 36, .inr (.inl f_names))), (h_reserved, .inl (cJ, 23, .inr (.inl f_reserved))), (h_planRead, .inl (cI, 24, .inl w650))]) (As := [.int 3]) (rest := []) hx hb hml hown hw (m_X10_bad l D cI cJ cB cP cM cZ h0 F707 u654 3 _ n770) wV_X10_205_X10_bad dX10_planLine_50 hK hP hD hS hA [4] [0, 1, 2, 3, 5] rfl rfl (by decide) (by decide) (by decide) 0 10 rfl rfl GG.fb hG.at hl.1 rfl (Nat.le_of_ble_eq_true rfl) ⟨(Nat.le_of_ble_eq_true rfl), (Nat.le_of_ble_eq_true rfl)⟩ ⟨(Nat.le_of_ble_eq_true rfl), (Nat.le_of_ble_eq_true rfl)⟩ (fun r771 u H locs hp hP hD hS => ?_)
            have zl3 : (3 : Int32).toInt = 3 := by decide
            obtain ⟨F772, t773, t774, t775, rfl, rfl⟩ := hp
            have hP : va_P D vwCl [(h_tape, .inl (cB, 940, .inl f_tape)), (h_s, .inl (cI, 335, .inl f_s)), (h_names, .inl (cJ, 36, .inr (.inl f_names))), (h_reserved, .inl (cJ, 23, .inr (.inl f_reserved))), (h_planRead, .inl (cI, 24, .inl w650)), (h0, .inr (10, vL 67 F772))] H := hP
            have hD : va_D A [(h_tape, .inl (cB, 940, .inl f_tape)), (h_s, .inl (cI, 335, .inl f_s)), (h_names, .inl (cJ, 36, .inr (.inl f_names))), (h_reserved, .inl (cJ, 23, .inr (.inl f_reserved))), (h_planRead, .inl (cI, 24, .inl w650)), (h0, .inr (10, vL 67 F772))] := hD
            refine W.widen (k := 0) (n := 0) (Nat.le_of_ble_eq_true rfl) (Nat.le_of_ble_eq_true rfl) ?_
            exact ret_i (v := 0) hx hb hr hlocks hS (hP.sub (ws' := [(h0, .inr (10, vL 67 F772)), (h_tape, .inl (cB, 940, .inl f_tape)), (h_s, .inl (cI, 335, .inl f_s)), (h_names, .inl (cJ, 36, .inr (.inl f_names))), (h_reserved, .inl (cJ, 23, .inr (.inl f_reserved))), (h_planRead, .inl (cI, 24, .inl w650))]) [5, 0, 1, 2, 3, 4] rfl) (hD.sub (ws' := [(h0, .inr (10, vL 67 F772)), (h_tape, .inl (cB, 940, .inl f_tape)), (h_s, .inl (cI, 335, .inl f_s)), (h_names, .inl (cJ, 36, .inr (.inl f_names))), (h_reserved, .inl (cJ, 23, .inr (.inl f_reserved))), (h_planRead, .inl (cI, 24, .inl w650))]) [5, 0, 1, 2, 3, 4] (by decide) rfl) dX10_planLine_53 rfl (Nat.le_of_ble_eq_true rfl) (Nat.le_of_ble_eq_true rfl) (Or.inl ⟨F772, u652, u653, u654, u655, u656, 3, u654, u659, y708, y627, x_jumped, x_heights, w650, (SAME.tr (SAME.tr (SAME.tr (SAME.tr SAME.rf t628 (by decide)) i667 (by decide)) t709 (by decide)) t773 (by decide)), (SAME.at t773 (by decide) (SAME.at t709 (by decide) i668)), i677, (SAME.at t773 (by decide) (SAME.at t709 (by decide) i669)), i678, (SAME.at t773 (by decide) n770), (SAME.at t773 (by decide) (SAME.at t709 (by decide) i671)), (SAME.at t773 (by decide) (SAME.at t709 (by decide) i672)), t774, (show 1 ≤ (3 : Int32).toInt ∧ (3 : Int32).toInt ≤ 3 by decide), t775, (SAME.at t773 (by decide) (SAME.at t709 (by decide) i675)), (SAME.at t773 (by decide) t710), (SAME.at t773 (by decide) (SAME.at t709 (by decide) (SAME.at i667 (by decide) t639))), (SAME.at t773 (by decide) (SAME.at t709 (by decide) (SAME.at i667 (by decide) (SAME.at t628 (by decide) e_jumped)))), (SAME.at t773 (by decide) (SAME.at t709 (by decide) (SAME.at i667 (by decide) (SAME.at t628 (by decide) e_heights)))), i665, i666, (by have zl3 : (3 : Int32).toInt = 3 := (by decide); omega), rfl, rfl⟩)
    · obtain ⟨F643, t644, t645, t646, t647, rfl, rfl⟩ := hp
      have hP : va_P D vwCl [(h_s, .inl (cI, 335, .inl f_s)), (h_names, .inl (cJ, 36, .inr (.inl f_names))), (h_reserved, .inl (cJ, 23, .inr (.inl f_reserved))), (h_planRead, .inl (cI, 24, .inl f_planRead)), (h0, .inr (10, vL 67 F643)), (h_tape, .inl (cB, 940, .inl f_tape))] H := hP
      have hD : va_D A [(h_s, .inl (cI, 335, .inl f_s)), (h_names, .inl (cJ, 36, .inr (.inl f_names))), (h_reserved, .inl (cJ, 23, .inr (.inl f_reserved))), (h_planRead, .inl (cI, 24, .inl f_planRead)), (h0, .inr (10, vL 67 F643)), (h_tape, .inl (cB, 940, .inl f_tape))] := hD
      refine W.widen (k := 0) (n := 0) (Nat.le_of_ble_eq_true rfl) (Nat.le_of_ble_eq_true rfl) ?_
      refine lv_if_ne (tgt := 20) hx hb dX10_planLine_15 (by decide) (fun g => absurd (by decide) g) (fun _ => ?_)
      refine lv_iconst (v := 0) hx hb dX10_planLine_18 (by decide) ?_
      exact ret_i (v := 0) hx hb hr hlocks hS (hP.sub (ws' := [(h0, .inr (10, vL 67 F643)), (h_tape, .inl (cB, 940, .inl f_tape)), (h_s, .inl (cI, 335, .inl f_s)), (h_names, .inl (cJ, 36, .inr (.inl f_names))), (h_reserved, .inl (cJ, 23, .inr (.inl f_reserved))), (h_planRead, .inl (cI, 24, .inl f_planRead))]) [4, 5, 0, 1, 2, 3] rfl) (hD.sub (ws' := [(h0, .inr (10, vL 67 F643)), (h_tape, .inl (cB, 940, .inl f_tape)), (h_s, .inl (cI, 335, .inl f_s)), (h_names, .inl (cJ, 36, .inr (.inl f_names))), (h_reserved, .inl (cJ, 23, .inr (.inl f_reserved))), (h_planRead, .inl (cI, 24, .inl f_planRead))]) [4, 5, 0, 1, 2, 3] (by decide) rfl) dX10_planLine_19 rfl (Nat.le_of_ble_eq_true rfl) (Nat.le_of_ble_eq_true rfl) (Or.inl ⟨F643, x_p, x_token, x_at, x_span, x_number, 3, x_at, x_word, x_got, x_onces, x_jumped, x_heights, f_planRead, (SAME.tr SAME.rf t644 (by decide)), (SAME.at t644 (by decide) e_p), i_x_p, (SAME.at t644 (by decide) e_token), i_x_token, (SAME.at t644 (by decide) e_at), (SAME.at t644 (by decide) e_span), (SAME.at t644 (by decide) e_number), t645, (show 1 ≤ (3 : Int32).toInt ∧ (3 : Int32).toInt ≤ 3 by decide), t646, (SAME.at t644 (by decide) e_word), (SAME.at t644 (by decide) e_got), (SAME.at t644 (by decide) e_onces), (SAME.at t644 (by decide) e_jumped), (SAME.at t644 (by decide) e_heights), s_planRead_1, s_planRead_10, (by have zl3 : (3 : Int32).toInt = 3 := (by decide); omega), rfl, rfl⟩)
