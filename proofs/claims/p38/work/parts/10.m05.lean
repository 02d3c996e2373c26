set_option maxHeartbeats 4000000 in
set_option maxRecDepth 100000 in
theorem m_X10_course (l : Launch) (D : va_G) (cI cJ cB cP cM cZ : ClassId) (h0 : Nat) (h_tape : Nat) (h_s : Nat) (h_h : Nat) (h_names : Nat) (h_reserved : Nat) (Fh : Nat → Value) (x_length : Int32) (x_token : Int32) (x_number : Int32) (x_faultAt : Int32) (x_ids : Int32) (x_word : Int64) (x_got : Int32) (x_undoMany : Int32) (f_tape : Nat → Int32) (f_s : Nat → Int32) (f_h : Nat → Int32) (f_names : Nat → Int64) (f_reserved : Nat → Int64) (sz : Nat) (e_tape : Fh 1 = .ref h_tape) (e_length : Fh 2 = .int x_length) (i_x_length : IR 0 940 x_length) (e_s : Fh 6 = .ref h_s) (e_h : Fh 7 = .ref h_h) (e_names : Fh 9 = .ref h_names) (e_reserved : Fh 10 = .ref h_reserved) (e_token : Fh 11 = .int x_token) (i_x_token : IR 0 4 x_token) (e_number : Fh 14 = .int x_number) (e_faultAt : Fh 16 = .int x_faultAt) (e_ids : Fh 17 = .int x_ids) (e_word : Fh 18 = .long x_word) (e_got : Fh 19 = .int x_got) (e_undoMany : Fh 41 = .int x_undoMany) (i_x_undoMany : IR 0 8 x_undoMany) (s_s_K0 : KW 0 f_s) (s_s_0 : SG 0 0 0 40 f_s) (s_s_105 : SG 105 108 0 11 f_s) (s_s_114 : SG 114 114 0 5 f_s) (s_s_130 : SG 130 133 0 11 f_s) (s_s_139 : SG 139 139 0 5 f_s) (s_s_153 : SG 153 153 0 44 f_s) (s_s_44 : SG 44 55 0 9 f_s) (s_s_5 : SG 5 5 0 12 f_s) (s_s_6 : SG 6 6 0 12 f_s) (s_s_7 : SG 7 7 0 6 f_s) (s_h_0 : SG 0 0 0 40 f_h) (s_h_44 : SG 44 55 0 9 f_h) (s_h_5 : SG 5 5 0 12 f_h) (s_h_6 : SG 6 6 0 12 f_h) (s_h_7 : SG 7 7 0 6 f_h) (o_0 : (x_token.toInt = 2 → 0 ≤ x_number.toInt ∧ x_number.toInt ≤ 999)) : CI l yX10_course cX10_course 2 (some .int) { frames := 4, cells := 0, slots := 0, locals := 87 } (GG D cI cJ cB cP cM cZ) D [(h0, .inr (10, vL 67 Fh)), (h_tape, .inl (cB, 940, .inl f_tape)), (h_s, .inl (cI, 335, .inl f_s)), (h_h, .inl (cI, 104, .inl f_h)), (h_names, .inl (cJ, 36, .inr (.inl f_names))), (h_reserved, .inl (cJ, 23, .inr (.inl f_reserved)))] sz [.ref h0] (fun (r : Int32) (u : va_W) => ∃ (Gh : Nat → Value) (y_p : Int32) (y_token : Int32) (y_at : Int32) (y_span : Int32) (y_number : Int32) (y_fault : Int32) (y_faultAt : Int32) (y_ids : Int32) (y_word : Int64) (y_got : Int32) (y_lines : Int32) (y_onces : Int32) (y_undoMany : Int32) (g_s : Nat → Int32) (g_h : Nat → Int32) (g_names : Nat → Int64), SAME [0, 2, 3, 4, 5, 11, 12, 13, 14, 15, 16, 17, 18, 19, 20, 21, 41] Fh Gh ∧ Gh 0 = .int 0 ∧ Gh 2 = .int 0 ∧ Gh 3 = .int x_length ∧ Gh 4 = .int y_p ∧ IR 0 940 y_p ∧ Gh 5 = .int 900 ∧ Gh 11 = .int y_token ∧ IR 0 4 y_token ∧ Gh 12 = .int y_at ∧ Gh 13 = .int y_span ∧ Gh 14 = .int y_number ∧ Gh 15 = .int y_fault ∧ Gh 16 = .int y_faultAt ∧ Gh 17 = .int y_ids ∧ Gh 18 = .long y_word ∧ Gh 19 = .int y_got ∧ Gh 20 = .int y_lines ∧ Gh 21 = .int y_onces ∧ Gh 41 = .int y_undoMany ∧ IR 0 8 y_undoMany ∧ SG 153 153 0 44 g_s ∧ SG 0 0 0 40 g_s ∧ SG 5 5 0 12 g_s ∧ SG 6 6 0 12 g_s ∧ SG 7 7 0 6 g_s ∧ SG 44 55 0 9 g_s ∧ KW 0 g_s ∧ SG 105 108 0 11 g_s ∧ SG 114 114 0 5 g_s ∧ SG 130 133 0 11 g_s ∧ SG 139 139 0 5 g_s ∧ SG 0 0 0 40 g_h ∧ SG 5 5 0 12 g_h ∧ SG 6 6 0 12 g_h ∧ SG 7 7 0 6 g_h ∧ SG 44 55 0 9 g_h ∧ ((y_token.toInt = 2 → 0 ≤ y_number.toInt ∧ y_number.toInt ≤ 999)) ∧ u = [(h0, .inr (10, vL 67 Gh)), (h_tape, .inl (cB, 940, .inl f_tape)), (h_s, .inl (cI, 335, .inl g_s)), (h_h, .inl (cI, 104, .inl g_h)), (h_names, .inl (cJ, 36, .inr (.inl g_names))), (h_reserved, .inl (cJ, 23, .inr (.inl f_reserved)))]) := by
  refine CI_mk (by decide) (Nat.le_of_ble_eq_true rfl) ?_
  intro p e s m below meth c A ls E hAe hG hsz hP hD hA hS hl
  obtain ⟨hx, hb, hr, hw, hown, hlocks, hml, hnm⟩ := E
  have hK := hG.1
  have i_x_length : 0 ≤ x_length.toInt ∧ x_length.toInt ≤ 940 := i_x_length
  have i_x_token : 0 ≤ x_token.toInt ∧ x_token.toInt ≤ 4 := i_x_token
  have i_x_undoMany : 0 ≤ x_undoMany.toInt ∧ x_undoMany.toInt ≤ 8 := i_x_undoMany
  have hl : lv_has ls 2 [(0, .ref h0)] := hl
  refine lv_aload_n hx hb dX10_course_0 rfl (lv_at hl 0 rfl) ?_
  refine lv_iconst (v := 0) hx hb dX10_course_1 (by decide) ?_
  refine put_f (D := D) (ci := 10) (v := .int 0) (ty := .int) (C := RX10) (T := TX10) (N := 67) hx hb hw inAX10 tyX10 tyX10_ok nmX10 hown hK hP hD hS 0 rfl rfl 0 (by decide) (hw _ q_1261) (fun _ h9 => h9) rfl (by decide +kernel) rfl rfl dX10_course_2 (fun H locs F1 eF1 hP hD hS => ?_)
  have hP : va_P D vwCl [(h0, .inr (10, vL 67 F1)), (h_tape, .inl (cB, 940, .inl f_tape)), (h_s, .inl (cI, 335, .inl f_s)), (h_h, .inl (cI, 104, .inl f_h)), (h_names, .inl (cJ, 36, .inr (.inl f_names))), (h_reserved, .inl (cJ, 23, .inr (.inl f_reserved)))] H := hP
  have hD : va_D A [(h0, .inr (10, vL 67 F1)), (h_tape, .inl (cB, 940, .inl f_tape)), (h_s, .inl (cI, 335, .inl f_s)), (h_h, .inl (cI, 104, .inl f_h)), (h_names, .inl (cJ, 36, .inr (.inl f_names))), (h_reserved, .inl (cJ, 23, .inr (.inl f_reserved)))] := hD
  refine lv_aload_n hx hb dX10_course_5 rfl (lv_at hl 0 rfl) ?_
  refine lv_sipush (v := 900) hx hb dX10_course_6 (by decide) ?_
  have n2 : F1 2 = .int x_length := (get_ne eF1 (by decide) e_length)
  refine call_Vv (wr := [(h_tape, .inl (cB, 940, .inl f_tape)), (h_s, .inl (cI, 335, .inl f_s)), (h_h, .inl (cI, 104, .inl f_h)), (h_names, .inl (cJ, 36, .inr (.inl f_names))), (h_reserved, .inl (cJ, 23, .inr (.inl f_reserved)))]) (As := [.int 900]) (rest := []) hx hb hml hown hw (m_X10_taken l D cI cJ cB cP cM cZ h0 F1 x_length 900 _ n2 i_x_length (show 200 ≤ (900 : Int32).toInt ∧ (900 : Int32).toInt ≤ 940 by decide)) wV_X10_248_X10_taken dX10_course_9 hK hP hD hS hA [0] [1, 2, 3, 4, 5] rfl rfl (by decide) (by decide) (by decide) 0 10 rfl rfl GG.fb hG.at hl.1 rfl (Nat.le_of_ble_eq_true rfl) ⟨(Nat.le_of_ble_eq_true rfl), (Nat.le_of_ble_eq_true rfl)⟩ ⟨(Nat.le_of_ble_eq_true rfl), (Nat.le_of_ble_eq_true rfl)⟩ (fun u H locs hp hP hD hS => ?_)
  have zl900 : (900 : Int32).toInt = 900 := by decide
  obtain ⟨F4, t5, t6, t7, t8, t9, rfl⟩ := hp
  have hP : va_P D vwCl [(h_tape, .inl (cB, 940, .inl f_tape)), (h_s, .inl (cI, 335, .inl f_s)), (h_h, .inl (cI, 104, .inl f_h)), (h_names, .inl (cJ, 36, .inr (.inl f_names))), (h_reserved, .inl (cJ, 23, .inr (.inl f_reserved))), (h0, .inr (10, vL 67 F4))] H := hP
  have hD : va_D A [(h_tape, .inl (cB, 940, .inl f_tape)), (h_s, .inl (cI, 335, .inl f_s)), (h_h, .inl (cI, 104, .inl f_h)), (h_names, .inl (cJ, 36, .inr (.inl f_names))), (h_reserved, .inl (cJ, 23, .inr (.inl f_reserved))), (h0, .inr (10, vL 67 F4))] := hD
  refine W.widen (k := 0) (n := 0) (Nat.le_of_ble_eq_true rfl) (Nat.le_of_ble_eq_true rfl) ?_
  refine lv_aload_n hx hb dX10_course_12 rfl (lv_at hl 0 rfl) ?_
  refine lv_iconst (v := 0) hx hb dX10_course_13 (by decide) ?_
  refine put_f (D := D) (ci := 10) (v := .int 0) (ty := .int) (C := RX10) (T := TX10) (N := 67) hx hb hw inAX10 tyX10 tyX10_ok nmX10 hown hK hP hD hS 5 rfl rfl 15 (by decide) (hw _ q_1276) (fun _ h9 => h9) rfl (by decide +kernel) rfl rfl dX10_course_14 (fun H locs F11 eF11 hP hD hS => ?_)
  have hP : va_P D vwCl [(h_tape, .inl (cB, 940, .inl f_tape)), (h_s, .inl (cI, 335, .inl f_s)), (h_h, .inl (cI, 104, .inl f_h)), (h_names, .inl (cJ, 36, .inr (.inl f_names))), (h_reserved, .inl (cJ, 23, .inr (.inl f_reserved))), (h0, .inr (10, vL 67 F11))] H := hP
  have hD : va_D A [(h_tape, .inl (cB, 940, .inl f_tape)), (h_s, .inl (cI, 335, .inl f_s)), (h_h, .inl (cI, 104, .inl f_h)), (h_names, .inl (cJ, 36, .inr (.inl f_names))), (h_reserved, .inl (cJ, 23, .inr (.inl f_reserved))), (h0, .inr (10, vL 67 F11))] := hD
  refine lv_aload_n hx hb dX10_course_17 rfl (lv_at hl 0 rfl) ?_
  refine lv_iconst (v := 0) hx hb dX10_course_18 (by decide) ?_
  refine put_f (D := D) (ci := 10) (v := .int 0) (ty := .int) (C := RX10) (T := TX10) (N := 67) hx hb hw inAX10 tyX10 tyX10_ok nmX10 hown hK hP hD hS 5 rfl rfl 20 (by decide) (hw _ q_1281) (fun _ h9 => h9) rfl (by decide +kernel) rfl rfl dX10_course_19 (fun H locs F12 eF12 hP hD hS => ?_)
  have hP : va_P D vwCl [(h_tape, .inl (cB, 940, .inl f_tape)), (h_s, .inl (cI, 335, .inl f_s)), (h_h, .inl (cI, 104, .inl f_h)), (h_names, .inl (cJ, 36, .inr (.inl f_names))), (h_reserved, .inl (cJ, 23, .inr (.inl f_reserved))), (h0, .inr (10, vL 67 F12))] H := hP
  have hD : va_D A [(h_tape, .inl (cB, 940, .inl f_tape)), (h_s, .inl (cI, 335, .inl f_s)), (h_h, .inl (cI, 104, .inl f_h)), (h_names, .inl (cJ, 36, .inr (.inl f_names))), (h_reserved, .inl (cJ, 23, .inr (.inl f_reserved))), (h0, .inr (10, vL 67 F12))] := hD
  refine lv_aload_n hx hb dX10_course_22 rfl (lv_at hl 0 rfl) ?_
  refine lv_iconst (v := 0) hx hb dX10_course_23 (by decide) ?_
  refine put_f (D := D) (ci := 10) (v := .int 0) (ty := .int) (C := RX10) (T := TX10) (N := 67) hx hb hw inAX10 tyX10 tyX10_ok nmX10 hown hK hP hD hS 5 rfl rfl 21 (by decide) (hw _ q_1282) (fun _ h9 => h9) rfl (by decide +kernel) rfl rfl dX10_course_24 (fun H locs F13 eF13 hP hD hS => ?_)
  have hP : va_P D vwCl [(h_tape, .inl (cB, 940, .inl f_tape)), (h_s, .inl (cI, 335, .inl f_s)), (h_h, .inl (cI, 104, .inl f_h)), (h_names, .inl (cJ, 36, .inr (.inl f_names))), (h_reserved, .inl (cJ, 23, .inr (.inl f_reserved))), (h0, .inr (10, vL 67 F13))] H := hP
  have hD : va_D A [(h_tape, .inl (cB, 940, .inl f_tape)), (h_s, .inl (cI, 335, .inl f_s)), (h_h, .inl (cI, 104, .inl f_h)), (h_names, .inl (cJ, 36, .inr (.inl f_names))), (h_reserved, .inl (cJ, 23, .inr (.inl f_reserved))), (h0, .inr (10, vL 67 F13))] := hD
  refine lv_aload_n hx hb dX10_course_27 rfl (lv_at hl 0 rfl) ?_
  have n14 : F1 7 = .ref h_h := (get_ne eF1 (by decide) e_h)
  have n15 : F4 7 = .ref h_h := (SAME.at t5 (by decide) n14)
  have n16 : F11 7 = .ref h_h := (get_ne eF11 (by decide) n15)
  have n17 : F12 7 = .ref h_h := (get_ne eF12 (by decide) n16)
  have n18 : F13 7 = .ref h_h := (get_ne eF13 (by decide) n17)
  refine call_Vv (wr := [(h_tape, .inl (cB, 940, .inl f_tape)), (h_s, .inl (cI, 335, .inl f_s)), (h_names, .inl (cJ, 36, .inr (.inl f_names))), (h_reserved, .inl (cJ, 23, .inr (.inl f_reserved)))]) (As := []) (rest := []) hx hb hml hown hw (m_X10_clears l D cI cJ cB cP cM cZ h0 h_h F13 f_h _ n18 s_h_0 s_h_44 s_h_5 s_h_6 s_h_7) wV_X10_166_X10_clears dX10_course_28 hK hP hD hS hA [5, 2] [0, 1, 3, 4] rfl rfl (by decide) (by decide) (by decide) 0 10 rfl rfl GG.fb hG.at hl.1 rfl (Nat.le_of_ble_eq_true rfl) ⟨(Nat.le_of_ble_eq_true rfl), (Nat.le_of_ble_eq_true rfl)⟩ ⟨(Nat.le_of_ble_eq_true rfl), (Nat.le_of_ble_eq_true rfl)⟩ (fun u H locs hp hP hD hS => ?_)
  obtain ⟨g20, t21, t22, t23, t24, t25, rfl⟩ := hp
  have hP : va_P D vwCl [(h_tape, .inl (cB, 940, .inl f_tape)), (h_s, .inl (cI, 335, .inl f_s)), (h_names, .inl (cJ, 36, .inr (.inl f_names))), (h_reserved, .inl (cJ, 23, .inr (.inl f_reserved))), (h0, .inr (10, vL 67 F13)), (h_h, .inl (cI, 104, .inl g20))] H := hP
  have hD : va_D A [(h_tape, .inl (cB, 940, .inl f_tape)), (h_s, .inl (cI, 335, .inl f_s)), (h_names, .inl (cJ, 36, .inr (.inl f_names))), (h_reserved, .inl (cJ, 23, .inr (.inl f_reserved))), (h0, .inr (10, vL 67 F13)), (h_h, .inl (cI, 104, .inl g20))] := hD
  refine W.widen (k := 0) (n := 0) (Nat.le_of_ble_eq_true rfl) (Nat.le_of_ble_eq_true rfl) ?_
  refine lv_aload_n hx hb dX10_course_31 rfl (lv_at hl 0 rfl) ?_
  have n27 : F1 1 = .ref h_tape := (get_ne eF1 (by decide) e_tape)
  have n28 : F4 1 = .ref h_tape := (SAME.at t5 (by decide) n27)
  have n29 : F11 1 = .ref h_tape := (get_ne eF11 (by decide) n28)
  have n30 : F12 1 = .ref h_tape := (get_ne eF12 (by decide) n29)
  have n31 : F13 1 = .ref h_tape := (get_ne eF13 (by decide) n30)
  have n32 : F11 3 = .int x_length := (get_ne eF11 (by decide) t7)
  have n33 : F12 3 = .int x_length := (get_ne eF12 (by decide) n32)
  have n34 : F13 3 = .int x_length := (get_ne eF13 (by decide) n33)
  have n35 : F11 4 = .int 0 := (get_ne eF11 (by decide) t8)
  have n36 : F12 4 = .int 0 := (get_ne eF12 (by decide) n35)
  have n37 : F13 4 = .int 0 := (get_ne eF13 (by decide) n36)
  have n38 : F11 5 = .int 900 := (get_ne eF11 (by decide) t9)
  have n39 : F12 5 = .int 900 := (get_ne eF12 (by decide) n38)
  have n40 : F13 5 = .int 900 := (get_ne eF13 (by decide) n39)
  have n41 : F1 11 = .int x_token := (get_ne eF1 (by decide) e_token)
  have n42 : F4 11 = .int x_token := (SAME.at t5 (by decide) n41)
  have n43 : F11 11 = .int x_token := (get_ne eF11 (by decide) n42)
  have n44 : F12 11 = .int x_token := (get_ne eF12 (by decide) n43)
  have n45 : F13 11 = .int x_token := (get_ne eF13 (by decide) n44)
  have n46 : F1 14 = .int x_number := (get_ne eF1 (by decide) e_number)
  have n47 : F4 14 = .int x_number := (SAME.at t5 (by decide) n46)
  have n48 : F11 14 = .int x_number := (get_ne eF11 (by decide) n47)
  have n49 : F12 14 = .int x_number := (get_ne eF12 (by decide) n48)
  have n50 : F13 14 = .int x_number := (get_ne eF13 (by decide) n49)
  have n51 : F1 18 = .long x_word := (get_ne eF1 (by decide) e_word)
  have n52 : F4 18 = .long x_word := (SAME.at t5 (by decide) n51)
  have n53 : F11 18 = .long x_word := (get_ne eF11 (by decide) n52)
  have n54 : F12 18 = .long x_word := (get_ne eF12 (by decide) n53)
  have n55 : F13 18 = .long x_word := (get_ne eF13 (by decide) n54)
  refine call_Vv (wr := [(h_s, .inl (cI, 335, .inl f_s)), (h_names, .inl (cJ, 36, .inr (.inl f_names))), (h_reserved, .inl (cJ, 23, .inr (.inl f_reserved))), (h_h, .inl (cI, 104, .inl g20))]) (As := []) (rest := []) hx hb hml hown hw (m_X10_next l D cI cJ cB cP cM cZ h0 h_tape F13 x_length 0 900 x_token x_number x_word f_tape _ n31 n34 i_x_length n37 (show 0 ≤ (0 : Int32).toInt ∧ (0 : Int32).toInt ≤ 940 by decide) n40 (show 200 ≤ (900 : Int32).toInt ∧ (900 : Int32).toInt ≤ 940 by decide) n45 i_x_token n50 n55 (by omega)) wV_X10_208_X10_next dX10_course_32 hK hP hD hS hA [4, 0] [1, 2, 3, 5] rfl rfl (by decide) (by decide) (by decide) 0 10 rfl rfl GG.fb hG.at hl.1 rfl (Nat.le_of_ble_eq_true rfl) ⟨(Nat.le_of_ble_eq_true rfl), (Nat.le_of_ble_eq_true rfl)⟩ ⟨(Nat.le_of_ble_eq_true rfl), (Nat.le_of_ble_eq_true rfl)⟩ (fun u H locs hp hP hD hS => ?_)
  have zl0 : (0 : Int32).toInt = 0 := by decide
  obtain ⟨F57, y58, y59, y60, y61, y62, y63, t64, t65, t66, t67, t68, t69, t70, t71, t72, t73, t74, t75, t76, t77, rfl⟩ := hp
  have hP : va_P D vwCl [(h_s, .inl (cI, 335, .inl f_s)), (h_names, .inl (cJ, 36, .inr (.inl f_names))), (h_reserved, .inl (cJ, 23, .inr (.inl f_reserved))), (h_h, .inl (cI, 104, .inl g20)), (h0, .inr (10, vL 67 F57)), (h_tape, .inl (cB, 940, .inl f_tape))] H := hP
  have hD : va_D A [(h_s, .inl (cI, 335, .inl f_s)), (h_names, .inl (cJ, 36, .inr (.inl f_names))), (h_reserved, .inl (cJ, 23, .inr (.inl f_reserved))), (h_h, .inl (cI, 104, .inl g20)), (h0, .inr (10, vL 67 F57)), (h_tape, .inl (cB, 940, .inl f_tape))] := hD
  refine W.widen (k := 0) (n := 0) (Nat.le_of_ble_eq_true rfl) (Nat.le_of_ble_eq_true rfl) ?_
  have cut93 : ∀ (w79 : Nat → Int64) (w80 : Nat → Int32) (G81 : Nat → Value) (u82 : Int32) (u83 : Int32) (u84 : Int32) (u85 : Int32) (u86 : Int32) (u87 : Int32) (u88 : Int32) (u89 : Int64) (u90 : Int32) (u91 : Int32) (u92 : Int32) (_ : SG 0 0 0 40 w80) (_ : SG 44 55 0 9 w80) (_ : SG 5 5 0 12 w80) (_ : SG 6 6 0 12 w80) (_ : SG 7 7 0 6 w80) (_ : SAME [4, 11, 12, 13, 14, 15, 16, 18, 19, 20, 21] F57 G81) (_ : G81 4 = .int u82) (_ : G81 11 = .int u83) (_ : G81 12 = .int u84) (_ : G81 13 = .int u85) (_ : G81 14 = .int u86) (_ : G81 15 = .int u87) (_ : G81 16 = .int u88) (_ : G81 18 = .long u89) (_ : G81 19 = .int u90) (_ : G81 20 = .int u91) (_ : G81 21 = .int u92) (_ : IR 0 940 u82) (_ : IR 0 4 u83) (_ : ((u83.toInt = 2 → 0 ≤ u86.toInt ∧ u86.toInt ≤ 999))) (H : Heap) (locs : List Loc) (ls : Array Slot), va_P D vwCl [(h_s, .inl (cI, 335, .inl f_s)), (h_names, .inl (cJ, 36, .inr (.inl w79))), (h_reserved, .inl (cJ, 23, .inr (.inl f_reserved))), (h_h, .inl (cI, 104, .inl w80)), (h0, .inr (10, vL 67 G81)), (h_tape, .inl (cB, 940, .inl f_tape))] H → va_D A [(h_s, .inl (cI, 335, .inl f_s)), (h_names, .inl (cJ, 36, .inr (.inl w79))), (h_reserved, .inl (cJ, 23, .inr (.inl f_reserved))), (h_h, .inl (cI, 104, .inl w80)), (h0, .inr (10, vL 67 G81)), (h_tape, .inl (cB, 940, .inl f_tape))] → va_S A s.heap H locs → lv_has ls 2 [(0, .ref h0)] → W p l e ({ frames := 4, cells := 0, slots := 0, locals := 87 } : Room) s m [.ref h0].toArray below meth c H locs 0 0 (MQ below (va_Qi (fun (r : Int32) (u : va_W) => ∃ (Gh : Nat → Value) (y_p : Int32) (y_token : Int32) (y_at : Int32) (y_span : Int32) (y_number : Int32) (y_fault : Int32) (y_faultAt : Int32) (y_ids : Int32) (y_word : Int64) (y_got : Int32) (y_lines : Int32) (y_onces : Int32) (y_undoMany : Int32) (g_s : Nat → Int32) (g_h : Nat → Int32) (g_names : Nat → Int64), SAME [0, 2, 3, 4, 5, 11, 12, 13, 14, 15, 16, 17, 18, 19, 20, 21, 41] Fh Gh ∧ Gh 0 = .int 0 ∧ Gh 2 = .int 0 ∧ Gh 3 = .int x_length ∧ Gh 4 = .int y_p ∧ IR 0 940 y_p ∧ Gh 5 = .int 900 ∧ Gh 11 = .int y_token ∧ IR 0 4 y_token ∧ Gh 12 = .int y_at ∧ Gh 13 = .int y_span ∧ Gh 14 = .int y_number ∧ Gh 15 = .int y_fault ∧ Gh 16 = .int y_faultAt ∧ Gh 17 = .int y_ids ∧ Gh 18 = .long y_word ∧ Gh 19 = .int y_got ∧ Gh 20 = .int y_lines ∧ Gh 21 = .int y_onces ∧ Gh 41 = .int y_undoMany ∧ IR 0 8 y_undoMany ∧ SG 153 153 0 44 g_s ∧ SG 0 0 0 40 g_s ∧ SG 5 5 0 12 g_s ∧ SG 6 6 0 12 g_s ∧ SG 7 7 0 6 g_s ∧ SG 44 55 0 9 g_s ∧ KW 0 g_s ∧ SG 105 108 0 11 g_s ∧ SG 114 114 0 5 g_s ∧ SG 130 133 0 11 g_s ∧ SG 139 139 0 5 g_s ∧ SG 0 0 0 40 g_h ∧ SG 5 5 0 12 g_h ∧ SG 6 6 0 12 g_h ∧ SG 7 7 0 6 g_h ∧ SG 44 55 0 9 g_h ∧ ((y_token.toInt = 2 → 0 ≤ y_number.toInt ∧ y_number.toInt ≤ 999)) ∧ u = [(h0, .inr (10, vL 67 Gh)), (h_tape, .inl (cB, 940, .inl f_tape)), (h_s, .inl (cI, 335, .inl g_s)), (h_h, .inl (cI, 104, .inl g_h)), (h_names, .inl (cJ, 36, .inr (.inl g_names))), (h_reserved, .inl (cJ, 23, .inr (.inl f_reserved)))]) (PO D A) A) [.ref h0].toArray s 0 0 A) (F0 m 78 ls []) := by
    intro w79 w80 G81 u82 u83 u84 u85 u86 u87 u88 u89 u90 u91 u92 i94 i95 i96 i97 i98 i99 i100 i101 i102 i103 i104 i105 i106 i107 i108 i109 i110 i111 i112 i113 H locs ls hP hD hS hl
    have i111 : 0 ≤ u82.toInt ∧ u82.toInt ≤ 940 := i111
    have i112 : 0 ≤ u83.toInt ∧ u83.toInt ≤ 4 := i112
    have i113 : (u83.toInt = 2 → 0 ≤ u86.toInt ∧ u86.toInt ≤ 999) := i113
    refine lv_iconst (v := 0) hx hb dX10_course_78 (by decide) ?_
    refine lv_istore_n (lv' := [(1, .int 0), (0, .ref h0)]) hx hb dX10_course_79 rfl hl (by decide) rfl (fun ls hl => ?_)
    refine mloop (α := (Int32) × (Nat → Int32)) (nL := 2) (D := D) (A := A) (H0 := s.heap) (fun a => (335 - a.1.toInt).toNat) (fun a => IR 0 335 a.1 ∧ (SGK 0 0 0 40 a.2 (a.1.toInt)) ∧ (SGK 5 5 0 12 a.2 (a.1.toInt)) ∧ (SGK 6 6 0 12 a.2 (a.1.toInt)) ∧ (SGK 7 7 0 6 a.2 (a.1.toInt)) ∧ (SGK 44 55 0 9 a.2 (a.1.toInt)) ∧ (SGK 105 108 0 11 a.2 (a.1.toInt)) ∧ (SGK 114 114 0 5 a.2 (a.1.toInt)) ∧ (SGK 130 133 0 11 a.2 (a.1.toInt)) ∧ (SGK 139 139 0 5 a.2 (a.1.toInt)) ∧ (SGK 153 153 0 0 a.2 (a.1.toInt))) (fun a => [(h_s, .inl (cI, 335, .inl a.2)), (h_names, .inl (cJ, 36, .inr (.inl w79))), (h_reserved, .inl (cJ, 23, .inr (.inl f_reserved))), (h_h, .inl (cI, 104, .inl w80)), (h0, .inr (10, vL 67 G81)), (h_tape, .inl (cB, 940, .inl f_tape))]) (fun a => [(1, .int a.1), (0, .ref h0)]) (fun H locs ls => W p l e ({ frames := 4, cells := 0, slots := 0, locals := 87 } : Room) s m [.ref h0].toArray below meth c H locs 0 0 (MQ below (va_Qi (fun (r : Int32) (u : va_W) => ∃ (Gh : Nat → Value) (y_p : Int32) (y_token : Int32) (y_at : Int32) (y_span : Int32) (y_number : Int32) (y_fault : Int32) (y_faultAt : Int32) (y_ids : Int32) (y_word : Int64) (y_got : Int32) (y_lines : Int32) (y_onces : Int32) (y_undoMany : Int32) (g_s : Nat → Int32) (g_h : Nat → Int32) (g_names : Nat → Int64), SAME [0, 2, 3, 4, 5, 11, 12, 13, 14, 15, 16, 17, 18, 19, 20, 21, 41] Fh Gh ∧ Gh 0 = .int 0 ∧ Gh 2 = .int 0 ∧ Gh 3 = .int x_length ∧ Gh 4 = .int y_p ∧ IR 0 940 y_p ∧ Gh 5 = .int 900 ∧ Gh 11 = .int y_token ∧ IR 0 4 y_token ∧ Gh 12 = .int y_at ∧ Gh 13 = .int y_span ∧ Gh 14 = .int y_number ∧ Gh 15 = .int y_fault ∧ Gh 16 = .int y_faultAt ∧ Gh 17 = .int y_ids ∧ Gh 18 = .long y_word ∧ Gh 19 = .int y_got ∧ Gh 20 = .int y_lines ∧ Gh 21 = .int y_onces ∧ Gh 41 = .int y_undoMany ∧ IR 0 8 y_undoMany ∧ SG 153 153 0 44 g_s ∧ SG 0 0 0 40 g_s ∧ SG 5 5 0 12 g_s ∧ SG 6 6 0 12 g_s ∧ SG 7 7 0 6 g_s ∧ SG 44 55 0 9 g_s ∧ KW 0 g_s ∧ SG 105 108 0 11 g_s ∧ SG 114 114 0 5 g_s ∧ SG 130 133 0 11 g_s ∧ SG 139 139 0 5 g_s ∧ SG 0 0 0 40 g_h ∧ SG 5 5 0 12 g_h ∧ SG 6 6 0 12 g_h ∧ SG 7 7 0 6 g_h ∧ SG 44 55 0 9 g_h ∧ ((y_token.toInt = 2 → 0 ≤ y_number.toInt ∧ y_number.toInt ≤ 999)) ∧ u = [(h0, .inr (10, vL 67 Gh)), (h_tape, .inl (cB, 940, .inl f_tape)), (h_s, .inl (cI, 335, .inl g_s)), (h_h, .inl (cI, 104, .inl g_h)), (h_names, .inl (cJ, 36, .inr (.inl g_names))), (h_reserved, .inl (cJ, 23, .inr (.inl f_reserved)))]) (PO D A) A) [.ref h0].toArray s 0 0 A) (F0 m 80 ls [])) ?_ (0, f_s) ⟨(show 0 ≤ (0 : Int32).toInt ∧ (0 : Int32).toInt ≤ 335 by decide), (show SGK 0 0 0 40 f_s (0) from (SGK.zero (by decide))), (show SGK 5 5 0 12 f_s (0) from (SGK.zero (by decide))), (show SGK 6 6 0 12 f_s (0) from (SGK.zero (by decide))), (show SGK 7 7 0 6 f_s (0) from (SGK.zero (by decide))), (show SGK 44 55 0 9 f_s (0) from (SGK.zero (by decide))), (show SGK 105 108 0 11 f_s (0) from (SGK.zero (by decide))), (show SGK 114 114 0 5 f_s (0) from (SGK.zero (by decide))), (show SGK 130 133 0 11 f_s (0) from (SGK.zero (by decide))), (show SGK 139 139 0 5 f_s (0) from (SGK.zero (by decide))), (show SGK 153 153 0 0 f_s (0) from (SGK.zero (by decide)))⟩ _ _ _ hP hD hS hl
    rintro ⟨u114, w115⟩ ⟨i116, i117, i118, i119, i120, i121, i122, i123, i124, i125, i126⟩ ih H locs ls hP hD hS hl
    have i116 : 0 ≤ u114.toInt ∧ u114.toInt ≤ 335 := i116
    have i117 : SGK 0 0 0 40 w115 (u114.toInt) := i117
    have i118 : SGK 5 5 0 12 w115 (u114.toInt) := i118
    have i119 : SGK 6 6 0 12 w115 (u114.toInt) := i119
    have i120 : SGK 7 7 0 6 w115 (u114.toInt) := i120
    have i121 : SGK 44 55 0 9 w115 (u114.toInt) := i121
    have i122 : SGK 105 108 0 11 w115 (u114.toInt) := i122
    have i123 : SGK 114 114 0 5 w115 (u114.toInt) := i123
    have i124 : SGK 130 133 0 11 w115 (u114.toInt) := i124
    have i125 : SGK 139 139 0 5 w115 (u114.toInt) := i125
    have i126 : SGK 153 153 0 0 w115 (u114.toInt) := i126
    have hP : va_P D vwCl [(h_s, .inl (cI, 335, .inl w115)), (h_names, .inl (cJ, 36, .inr (.inl w79))), (h_reserved, .inl (cJ, 23, .inr (.inl f_reserved))), (h_h, .inl (cI, 104, .inl w80)), (h0, .inr (10, vL 67 G81)), (h_tape, .inl (cB, 940, .inl f_tape))] H := hP
    have hD : va_D A [(h_s, .inl (cI, 335, .inl w115)), (h_names, .inl (cJ, 36, .inr (.inl w79))), (h_reserved, .inl (cJ, 23, .inr (.inl f_reserved))), (h_h, .inl (cI, 104, .inl w80)), (h0, .inr (10, vL 67 G81)), (h_tape, .inl (cB, 940, .inl f_tape))] := hD
    have hl : lv_has ls 2 [(1, .int u114), (0, .ref h0)] := hl
    refine lv_iload_n hx hb dX10_course_80 rfl (lv_at hl 0 rfl) ?_
    refine lv_sipush (v := 335) hx hb dX10_course_81 (by decide) ?_
    refine lv_icmp_ge (tgt := 115) hx hb dX10_course_84 (by decide) (fun c127 => ?_) (fun c127 => ?_)
    · have dc127 : 335 ≤ u114.toInt := le_i (a := 335) (b := u114.toInt) rfl rfl c127
      have k128 : 335 ≤ u114.toInt ∧ u114.toInt ≤ 335 := ⟨Int.le_trans (Int.le_refl _) dc127, i116.2⟩
      have r129 : SG 0 0 0 40 w115 := SGK.all i117 (by omega)
      have r130 : SG 5 5 0 12 w115 := SGK.all i118 (by omega)
      have r131 : SG 6 6 0 12 w115 := SGK.all i119 (by omega)
      have r132 : SG 7 7 0 6 w115 := SGK.all i120 (by omega)
      have r133 : SG 44 55 0 9 w115 := SGK.all i121 (by omega)
      have r134 : SG 105 108 0 11 w115 := SGK.all i122 (by omega)
      have r135 : SG 114 114 0 5 w115 := SGK.all i123 (by omega)
      have r136 : SG 130 133 0 11 w115 := SGK.all i124 (by omega)
      have r137 : SG 139 139 0 5 w115 := SGK.all i125 (by omega)
      have r138 : SG 153 153 0 0 w115 := SGK.all i126 (by omega)
      have r139 : KW 0 w115 := KW.none r138
      refine lv_iconst (v := 0) hx hb dX10_course_115 (by decide) ?_
      refine lv_istore_n (lv' := [(1, .int 0), (0, .ref h0)]) hx hb dX10_course_116 rfl hl (by decide) rfl (fun ls hl => ?_)
      refine mloop (α := (Int32) × (Nat → Int64)) (nL := 2) (D := D) (A := A) (H0 := s.heap) (fun a => (18 - a.1.toInt).toNat) (fun a => IR 0 18 a.1) (fun a => [(h_s, .inl (cI, 335, .inl w115)), (h_names, .inl (cJ, 36, .inr (.inl a.2))), (h_reserved, .inl (cJ, 23, .inr (.inl f_reserved))), (h_h, .inl (cI, 104, .inl w80)), (h0, .inr (10, vL 67 G81)), (h_tape, .inl (cB, 940, .inl f_tape))]) (fun a => [(1, .int a.1), (0, .ref h0)]) (fun H locs ls => W p l e ({ frames := 4, cells := 0, slots := 0, locals := 87 } : Room) s m [.ref h0].toArray below meth c H locs 0 0 (MQ below (va_Qi (fun (r : Int32) (u : va_W) => ∃ (Gh : Nat → Value) (y_p : Int32) (y_token : Int32) (y_at : Int32) (y_span : Int32) (y_number : Int32) (y_fault : Int32) (y_faultAt : Int32) (y_ids : Int32) (y_word : Int64) (y_got : Int32) (y_lines : Int32) (y_onces : Int32) (y_undoMany : Int32) (g_s : Nat → Int32) (g_h : Nat → Int32) (g_names : Nat → Int64), SAME [0, 2, 3, 4, 5, 11, 12, 13, 14, 15, 16, 17, 18, 19, 20, 21, 41] Fh Gh ∧ Gh 0 = .int 0 ∧ Gh 2 = .int 0 ∧ Gh 3 = .int x_length ∧ Gh 4 = .int y_p ∧ IR 0 940 y_p ∧ Gh 5 = .int 900 ∧ Gh 11 = .int y_token ∧ IR 0 4 y_token ∧ Gh 12 = .int y_at ∧ Gh 13 = .int y_span ∧ Gh 14 = .int y_number ∧ Gh 15 = .int y_fault ∧ Gh 16 = .int y_faultAt ∧ Gh 17 = .int y_ids ∧ Gh 18 = .long y_word ∧ Gh 19 = .int y_got ∧ Gh 20 = .int y_lines ∧ Gh 21 = .int y_onces ∧ Gh 41 = .int y_undoMany ∧ IR 0 8 y_undoMany ∧ SG 153 153 0 44 g_s ∧ SG 0 0 0 40 g_s ∧ SG 5 5 0 12 g_s ∧ SG 6 6 0 12 g_s ∧ SG 7 7 0 6 g_s ∧ SG 44 55 0 9 g_s ∧ KW 0 g_s ∧ SG 105 108 0 11 g_s ∧ SG 114 114 0 5 g_s ∧ SG 130 133 0 11 g_s ∧ SG 139 139 0 5 g_s ∧ SG 0 0 0 40 g_h ∧ SG 5 5 0 12 g_h ∧ SG 6 6 0 12 g_h ∧ SG 7 7 0 6 g_h ∧ SG 44 55 0 9 g_h ∧ ((y_token.toInt = 2 → 0 ≤ y_number.toInt ∧ y_number.toInt ≤ 999)) ∧ u = [(h0, .inr (10, vL 67 Gh)), (h_tape, .inl (cB, 940, .inl f_tape)), (h_s, .inl (cI, 335, .inl g_s)), (h_h, .inl (cI, 104, .inl g_h)), (h_names, .inl (cJ, 36, .inr (.inl g_names))), (h_reserved, .inl (cJ, 23, .inr (.inl f_reserved)))]) (PO D A) A) [.ref h0].toArray s 0 0 A) (F0 m 117 ls [])) ?_ (0, w79) (show 0 ≤ (0 : Int32).toInt ∧ (0 : Int32).toInt ≤ 18 by decide) _ _ _ hP hD hS hl
      rintro ⟨u140, w141⟩ i142 ih_117 H locs ls hP hD hS hl
      have i142 : 0 ≤ u140.toInt ∧ u140.toInt ≤ 18 := i142
      have hP : va_P D vwCl [(h_s, .inl (cI, 335, .inl w115)), (h_names, .inl (cJ, 36, .inr (.inl w141))), (h_reserved, .inl (cJ, 23, .inr (.inl f_reserved))), (h_h, .inl (cI, 104, .inl w80)), (h0, .inr (10, vL 67 G81)), (h_tape, .inl (cB, 940, .inl f_tape))] H := hP
      have hD : va_D A [(h_s, .inl (cI, 335, .inl w115)), (h_names, .inl (cJ, 36, .inr (.inl w141))), (h_reserved, .inl (cJ, 23, .inr (.inl f_reserved))), (h_h, .inl (cI, 104, .inl w80)), (h0, .inr (10, vL 67 G81)), (h_tape, .inl (cB, 940, .inl f_tape))] := hD
      have hl : lv_has ls 2 [(1, .int u140), (0, .ref h0)] := hl
      refine lv_iload_n hx hb dX10_course_117 rfl (lv_at hl 0 rfl) ?_
      refine lv_bipush (v := 18) hx hb dX10_course_118 (by decide) ?_
      refine lv_icmp_ge (tgt := 144) hx hb dX10_course_120 (by decide) (fun c143 => ?_) (fun c143 => ?_)
      · have dc143 : 18 ≤ u140.toInt := le_i (a := 18) (b := u140.toInt) rfl rfl c143
        have k144 : 18 ≤ u140.toInt ∧ u140.toInt ≤ 18 := ⟨Int.le_trans (Int.le_refl _) dc143, i142.2⟩
        refine lv_aload_n hx hb dX10_course_144 rfl (lv_at hl 1 rfl) ?_
        refine lv_dup hx hb dX10_course_145 rfl ?_
        have n145 : F1 17 = .int x_ids := (get_ne eF1 (by decide) e_ids)
        have n146 : F4 17 = .int x_ids := (SAME.at t5 (by decide) n145)
        have n147 : F11 17 = .int x_ids := (get_ne eF11 (by decide) n146)
        have n148 : F12 17 = .int x_ids := (get_ne eF12 (by decide) n147)
        have n149 : F13 17 = .int x_ids := (get_ne eF13 (by decide) n148)
        have n150 : F57 17 = .int x_ids := (SAME.at t64 (by decide) n149)
        have n151 : G81 17 = .int x_ids := (SAME.at i99 (by decide) n150)
        refine get_f (D := D) (ci := 10) (v := .int x_ids) (C := RX10) (T := TX10) (N := 67) hx hb hw inAX10 hown hK hP 4 rfl rfl 17 (by decide) (hw _ q_1278) (fun _ h9 => h9) n151 dX10_course_146 ?_
        refine lv_iconst (v := 1) hx hb dX10_course_149 (by decide) ?_
        refine lv_iadd hx hb dX10_course_150 ?_
        refine lv_topi (fun v152 ev152 => ?_)
        refine put_f (D := D) (ci := 10) (v := .int v152) (ty := .int) (C := RX10) (T := TX10) (N := 67) hx hb hw inAX10 tyX10 tyX10_ok nmX10 hown hK hP hD hS 4 rfl rfl 17 (by decide) (hw _ q_1278) (fun _ h9 => h9) rfl (by decide +kernel) rfl rfl dX10_course_151 (fun H locs F153 eF153 hP hD hS => ?_)
        have hP : va_P D vwCl [(h_s, .inl (cI, 335, .inl w115)), (h_names, .inl (cJ, 36, .inr (.inl w141))), (h_reserved, .inl (cJ, 23, .inr (.inl f_reserved))), (h_h, .inl (cI, 104, .inl w80)), (h0, .inr (10, vL 67 F153)), (h_tape, .inl (cB, 940, .inl f_tape))] H := hP
        have hD : va_D A [(h_s, .inl (cI, 335, .inl w115)), (h_names, .inl (cJ, 36, .inr (.inl w141))), (h_reserved, .inl (cJ, 23, .inr (.inl f_reserved))), (h_h, .inl (cI, 104, .inl w80)), (h0, .inr (10, vL 67 F153)), (h_tape, .inl (cB, 940, .inl f_tape))] := hD
        refine lv_aload_n hx hb dX10_course_154 rfl (lv_at hl 1 rfl) ?_
        have n154 : F1 6 = .ref h_s := (get_ne eF1 (by decide) e_s)
        have n155 : F4 6 = .ref h_s := (SAME.at t5 (by decide) n154)
        have n156 : F11 6 = .ref h_s := (get_ne eF11 (by decide) n155)
        have n157 : F12 6 = .ref h_s := (get_ne eF12 (by decide) n156)
        have n158 : F13 6 = .ref h_s := (get_ne eF13 (by decide) n157)
        have n159 : F57 6 = .ref h_s := (SAME.at t64 (by decide) n158)
        have n160 : G81 6 = .ref h_s := (SAME.at i99 (by decide) n159)
        have n161 : F153 6 = .ref h_s := (get_ne eF153 (by decide) n160)
        refine get_f (D := D) (ci := 10) (v := .ref h_s) (C := RX10) (T := TX10) (N := 67) hx hb hw inAX10 hown hK hP 4 rfl rfl 6 (by decide) (hw _ q_1267) (fun _ h9 => h9) n161 dX10_course_155 ?_
        refine lv_sipush (v := 334) hx hb dX10_course_158 (by decide) ?_
        refine lv_aload_n hx hb dX10_course_161 rfl (lv_at hl 1 rfl) ?_
        refine get_f (D := D) (ci := 10) (v := .int v152) (C := RX10) (T := TX10) (N := 67) hx hb hw inAX10 hown hK hP 4 rfl rfl 17 (by decide) (hw _ q_1278) (fun _ h9 => h9) (get_eq eF153) dX10_course_162 ?_
        obtain ⟨g162, eg162⟩ : ∃ z : Nat → Int32, upd w115 334 v152 = z := ⟨_, rfl⟩
        have r163 : KW 0 g162 := by rw [← eg162]; exact r139.upN (by decide)
        have r164 : SG 0 0 0 40 g162 := by rw [← eg162]; exact r129.upN (by decide)
        have r165 : SG 105 108 0 11 g162 := by rw [← eg162]; exact r134.upN (by decide)
        have r166 : SG 114 114 0 5 g162 := by rw [← eg162]; exact r135.upN (by decide)
        have r167 : SG 130 133 0 11 g162 := by rw [← eg162]; exact r136.upN (by decide)
        have r168 : SG 139 139 0 5 g162 := by rw [← eg162]; exact r137.upN (by decide)
        have r169 : SG 153 153 0 0 g162 := by rw [← eg162]; exact r138.upN (by decide)
        have r170 : SG 44 55 0 9 g162 := by rw [← eg162]; exact r133.upN (by decide)
        have r171 : SG 5 5 0 12 g162 := by rw [← eg162]; exact r130.upN (by decide)
        have r172 : SG 6 6 0 12 g162 := by rw [← eg162]; exact r131.upN (by decide)
        have r173 : SG 7 7 0 6 g162 := by rw [← eg162]; exact r132.upN (by decide)
        refine iast_n hx hb hK hP hD hS 0 0 rfl rfl 334 rfl (Nat.le_of_ble_eq_true rfl) (Nat.le_of_ble_eq_true rfl) eg162 dX10_course_165 (fun H locs hP hD hS => ?_)
        have hP : va_P D vwCl [(h_s, .inl (cI, 335, .inl g162)), (h_names, .inl (cJ, 36, .inr (.inl w141))), (h_reserved, .inl (cJ, 23, .inr (.inl f_reserved))), (h_h, .inl (cI, 104, .inl w80)), (h0, .inr (10, vL 67 F153)), (h_tape, .inl (cB, 940, .inl f_tape))] H := hP
        have hD : va_D A [(h_s, .inl (cI, 335, .inl g162)), (h_names, .inl (cJ, 36, .inr (.inl w141))), (h_reserved, .inl (cJ, 23, .inr (.inl f_reserved))), (h_h, .inl (cI, 104, .inl w80)), (h0, .inr (10, vL 67 F153)), (h_tape, .inl (cB, 940, .inl f_tape))] := hD
        refine lv_aload_n hx hb dX10_course_166 rfl (lv_at hl 1 rfl) ?_
        refine get_f (D := D) (ci := 10) (v := .ref h_s) (C := RX10) (T := TX10) (N := 67) hx hb hw inAX10 hown hK hP 4 rfl rfl 6 (by decide) (hw _ q_1267) (fun _ h9 => h9) n161 dX10_course_167 ?_
        refine lv_bipush (v := 115) hx hb dX10_course_170 (by decide) ?_
        refine lv_iconst (v := 1) hx hb dX10_course_172 (by decide) ?_
        obtain ⟨g174, eg174⟩ : ∃ z : Nat → Int32, upd g162 115 1 = z := ⟨_, rfl⟩
        have r175 : KW 0 g174 := by rw [← eg174]; exact r163.upN (by decide)
        have r176 : SG 0 0 0 40 g174 := by rw [← eg174]; exact r164.upN (by decide)
        have r177 : SG 105 108 0 11 g174 := by rw [← eg174]; exact r165.upN (by decide)
        have r178 : SG 114 114 0 5 g174 := by rw [← eg174]; exact r166.upN (by decide)
        have r179 : SG 130 133 0 11 g174 := by rw [← eg174]; exact r167.upN (by decide)
        have r180 : SG 139 139 0 5 g174 := by rw [← eg174]; exact r168.upN (by decide)
        have r181 : SG 153 153 0 0 g174 := by rw [← eg174]; exact r169.upN (by decide)
        have r182 : SG 44 55 0 9 g174 := by rw [← eg174]; exact r170.upN (by decide)
        have r183 : SG 5 5 0 12 g174 := by rw [← eg174]; exact r171.upN (by decide)
        have r184 : SG 6 6 0 12 g174 := by rw [← eg174]; exact r172.upN (by decide)
        have r185 : SG 7 7 0 6 g174 := by rw [← eg174]; exact r173.upN (by decide)
        refine iast_n hx hb hK hP hD hS 0 0 rfl rfl 115 rfl (Nat.le_of_ble_eq_true rfl) (Nat.le_of_ble_eq_true rfl) eg174 dX10_course_173 (fun H locs hP hD hS => ?_)
        have hP : va_P D vwCl [(h_s, .inl (cI, 335, .inl g174)), (h_names, .inl (cJ, 36, .inr (.inl w141))), (h_reserved, .inl (cJ, 23, .inr (.inl f_reserved))), (h_h, .inl (cI, 104, .inl w80)), (h0, .inr (10, vL 67 F153)), (h_tape, .inl (cB, 940, .inl f_tape))] H := hP
        have hD : va_D A [(h_s, .inl (cI, 335, .inl g174)), (h_names, .inl (cJ, 36, .inr (.inl w141))), (h_reserved, .inl (cJ, 23, .inr (.inl f_reserved))), (h_h, .inl (cI, 104, .inl w80)), (h0, .inr (10, vL 67 F153)), (h_tape, .inl (cB, 940, .inl f_tape))] := hD
        refine lv_iconst (v := 0) hx hb dX10_course_174 (by decide) ?_
        refine lv_istore_n (lv' := [(1, .int 0), (0, .ref h0)]) hx hb dX10_course_175 rfl hl (by decide) rfl (fun ls hl => ?_)
        refine mloop (α := (Int32) × (Nat → Int32)) (nL := 2) (D := D) (A := A) (H0 := s.heap) (fun a => (12 - a.1.toInt).toNat) (fun a => IR 0 12 a.1 ∧ KW 0 a.2 ∧ SG 0 0 0 40 a.2 ∧ SG 105 108 0 11 a.2 ∧ SG 114 114 0 5 a.2 ∧ SG 130 133 0 11 a.2 ∧ SG 139 139 0 5 a.2 ∧ SG 153 153 0 44 a.2 ∧ SG 44 55 0 9 a.2 ∧ SG 5 5 0 12 a.2 ∧ SG 6 6 0 12 a.2 ∧ SG 7 7 0 6 a.2) (fun a => [(h_s, .inl (cI, 335, .inl a.2)), (h_names, .inl (cJ, 36, .inr (.inl w141))), (h_reserved, .inl (cJ, 23, .inr (.inl f_reserved))), (h_h, .inl (cI, 104, .inl w80)), (h0, .inr (10, vL 67 F153)), (h_tape, .inl (cB, 940, .inl f_tape))]) (fun a => [(1, .int a.1), (0, .ref h0)]) (fun H locs ls => W p l e ({ frames := 4, cells := 0, slots := 0, locals := 87 } : Room) s m [.ref h0].toArray below meth c H locs 0 0 (MQ below (va_Qi (fun (r : Int32) (u : va_W) => ∃ (Gh : Nat → Value) (y_p : Int32) (y_token : Int32) (y_at : Int32) (y_span : Int32) (y_number : Int32) (y_fault : Int32) (y_faultAt : Int32) (y_ids : Int32) (y_word : Int64) (y_got : Int32) (y_lines : Int32) (y_onces : Int32) (y_undoMany : Int32) (g_s : Nat → Int32) (g_h : Nat → Int32) (g_names : Nat → Int64), SAME [0, 2, 3, 4, 5, 11, 12, 13, 14, 15, 16, 17, 18, 19, 20, 21, 41] Fh Gh ∧ Gh 0 = .int 0 ∧ Gh 2 = .int 0 ∧ Gh 3 = .int x_length ∧ Gh 4 = .int y_p ∧ IR 0 940 y_p ∧ Gh 5 = .int 900 ∧ Gh 11 = .int y_token ∧ IR 0 4 y_token ∧ Gh 12 = .int y_at ∧ Gh 13 = .int y_span ∧ Gh 14 = .int y_number ∧ Gh 15 = .int y_fault ∧ Gh 16 = .int y_faultAt ∧ Gh 17 = .int y_ids ∧ Gh 18 = .long y_word ∧ Gh 19 = .int y_got ∧ Gh 20 = .int y_lines ∧ Gh 21 = .int y_onces ∧ Gh 41 = .int y_undoMany ∧ IR 0 8 y_undoMany ∧ SG 153 153 0 44 g_s ∧ SG 0 0 0 40 g_s ∧ SG 5 5 0 12 g_s ∧ SG 6 6 0 12 g_s ∧ SG 7 7 0 6 g_s ∧ SG 44 55 0 9 g_s ∧ KW 0 g_s ∧ SG 105 108 0 11 g_s ∧ SG 114 114 0 5 g_s ∧ SG 130 133 0 11 g_s ∧ SG 139 139 0 5 g_s ∧ SG 0 0 0 40 g_h ∧ SG 5 5 0 12 g_h ∧ SG 6 6 0 12 g_h ∧ SG 7 7 0 6 g_h ∧ SG 44 55 0 9 g_h ∧ ((y_token.toInt = 2 → 0 ≤ y_number.toInt ∧ y_number.toInt ≤ 999)) ∧ u = [(h0, .inr (10, vL 67 Gh)), (h_tape, .inl (cB, 940, .inl f_tape)), (h_s, .inl (cI, 335, .inl g_s)), (h_h, .inl (cI, 104, .inl g_h)), (h_names, .inl (cJ, 36, .inr (.inl g_names))), (h_reserved, .inl (cJ, 23, .inr (.inl f_reserved)))]) (PO D A) A) [.ref h0].toArray s 0 0 A) (F0 m 176 ls [])) ?_ (0, g174) ⟨(show 0 ≤ (0 : Int32).toInt ∧ (0 : Int32).toInt ≤ 12 by decide), r175, r176, r177, r178, r179, r180, (SG.wk r181 (by decide) (by decide)), r182, r183, r184, r185⟩ _ _ _ hP hD hS hl
        rintro ⟨u186, w187⟩ ⟨i188, i189, i190, i191, i192, i193, i194, i195, i196, i197, i198, i199⟩ ih_176 H locs ls hP hD hS hl
        have i188 : 0 ≤ u186.toInt ∧ u186.toInt ≤ 12 := i188
        have hP : va_P D vwCl [(h_s, .inl (cI, 335, .inl w187)), (h_names, .inl (cJ, 36, .inr (.inl w141))), (h_reserved, .inl (cJ, 23, .inr (.inl f_reserved))), (h_h, .inl (cI, 104, .inl w80)), (h0, .inr (10, vL 67 F153)), (h_tape, .inl (cB, 940, .inl f_tape))] H := hP
        have hD : va_D A [(h_s, .inl (cI, 335, .inl w187)), (h_names, .inl (cJ, 36, .inr (.inl w141))), (h_reserved, .inl (cJ, 23, .inr (.inl f_reserved))), (h_h, .inl (cI, 104, .inl w80)), (h0, .inr (10, vL 67 F153)), (h_tape, .inl (cB, 940, .inl f_tape))] := hD
        have hl : lv_has ls 2 [(1, .int u186), (0, .ref h0)] := hl
        refine lv_iload_n hx hb dX10_course_176 rfl (lv_at hl 0 rfl) ?_
        refine lv_aload_n hx hb dX10_course_177 rfl (lv_at hl 1 rfl) ?_
        refine get_f (D := D) (ci := 10) (v := .ref h_s) (C := RX10) (T := TX10) (N := 67) hx hb hw inAX10 hown hK hP 4 rfl rfl 6 (by decide) (hw _ q_1267) (fun _ h9 => h9) n161 dX10_course_178 ?_
        refine lv_bipush (v := 6) hx hb dX10_course_181 (by decide) ?_
        refine iald_n hx hb hK hP 0 0 rfl rfl 6 rfl (Nat.le_of_ble_eq_true rfl) (Nat.le_of_ble_eq_true rfl) rfl dX10_course_183 ?_
        refine lv_topi (fun v200 ev200 => ?_)
        have k201 : 0 ≤ v200.toInt ∧ v200.toInt ≤ 12 := by rw [ev200]; exact i198.atN 6 (by decide) (by decide)
        refine lv_icmp_ge (tgt := 211) hx hb dX10_course_184 (by decide) (fun c202 => ?_) (fun c202 => ?_)
        · have dc202 : v200.toInt ≤ u186.toInt := le_i (a := v200.toInt) (b := u186.toInt) rfl rfl c202
          refine lv_aload_n hx hb dX10_course_211 rfl (lv_at hl 1 rfl) ?_
          refine lv_iconst (v := 0) hx hb dX10_course_212 (by decide) ?_
          refine put_f (D := D) (ci := 10) (v := .int 0) (ty := .int) (C := RX10) (T := TX10) (N := 67) hx hb hw inAX10 tyX10 tyX10_ok nmX10 hown hK hP hD hS 4 rfl rfl 41 (by decide) (hw _ q_1302) (fun _ h9 => h9) rfl (by decide +kernel) rfl rfl dX10_course_213 (fun H locs F203 eF203 hP hD hS => ?_)
          have hP : va_P D vwCl [(h_s, .inl (cI, 335, .inl w187)), (h_names, .inl (cJ, 36, .inr (.inl w141))), (h_reserved, .inl (cJ, 23, .inr (.inl f_reserved))), (h_h, .inl (cI, 104, .inl w80)), (h0, .inr (10, vL 67 F203)), (h_tape, .inl (cB, 940, .inl f_tape))] H := hP
          have hD : va_D A [(h_s, .inl (cI, 335, .inl w187)), (h_names, .inl (cJ, 36, .inr (.inl w141))), (h_reserved, .inl (cJ, 23, .inr (.inl f_reserved))), (h_h, .inl (cI, 104, .inl w80)), (h0, .inr (10, vL 67 F203)), (h_tape, .inl (cB, 940, .inl f_tape))] := hD
          refine lv_aload_n hx hb dX10_course_216 rfl (lv_at hl 1 rfl) ?_
          have n204 : F153 20 = .int u91 := (get_ne eF153 (by decide) i109)
          have n205 : F203 20 = .int u91 := (get_ne eF203 (by decide) n204)
          refine get_f (D := D) (ci := 10) (v := .int u91) (C := RX10) (T := TX10) (N := 67) hx hb hw inAX10 hown hK hP 4 rfl rfl 20 (by decide) (hw _ q_1281) (fun _ h9 => h9) n205 dX10_course_217 ?_
          exact ret_i (v := u91) hx hb hr hlocks hS (hP.sub (ws' := [(h0, .inr (10, vL 67 F203)), (h_tape, .inl (cB, 940, .inl f_tape)), (h_s, .inl (cI, 335, .inl w187)), (h_h, .inl (cI, 104, .inl w80)), (h_names, .inl (cJ, 36, .inr (.inl w141))), (h_reserved, .inl (cJ, 23, .inr (.inl f_reserved)))]) [4, 5, 0, 3, 1, 2] rfl) (hD.sub (ws' := [(h0, .inr (10, vL 67 F203)), (h_tape, .inl (cB, 940, .inl f_tape)), (h_s, .inl (cI, 335, .inl w187)), (h_h, .inl (cI, 104, .inl w80)), (h_names, .inl (cJ, 36, .inr (.inl w141))), (h_reserved, .inl (cJ, 23, .inr (.inl f_reserved)))]) [4, 5, 0, 3, 1, 2] (by decide) rfl) dX10_course_220 rfl (Nat.le_of_ble_eq_true rfl) (Nat.le_of_ble_eq_true rfl) ⟨F203, u82, u83, u84, u85, u86, u87, u88, v152, u89, u90, u91, u92, 0, w187, w80, w141, (SAME.up eF203 (SAME.up eF153 (SAME.tr (SAME.tr (SAME.up eF13 (SAME.up eF12 (SAME.up eF11 (SAME.tr (SAME.up eF1 SAME.rf (by decide)) t5 (by decide)) (by decide)) (by decide)) (by decide)) t64 (by decide)) i99 (by decide)) (by decide)) (by decide)), (get_ne eF203 (by decide) (get_ne eF153 (by decide) (SAME.at i99 (by decide) (SAME.at t64 (by decide) (get_ne eF13 (by decide) (get_ne eF12 (by decide) (get_ne eF11 (by decide) (SAME.at t5 (by decide) (get_eq eF1))))))))), (get_ne eF203 (by decide) (get_ne eF153 (by decide) (SAME.at i99 (by decide) (SAME.at t64 (by decide) (get_ne eF13 (by decide) (get_ne eF12 (by decide) (get_ne eF11 (by decide) t6))))))), (get_ne eF203 (by decide) (get_ne eF153 (by decide) (SAME.at i99 (by decide) (SAME.at t64 (by decide) n34)))), (get_ne eF203 (by decide) (get_ne eF153 (by decide) i100)), i111, (get_ne eF203 (by decide) (get_ne eF153 (by decide) (SAME.at i99 (by decide) (SAME.at t64 (by decide) n40)))), (get_ne eF203 (by decide) (get_ne eF153 (by decide) i101)), i112, (get_ne eF203 (by decide) (get_ne eF153 (by decide) i102)), (get_ne eF203 (by decide) (get_ne eF153 (by decide) i103)), (get_ne eF203 (by decide) (get_ne eF153 (by decide) i104)), (get_ne eF203 (by decide) (get_ne eF153 (by decide) i105)), (get_ne eF203 (by decide) (get_ne eF153 (by decide) i106)), (get_ne eF203 (by decide) (get_eq eF153)), (get_ne eF203 (by decide) (get_ne eF153 (by decide) i107)), (get_ne eF203 (by decide) (get_ne eF153 (by decide) i108)), n205, (get_ne eF203 (by decide) (get_ne eF153 (by decide) i110)), (get_eq eF203), (show 0 ≤ (0 : Int32).toInt ∧ (0 : Int32).toInt ≤ 8 by decide), i195, i190, i197, i198, i199, i196, i189, i191, i192, i193, i194, i94, i96, i97, i98, i95, (by have zl0 : (0 : Int32).toInt = 0 := (by decide); omega), rfl⟩
        · have dc202 : u186.toInt < v200.toInt := nle_i (a := v200.toInt) (b := u186.toInt) rfl rfl c202
          have k206 : 0 ≤ u186.toInt ∧ u186.toInt ≤ 11 := ⟨i188.1, up_lt dc202 k201.2 (by decide)⟩
          have k207 : 1 ≤ v200.toInt ∧ v200.toInt ≤ 12 := ⟨lo_lt dc202 i188.1 (by decide), k201.2⟩
          refine lv_aload_n hx hb dX10_course_187 rfl (lv_at hl 1 rfl) ?_
          refine get_f (D := D) (ci := 10) (v := .ref h_s) (C := RX10) (T := TX10) (N := 67) hx hb hw inAX10 hown hK hP 4 rfl rfl 6 (by decide) (hw _ q_1267) (fun _ h9 => h9) n161 dX10_course_188 ?_
          refine lv_bipush (v := 116) hx hb dX10_course_191 (by decide) ?_
          refine lv_iload_n hx hb dX10_course_193 rfl (lv_at hl 0 rfl) ?_
          refine lv_iadd hx hb dX10_course_194 ?_
          refine lv_topi (fun v208 ev208 => ?_)
          have bv208 : v208.toInt = 116 + u186.toInt := by rw [ev208]; exact add_k rfl rfl ⟨Int.le_refl _, Int.le_refl _⟩ k206 (by decide)
          have k209 : 116 ≤ v208.toInt ∧ v208.toInt ≤ 127 := add_r bv208 ⟨Int.le_refl _, Int.le_refl _⟩ k206 (by decide)
          refine lv_aload_n hx hb dX10_course_195 rfl (lv_at hl 1 rfl) ?_
          refine get_f (D := D) (ci := 10) (v := .ref h_s) (C := RX10) (T := TX10) (N := 67) hx hb hw inAX10 hown hK hP 4 rfl rfl 6 (by decide) (hw _ q_1267) (fun _ h9 => h9) n161 dX10_course_196 ?_
          refine lv_bipush (v := 68) hx hb dX10_course_199 (by decide) ?_
          refine lv_iload_n hx hb dX10_course_201 rfl (lv_at hl 0 rfl) ?_
          refine lv_iadd hx hb dX10_course_202 ?_
          refine lv_topi (fun v210 ev210 => ?_)
          have bv210 : v210.toInt = 68 + u186.toInt := by rw [ev210]; exact add_k rfl rfl ⟨Int.le_refl _, Int.le_refl _⟩ k206 (by decide)
          have k211 : 68 ≤ v210.toInt ∧ v210.toInt ≤ 79 := add_r bv210 ⟨Int.le_refl _, Int.le_refl _⟩ k206 (by decide)
          refine va_iald hx hb hK hP 0 0 rfl rfl (ix_k k211 (by decide) (by decide)) dX10_course_203 ?_
          refine lv_topi (fun v212 ev212 => ?_)
          obtain ⟨g213, eg213⟩ : ∃ z : Nat → Int32, upd w187 v208.toNatClampNeg v212 = z := ⟨_, rfl⟩
          have r214 : KW 0 g213 := by rw [← eg213]; exact i189.up (Int.le_trans (by decide) k209.1) (Or.inl (lt_dec k209.2 (by decide)))
          have r215 : SG 0 0 0 40 g213 := by rw [← eg213]; exact i190.up (Int.le_trans (by decide) k209.1) (Or.inr (Or.inl (dec_lt k209.1 (by decide))))
          have r216 : SG 105 108 0 11 g213 := by rw [← eg213]; exact i191.up (Int.le_trans (by decide) k209.1) (Or.inr (Or.inl (dec_lt k209.1 (by decide))))
          have r217 : SG 114 114 0 5 g213 := by rw [← eg213]; exact i192.up (Int.le_trans (by decide) k209.1) (Or.inr (Or.inl (dec_lt k209.1 (by decide))))
          have r218 : SG 130 133 0 11 g213 := by rw [← eg213]; exact i193.up (Int.le_trans (by decide) k209.1) (Or.inl (lt_dec k209.2 (by decide)))
          have r219 : SG 139 139 0 5 g213 := by rw [← eg213]; exact i194.up (Int.le_trans (by decide) k209.1) (Or.inl (lt_dec k209.2 (by decide)))
          have r220 : SG 153 153 0 44 g213 := by rw [← eg213]; exact i195.up (Int.le_trans (by decide) k209.1) (Or.inl (lt_dec k209.2 (by decide)))
          have r221 : SG 44 55 0 9 g213 := by rw [← eg213]; exact i196.up (Int.le_trans (by decide) k209.1) (Or.inr (Or.inl (dec_lt k209.1 (by decide))))
          have r222 : SG 5 5 0 12 g213 := by rw [← eg213]; exact i197.up (Int.le_trans (by decide) k209.1) (Or.inr (Or.inl (dec_lt k209.1 (by decide))))
          have r223 : SG 6 6 0 12 g213 := by rw [← eg213]; exact i198.up (Int.le_trans (by decide) k209.1) (Or.inr (Or.inl (dec_lt k209.1 (by decide))))
          have r224 : SG 7 7 0 6 g213 := by rw [← eg213]; exact i199.up (Int.le_trans (by decide) k209.1) (Or.inr (Or.inl (dec_lt k209.1 (by decide))))
          refine iast_g hx hb hK hP hD hS 0 0 rfl rfl (ix_k k209 (by decide) (by decide)) eg213 dX10_course_204 (fun H locs hP hD hS => ?_)
          have hP : va_P D vwCl [(h_s, .inl (cI, 335, .inl g213)), (h_names, .inl (cJ, 36, .inr (.inl w141))), (h_reserved, .inl (cJ, 23, .inr (.inl f_reserved))), (h_h, .inl (cI, 104, .inl w80)), (h0, .inr (10, vL 67 F153)), (h_tape, .inl (cB, 940, .inl f_tape))] H := hP
          have hD : va_D A [(h_s, .inl (cI, 335, .inl g213)), (h_names, .inl (cJ, 36, .inr (.inl w141))), (h_reserved, .inl (cJ, 23, .inr (.inl f_reserved))), (h_h, .inl (cI, 104, .inl w80)), (h0, .inr (10, vL 67 F153)), (h_tape, .inl (cB, 940, .inl f_tape))] := hD
          obtain ⟨v225, ev225⟩ : ∃ z : Int32, z = u186 + 1 := ⟨_, rfl⟩
          have bv225 : v225.toInt = u186.toInt + 1 := by rw [ev225]; exact add_k rfl rfl k206 ⟨Int.le_refl _, Int.le_refl _⟩ (by decide)
          have k226 : 1 ≤ v225.toInt ∧ v225.toInt ≤ 12 := add_r bv225 k206 ⟨Int.le_refl _, Int.le_refl _⟩ (by decide)
          refine lv_iinc (v := v225) (lv' := [(1, .int v225), (0, .ref h0)]) hx hb dX10_course_205 hl (k := 0) rfl (by rw [ev225]; rfl) (by decide) rfl (fun ls hl => ?_)
          refine lv_goto (tgt := 176) hx hb dX10_course_208 (by decide) ?_
          exact ih_176 (v225, g213) ⟨(ir_wk k226 (by decide) (by decide)), r214, r215, r216, r217, r218, r219, r220, r221, r222, r223, r224⟩ (by show (12 - v225.toInt).toNat < (12 - u186.toInt).toNat; omega) _ _ _ hP hD hS (lv_sub hl [0, 1] rfl)
      · have dc143 : u140.toInt < 18 := nle_i (a := 18) (b := u140.toInt) rfl rfl c143
        have k227 : 0 ≤ u140.toInt ∧ u140.toInt ≤ 17 := ⟨i142.1, up_lt dc143 (Int.le_refl _) (by decide)⟩
        refine lv_aload_n hx hb dX10_course_123 rfl (lv_at hl 1 rfl) ?_
        have n228 : F1 9 = .ref h_names := (get_ne eF1 (by decide) e_names)
        have n229 : F4 9 = .ref h_names := (SAME.at t5 (by decide) n228)
        have n230 : F11 9 = .ref h_names := (get_ne eF11 (by decide) n229)
        have n231 : F12 9 = .ref h_names := (get_ne eF12 (by decide) n230)
        have n232 : F13 9 = .ref h_names := (get_ne eF13 (by decide) n231)
        have n233 : F57 9 = .ref h_names := (SAME.at t64 (by decide) n232)
        have n234 : G81 9 = .ref h_names := (SAME.at i99 (by decide) n233)
        refine get_f (D := D) (ci := 10) (v := .ref h_names) (C := RX10) (T := TX10) (N := 67) hx hb hw inAX10 hown hK hP 4 rfl rfl 9 (by decide) (hw _ q_1270) (fun _ h9 => h9) n234 dX10_course_124 ?_
        refine lv_iload_n hx hb dX10_course_127 rfl (lv_at hl 0 rfl) ?_
        refine lv_aload_n hx hb dX10_course_128 rfl (lv_at hl 1 rfl) ?_
        refine get_f (D := D) (ci := 10) (v := .ref h_names) (C := RX10) (T := TX10) (N := 67) hx hb hw inAX10 hown hK hP 4 rfl rfl 9 (by decide) (hw _ q_1270) (fun _ h9 => h9) n234 dX10_course_129 ?_
        refine lv_bipush (v := 18) hx hb dX10_course_132 (by decide) ?_
        refine lv_iload_n hx hb dX10_course_134 rfl (lv_at hl 0 rfl) ?_
        refine lv_iadd hx hb dX10_course_135 ?_
        refine lv_topi (fun v235 ev235 => ?_)
        have bv235 : v235.toInt = 18 + u140.toInt := by rw [ev235]; exact add_k rfl rfl ⟨Int.le_refl _, Int.le_refl _⟩ k227 (by decide)
        have k236 : 18 ≤ v235.toInt ∧ v235.toInt ≤ 35 := add_r bv235 ⟨Int.le_refl _, Int.le_refl _⟩ k227 (by decide)
        refine va_lald hx hb hK hP 1 1 rfl rfl (ix_k k236 (by decide) (by decide)) dX10_course_136 ?_
        refine lv_topl (fun v237 ev237 => ?_)
        obtain ⟨g238, eg238⟩ : ∃ z : Nat → Int64, vp_updL w141 u140.toNatClampNeg v237 = z := ⟨_, rfl⟩
        refine last_g hx hb hK hP hD hS 1 1 rfl rfl (ix_k k227 (by decide) (by decide)) eg238 dX10_course_137 (fun H locs hP hD hS => ?_)
        have hP : va_P D vwCl [(h_s, .inl (cI, 335, .inl w115)), (h_names, .inl (cJ, 36, .inr (.inl g238))), (h_reserved, .inl (cJ, 23, .inr (.inl f_reserved))), (h_h, .inl (cI, 104, .inl w80)), (h0, .inr (10, vL 67 G81)), (h_tape, .inl (cB, 940, .inl f_tape))] H := hP
        have hD : va_D A [(h_s, .inl (cI, 335, .inl w115)), (h_names, .inl (cJ, 36, .inr (.inl g238))), (h_reserved, .inl (cJ, 23, .inr (.inl f_reserved))), (h_h, .inl (cI, 104, .inl w80)), (h0, .inr (10, vL 67 G81)), (h_tape, .inl (cB, 940, .inl f_tape))] := hD
        obtain ⟨v239, ev239⟩ : ∃ z : Int32, z = u140 + 1 := ⟨_, rfl⟩
        have bv239 : v239.toInt = u140.toInt + 1 := by rw [ev239]; exact add_k rfl rfl k227 ⟨Int.le_refl _, Int.le_refl _⟩ (by decide)
        have k240 : 1 ≤ v239.toInt ∧ v239.toInt ≤ 18 := add_r bv239 k227 ⟨Int.le_refl _, Int.le_refl _⟩ (by decide)
        refine lv_iinc (v := v239) (lv' := [(1, .int v239), (0, .ref h0)]) hx hb dX10_course_138 hl (k := 0) rfl (by rw [ev239]; rfl) (by decide) rfl (fun ls hl => ?_)
        refine lv_goto (tgt := 117) hx hb dX10_course_141 (by decide) ?_
        exact ih_117 (v239, g238) (ir_wk k240 (by decide) (by decide)) (by show (18 - v239.toInt).toNat < (18 - u140.toInt).toNat; omega) _ _ _ hP hD hS (lv_sub hl [0, 1] rfl)
    · have dc127 : u114.toInt < 335 := nle_i (a := 335) (b := u114.toInt) rfl rfl c127
      have k241 : 0 ≤ u114.toInt ∧ u114.toInt ≤ 334 := ⟨i116.1, up_lt dc127 (Int.le_refl _) (by decide)⟩
      refine lv_aload_n hx hb dX10_course_87 rfl (lv_at hl 1 rfl) ?_
      have n242 : F1 6 = .ref h_s := (get_ne eF1 (by decide) e_s)
      have n243 : F4 6 = .ref h_s := (SAME.at t5 (by decide) n242)
      have n244 : F11 6 = .ref h_s := (get_ne eF11 (by decide) n243)
      have n245 : F12 6 = .ref h_s := (get_ne eF12 (by decide) n244)
      have n246 : F13 6 = .ref h_s := (get_ne eF13 (by decide) n245)
      have n247 : F57 6 = .ref h_s := (SAME.at t64 (by decide) n246)
      have n248 : G81 6 = .ref h_s := (SAME.at i99 (by decide) n247)
      refine get_f (D := D) (ci := 10) (v := .ref h_s) (C := RX10) (T := TX10) (N := 67) hx hb hw inAX10 hown hK hP 4 rfl rfl 6 (by decide) (hw _ q_1267) (fun _ h9 => h9) n248 dX10_course_88 ?_
      refine lv_iload_n hx hb dX10_course_91 rfl (lv_at hl 0 rfl) ?_
      refine lv_iload_n hx hb dX10_course_92 rfl (lv_at hl 0 rfl) ?_
      refine lv_bipush (v := 104) hx hb dX10_course_93 (by decide) ?_
      refine lv_icmp_ge (tgt := 107) hx hb dX10_course_95 (by decide) (fun c249 => ?_) (fun c249 => ?_)
      · have dc249 : 104 ≤ u114.toInt := le_i (a := 104) (b := u114.toInt) rfl rfl c249
        have k250 : 104 ≤ u114.toInt ∧ u114.toInt ≤ 334 := ⟨Int.le_trans (Int.le_refl _) dc249, k241.2⟩
        refine lv_iconst (v := 0) hx hb dX10_course_107 (by decide) ?_
        obtain ⟨g251, eg251⟩ : ∃ z : Nat → Int32, upd w115 u114.toNatClampNeg 0 = z := ⟨_, rfl⟩
        refine iast_g hx hb hK hP hD hS 0 0 rfl rfl (ix_k k250 (by decide) (by decide)) eg251 dX10_course_108 (fun H locs hP hD hS => ?_)
        have hP : va_P D vwCl [(h_s, .inl (cI, 335, .inl g251)), (h_names, .inl (cJ, 36, .inr (.inl w79))), (h_reserved, .inl (cJ, 23, .inr (.inl f_reserved))), (h_h, .inl (cI, 104, .inl w80)), (h0, .inr (10, vL 67 G81)), (h_tape, .inl (cB, 940, .inl f_tape))] H := hP
        have hD : va_D A [(h_s, .inl (cI, 335, .inl g251)), (h_names, .inl (cJ, 36, .inr (.inl w79))), (h_reserved, .inl (cJ, 23, .inr (.inl f_reserved))), (h_h, .inl (cI, 104, .inl w80)), (h0, .inr (10, vL 67 G81)), (h_tape, .inl (cB, 940, .inl f_tape))] := hD
        obtain ⟨v252, ev252⟩ : ∃ z : Int32, z = u114 + 1 := ⟨_, rfl⟩
        have bv252 : v252.toInt = u114.toInt + 1 := by rw [ev252]; exact add_k rfl rfl k250 ⟨Int.le_refl _, Int.le_refl _⟩ (by decide)
        have k253 : 105 ≤ v252.toInt ∧ v252.toInt ≤ 335 := add_r bv252 k250 ⟨Int.le_refl _, Int.le_refl _⟩ (by decide)
        refine lv_iinc (v := v252) (lv' := [(1, .int v252), (0, .ref h0)]) hx hb dX10_course_109 hl (k := 0) rfl (by rw [ev252]; rfl) (by decide) rfl (fun ls hl => ?_)
        refine lv_goto (tgt := 80) hx hb dX10_course_112 (by decide) ?_
        exact ih (v252, g251) ⟨(ir_wk k253 (by decide) (by decide)), (SGK.step i117 eg251 (by omega) (by omega) (by omega) (fun q1 q2 => ⟨by decide, by decide⟩)), (SGK.step i118 eg251 (by omega) (by omega) (by omega) (fun q1 q2 => ⟨by decide, by decide⟩)), (SGK.step i119 eg251 (by omega) (by omega) (by omega) (fun q1 q2 => ⟨by decide, by decide⟩)), (SGK.step i120 eg251 (by omega) (by omega) (by omega) (fun q1 q2 => ⟨by decide, by decide⟩)), (SGK.step i121 eg251 (by omega) (by omega) (by omega) (fun q1 q2 => ⟨by decide, by decide⟩)), (SGK.step i122 eg251 (by omega) (by omega) (by omega) (fun q1 q2 => ⟨by decide, by decide⟩)), (SGK.step i123 eg251 (by omega) (by omega) (by omega) (fun q1 q2 => ⟨by decide, by decide⟩)), (SGK.step i124 eg251 (by omega) (by omega) (by omega) (fun q1 q2 => ⟨by decide, by decide⟩)), (SGK.step i125 eg251 (by omega) (by omega) (by omega) (fun q1 q2 => ⟨by decide, by decide⟩)), (SGK.step i126 eg251 (by omega) (by omega) (by omega) (fun q1 q2 => ⟨by decide, by decide⟩))⟩ (by show (335 - v252.toInt).toNat < (335 - u114.toInt).toNat; omega) _ _ _ hP hD hS (lv_sub hl [0, 1] rfl)
      · have dc249 : u114.toInt < 104 := nle_i (a := 104) (b := u114.toInt) rfl rfl c249
        have k254 : 0 ≤ u114.toInt ∧ u114.toInt ≤ 103 := ⟨k241.1, up_lt dc249 (Int.le_refl _) (by decide)⟩
        refine lv_aload_n hx hb dX10_course_98 rfl (lv_at hl 1 rfl) ?_
        have n255 : F57 7 = .ref h_h := (SAME.at t64 (by decide) n18)
        have n256 : G81 7 = .ref h_h := (SAME.at i99 (by decide) n255)
        refine get_f (D := D) (ci := 10) (v := .ref h_h) (C := RX10) (T := TX10) (N := 67) hx hb hw inAX10 hown hK hP 4 rfl rfl 7 (by decide) (hw _ q_1268) (fun _ h9 => h9) n256 dX10_course_99 ?_
        refine lv_iload_n hx hb dX10_course_102 rfl (lv_at hl 0 rfl) ?_
        refine va_iald hx hb hK hP 3 0 rfl rfl (ix_k k254 (by decide) (by decide)) dX10_course_103 ?_
        refine lv_topi (fun v257 ev257 => ?_)
        have r258 : IMP (0 ≤ u114.toInt → u114.toInt ≤ 0 → 0 ≤ v257.toInt ∧ v257.toInt ≤ 40) := IMP.mk (fun q1 q2 => by rw [ev257]; exact i94.at _ q1 q2)
        have r259 : IMP (44 ≤ u114.toInt → u114.toInt ≤ 55 → 0 ≤ v257.toInt ∧ v257.toInt ≤ 9) := IMP.mk (fun q1 q2 => by rw [ev257]; exact i95.at _ q1 q2)
        have r260 : IMP (5 ≤ u114.toInt → u114.toInt ≤ 5 → 0 ≤ v257.toInt ∧ v257.toInt ≤ 12) := IMP.mk (fun q1 q2 => by rw [ev257]; exact i96.at _ q1 q2)
        have r261 : IMP (6 ≤ u114.toInt → u114.toInt ≤ 6 → 0 ≤ v257.toInt ∧ v257.toInt ≤ 12) := IMP.mk (fun q1 q2 => by rw [ev257]; exact i97.at _ q1 q2)
        have r262 : IMP (7 ≤ u114.toInt → u114.toInt ≤ 7 → 0 ≤ v257.toInt ∧ v257.toInt ≤ 6) := IMP.mk (fun q1 q2 => by rw [ev257]; exact i98.at _ q1 q2)
        refine lv_goto (tgt := 108) hx hb dX10_course_104 (by decide) ?_
        obtain ⟨g263, eg263⟩ : ∃ z : Nat → Int32, upd w115 u114.toNatClampNeg v257 = z := ⟨_, rfl⟩
        refine iast_g hx hb hK hP hD hS 0 0 rfl rfl (ix_k k254 (by decide) (by decide)) eg263 dX10_course_108 (fun H locs hP hD hS => ?_)
        have hP : va_P D vwCl [(h_s, .inl (cI, 335, .inl g263)), (h_names, .inl (cJ, 36, .inr (.inl w79))), (h_reserved, .inl (cJ, 23, .inr (.inl f_reserved))), (h_h, .inl (cI, 104, .inl w80)), (h0, .inr (10, vL 67 G81)), (h_tape, .inl (cB, 940, .inl f_tape))] H := hP
        have hD : va_D A [(h_s, .inl (cI, 335, .inl g263)), (h_names, .inl (cJ, 36, .inr (.inl w79))), (h_reserved, .inl (cJ, 23, .inr (.inl f_reserved))), (h_h, .inl (cI, 104, .inl w80)), (h0, .inr (10, vL 67 G81)), (h_tape, .inl (cB, 940, .inl f_tape))] := hD
        obtain ⟨v264, ev264⟩ : ∃ z : Int32, z = u114 + 1 := ⟨_, rfl⟩
        have bv264 : v264.toInt = u114.toInt + 1 := by rw [ev264]; exact add_k rfl rfl k254 ⟨Int.le_refl _, Int.le_refl _⟩ (by decide)
        have k265 : 1 ≤ v264.toInt ∧ v264.toInt ≤ 104 := add_r bv264 k254 ⟨Int.le_refl _, Int.le_refl _⟩ (by decide)
        refine lv_iinc (v := v264) (lv' := [(1, .int v264), (0, .ref h0)]) hx hb dX10_course_109 hl (k := 0) rfl (by rw [ev264]; rfl) (by decide) rfl (fun ls hl => ?_)
        refine lv_goto (tgt := 80) hx hb dX10_course_112 (by decide) ?_
        exact ih (v264, g263) ⟨(ir_wk k265 (by decide) (by decide)), (SGK.step i117 eg263 (by omega) (by omega) (by omega) (fun q1 q2 => ⟨Int.le_trans (by decide) (r258.h (by omega) (by omega)).1, Int.le_trans (r258.h (by omega) (by omega)).2 (by decide)⟩)), (SGK.step i118 eg263 (by omega) (by omega) (by omega) (fun q1 q2 => ⟨Int.le_trans (by decide) (r260.h (by omega) (by omega)).1, Int.le_trans (r260.h (by omega) (by omega)).2 (by decide)⟩)), (SGK.step i119 eg263 (by omega) (by omega) (by omega) (fun q1 q2 => ⟨Int.le_trans (by decide) (r261.h (by omega) (by omega)).1, Int.le_trans (r261.h (by omega) (by omega)).2 (by decide)⟩)), (SGK.step i120 eg263 (by omega) (by omega) (by omega) (fun q1 q2 => ⟨Int.le_trans (by decide) (r262.h (by omega) (by omega)).1, Int.le_trans (r262.h (by omega) (by omega)).2 (by decide)⟩)), (SGK.step i121 eg263 (by omega) (by omega) (by omega) (fun q1 q2 => ⟨Int.le_trans (by decide) (r259.h (by omega) (by omega)).1, Int.le_trans (r259.h (by omega) (by omega)).2 (by decide)⟩)), (SGK.step i122 eg263 (by omega) (by omega) (by omega) (fun q1 q2 => ⟨by omega, by omega⟩)), (SGK.step i123 eg263 (by omega) (by omega) (by omega) (fun q1 q2 => ⟨by omega, by omega⟩)), (SGK.step i124 eg263 (by omega) (by omega) (by omega) (fun q1 q2 => ⟨by omega, by omega⟩)), (SGK.step i125 eg263 (by omega) (by omega) (by omega) (fun q1 q2 => ⟨by omega, by omega⟩)), (SGK.step i126 eg263 (by omega) (by omega) (by omega) (fun q1 q2 => ⟨by omega, by omega⟩))⟩ (by show (335 - v264.toInt).toNat < (335 - u114.toInt).toNat; omega) _ _ _ hP hD hS (lv_sub hl [0, 1] rfl)
  have n266 : F12 15 = .int 0 := (get_ne eF12 (by decide) (get_eq eF11))
  have n267 : F13 15 = .int 0 := (get_ne eF13 (by decide) n266)
  have n268 : F57 15 = .int 0 := (SAME.at t64 (by decide) n267)
  have n269 : F1 16 = .int x_faultAt := (get_ne eF1 (by decide) e_faultAt)
  have n270 : F4 16 = .int x_faultAt := (SAME.at t5 (by decide) n269)
  have n271 : F11 16 = .int x_faultAt := (get_ne eF11 (by decide) n270)
  have n272 : F12 16 = .int x_faultAt := (get_ne eF12 (by decide) n271)
  have n273 : F13 16 = .int x_faultAt := (get_ne eF13 (by decide) n272)
  have n274 : F57 16 = .int x_faultAt := (SAME.at t64 (by decide) n273)
  have n275 : F1 19 = .int x_got := (get_ne eF1 (by decide) e_got)
  have n276 : F4 19 = .int x_got := (SAME.at t5 (by decide) n275)
  have n277 : F11 19 = .int x_got := (get_ne eF11 (by decide) n276)
  have n278 : F12 19 = .int x_got := (get_ne eF12 (by decide) n277)
  have n279 : F13 19 = .int x_got := (get_ne eF13 (by decide) n278)
  have n280 : F57 19 = .int x_got := (SAME.at t64 (by decide) n279)
  have n281 : F13 20 = .int 0 := (get_ne eF13 (by decide) (get_eq eF12))
  have n282 : F57 20 = .int 0 := (SAME.at t64 (by decide) n281)
  have n283 : F57 21 = .int 0 := (SAME.at t64 (by decide) (get_eq eF13))
  refine mloop (α := (Nat → Int64) × (Nat → Int32) × (Nat → Value) × (Int32) × (Int32) × (Int32) × (Int32) × (Int32) × (Int32) × (Int32) × (Int64) × (Int32) × (Int32) × (Int32)) (nL := 2) (D := D) (A := A) (H0 := s.heap) (fun a => (x_length.toInt - a.2.2.2.1.toInt).toNat) (fun a => SG 0 0 0 40 a.2.1 ∧ SG 44 55 0 9 a.2.1 ∧ SG 5 5 0 12 a.2.1 ∧ SG 6 6 0 12 a.2.1 ∧ SG 7 7 0 6 a.2.1 ∧ SAME [4, 11, 12, 13, 14, 15, 16, 18, 19, 20, 21] F57 a.2.2.1 ∧ a.2.2.1 4 = .int a.2.2.2.1 ∧ a.2.2.1 11 = .int a.2.2.2.2.1 ∧ a.2.2.1 12 = .int a.2.2.2.2.2.1 ∧ a.2.2.1 13 = .int a.2.2.2.2.2.2.1 ∧ a.2.2.1 14 = .int a.2.2.2.2.2.2.2.1 ∧ a.2.2.1 15 = .int a.2.2.2.2.2.2.2.2.1 ∧ a.2.2.1 16 = .int a.2.2.2.2.2.2.2.2.2.1 ∧ a.2.2.1 18 = .long a.2.2.2.2.2.2.2.2.2.2.1 ∧ a.2.2.1 19 = .int a.2.2.2.2.2.2.2.2.2.2.2.1 ∧ a.2.2.1 20 = .int a.2.2.2.2.2.2.2.2.2.2.2.2.1 ∧ a.2.2.1 21 = .int a.2.2.2.2.2.2.2.2.2.2.2.2.2 ∧ IR 0 940 a.2.2.2.1 ∧ IR 0 4 a.2.2.2.2.1 ∧ ((a.2.2.2.2.1.toInt = 2 → 0 ≤ a.2.2.2.2.2.2.2.1.toInt ∧ a.2.2.2.2.2.2.2.1.toInt ≤ 999))) (fun a => [(h_s, .inl (cI, 335, .inl f_s)), (h_names, .inl (cJ, 36, .inr (.inl a.1))), (h_reserved, .inl (cJ, 23, .inr (.inl f_reserved))), (h_h, .inl (cI, 104, .inl a.2.1)), (h0, .inr (10, vL 67 a.2.2.1)), (h_tape, .inl (cB, 940, .inl f_tape))]) (fun a => [(0, .ref h0)]) (fun H locs ls => W p l e ({ frames := 4, cells := 0, slots := 0, locals := 87 } : Room) s m [.ref h0].toArray below meth c H locs 0 0 (MQ below (va_Qi (fun (r : Int32) (u : va_W) => ∃ (Gh : Nat → Value) (y_p : Int32) (y_token : Int32) (y_at : Int32) (y_span : Int32) (y_number : Int32) (y_fault : Int32) (y_faultAt : Int32) (y_ids : Int32) (y_word : Int64) (y_got : Int32) (y_lines : Int32) (y_onces : Int32) (y_undoMany : Int32) (g_s : Nat → Int32) (g_h : Nat → Int32) (g_names : Nat → Int64), SAME [0, 2, 3, 4, 5, 11, 12, 13, 14, 15, 16, 17, 18, 19, 20, 21, 41] Fh Gh ∧ Gh 0 = .int 0 ∧ Gh 2 = .int 0 ∧ Gh 3 = .int x_length ∧ Gh 4 = .int y_p ∧ IR 0 940 y_p ∧ Gh 5 = .int 900 ∧ Gh 11 = .int y_token ∧ IR 0 4 y_token ∧ Gh 12 = .int y_at ∧ Gh 13 = .int y_span ∧ Gh 14 = .int y_number ∧ Gh 15 = .int y_fault ∧ Gh 16 = .int y_faultAt ∧ Gh 17 = .int y_ids ∧ Gh 18 = .long y_word ∧ Gh 19 = .int y_got ∧ Gh 20 = .int y_lines ∧ Gh 21 = .int y_onces ∧ Gh 41 = .int y_undoMany ∧ IR 0 8 y_undoMany ∧ SG 153 153 0 44 g_s ∧ SG 0 0 0 40 g_s ∧ SG 5 5 0 12 g_s ∧ SG 6 6 0 12 g_s ∧ SG 7 7 0 6 g_s ∧ SG 44 55 0 9 g_s ∧ KW 0 g_s ∧ SG 105 108 0 11 g_s ∧ SG 114 114 0 5 g_s ∧ SG 130 133 0 11 g_s ∧ SG 139 139 0 5 g_s ∧ SG 0 0 0 40 g_h ∧ SG 5 5 0 12 g_h ∧ SG 6 6 0 12 g_h ∧ SG 7 7 0 6 g_h ∧ SG 44 55 0 9 g_h ∧ ((y_token.toInt = 2 → 0 ≤ y_number.toInt ∧ y_number.toInt ≤ 999)) ∧ u = [(h0, .inr (10, vL 67 Gh)), (h_tape, .inl (cB, 940, .inl f_tape)), (h_s, .inl (cI, 335, .inl g_s)), (h_h, .inl (cI, 104, .inl g_h)), (h_names, .inl (cJ, 36, .inr (.inl g_names))), (h_reserved, .inl (cJ, 23, .inr (.inl f_reserved)))]) (PO D A) A) [.ref h0].toArray s 0 0 A) (F0 m 35 ls [])) ?_ (f_names, g20, F57, y58, y59, y60, y61, y62, 0, x_faultAt, y63, x_got, 0, 0) ⟨t21, t25, t22, t23, t24, SAME.rf, t65, t67, t69, t71, t73, n268, n274, t74, n280, n282, n283, t66, t68, (by show (y59.toInt = 2 → 0 ≤ y62.toInt ∧ y62.toInt ≤ 999); omega)⟩ _ _ _ hP hD hS hl
  rintro ⟨w79, w80, G81, u82, u83, u84, u85, u86, u87, u88, u89, u90, u91, u92⟩ ⟨i284, i285, i286, i287, i288, i289, i290, i291, i292, i293, i294, i295, i296, i297, i298, i299, i300, i301, i302, i303⟩ ih H locs ls hP hD hS hl
  have i301 : 0 ≤ u82.toInt ∧ u82.toInt ≤ 940 := i301
  have i302 : 0 ≤ u83.toInt ∧ u83.toInt ≤ 4 := i302
  have i303 : (u83.toInt = 2 → 0 ≤ u86.toInt ∧ u86.toInt ≤ 999) := i303
  have hP : va_P D vwCl [(h_s, .inl (cI, 335, .inl f_s)), (h_names, .inl (cJ, 36, .inr (.inl w79))), (h_reserved, .inl (cJ, 23, .inr (.inl f_reserved))), (h_h, .inl (cI, 104, .inl w80)), (h0, .inr (10, vL 67 G81)), (h_tape, .inl (cB, 940, .inl f_tape))] H := hP
  have hD : va_D A [(h_s, .inl (cI, 335, .inl f_s)), (h_names, .inl (cJ, 36, .inr (.inl w79))), (h_reserved, .inl (cJ, 23, .inr (.inl f_reserved))), (h_h, .inl (cI, 104, .inl w80)), (h0, .inr (10, vL 67 G81)), (h_tape, .inl (cB, 940, .inl f_tape))] := hD
  have hl : lv_has ls 2 [(0, .ref h0)] := hl
  refine lv_aload_n hx hb dX10_course_35 rfl (lv_at hl 0 rfl) ?_
  refine get_f (D := D) (ci := 10) (v := .int u83) (C := RX10) (T := TX10) (N := 67) hx hb hw inAX10 hown hK hP 4 rfl rfl 11 (by decide) (hw _ q_1272) (fun _ h9 => h9) i291 dX10_course_36 ?_
  refine lv_if_eq (tgt := 78) hx hb dX10_course_39 (by decide) (fun c304 => ?_) (fun c304 => ?_)
  · have dc304 : u83.toInt = 0 := eq_i (a := u83.toInt) (b := 0) rfl rfl c304
    have k305 : 0 ≤ u83.toInt ∧ u83.toInt ≤ 0 := ⟨i302.1, Int.le_trans (Int.le_of_eq dc304) (Int.le_refl _)⟩
    exact cut93 w79 w80 G81 u82 u83 u84 u85 u86 u87 u88 u89 u90 u91 u92 i284 i285 i286 i287 i288 (SAME.tr SAME.rf i289 (by decide)) i290 i291 i292 i293 i294 i295 i296 i297 i298 i299 i300 i301 (ir_wk k305 (by decide) (by decide)) (by show (u83.toInt = 2 → 0 ≤ u86.toInt ∧ u86.toInt ≤ 999); omega) _ _ _ hP hD hS (lv_sub hl [0] rfl)
  · have dc304 : u83.toInt ≠ 0 := ne_i (a := u83.toInt) (b := 0) rfl rfl c304
    have k306 : 1 ≤ u83.toInt ∧ u83.toInt ≤ 4 := ⟨ne_lo dc304 i302.1 ⟨Int.le_refl _, Int.le_refl _⟩ (by decide), i302.2⟩
    refine lv_aload_n hx hb dX10_course_42 rfl (lv_at hl 0 rfl) ?_
    have n307 : F57 1 = .ref h_tape := (SAME.at t64 (by decide) n31)
    have n308 : G81 1 = .ref h_tape := (SAME.at i289 (by decide) n307)
    have n309 : F57 3 = .int x_length := (SAME.at t64 (by decide) n34)
    have n310 : G81 3 = .int x_length := (SAME.at i289 (by decide) n309)
    have n311 : F57 5 = .int 900 := (SAME.at t64 (by decide) n40)
    have n312 : G81 5 = .int 900 := (SAME.at i289 (by decide) n311)
    have n313 : F57 7 = .ref h_h := (SAME.at t64 (by decide) n18)
    have n314 : G81 7 = .ref h_h := (SAME.at i289 (by decide) n313)
    have n315 : F1 9 = .ref h_names := (get_ne eF1 (by decide) e_names)
    have n316 : F4 9 = .ref h_names := (SAME.at t5 (by decide) n315)
    have n317 : F11 9 = .ref h_names := (get_ne eF11 (by decide) n316)
    have n318 : F12 9 = .ref h_names := (get_ne eF12 (by decide) n317)
    have n319 : F13 9 = .ref h_names := (get_ne eF13 (by decide) n318)
    have n320 : F57 9 = .ref h_names := (SAME.at t64 (by decide) n319)
    have n321 : G81 9 = .ref h_names := (SAME.at i289 (by decide) n320)
    have n322 : F1 10 = .ref h_reserved := (get_ne eF1 (by decide) e_reserved)
    have n323 : F4 10 = .ref h_reserved := (SAME.at t5 (by decide) n322)
    have n324 : F11 10 = .ref h_reserved := (get_ne eF11 (by decide) n323)
    have n325 : F12 10 = .ref h_reserved := (get_ne eF12 (by decide) n324)
    have n326 : F13 10 = .ref h_reserved := (get_ne eF13 (by decide) n325)
    have n327 : F57 10 = .ref h_reserved := (SAME.at t64 (by decide) n326)
    have n328 : G81 10 = .ref h_reserved := (SAME.at i289 (by decide) n327)
    refine call_Vi (wr := [(h_s, .inl (cI, 335, .inl f_s))]) (As := []) (rest := []) hx hb hml hown hw (m_X10_line0 l D cI cJ cB cP cM cZ h0 h_tape h_h h_names h_reserved G81 x_length u82 900 u83 u84 u85 u86 u87 u88 u89 u90 u92 f_tape w80 w79 f_reserved _ n308 n310 i_x_length i290 i301 n312 (show 200 ≤ (900 : Int32).toInt ∧ (900 : Int32).toInt ≤ 940 by decide) n314 n321 n328 i291 (ir_wk k306 (by decide) (by decide)) i292 i293 i294 i295 i296 i297 i298 i300 i284 i285 i286 i287 i288 (by omega)) wV_X10_254_X10_line0 dX10_course_43 hK hP hD hS hA [4, 5, 3, 1, 2] [0] rfl rfl (by decide) (by decide) (by decide) 0 10 rfl rfl GG.fb hG.at hl.1 rfl (Nat.le_of_ble_eq_true rfl) ⟨(Nat.le_of_ble_eq_true rfl), (Nat.le_of_ble_eq_true rfl)⟩ ⟨(Nat.le_of_ble_eq_true rfl), (Nat.le_of_ble_eq_true rfl)⟩ (fun r329 u H locs hp hP hD hS => ?_)
    refine hp.elim (fun F330 h9z => h9z.elim (fun y331 h9z => h9z.elim (fun y332 h9z => h9z.elim (fun y333 h9z => h9z.elim (fun y334 h9z => h9z.elim (fun y335 h9z => h9z.elim (fun y336 h9z => h9z.elim (fun y337 h9z => h9z.elim (fun y338 h9z => h9z.elim (fun y339 h9z => h9z.elim (fun y340 h9z => h9z.elim (fun g341 h9z => h9z.elim (fun g342 h9z => h9z.elim (fun t343 h9z => h9z.elim (fun t344 h9z => h9z.elim (fun t345 h9z => h9z.elim (fun t346 h9z => h9z.elim (fun t347 h9z => h9z.elim (fun t348 h9z => h9z.elim (fun t349 h9z => h9z.elim (fun t350 h9z => h9z.elim (fun t351 h9z => h9z.elim (fun t352 h9z => h9z.elim (fun t353 h9z => h9z.elim (fun t354 h9z => h9z.elim (fun t355 h9z => h9z.elim (fun t356 h9z => h9z.elim (fun t357 h9z => h9z.elim (fun t358 h9z => h9z.elim (fun t359 h9z => h9z.elim (fun t360 h9z => h9z.elim (fun t361 h9z => h9z.elim (fun t362 h9z => h9z.elim (fun t363 h9z => ?_))))))))))))))))))))))))))))))))))
    subst h9z
    have hP : va_P D vwCl [(h_s, .inl (cI, 335, .inl f_s)), (h0, .inr (10, vL 67 F330)), (h_tape, .inl (cB, 940, .inl f_tape)), (h_h, .inl (cI, 104, .inl g341)), (h_names, .inl (cJ, 36, .inr (.inl g342))), (h_reserved, .inl (cJ, 23, .inr (.inl f_reserved)))] H := hP
    have hD : va_D A [(h_s, .inl (cI, 335, .inl f_s)), (h0, .inr (10, vL 67 F330)), (h_tape, .inl (cB, 940, .inl f_tape)), (h_h, .inl (cI, 104, .inl g341)), (h_names, .inl (cJ, 36, .inr (.inl g342))), (h_reserved, .inl (cJ, 23, .inr (.inl f_reserved)))] := hD
    refine W.widen (k := 0) (n := 0) (Nat.le_of_ble_eq_true rfl) (Nat.le_of_ble_eq_true rfl) ?_
    refine lv_if_eq (tgt := 58) hx hb dX10_course_46 (by decide) (fun c365 => ?_) (fun c365 => ?_)
    · have dc365 : r329.toInt = 0 := eq_i (a := r329.toInt) (b := 0) rfl rfl c365
      have k366 : 0 ≤ r329.toInt ∧ r329.toInt ≤ 0 := ⟨t361.1, Int.le_trans (Int.le_of_eq dc365) (Int.le_refl _)⟩
      refine lv_iconst (v := (-1)) hx hb dX10_course_58 (by decide) ?_
      refine lv_aload_n hx hb dX10_course_59 rfl (lv_at hl 0 rfl) ?_
      refine get_f (D := D) (ci := 10) (v := .int y337) (C := RX10) (T := TX10) (N := 67) hx hb hw inAX10 hown hK hP 1 rfl rfl 16 (by decide) (hw _ q_1277) (fun _ h9 => h9) t352 dX10_course_60 ?_
      refine lv_isub hx hb dX10_course_63 ?_
      refine lv_topi (fun v367 ev367 => ?_)
      have bv367 : v367.toInt = (-1) - y337.toInt := by rw [ev367]; exact sub_k rfl rfl ⟨Int.le_refl _, Int.le_refl _⟩ (ir_any _) (by decide)
      have k368 : (-2147483648) ≤ v367.toInt ∧ v367.toInt ≤ 2147483647 := sub_r bv367 ⟨Int.le_refl _, Int.le_refl _⟩ (ir_any _) (by decide)
      exact ret_i (v := v367) hx hb hr hlocks hS (hP.sub (ws' := [(h0, .inr (10, vL 67 F330)), (h_tape, .inl (cB, 940, .inl f_tape)), (h_s, .inl (cI, 335, .inl f_s)), (h_h, .inl (cI, 104, .inl g341)), (h_names, .inl (cJ, 36, .inr (.inl g342))), (h_reserved, .inl (cJ, 23, .inr (.inl f_reserved)))]) [1, 2, 0, 3, 4, 5] rfl) (hD.sub (ws' := [(h0, .inr (10, vL 67 F330)), (h_tape, .inl (cB, 940, .inl f_tape)), (h_s, .inl (cI, 335, .inl f_s)), (h_h, .inl (cI, 104, .inl g341)), (h_names, .inl (cJ, 36, .inr (.inl g342))), (h_reserved, .inl (cJ, 23, .inr (.inl f_reserved)))]) [1, 2, 0, 3, 4, 5] (by decide) rfl) dX10_course_64 rfl (Nat.le_of_ble_eq_true rfl) (Nat.le_of_ble_eq_true rfl) ⟨F330, y331, y332, y333, y334, y335, y336, y337, x_ids, y338, y339, u91, y340, x_undoMany, f_s, g341, g342, (SAME.tr (SAME.tr (SAME.tr (SAME.up eF13 (SAME.up eF12 (SAME.up eF11 (SAME.tr (SAME.up eF1 SAME.rf (by decide)) t5 (by decide)) (by decide)) (by decide)) (by decide)) t64 (by decide)) i289 (by decide)) t343 (by decide)), (SAME.at t343 (by decide) (SAME.at i289 (by decide) (SAME.at t64 (by decide) (get_ne eF13 (by decide) (get_ne eF12 (by decide) (get_ne eF11 (by decide) (SAME.at t5 (by decide) (get_eq eF1)))))))), (SAME.at t343 (by decide) (SAME.at i289 (by decide) (SAME.at t64 (by decide) (get_ne eF13 (by decide) (get_ne eF12 (by decide) (get_ne eF11 (by decide) t6)))))), (SAME.at t343 (by decide) n310), t344, t345, (SAME.at t343 (by decide) n312), t346, t347, t348, t349, t350, t351, t352, (SAME.at t343 (by decide) (SAME.at i289 (by decide) (SAME.at t64 (by decide) (get_ne eF13 (by decide) (get_ne eF12 (by decide) (get_ne eF11 (by decide) (SAME.at t5 (by decide) (get_ne eF1 (by decide) e_ids)))))))), t353, t354, (SAME.at t343 (by decide) i299), t355, (SAME.at t343 (by decide) (SAME.at i289 (by decide) (SAME.at t64 (by decide) (get_ne eF13 (by decide) (get_ne eF12 (by decide) (get_ne eF11 (by decide) (SAME.at t5 (by decide) (get_ne eF1 (by decide) e_undoMany)))))))), i_x_undoMany, s_s_153, s_s_0, s_s_5, s_s_6, s_s_7, s_s_44, s_s_K0, s_s_105, s_s_114, s_s_130, s_s_139, t356, t357, t358, t359, t360, (by omega), rfl⟩
    · have dc365 : r329.toInt ≠ 0 := ne_i (a := r329.toInt) (b := 0) rfl rfl c365
      have k369 : 1 ≤ r329.toInt ∧ r329.toInt ≤ 1 := ⟨ne_lo dc365 t361.1 ⟨Int.le_refl _, Int.le_refl _⟩ (by decide), t361.2⟩
      refine lv_aload_n hx hb dX10_course_49 rfl (lv_at hl 0 rfl) ?_
      refine lv_bipush (v := 59) hx hb dX10_course_50 (by decide) ?_
      have n370 : F330 1 = .ref h_tape := (SAME.at t343 (by decide) n308)
      have n371 : F330 3 = .int x_length := (SAME.at t343 (by decide) n310)
      have n372 : F330 5 = .int 900 := (SAME.at t343 (by decide) n312)
      refine call_Vi (wr := [(h_s, .inl (cI, 335, .inl f_s)), (h_h, .inl (cI, 104, .inl g341)), (h_names, .inl (cJ, 36, .inr (.inl g342))), (h_reserved, .inl (cJ, 23, .inr (.inl f_reserved)))]) (As := [.int 59]) (rest := []) hx hb hml hown hw (m_X10_sign l D cI cJ cB cP cM cZ h0 h_tape F330 x_length y331 900 y332 y333 y334 y335 y336 y337 y338 f_tape 59 _ n370 n371 i_x_length t344 t345 n372 (show 200 ≤ (900 : Int32).toInt ∧ (900 : Int32).toInt ≤ 940 by decide) t346 t347 t348 t349 t350 t351 t352 t353 (by omega)) wV_X10_257_X10_sign dX10_course_52 hK hP hD hS hA [1, 2] [0, 3, 4, 5] rfl rfl (by decide) (by decide) (by decide) 0 10 rfl rfl GG.fb hG.at hl.1 rfl (Nat.le_of_ble_eq_true rfl) ⟨(Nat.le_of_ble_eq_true rfl), (Nat.le_of_ble_eq_true rfl)⟩ ⟨(Nat.le_of_ble_eq_true rfl), (Nat.le_of_ble_eq_true rfl)⟩ (fun r373 u H locs hp hP hD hS => ?_)
      have zl59 : (59 : Int32).toInt = 59 := by decide
      obtain ⟨F374, y375, y376, y377, y378, y379, y380, y381, y382, t383, t384, t385, t386, t387, t388, t389, t390, t391, t392, t393, t394, t395, t396, rfl⟩ := hp
      have hP : va_P D vwCl [(h_s, .inl (cI, 335, .inl f_s)), (h_h, .inl (cI, 104, .inl g341)), (h_names, .inl (cJ, 36, .inr (.inl g342))), (h_reserved, .inl (cJ, 23, .inr (.inl f_reserved))), (h0, .inr (10, vL 67 F374)), (h_tape, .inl (cB, 940, .inl f_tape))] H := hP
      have hD : va_D A [(h_s, .inl (cI, 335, .inl f_s)), (h_h, .inl (cI, 104, .inl g341)), (h_names, .inl (cJ, 36, .inr (.inl g342))), (h_reserved, .inl (cJ, 23, .inr (.inl f_reserved))), (h0, .inr (10, vL 67 F374)), (h_tape, .inl (cB, 940, .inl f_tape))] := hD
      refine W.widen (k := 0) (n := 0) (Nat.le_of_ble_eq_true rfl) (Nat.le_of_ble_eq_true rfl) ?_
      refine lv_if_ne (tgt := 65) hx hb dX10_course_55 (by decide) (fun c398 => ?_) (fun c398 => ?_)
      · have dc398 : r373.toInt ≠ 0 := ne_i (a := r373.toInt) (b := 0) rfl rfl c398
        have k399 : 1 ≤ r373.toInt ∧ r373.toInt ≤ 1 := ⟨ne_lo dc398 t394.1 ⟨Int.le_refl _, Int.le_refl _⟩ (by decide), t394.2⟩
        refine lv_aload_n hx hb dX10_course_65 rfl (lv_at hl 0 rfl) ?_
        refine lv_dup hx hb dX10_course_66 rfl ?_
        have n400 : F330 20 = .int u91 := (SAME.at t343 (by decide) i299)
        have n401 : F374 20 = .int u91 := (SAME.at t383 (by decide) n400)
        refine get_f (D := D) (ci := 10) (v := .int u91) (C := RX10) (T := TX10) (N := 67) hx hb hw inAX10 hown hK hP 4 rfl rfl 20 (by decide) (hw _ q_1281) (fun _ h9 => h9) n401 dX10_course_67 ?_
        refine lv_iconst (v := 1) hx hb dX10_course_70 (by decide) ?_
        refine lv_iadd hx hb dX10_course_71 ?_
        refine lv_topi (fun v402 ev402 => ?_)
        refine put_f (D := D) (ci := 10) (v := .int v402) (ty := .int) (C := RX10) (T := TX10) (N := 67) hx hb hw inAX10 tyX10 tyX10_ok nmX10 hown hK hP hD hS 4 rfl rfl 20 (by decide) (hw _ q_1281) (fun _ h9 => h9) rfl (by decide +kernel) rfl rfl dX10_course_72 (fun H locs F403 eF403 hP hD hS => ?_)
        have hP : va_P D vwCl [(h_s, .inl (cI, 335, .inl f_s)), (h_h, .inl (cI, 104, .inl g341)), (h_names, .inl (cJ, 36, .inr (.inl g342))), (h_reserved, .inl (cJ, 23, .inr (.inl f_reserved))), (h0, .inr (10, vL 67 F403)), (h_tape, .inl (cB, 940, .inl f_tape))] H := hP
        have hD : va_D A [(h_s, .inl (cI, 335, .inl f_s)), (h_h, .inl (cI, 104, .inl g341)), (h_names, .inl (cJ, 36, .inr (.inl g342))), (h_reserved, .inl (cJ, 23, .inr (.inl f_reserved))), (h0, .inr (10, vL 67 F403)), (h_tape, .inl (cB, 940, .inl f_tape))] := hD
        refine lv_goto (tgt := 35) hx hb dX10_course_75 (by decide) ?_
        have n404 : F403 4 = .int y375 := (get_ne eF403 (by decide) t384)
        have n405 : F403 11 = .int y376 := (get_ne eF403 (by decide) t386)
        have n406 : F403 12 = .int y377 := (get_ne eF403 (by decide) t388)
        have n407 : F403 13 = .int y378 := (get_ne eF403 (by decide) t389)
        have n408 : F403 14 = .int y379 := (get_ne eF403 (by decide) t390)
        have n409 : F403 15 = .int y380 := (get_ne eF403 (by decide) t391)
        have n410 : F403 16 = .int y381 := (get_ne eF403 (by decide) t392)
        have n411 : F403 18 = .long y382 := (get_ne eF403 (by decide) t393)
        have n412 : F374 19 = .int y339 := (SAME.at t383 (by decide) t354)
        have n413 : F403 19 = .int y339 := (get_ne eF403 (by decide) n412)
        have n414 : F374 21 = .int y340 := (SAME.at t383 (by decide) t355)
        have n415 : F403 21 = .int y340 := (get_ne eF403 (by decide) n414)
        exact ih (g342, g341, F403, y375, y376, y377, y378, y379, y380, y381, y382, y339, v402, y340) ⟨t356, t360, t357, t358, t359, (SAME.up eF403 (SAME.tr (SAME.tr (SAME.tr SAME.rf i289 (by decide)) t343 (by decide)) t383 (by decide)) (by decide)), n404, n405, n406, n407, n408, n409, n410, n411, n413, (get_eq eF403), n415, t385, t387, (by show (y376.toInt = 2 → 0 ≤ y379.toInt ∧ y379.toInt ≤ 999); omega)⟩ (by show (x_length.toInt - y375.toInt).toNat < (x_length.toInt - u82.toInt).toNat; omega) _ _ _ (hP.sub [0, 2, 3, 1, 4, 5] rfl) (hD.sub [0, 2, 3, 1, 4, 5] (by decide) rfl) hS (lv_sub hl [0] rfl)
      · have dc398 : r373.toInt = 0 := eq_i (a := r373.toInt) (b := 0) rfl rfl c398
        have k416 : 0 ≤ r373.toInt ∧ r373.toInt ≤ 0 := ⟨t394.1, Int.le_trans (Int.le_of_eq dc398) (Int.le_refl _)⟩
        refine lv_iconst (v := (-1)) hx hb dX10_course_58 (by decide) ?_
        refine lv_aload_n hx hb dX10_course_59 rfl (lv_at hl 0 rfl) ?_
        refine get_f (D := D) (ci := 10) (v := .int y381) (C := RX10) (T := TX10) (N := 67) hx hb hw inAX10 hown hK hP 4 rfl rfl 16 (by decide) (hw _ q_1277) (fun _ h9 => h9) t392 dX10_course_60 ?_
        refine lv_isub hx hb dX10_course_63 ?_
        refine lv_topi (fun v417 ev417 => ?_)
        have bv417 : v417.toInt = (-1) - y381.toInt := by rw [ev417]; exact sub_k rfl rfl ⟨Int.le_refl _, Int.le_refl _⟩ (ir_any _) (by decide)
        have k418 : (-2147483648) ≤ v417.toInt ∧ v417.toInt ≤ 2147483647 := sub_r bv417 ⟨Int.le_refl _, Int.le_refl _⟩ (ir_any _) (by decide)
        exact ret_i (v := v417) hx hb hr hlocks hS (hP.sub (ws' := [(h0, .inr (10, vL 67 F374)), (h_tape, .inl (cB, 940, .inl f_tape)), (h_s, .inl (cI, 335, .inl f_s)), (h_h, .inl (cI, 104, .inl g341)), (h_names, .inl (cJ, 36, .inr (.inl g342))), (h_reserved, .inl (cJ, 23, .inr (.inl f_reserved)))]) [4, 5, 0, 1, 2, 3] rfl) (hD.sub (ws' := [(h0, .inr (10, vL 67 F374)), (h_tape, .inl (cB, 940, .inl f_tape)), (h_s, .inl (cI, 335, .inl f_s)), (h_h, .inl (cI, 104, .inl g341)), (h_names, .inl (cJ, 36, .inr (.inl g342))), (h_reserved, .inl (cJ, 23, .inr (.inl f_reserved)))]) [4, 5, 0, 1, 2, 3] (by decide) rfl) dX10_course_64 rfl (Nat.le_of_ble_eq_true rfl) (Nat.le_of_ble_eq_true rfl) ⟨F374, y375, y376, y377, y378, y379, y380, y381, x_ids, y382, y339, u91, y340, x_undoMany, f_s, g341, g342, (SAME.tr (SAME.tr (SAME.tr (SAME.tr (SAME.up eF13 (SAME.up eF12 (SAME.up eF11 (SAME.tr (SAME.up eF1 SAME.rf (by decide)) t5 (by decide)) (by decide)) (by decide)) (by decide)) t64 (by decide)) i289 (by decide)) t343 (by decide)) t383 (by decide)), (SAME.at t383 (by decide) (SAME.at t343 (by decide) (SAME.at i289 (by decide) (SAME.at t64 (by decide) (get_ne eF13 (by decide) (get_ne eF12 (by decide) (get_ne eF11 (by decide) (SAME.at t5 (by decide) (get_eq eF1))))))))), (SAME.at t383 (by decide) (SAME.at t343 (by decide) (SAME.at i289 (by decide) (SAME.at t64 (by decide) (get_ne eF13 (by decide) (get_ne eF12 (by decide) (get_ne eF11 (by decide) t6))))))), (SAME.at t383 (by decide) n371), t384, t385, (SAME.at t383 (by decide) n372), t386, t387, t388, t389, t390, t391, t392, (SAME.at t383 (by decide) (SAME.at t343 (by decide) (SAME.at i289 (by decide) (SAME.at t64 (by decide) (get_ne eF13 (by decide) (get_ne eF12 (by decide) (get_ne eF11 (by decide) (SAME.at t5 (by decide) (get_ne eF1 (by decide) e_ids))))))))), t393, (SAME.at t383 (by decide) t354), (SAME.at t383 (by decide) (SAME.at t343 (by decide) i299)), (SAME.at t383 (by decide) t355), (SAME.at t383 (by decide) (SAME.at t343 (by decide) (SAME.at i289 (by decide) (SAME.at t64 (by decide) (get_ne eF13 (by decide) (get_ne eF12 (by decide) (get_ne eF11 (by decide) (SAME.at t5 (by decide) (get_ne eF1 (by decide) e_undoMany))))))))), i_x_undoMany, s_s_153, s_s_0, s_s_5, s_s_6, s_s_7, s_s_44, s_s_K0, s_s_105, s_s_114, s_s_130, s_s_139, t356, t357, t358, t359, t360, (by omega), rfl⟩
set_option maxHeartbeats 4000000 in
set_option maxRecDepth 100000 in
theorem m_X10_fault (l : Launch) (D : va_G) (cI cJ cB cP cM cZ : ClassId) (h0 : Nat) (Fh : Nat → Value) (x_fault : Int32) (sz : Nat) (e_fault : Fh 15 = .int x_fault) : CI l yX10_fault cX10_fault 1 (some .int) { frames := 0, cells := 0, slots := 0, locals := 0 } (GG D cI cJ cB cP cM cZ) D [(h0, .inr (10, vL 67 Fh))] sz [.ref h0] (fun (r : Int32) (u : va_W) => ∃ (Gh : Nat → Value), SAME [0] Fh Gh ∧ Gh 0 = .int 0 ∧ r = x_fault ∧ u = [(h0, .inr (10, vL 67 Gh))]) := by
  refine CI_mk (by decide) (Nat.le_of_ble_eq_true rfl) ?_
  intro p e s m below meth c A ls E hAe hG hsz hP hD hA hS hl
  obtain ⟨hx, hb, hr, hw, hown, hlocks, hml, hnm⟩ := E
  have hK := hG.1
  have hl : lv_has ls 1 [(0, .ref h0)] := hl
  refine lv_aload_n hx hb dX10_fault_0 rfl (lv_at hl 0 rfl) ?_
  refine lv_iconst (v := 0) hx hb dX10_fault_1 (by decide) ?_
  refine put_f (D := D) (ci := 10) (v := .int 0) (ty := .int) (C := RX10) (T := TX10) (N := 67) hx hb hw inAX10 tyX10 tyX10_ok nmX10 hown hK hP hD hS 0 rfl rfl 0 (by decide) (hw _ q_1261) (fun _ h9 => h9) rfl (by decide +kernel) rfl rfl dX10_fault_2 (fun H locs F1 eF1 hP hD hS => ?_)
  have hP : va_P D vwCl [(h0, .inr (10, vL 67 F1))] H := hP
  have hD : va_D A [(h0, .inr (10, vL 67 F1))] := hD
  refine lv_aload_n hx hb dX10_fault_5 rfl (lv_at hl 0 rfl) ?_
  have n2 : F1 15 = .int x_fault := (get_ne eF1 (by decide) e_fault)
  refine get_f (D := D) (ci := 10) (v := .int x_fault) (C := RX10) (T := TX10) (N := 67) hx hb hw inAX10 hown hK hP 0 rfl rfl 15 (by decide) (hw _ q_1276) (fun _ h9 => h9) n2 dX10_fault_6 ?_
  exact ret_i (v := x_fault) hx hb hr hlocks hS hP hD dX10_fault_9 rfl (Nat.le_of_ble_eq_true rfl) (Nat.le_of_ble_eq_true rfl) ⟨F1, (SAME.up eF1 SAME.rf (by decide)), (get_eq eF1), rfl, rfl⟩
set_option maxHeartbeats 4000000 in
set_option maxRecDepth 100000 in
theorem m_X10_looksAtMan (l : Launch) (D : va_G) (cI cJ cB cP cM cZ : ClassId) (h0 : Nat) (h_s : Nat) (h_names : Nat) (h_reserved : Nat) (Fh : Nat → Value) (x_token : Int32) (x_at : Int32) (x_number : Int32) (x_fault : Int32) (x_faultAt : Int32) (x_word : Int64) (x_got : Int32) (f_s : Nat → Int32) (f_names : Nat → Int64) (f_reserved : Nat → Int64) (sz : Nat) (e_s : Fh 6 = .ref h_s) (e_names : Fh 9 = .ref h_names) (e_reserved : Fh 10 = .ref h_reserved) (e_token : Fh 11 = .int x_token) (i_x_token : IR 0 4 x_token) (e_at : Fh 12 = .int x_at) (e_number : Fh 14 = .int x_number) (e_fault : Fh 15 = .int x_fault) (e_faultAt : Fh 16 = .int x_faultAt) (e_word : Fh 18 = .long x_word) (e_got : Fh 19 = .int x_got) (s_s_K0 : KW 0 f_s) (s_s_0 : SG 0 0 0 40 f_s) (s_s_105 : SG 105 108 0 11 f_s) (s_s_114 : SG 114 114 0 5 f_s) (s_s_130 : SG 130 133 0 11 f_s) (s_s_139 : SG 139 139 0 5 f_s) (s_s_153 : SG 153 153 0 44 f_s) (s_s_44 : SG 44 55 0 9 f_s) (s_s_5 : SG 5 5 0 12 f_s) (s_s_6 : SG 6 6 0 12 f_s) (s_s_7 : SG 7 7 0 6 f_s) (o_0 : (x_token.toInt = 2 → 0 ≤ x_number.toInt ∧ x_number.toInt ≤ 999)) : CI l yX10_looksAtMan cX10_looksAtMan 1 (some .boolean) { frames := 1, cells := 0, slots := 0, locals := 23 } (GG D cI cJ cB cP cM cZ) D [(h0, .inr (10, vL 67 Fh)), (h_s, .inl (cI, 335, .inl f_s)), (h_names, .inl (cJ, 36, .inr (.inl f_names))), (h_reserved, .inl (cJ, 23, .inr (.inl f_reserved)))] sz [.ref h0] (fun (r : Int32) (u : va_W) => ∃ (Gh : Nat → Value) (y_fault : Int32) (y_faultAt : Int32) (y_got : Int32), SAME [15, 16, 19] Fh Gh ∧ Gh 15 = .int y_fault ∧ Gh 16 = .int y_faultAt ∧ Gh 19 = .int y_got ∧ IR 0 1 r ∧ u = [(h0, .inr (10, vL 67 Gh)), (h_s, .inl (cI, 335, .inl f_s)), (h_names, .inl (cJ, 36, .inr (.inl f_names))), (h_reserved, .inl (cJ, 23, .inr (.inl f_reserved)))]) := by
  refine CI_mk (by decide) (Nat.le_of_ble_eq_true rfl) ?_
  intro p e s m below meth c A ls E hAe hG hsz hP hD hA hS hl
  obtain ⟨hx, hb, hr, hw, hown, hlocks, hml, hnm⟩ := E
  have hK := hG.1
  have i_x_token : 0 ≤ x_token.toInt ∧ x_token.toInt ≤ 4 := i_x_token
  have hl : lv_has ls 1 [(0, .ref h0)] := hl
  refine lv_aload_n hx hb dX10_looksAtMan_0 rfl (lv_at hl 0 rfl) ?_
  refine call_Vi (wr := [(h_s, .inl (cI, 335, .inl f_s)), (h_names, .inl (cJ, 36, .inr (.inl f_names)))]) (As := []) (rest := []) hx hb hml hown hw (m_X10_isName l D cI cJ cB cP cM cZ h0 h_reserved Fh x_token x_number x_word f_reserved _ e_reserved e_token i_x_token e_number e_word (by omega)) wV_X10_218_X10_isName dX10_looksAtMan_1 hK hP hD hS hA [0, 3] [1, 2] rfl rfl (by decide) (by decide) (by decide) 0 10 rfl rfl GG.fb hG.at hl.1 rfl (Nat.le_of_ble_eq_true rfl) ⟨(Nat.le_of_ble_eq_true rfl), (Nat.le_of_ble_eq_true rfl)⟩ ⟨(Nat.le_of_ble_eq_true rfl), (Nat.le_of_ble_eq_true rfl)⟩ (fun r1 u H locs hp hP hD hS => ?_)
  obtain ⟨t2, rfl⟩ := hp
  have hP : va_P D vwCl [(h_s, .inl (cI, 335, .inl f_s)), (h_names, .inl (cJ, 36, .inr (.inl f_names))), (h0, .inr (10, vL 67 Fh)), (h_reserved, .inl (cJ, 23, .inr (.inl f_reserved)))] H := hP
  have hD : va_D A [(h_s, .inl (cI, 335, .inl f_s)), (h_names, .inl (cJ, 36, .inr (.inl f_names))), (h0, .inr (10, vL 67 Fh)), (h_reserved, .inl (cJ, 23, .inr (.inl f_reserved)))] := hD
  refine W.widen (k := 0) (n := 0) (Nat.le_of_ble_eq_true rfl) (Nat.le_of_ble_eq_true rfl) ?_
  refine lv_if_ne (tgt := 13) hx hb dX10_looksAtMan_4 (by decide) (fun c4 => ?_) (fun c4 => ?_)
  · have dc4 : r1.toInt ≠ 0 := ne_i (a := r1.toInt) (b := 0) rfl rfl c4
    have k5 : 1 ≤ r1.toInt ∧ r1.toInt ≤ 1 := ⟨ne_lo dc4 t2.1 ⟨Int.le_refl _, Int.le_refl _⟩ (by decide), t2.2⟩
    refine lv_aload_n hx hb dX10_looksAtMan_13 rfl (lv_at hl 0 rfl) ?_
    refine lv_aload_n hx hb dX10_looksAtMan_14 rfl (lv_at hl 0 rfl) ?_
    refine lv_iconst (v := 0) hx hb dX10_looksAtMan_15 (by decide) ?_
    refine lv_aload_n hx hb dX10_looksAtMan_16 rfl (lv_at hl 0 rfl) ?_
    refine get_f (D := D) (ci := 10) (v := .ref h_s) (C := RX10) (T := TX10) (N := 67) hx hb hw inAX10 hown hK hP 2 rfl rfl 6 (by decide) (hw _ q_1267) (fun _ h9 => h9) e_s dX10_looksAtMan_17 ?_
    refine lv_iconst (v := 5) hx hb dX10_looksAtMan_20 (by decide) ?_
    refine iald_n hx hb hK hP 0 0 rfl rfl 5 rfl (Nat.le_of_ble_eq_true rfl) (Nat.le_of_ble_eq_true rfl) rfl dX10_looksAtMan_21 ?_
    refine lv_topi (fun v6 ev6 => ?_)
    have k7 : 0 ≤ v6.toInt ∧ v6.toInt ≤ 12 := by rw [ev6]; exact s_s_5.atN 5 (by decide) (by decide)
    refine call_Vi (wr := [(h_s, .inl (cI, 335, .inl f_s)), (h_reserved, .inl (cJ, 23, .inr (.inl f_reserved)))]) (As := [.int 0, .int v6]) (rest := [.ref h0]) hx hb hml hown hw (m_X10_find l D cI cJ cB cP cM cZ h0 h_names Fh x_word f_names 0 v6 _ e_names e_word (show 0 ≤ (0 : Int32).toInt ∧ (0 : Int32).toInt ≤ 30 by decide) k7 (by have z0 : (0 : Int32).toInt = 0 := rfl; omega)) wV_X10_222_X10_find dX10_looksAtMan_22 hK hP hD hS hA [2, 1] [0, 3] rfl rfl (by decide) (by decide) (by decide) 0 10 rfl rfl GG.fb hG.at hl.1 rfl (Nat.le_of_ble_eq_true rfl) ⟨(Nat.le_of_ble_eq_true rfl), (Nat.le_of_ble_eq_true rfl)⟩ ⟨(Nat.le_of_ble_eq_true rfl), (Nat.le_of_ble_eq_true rfl)⟩ (fun r8 u H locs hp hP hD hS => ?_)
    have zl0 : (0 : Int32).toInt = 0 := by decide
    rcases hp with ⟨t9, rfl, rfl⟩ | ⟨t10, t11, rfl⟩
    · have hP : va_P D vwCl [(h_s, .inl (cI, 335, .inl f_s)), (h_reserved, .inl (cJ, 23, .inr (.inl f_reserved))), (h0, .inr (10, vL 67 Fh)), (h_names, .inl (cJ, 36, .inr (.inl f_names)))] H := hP
      have hD : va_D A [(h_s, .inl (cI, 335, .inl f_s)), (h_reserved, .inl (cJ, 23, .inr (.inl f_reserved))), (h0, .inr (10, vL 67 Fh)), (h_names, .inl (cJ, 36, .inr (.inl f_names)))] := hD
      refine W.widen (k := 0) (n := 0) (Nat.le_of_ble_eq_true rfl) (Nat.le_of_ble_eq_true rfl) ?_
      refine put_f (D := D) (ci := 10) (v := .int (-1)) (ty := .int) (C := RX10) (T := TX10) (N := 67) hx hb hw inAX10 tyX10 tyX10_ok nmX10 hown hK hP hD hS 2 rfl rfl 19 (by decide) (hw _ q_1280) (fun _ h9 => h9) rfl (by decide +kernel) rfl rfl dX10_looksAtMan_25 (fun H locs F13 eF13 hP hD hS => ?_)
      have hP : va_P D vwCl [(h_s, .inl (cI, 335, .inl f_s)), (h_reserved, .inl (cJ, 23, .inr (.inl f_reserved))), (h0, .inr (10, vL 67 F13)), (h_names, .inl (cJ, 36, .inr (.inl f_names)))] H := hP
      have hD : va_D A [(h_s, .inl (cI, 335, .inl f_s)), (h_reserved, .inl (cJ, 23, .inr (.inl f_reserved))), (h0, .inr (10, vL 67 F13)), (h_names, .inl (cJ, 36, .inr (.inl f_names)))] := hD
      refine lv_aload_n hx hb dX10_looksAtMan_28 rfl (lv_at hl 0 rfl) ?_
      refine get_f (D := D) (ci := 10) (v := .int (-1)) (C := RX10) (T := TX10) (N := 67) hx hb hw inAX10 hown hK hP 2 rfl rfl 19 (by decide) (hw _ q_1280) (fun _ h9 => h9) (get_eq eF13) dX10_looksAtMan_29 ?_
      refine lv_if_ge (tgt := 43) hx hb dX10_looksAtMan_32 (by decide) (fun g => absurd g (by decide)) (fun _ => ?_)
      refine lv_aload_n hx hb dX10_looksAtMan_35 rfl (lv_at hl 0 rfl) ?_
      refine lv_iconst (v := 3) hx hb dX10_looksAtMan_36 (by decide) ?_
      have n14 : F13 12 = .int x_at := (get_ne eF13 (by decide) e_at)
      refine call_Vi (wr := [(h_s, .inl (cI, 335, .inl f_s)), (h_reserved, .inl (cJ, 23, .inr (.inl f_reserved))), (h_names, .inl (cJ, 36, .inr (.inl f_names)))]) (As := [.int 3]) (rest := []) hx hb hml hown hw (m_X10_bad l D cI cJ cB cP cM cZ h0 F13 x_at 3 _ n14) wV_X10_205_X10_bad dX10_looksAtMan_37 hK hP hD hS hA [2] [0, 1, 3] rfl rfl (by decide) (by decide) (by decide) 0 10 rfl rfl GG.fb hG.at hl.1 rfl (Nat.le_of_ble_eq_true rfl) ⟨(Nat.le_of_ble_eq_true rfl), (Nat.le_of_ble_eq_true rfl)⟩ ⟨(Nat.le_of_ble_eq_true rfl), (Nat.le_of_ble_eq_true rfl)⟩ (fun r15 u H locs hp hP hD hS => ?_)
      have zl3 : (3 : Int32).toInt = 3 := by decide
      obtain ⟨F16, t17, t18, t19, rfl, rfl⟩ := hp
      have hP : va_P D vwCl [(h_s, .inl (cI, 335, .inl f_s)), (h_reserved, .inl (cJ, 23, .inr (.inl f_reserved))), (h_names, .inl (cJ, 36, .inr (.inl f_names))), (h0, .inr (10, vL 67 F16))] H := hP
      have hD : va_D A [(h_s, .inl (cI, 335, .inl f_s)), (h_reserved, .inl (cJ, 23, .inr (.inl f_reserved))), (h_names, .inl (cJ, 36, .inr (.inl f_names))), (h0, .inr (10, vL 67 F16))] := hD
      refine W.widen (k := 0) (n := 0) (Nat.le_of_ble_eq_true rfl) (Nat.le_of_ble_eq_true rfl) ?_
      refine lv_if_eq (tgt := 47) hx hb dX10_looksAtMan_40 (by decide) (fun _ => ?_) (fun g => absurd (by decide) g)
      refine lv_iconst (v := 0) hx hb dX10_looksAtMan_47 (by decide) ?_
      exact ret_i (v := 0) hx hb hr hlocks hS (hP.sub (ws' := [(h0, .inr (10, vL 67 F16)), (h_s, .inl (cI, 335, .inl f_s)), (h_names, .inl (cJ, 36, .inr (.inl f_names))), (h_reserved, .inl (cJ, 23, .inr (.inl f_reserved)))]) [3, 0, 2, 1] rfl) (hD.sub (ws' := [(h0, .inr (10, vL 67 F16)), (h_s, .inl (cI, 335, .inl f_s)), (h_names, .inl (cJ, 36, .inr (.inl f_names))), (h_reserved, .inl (cJ, 23, .inr (.inl f_reserved)))]) [3, 0, 2, 1] (by decide) rfl) dX10_looksAtMan_48 rfl (Nat.le_of_ble_eq_true rfl) (Nat.le_of_ble_eq_true rfl) ⟨F16, 3, x_at, (-1), (SAME.tr (SAME.up eF13 SAME.rf (by decide)) t17 (by decide)), t18, t19, (SAME.at t17 (by decide) (get_eq eF13)), (show 0 ≤ (0 : Int32).toInt ∧ (0 : Int32).toInt ≤ 1 by decide), rfl⟩
    · have hP : va_P D vwCl [(h_s, .inl (cI, 335, .inl f_s)), (h_reserved, .inl (cJ, 23, .inr (.inl f_reserved))), (h0, .inr (10, vL 67 Fh)), (h_names, .inl (cJ, 36, .inr (.inl f_names)))] H := hP
      have hD : va_D A [(h_s, .inl (cI, 335, .inl f_s)), (h_reserved, .inl (cJ, 23, .inr (.inl f_reserved))), (h0, .inr (10, vL 67 Fh)), (h_names, .inl (cJ, 36, .inr (.inl f_names)))] := hD
      refine W.widen (k := 0) (n := 0) (Nat.le_of_ble_eq_true rfl) (Nat.le_of_ble_eq_true rfl) ?_
      have k21 : 1 ≤ v6.toInt ∧ v6.toInt ≤ 12 := ⟨lo_lt t11 (Int.le_refl _) (by decide), k7.2⟩
      refine put_f (D := D) (ci := 10) (v := .int r8) (ty := .int) (C := RX10) (T := TX10) (N := 67) hx hb hw inAX10 tyX10 tyX10_ok nmX10 hown hK hP hD hS 2 rfl rfl 19 (by decide) (hw _ q_1280) (fun _ h9 => h9) rfl (by decide +kernel) rfl rfl dX10_looksAtMan_25 (fun H locs F22 eF22 hP hD hS => ?_)
      have hP : va_P D vwCl [(h_s, .inl (cI, 335, .inl f_s)), (h_reserved, .inl (cJ, 23, .inr (.inl f_reserved))), (h0, .inr (10, vL 67 F22)), (h_names, .inl (cJ, 36, .inr (.inl f_names)))] H := hP
      have hD : va_D A [(h_s, .inl (cI, 335, .inl f_s)), (h_reserved, .inl (cJ, 23, .inr (.inl f_reserved))), (h0, .inr (10, vL 67 F22)), (h_names, .inl (cJ, 36, .inr (.inl f_names)))] := hD
      refine lv_aload_n hx hb dX10_looksAtMan_28 rfl (lv_at hl 0 rfl) ?_
      refine get_f (D := D) (ci := 10) (v := .int r8) (C := RX10) (T := TX10) (N := 67) hx hb hw inAX10 hown hK hP 2 rfl rfl 19 (by decide) (hw _ q_1280) (fun _ h9 => h9) (get_eq eF22) dX10_looksAtMan_29 ?_
      refine lv_if_ge (tgt := 43) hx hb dX10_looksAtMan_32 (by decide) (fun c23 => ?_) (fun c23 => False.elim (bad_lt (nle_i (a := 0) (b := r8.toInt) rfl rfl c23) t10.1 (Int.le_refl _) (by decide)))
      have dc23 : 0 ≤ r8.toInt := le_i (a := 0) (b := r8.toInt) rfl rfl c23
      refine lv_iconst (v := 1) hx hb dX10_looksAtMan_43 (by decide) ?_
      refine lv_goto (tgt := 48) hx hb dX10_looksAtMan_44 (by decide) ?_
      exact ret_i (v := 1) hx hb hr hlocks hS (hP.sub (ws' := [(h0, .inr (10, vL 67 F22)), (h_s, .inl (cI, 335, .inl f_s)), (h_names, .inl (cJ, 36, .inr (.inl f_names))), (h_reserved, .inl (cJ, 23, .inr (.inl f_reserved)))]) [2, 0, 3, 1] rfl) (hD.sub (ws' := [(h0, .inr (10, vL 67 F22)), (h_s, .inl (cI, 335, .inl f_s)), (h_names, .inl (cJ, 36, .inr (.inl f_names))), (h_reserved, .inl (cJ, 23, .inr (.inl f_reserved)))]) [2, 0, 3, 1] (by decide) rfl) dX10_looksAtMan_48 rfl (Nat.le_of_ble_eq_true rfl) (Nat.le_of_ble_eq_true rfl) ⟨F22, x_fault, x_faultAt, r8, (SAME.up eF22 SAME.rf (by decide)), (get_ne eF22 (by decide) e_fault), (get_ne eF22 (by decide) e_faultAt), (get_eq eF22), (show 0 ≤ (1 : Int32).toInt ∧ (1 : Int32).toInt ≤ 1 by decide), rfl⟩
  · have dc4 : r1.toInt = 0 := eq_i (a := r1.toInt) (b := 0) rfl rfl c4
    have k24 : 0 ≤ r1.toInt ∧ r1.toInt ≤ 0 := ⟨t2.1, Int.le_trans (Int.le_of_eq dc4) (Int.le_refl _)⟩
    refine lv_aload_n hx hb dX10_looksAtMan_7 rfl (lv_at hl 0 rfl) ?_
    refine lv_iconst (v := 1) hx hb dX10_looksAtMan_8 (by decide) ?_
    refine call_Vi (wr := [(h_s, .inl (cI, 335, .inl f_s)), (h_names, .inl (cJ, 36, .inr (.inl f_names))), (h_reserved, .inl (cJ, 23, .inr (.inl f_reserved)))]) (As := [.int 1]) (rest := []) hx hb hml hown hw (m_X10_bad l D cI cJ cB cP cM cZ h0 Fh x_at 1 _ e_at) wV_X10_205_X10_bad dX10_looksAtMan_9 hK hP hD hS hA [2] [0, 1, 3] rfl rfl (by decide) (by decide) (by decide) 0 10 rfl rfl GG.fb hG.at hl.1 rfl (Nat.le_of_ble_eq_true rfl) ⟨(Nat.le_of_ble_eq_true rfl), (Nat.le_of_ble_eq_true rfl)⟩ ⟨(Nat.le_of_ble_eq_true rfl), (Nat.le_of_ble_eq_true rfl)⟩ (fun r25 u H locs hp hP hD hS => ?_)
    have zl1 : (1 : Int32).toInt = 1 := by decide
    obtain ⟨F26, t27, t28, t29, rfl, rfl⟩ := hp
    have hP : va_P D vwCl [(h_s, .inl (cI, 335, .inl f_s)), (h_names, .inl (cJ, 36, .inr (.inl f_names))), (h_reserved, .inl (cJ, 23, .inr (.inl f_reserved))), (h0, .inr (10, vL 67 F26))] H := hP
    have hD : va_D A [(h_s, .inl (cI, 335, .inl f_s)), (h_names, .inl (cJ, 36, .inr (.inl f_names))), (h_reserved, .inl (cJ, 23, .inr (.inl f_reserved))), (h0, .inr (10, vL 67 F26))] := hD
    refine W.widen (k := 0) (n := 0) (Nat.le_of_ble_eq_true rfl) (Nat.le_of_ble_eq_true rfl) ?_
    exact ret_i (v := 0) hx hb hr hlocks hS (hP.sub (ws' := [(h0, .inr (10, vL 67 F26)), (h_s, .inl (cI, 335, .inl f_s)), (h_names, .inl (cJ, 36, .inr (.inl f_names))), (h_reserved, .inl (cJ, 23, .inr (.inl f_reserved)))]) [3, 0, 1, 2] rfl) (hD.sub (ws' := [(h0, .inr (10, vL 67 F26)), (h_s, .inl (cI, 335, .inl f_s)), (h_names, .inl (cJ, 36, .inr (.inl f_names))), (h_reserved, .inl (cJ, 23, .inr (.inl f_reserved)))]) [3, 0, 1, 2] (by decide) rfl) dX10_looksAtMan_12 rfl (Nat.le_of_ble_eq_true rfl) (Nat.le_of_ble_eq_true rfl) ⟨F26, 1, x_at, x_got, (SAME.tr SAME.rf t27 (by decide)), t28, t29, (SAME.at t27 (by decide) e_got), (show 0 ≤ (0 : Int32).toInt ∧ (0 : Int32).toInt ≤ 1 by decide), rfl⟩
set_option maxHeartbeats 4000000 in
set_option maxRecDepth 100000 in
theorem m_X10_placeIn (l : Launch) (D : va_G) (cI cJ cB cP cM cZ : ClassId) (h0 : Nat) (h_planRead : Nat) (Fh : Nat → Value) (f_planRead : Nat → Int32) (p0 : Int32) (p1 : Int32) (sz : Nat) (e_planRead : Fh 22 = .ref h_planRead) (s_planRead_1 : SG 1 4 0 11 f_planRead) (s_planRead_10 : SG 10 10 0 5 f_planRead) (i_p1 : IR 0 4 p1) : CI l yX10_placeIn cX10_placeIn 4 (some .int) { frames := 0, cells := 0, slots := 0, locals := 0 } (GG D cI cJ cB cP cM cZ) D [(h0, .inr (10, vL 67 Fh)), (h_planRead, .inl (cI, 24, .inl f_planRead))] sz [.ref h0, .int p0, .int p1] (fun (r : Int32) (u : va_W) => IR (-1) 3 r ∧ u = [(h0, .inr (10, vL 67 Fh)), (h_planRead, .inl (cI, 24, .inl f_planRead))]) := by
  refine CI_mk (by decide) (Nat.le_of_ble_eq_true rfl) ?_
  intro p e s m below meth c A ls E hAe hG hsz hP hD hA hS hl
  obtain ⟨hx, hb, hr, hw, hown, hlocks, hml, hnm⟩ := E
  have hK := hG.1
  have i_p1 : 0 ≤ p1.toInt ∧ p1.toInt ≤ 4 := i_p1
  have hl : lv_has ls 4 [(0, .ref h0), (1, .int p0), (2, .int p1)] := hl
  refine lv_iconst (v := 0) hx hb dX10_placeIn_0 (by decide) ?_
  refine lv_istore_n (lv' := [(3, .int 0), (0, .ref h0), (1, .int p0), (2, .int p1)]) hx hb dX10_placeIn_1 rfl hl (by decide) rfl (fun ls hl => ?_)
  refine mloop (α := (Int32)) (nL := 4) (D := D) (A := A) (H0 := s.heap) (fun a => (4 - a.toInt).toNat) (fun a => IR 0 4 a) (fun a => [(h0, .inr (10, vL 67 Fh)), (h_planRead, .inl (cI, 24, .inl f_planRead))]) (fun a => [(3, .int a), (0, .ref h0), (1, .int p0), (2, .int p1)]) (fun H locs ls => W p l e ({ frames := 0, cells := 0, slots := 0, locals := 0 } : Room) s m [.ref h0, .int p0, .int p1].toArray below meth c H locs 0 0 (MQ below (va_Qi (fun (r : Int32) (u : va_W) => IR (-1) 3 r ∧ u = [(h0, .inr (10, vL 67 Fh)), (h_planRead, .inl (cI, 24, .inl f_planRead))]) (PO D A) A) [.ref h0, .int p0, .int p1].toArray s 0 0 A) (F0 m 2 ls [])) ?_ (0) (show 0 ≤ (0 : Int32).toInt ∧ (0 : Int32).toInt ≤ 4 by decide) _ _ _ hP hD hS hl
  rintro u1 i2 ih H locs ls hP hD hS hl
  have i2 : 0 ≤ u1.toInt ∧ u1.toInt ≤ 4 := i2
  have hP : va_P D vwCl [(h0, .inr (10, vL 67 Fh)), (h_planRead, .inl (cI, 24, .inl f_planRead))] H := hP
  have hD : va_D A [(h0, .inr (10, vL 67 Fh)), (h_planRead, .inl (cI, 24, .inl f_planRead))] := hD
  have hl : lv_has ls 4 [(3, .int u1), (0, .ref h0), (1, .int p0), (2, .int p1)] := hl
  refine lv_iload_n hx hb dX10_placeIn_2 rfl (lv_at hl 0 rfl) ?_
  refine lv_iload_n hx hb dX10_placeIn_3 rfl (lv_at hl 3 rfl) ?_
  refine lv_icmp_ge (tgt := 27) hx hb dX10_placeIn_4 (by decide) (fun c3 => ?_) (fun c3 => ?_)
  · have dc3 : p1.toInt ≤ u1.toInt := le_i (a := p1.toInt) (b := u1.toInt) rfl rfl c3
    refine lv_iconst (v := (-1)) hx hb dX10_placeIn_27 (by decide) ?_
    exact ret_i (v := (-1)) hx hb hr hlocks hS hP hD dX10_placeIn_28 rfl (Nat.le_of_ble_eq_true rfl) (Nat.le_of_ble_eq_true rfl) ⟨(show (-1) ≤ ((-1) : Int32).toInt ∧ ((-1) : Int32).toInt ≤ 3 by decide), rfl⟩
  · have dc3 : u1.toInt < p1.toInt := nle_i (a := p1.toInt) (b := u1.toInt) rfl rfl c3
    have k4 : 0 ≤ u1.toInt ∧ u1.toInt ≤ 3 := ⟨i2.1, up_lt dc3 i_p1.2 (by decide)⟩
    have k5 : 1 ≤ p1.toInt ∧ p1.toInt ≤ 4 := ⟨lo_lt dc3 i2.1 (by decide), i_p1.2⟩
    refine lv_aload_n hx hb dX10_placeIn_7 rfl (lv_at hl 1 rfl) ?_
    refine get_f (D := D) (ci := 10) (v := .ref h_planRead) (C := RX10) (T := TX10) (N := 67) hx hb hw inAX10 hown hK hP 0 rfl rfl 22 (by decide) (hw _ q_1283) (fun _ h9 => h9) e_planRead dX10_placeIn_8 ?_
    refine lv_iconst (v := 1) hx hb dX10_placeIn_11 (by decide) ?_
    refine lv_iload_n hx hb dX10_placeIn_12 rfl (lv_at hl 0 rfl) ?_
    refine lv_iadd hx hb dX10_placeIn_13 ?_
    refine lv_topi (fun v6 ev6 => ?_)
    have bv6 : v6.toInt = 1 + u1.toInt := by rw [ev6]; exact add_k rfl rfl ⟨Int.le_refl _, Int.le_refl _⟩ k4 (by decide)
    have k7 : 1 ≤ v6.toInt ∧ v6.toInt ≤ 4 := add_r bv6 ⟨Int.le_refl _, Int.le_refl _⟩ k4 (by decide)
    refine va_iald hx hb hK hP 1 0 rfl rfl (ix_k k7 (by decide) (by decide)) dX10_placeIn_14 ?_
    refine lv_topi (fun v8 ev8 => ?_)
    have k9 : 0 ≤ v8.toInt ∧ v8.toInt ≤ 11 := by rw [ev8]; exact s_planRead_1.at _ (Int.le_trans (by decide) k7.1) (Int.le_trans k7.2 (by decide))
    refine lv_iload_n hx hb dX10_placeIn_15 rfl (lv_at hl 2 rfl) ?_
    refine lv_icmp_ne (tgt := 21) hx hb dX10_placeIn_16 (by decide) (fun c10 => ?_) (fun c10 => ?_)
    · have dc10 : v8.toInt ≠ p0.toInt := ne_i (a := v8.toInt) (b := p0.toInt) rfl rfl c10
      obtain ⟨v11, ev11⟩ : ∃ z : Int32, z = u1 + 1 := ⟨_, rfl⟩
      have bv11 : v11.toInt = u1.toInt + 1 := by rw [ev11]; exact add_k rfl rfl k4 ⟨Int.le_refl _, Int.le_refl _⟩ (by decide)
      have k12 : 1 ≤ v11.toInt ∧ v11.toInt ≤ 4 := add_r bv11 k4 ⟨Int.le_refl _, Int.le_refl _⟩ (by decide)
      refine lv_iinc (v := v11) (lv' := [(3, .int v11), (0, .ref h0), (1, .int p0), (2, .int p1)]) hx hb dX10_placeIn_21 hl (k := 0) rfl (by rw [ev11]; rfl) (by decide) rfl (fun ls hl => ?_)
      refine lv_goto (tgt := 2) hx hb dX10_placeIn_24 (by decide) ?_
      exact ih (v11) (ir_wk k12 (by decide) (by decide)) (by show (4 - v11.toInt).toNat < (4 - u1.toInt).toNat; omega) _ _ _ hP hD hS (lv_sub hl [0, 1, 2, 3] rfl)
    · have dc10 : v8.toInt = p0.toInt := eq_i (a := v8.toInt) (b := p0.toInt) rfl rfl c10
      have k13 : 0 ≤ p0.toInt ∧ p0.toInt ≤ 11 := ⟨Int.le_trans k9.1 (Int.le_of_eq dc10), Int.le_trans (Int.le_of_eq dc10.symm) k9.2⟩
      refine lv_iload_n hx hb dX10_placeIn_19 rfl (lv_at hl 0 rfl) ?_
      exact ret_i (v := u1) hx hb hr hlocks hS hP hD dX10_placeIn_20 rfl (Nat.le_of_ble_eq_true rfl) (Nat.le_of_ble_eq_true rfl) ⟨(ir_wk k4 (by decide) (by decide)), rfl⟩
set_option maxHeartbeats 4000000 in
set_option maxRecDepth 100000 in
theorem m_X10_planLine (l : Launch) (D : va_G) (cI cJ cB cP cM cZ : ClassId) (h0 : Nat) (h_tape : Nat) (h_s : Nat) (h_names : Nat) (h_reserved : Nat) (h_planRead : Nat) (Fh : Nat → Value) (x_size : Int32) (x_p : Int32) (x_limit : Int32) (x_token : Int32) (x_at : Int32) (x_span : Int32) (x_number : Int32) (x_fault : Int32) (x_faultAt : Int32) (x_word : Int64) (x_got : Int32) (x_onces : Int32) (x_jumped : Int32) (x_heights : Int32) (f_tape : Nat → Int32) (f_s : Nat → Int32) (f_names : Nat → Int64) (f_reserved : Nat → Int64) (f_planRead : Nat → Int32) (sz : Nat) (e_tape : Fh 1 = .ref h_tape) (e_size : Fh 3 = .int x_size) (i_x_size : IR 0 940 x_size) (e_p : Fh 4 = .int x_p) (i_x_p : IR 0 940 x_p) (e_limit : Fh 5 = .int x_limit) (i_x_limit : IR 200 940 x_limit) (e_s : Fh 6 = .ref h_s) (e_names : Fh 9 = .ref h_names) (e_reserved : Fh 10 = .ref h_reserved) (e_token : Fh 11 = .int x_token) (i_x_token : IR 0 4 x_token) (e_at : Fh 12 = .int x_at) (e_span : Fh 13 = .int x_span) (e_number : Fh 14 = .int x_number) (e_fault : Fh 15 = .int x_fault) (e_faultAt : Fh 16 = .int x_faultAt) (e_word : Fh 18 = .long x_word) (e_got : Fh 19 = .int x_got) (e_onces : Fh 21 = .int x_onces) (e_planRead : Fh 22 = .ref h_planRead) (e_jumped : Fh 23 = .int x_jumped) (e_heights : Fh 24 = .int x_heights) (s_s_K0 : KW 0 f_s) (s_s_0 : SG 0 0 0 40 f_s) (s_s_105 : SG 105 108 0 11 f_s) (s_s_114 : SG 114 114 0 5 f_s) (s_s_130 : SG 130 133 0 11 f_s) (s_s_139 : SG 139 139 0 5 f_s) (s_s_153 : SG 153 153 0 44 f_s) (s_s_44 : SG 44 55 0 9 f_s) (s_s_5 : SG 5 5 0 12 f_s) (s_s_6 : SG 6 6 0 12 f_s) (s_s_7 : SG 7 7 0 6 f_s) (s_planRead_1 : SG 1 4 0 11 f_planRead) (s_planRead_10 : SG 10 10 0 5 f_planRead) (o_0 : (x_token.toInt = 2 → 0 ≤ x_number.toInt ∧ x_number.toInt ≤ 999)) : CI l yX10_planLine cX10_planLine 2 (some .boolean) { frames := 3, cells := 0, slots := 0, locals := 65 } (GG D cI cJ cB cP cM cZ) D [(h0, .inr (10, vL 67 Fh)), (h_tape, .inl (cB, 940, .inl f_tape)), (h_s, .inl (cI, 335, .inl f_s)), (h_names, .inl (cJ, 36, .inr (.inl f_names))), (h_reserved, .inl (cJ, 23, .inr (.inl f_reserved))), (h_planRead, .inl (cI, 24, .inl f_planRead))] sz [.ref h0] (fun (r : Int32) (u : va_W) => ∃ (Gh : Nat → Value) (y_p : Int32) (y_token : Int32) (y_at : Int32) (y_span : Int32) (y_number : Int32) (y_fault : Int32) (y_faultAt : Int32) (y_word : Int64) (y_got : Int32) (y_onces : Int32) (y_jumped : Int32) (y_heights : Int32) (g_planRead : Nat → Int32), SAME [4, 11, 12, 13, 14, 15, 16, 18, 19, 21, 23, 24] Fh Gh ∧ Gh 4 = .int y_p ∧ IR 0 940 y_p ∧ Gh 11 = .int y_token ∧ IR 0 4 y_token ∧ Gh 12 = .int y_at ∧ Gh 13 = .int y_span ∧ Gh 14 = .int y_number ∧ Gh 15 = .int y_fault ∧ Gh 16 = .int y_faultAt ∧ Gh 18 = .long y_word ∧ Gh 19 = .int y_got ∧ Gh 21 = .int y_onces ∧ Gh 23 = .int y_jumped ∧ Gh 24 = .int y_heights ∧ SG 1 4 0 11 g_planRead ∧ SG 10 10 0 5 g_planRead ∧ IR 0 1 r ∧ ((r.toInt = 1 → (x_p.toInt ≤ y_p.toInt ∧ (y_token.toInt = 3 → x_p.toInt < y_p.toInt)))) ∧ ((y_token.toInt = 2 → 0 ≤ y_number.toInt ∧ y_number.toInt ≤ 999)) ∧ u = [(h0, .inr (10, vL 67 Gh)), (h_tape, .inl (cB, 940, .inl f_tape)), (h_s, .inl (cI, 335, .inl f_s)), (h_names, .inl (cJ, 36, .inr (.inl f_names))), (h_reserved, .inl (cJ, 23, .inr (.inl f_reserved))), (h_planRead, .inl (cI, 24, .inl g_planRead))]) := by
  refine CI_mk (by decide) (Nat.le_of_ble_eq_true rfl) ?_
  intro p e s m below meth c A ls E hAe hG hsz hP hD hA hS hl
  obtain ⟨hx, hb, hr, hw, hown, hlocks, hml, hnm⟩ := E
  have hK := hG.1
  have i_x_size : 0 ≤ x_size.toInt ∧ x_size.toInt ≤ 940 := i_x_size
  have i_x_p : 0 ≤ x_p.toInt ∧ x_p.toInt ≤ 940 := i_x_p
  have i_x_limit : 200 ≤ x_limit.toInt ∧ x_limit.toInt ≤ 940 := i_x_limit
  have i_x_token : 0 ≤ x_token.toInt ∧ x_token.toInt ≤ 4 := i_x_token
  have hl : lv_has ls 2 [(0, .ref h0)] := hl
  refine lv_aload_n hx hb dX10_planLine_0 rfl (lv_at hl 0 rfl) ?_
  refine lv_ldc2 hx hb hown (hw _ q_1242) dX10_planLine_1 ?_
  refine call_Vi (wr := [(h_tape, .inl (cB, 940, .inl f_tape)), (h_s, .inl (cI, 335, .inl f_s)), (h_names, .inl (cJ, 36, .inr (.inl f_names))), (h_reserved, .inl (cJ, 23, .inr (.inl f_reserved))), (h_planRead, .inl (cI, 24, .inl f_planRead))]) (As := [.long 1668441463]) (rest := []) hx hb hml hown hw (m_X10_isWord l D cI cJ cB cP cM cZ h0 Fh x_token x_number x_word 1668441463 _ e_token i_x_token e_number e_word (by omega)) wV_X10_225_X10_isWord dX10_planLine_4 hK hP hD hS hA [0] [1, 2, 3, 4, 5] rfl rfl (by decide) (by decide) (by decide) 0 10 rfl rfl GG.fb hG.at hl.1 rfl (Nat.le_of_ble_eq_true rfl) ⟨(Nat.le_of_ble_eq_true rfl), (Nat.le_of_ble_eq_true rfl)⟩ ⟨(Nat.le_of_ble_eq_true rfl), (Nat.le_of_ble_eq_true rfl)⟩ (fun r1 u H locs hp hP hD hS => ?_)
  have zl1668441463 : (1668441463 : Int32).toInt = 1668441463 := by decide
  obtain ⟨t2, t3, rfl⟩ := hp
  have hP : va_P D vwCl [(h_tape, .inl (cB, 940, .inl f_tape)), (h_s, .inl (cI, 335, .inl f_s)), (h_names, .inl (cJ, 36, .inr (.inl f_names))), (h_reserved, .inl (cJ, 23, .inr (.inl f_reserved))), (h_planRead, .inl (cI, 24, .inl f_planRead)), (h0, .inr (10, vL 67 Fh))] H := hP
  have hD : va_D A [(h_tape, .inl (cB, 940, .inl f_tape)), (h_s, .inl (cI, 335, .inl f_s)), (h_names, .inl (cJ, 36, .inr (.inl f_names))), (h_reserved, .inl (cJ, 23, .inr (.inl f_reserved))), (h_planRead, .inl (cI, 24, .inl f_planRead)), (h0, .inr (10, vL 67 Fh))] := hD
  refine W.widen (k := 0) (n := 0) (Nat.le_of_ble_eq_true rfl) (Nat.le_of_ble_eq_true rfl) ?_
  refine lv_if_eq (tgt := 85) hx hb dX10_planLine_7 (by decide) (fun c5 => ?_) (fun c5 => ?_)
  · have dc5 : r1.toInt = 0 := eq_i (a := r1.toInt) (b := 0) rfl rfl c5
    have k6 : 0 ≤ r1.toInt ∧ r1.toInt ≤ 0 := ⟨t2.1, Int.le_trans (Int.le_of_eq dc5) (Int.le_refl _)⟩
    refine lv_aload_n hx hb dX10_planLine_85 rfl (lv_at hl 0 rfl) ?_
    refine lv_ldc2 hx hb hown (hw _ q_1243) dX10_planLine_86 ?_
    refine call_Vi (wr := [(h_tape, .inl (cB, 940, .inl f_tape)), (h_s, .inl (cI, 335, .inl f_s)), (h_names, .inl (cJ, 36, .inr (.inl f_names))), (h_reserved, .inl (cJ, 23, .inr (.inl f_reserved))), (h_planRead, .inl (cI, 24, .inl f_planRead))]) (As := [.long 1786080624]) (rest := []) hx hb hml hown hw (m_X10_isWord l D cI cJ cB cP cM cZ h0 Fh x_token x_number x_word 1786080624 _ e_token i_x_token e_number e_word (by omega)) wV_X10_225_X10_isWord dX10_planLine_89 hK hP hD hS hA [5] [0, 1, 2, 3, 4] rfl rfl (by decide) (by decide) (by decide) 0 10 rfl rfl GG.fb hG.at hl.1 rfl (Nat.le_of_ble_eq_true rfl) ⟨(Nat.le_of_ble_eq_true rfl), (Nat.le_of_ble_eq_true rfl)⟩ ⟨(Nat.le_of_ble_eq_true rfl), (Nat.le_of_ble_eq_true rfl)⟩ (fun r7 u H locs hp hP hD hS => ?_)
    have zl1786080624 : (1786080624 : Int32).toInt = 1786080624 := by decide
    obtain ⟨t8, t9, rfl⟩ := hp
    have hP : va_P D vwCl [(h_tape, .inl (cB, 940, .inl f_tape)), (h_s, .inl (cI, 335, .inl f_s)), (h_names, .inl (cJ, 36, .inr (.inl f_names))), (h_reserved, .inl (cJ, 23, .inr (.inl f_reserved))), (h_planRead, .inl (cI, 24, .inl f_planRead)), (h0, .inr (10, vL 67 Fh))] H := hP
    have hD : va_D A [(h_tape, .inl (cB, 940, .inl f_tape)), (h_s, .inl (cI, 335, .inl f_s)), (h_names, .inl (cJ, 36, .inr (.inl f_names))), (h_reserved, .inl (cJ, 23, .inr (.inl f_reserved))), (h_planRead, .inl (cI, 24, .inl f_planRead)), (h0, .inr (10, vL 67 Fh))] := hD
    refine W.widen (k := 0) (n := 0) (Nat.le_of_ble_eq_true rfl) (Nat.le_of_ble_eq_true rfl) ?_
    refine lv_if_eq (tgt := 201) hx hb dX10_planLine_92 (by decide) (fun c11 => ?_) (fun c11 => ?_)
    · have dc11 : r7.toInt = 0 := eq_i (a := r7.toInt) (b := 0) rfl rfl c11
      have k12 : 0 ≤ r7.toInt ∧ r7.toInt ≤ 0 := ⟨t8.1, Int.le_trans (Int.le_of_eq dc11) (Int.le_refl _)⟩
      refine lv_aload_n hx hb dX10_planLine_201 rfl (lv_at hl 0 rfl) ?_
      refine lv_ldc2 hx hb hown (hw _ q_1245) dX10_planLine_202 ?_
      refine call_Vi (wr := [(h_tape, .inl (cB, 940, .inl f_tape)), (h_s, .inl (cI, 335, .inl f_s)), (h_names, .inl (cJ, 36, .inr (.inl f_names))), (h_reserved, .inl (cJ, 23, .inr (.inl f_reserved))), (h_planRead, .inl (cI, 24, .inl f_planRead))]) (As := [.long 1751738216]) (rest := []) hx hb hml hown hw (m_X10_isWord l D cI cJ cB cP cM cZ h0 Fh x_token x_number x_word 1751738216 _ e_token i_x_token e_number e_word (by omega)) wV_X10_225_X10_isWord dX10_planLine_205 hK hP hD hS hA [5] [0, 1, 2, 3, 4] rfl rfl (by decide) (by decide) (by decide) 0 10 rfl rfl GG.fb hG.at hl.1 rfl (Nat.le_of_ble_eq_true rfl) ⟨(Nat.le_of_ble_eq_true rfl), (Nat.le_of_ble_eq_true rfl)⟩ ⟨(Nat.le_of_ble_eq_true rfl), (Nat.le_of_ble_eq_true rfl)⟩ (fun r13 u H locs hp hP hD hS => ?_)
      have zl1751738216 : (1751738216 : Int32).toInt = 1751738216 := by decide
      obtain ⟨t14, t15, rfl⟩ := hp
      have hP : va_P D vwCl [(h_tape, .inl (cB, 940, .inl f_tape)), (h_s, .inl (cI, 335, .inl f_s)), (h_names, .inl (cJ, 36, .inr (.inl f_names))), (h_reserved, .inl (cJ, 23, .inr (.inl f_reserved))), (h_planRead, .inl (cI, 24, .inl f_planRead)), (h0, .inr (10, vL 67 Fh))] H := hP
      have hD : va_D A [(h_tape, .inl (cB, 940, .inl f_tape)), (h_s, .inl (cI, 335, .inl f_s)), (h_names, .inl (cJ, 36, .inr (.inl f_names))), (h_reserved, .inl (cJ, 23, .inr (.inl f_reserved))), (h_planRead, .inl (cI, 24, .inl f_planRead)), (h0, .inr (10, vL 67 Fh))] := hD
      refine W.widen (k := 0) (n := 0) (Nat.le_of_ble_eq_true rfl) (Nat.le_of_ble_eq_true rfl) ?_
      refine lv_if_eq (tgt := 320) hx hb dX10_planLine_208 (by decide) (fun c17 => ?_) (fun c17 => ?_)
      · have dc17 : r13.toInt = 0 := eq_i (a := r13.toInt) (b := 0) rfl rfl c17
        have k18 : 0 ≤ r13.toInt ∧ r13.toInt ≤ 0 := ⟨t14.1, Int.le_trans (Int.le_of_eq dc17) (Int.le_refl _)⟩
        refine lv_aload_n hx hb dX10_planLine_320 rfl (lv_at hl 0 rfl) ?_
        refine lv_ldc2 hx hb hown (hw _ q_1244) dX10_planLine_321 ?_
        refine call_Vi (wr := [(h_tape, .inl (cB, 940, .inl f_tape)), (h_s, .inl (cI, 335, .inl f_s)), (h_names, .inl (cJ, 36, .inr (.inl f_names))), (h_reserved, .inl (cJ, 23, .inr (.inl f_reserved))), (h_planRead, .inl (cI, 24, .inl f_planRead))]) (As := [.long 1818583396]) (rest := []) hx hb hml hown hw (m_X10_isWord l D cI cJ cB cP cM cZ h0 Fh x_token x_number x_word 1818583396 _ e_token i_x_token e_number e_word (by omega)) wV_X10_225_X10_isWord dX10_planLine_324 hK hP hD hS hA [5] [0, 1, 2, 3, 4] rfl rfl (by decide) (by decide) (by decide) 0 10 rfl rfl GG.fb hG.at hl.1 rfl (Nat.le_of_ble_eq_true rfl) ⟨(Nat.le_of_ble_eq_true rfl), (Nat.le_of_ble_eq_true rfl)⟩ ⟨(Nat.le_of_ble_eq_true rfl), (Nat.le_of_ble_eq_true rfl)⟩ (fun r19 u H locs hp hP hD hS => ?_)
        have zl1818583396 : (1818583396 : Int32).toInt = 1818583396 := by decide
        obtain ⟨t20, t21, rfl⟩ := hp
        have hP : va_P D vwCl [(h_tape, .inl (cB, 940, .inl f_tape)), (h_s, .inl (cI, 335, .inl f_s)), (h_names, .inl (cJ, 36, .inr (.inl f_names))), (h_reserved, .inl (cJ, 23, .inr (.inl f_reserved))), (h_planRead, .inl (cI, 24, .inl f_planRead)), (h0, .inr (10, vL 67 Fh))] H := hP
        have hD : va_D A [(h_tape, .inl (cB, 940, .inl f_tape)), (h_s, .inl (cI, 335, .inl f_s)), (h_names, .inl (cJ, 36, .inr (.inl f_names))), (h_reserved, .inl (cJ, 23, .inr (.inl f_reserved))), (h_planRead, .inl (cI, 24, .inl f_planRead)), (h0, .inr (10, vL 67 Fh))] := hD
        refine W.widen (k := 0) (n := 0) (Nat.le_of_ble_eq_true rfl) (Nat.le_of_ble_eq_true rfl) ?_
        refine lv_if_eq (tgt := 363) hx hb dX10_planLine_327 (by decide) (fun c23 => ?_) (fun c23 => ?_)
        · have dc23 : r19.toInt = 0 := eq_i (a := r19.toInt) (b := 0) rfl rfl c23
          have k24 : 0 ≤ r19.toInt ∧ r19.toInt ≤ 0 := ⟨t20.1, Int.le_trans (Int.le_of_eq dc23) (Int.le_refl _)⟩
          refine lv_aload_n hx hb dX10_planLine_363 rfl (lv_at hl 0 rfl) ?_
          refine lv_ldc2 hx hb hown (hw _ q_1247) dX10_planLine_364 ?_
          refine call_Vi (wr := [(h_tape, .inl (cB, 940, .inl f_tape)), (h_s, .inl (cI, 335, .inl f_s)), (h_names, .inl (cJ, 36, .inr (.inl f_names))), (h_reserved, .inl (cJ, 23, .inr (.inl f_reserved))), (h_planRead, .inl (cI, 24, .inl f_planRead))]) (As := [.long 495873782388]) (rest := []) hx hb hml hown hw (m_X10_isWord l D cI cJ cB cP cM cZ h0 Fh x_token x_number x_word 495873782388 _ e_token i_x_token e_number e_word (by omega)) wV_X10_225_X10_isWord dX10_planLine_367 hK hP hD hS hA [5] [0, 1, 2, 3, 4] rfl rfl (by decide) (by decide) (by decide) 0 10 rfl rfl GG.fb hG.at hl.1 rfl (Nat.le_of_ble_eq_true rfl) ⟨(Nat.le_of_ble_eq_true rfl), (Nat.le_of_ble_eq_true rfl)⟩ ⟨(Nat.le_of_ble_eq_true rfl), (Nat.le_of_ble_eq_true rfl)⟩ (fun r25 u H locs hp hP hD hS => ?_)
          have zl495873782388 : (495873782388 : Int32).toInt = 495873782388 := by decide
          obtain ⟨t26, t27, rfl⟩ := hp
          have hP : va_P D vwCl [(h_tape, .inl (cB, 940, .inl f_tape)), (h_s, .inl (cI, 335, .inl f_s)), (h_names, .inl (cJ, 36, .inr (.inl f_names))), (h_reserved, .inl (cJ, 23, .inr (.inl f_reserved))), (h_planRead, .inl (cI, 24, .inl f_planRead)), (h0, .inr (10, vL 67 Fh))] H := hP
          have hD : va_D A [(h_tape, .inl (cB, 940, .inl f_tape)), (h_s, .inl (cI, 335, .inl f_s)), (h_names, .inl (cJ, 36, .inr (.inl f_names))), (h_reserved, .inl (cJ, 23, .inr (.inl f_reserved))), (h_planRead, .inl (cI, 24, .inl f_planRead)), (h0, .inr (10, vL 67 Fh))] := hD
          refine W.widen (k := 0) (n := 0) (Nat.le_of_ble_eq_true rfl) (Nat.le_of_ble_eq_true rfl) ?_
          refine lv_if_eq (tgt := 406) hx hb dX10_planLine_370 (by decide) (fun c29 => ?_) (fun c29 => ?_)
          · have dc29 : r25.toInt = 0 := eq_i (a := r25.toInt) (b := 0) rfl rfl c29
            have k30 : 0 ≤ r25.toInt ∧ r25.toInt ≤ 0 := ⟨t26.1, Int.le_trans (Int.le_of_eq dc29) (Int.le_refl _)⟩
            refine lv_aload_n hx hb dX10_planLine_406 rfl (lv_at hl 0 rfl) ?_
            refine lv_ldc2 hx hb hown (hw _ q_1246) dX10_planLine_407 ?_
            refine call_Vi (wr := [(h_tape, .inl (cB, 940, .inl f_tape)), (h_s, .inl (cI, 335, .inl f_s)), (h_names, .inl (cJ, 36, .inr (.inl f_names))), (h_reserved, .inl (cJ, 23, .inr (.inl f_reserved))), (h_planRead, .inl (cI, 24, .inl f_planRead))]) (As := [.long 28526]) (rest := []) hx hb hml hown hw (m_X10_isWord l D cI cJ cB cP cM cZ h0 Fh x_token x_number x_word 28526 _ e_token i_x_token e_number e_word (by omega)) wV_X10_225_X10_isWord dX10_planLine_410 hK hP hD hS hA [5] [0, 1, 2, 3, 4] rfl rfl (by decide) (by decide) (by decide) 0 10 rfl rfl GG.fb hG.at hl.1 rfl (Nat.le_of_ble_eq_true rfl) ⟨(Nat.le_of_ble_eq_true rfl), (Nat.le_of_ble_eq_true rfl)⟩ ⟨(Nat.le_of_ble_eq_true rfl), (Nat.le_of_ble_eq_true rfl)⟩ (fun r31 u H locs hp hP hD hS => ?_)
            have zl28526 : (28526 : Int32).toInt = 28526 := by decide
            obtain ⟨t32, t33, rfl⟩ := hp
            have hP : va_P D vwCl [(h_tape, .inl (cB, 940, .inl f_tape)), (h_s, .inl (cI, 335, .inl f_s)), (h_names, .inl (cJ, 36, .inr (.inl f_names))), (h_reserved, .inl (cJ, 23, .inr (.inl f_reserved))), (h_planRead, .inl (cI, 24, .inl f_planRead)), (h0, .inr (10, vL 67 Fh))] H := hP
            have hD : va_D A [(h_tape, .inl (cB, 940, .inl f_tape)), (h_s, .inl (cI, 335, .inl f_s)), (h_names, .inl (cJ, 36, .inr (.inl f_names))), (h_reserved, .inl (cJ, 23, .inr (.inl f_reserved))), (h_planRead, .inl (cI, 24, .inl f_planRead)), (h0, .inr (10, vL 67 Fh))] := hD
            refine W.widen (k := 0) (n := 0) (Nat.le_of_ble_eq_true rfl) (Nat.le_of_ble_eq_true rfl) ?_
            refine lv_if_ne (tgt := 422) hx hb dX10_planLine_413 (by decide) (fun c35 => ?_) (fun c35 => ?_)
            · have dc35 : r31.toInt ≠ 0 := ne_i (a := r31.toInt) (b := 0) rfl rfl c35
              have k36 : 1 ≤ r31.toInt ∧ r31.toInt ≤ 1 := ⟨ne_lo dc35 t32.1 ⟨Int.le_refl _, Int.le_refl _⟩ (by decide), t32.2⟩
              refine lv_aload_n hx hb dX10_planLine_422 rfl (lv_at hl 0 rfl) ?_
              refine lv_iconst (v := 3) hx hb dX10_planLine_423 (by decide) ?_
              refine call_Vi (wr := [(h_s, .inl (cI, 335, .inl f_s)), (h_names, .inl (cJ, 36, .inr (.inl f_names))), (h_reserved, .inl (cJ, 23, .inr (.inl f_reserved))), (h_planRead, .inl (cI, 24, .inl f_planRead))]) (As := [.int 3]) (rest := []) hx hb hml hown hw (m_X10_isOnce l D cI cJ cB cP cM cZ h0 h_tape Fh x_size x_p x_limit x_token x_at x_span x_number x_fault x_faultAt x_word x_onces f_tape 3 _ e_tape e_size i_x_size e_p i_x_p e_limit i_x_limit e_token i_x_token e_at e_span e_number e_fault e_faultAt e_word e_onces (by omega)) wV_X10_239_X10_isOnce dX10_planLine_424 hK hP hD hS hA [5, 0] [1, 2, 3, 4] rfl rfl (by decide) (by decide) (by decide) 0 10 rfl rfl GG.fb hG.at hl.1 rfl (Nat.le_of_ble_eq_true rfl) ⟨(Nat.le_of_ble_eq_true rfl), (Nat.le_of_ble_eq_true rfl)⟩ ⟨(Nat.le_of_ble_eq_true rfl), (Nat.le_of_ble_eq_true rfl)⟩ (fun r37 u H locs hp hP hD hS => ?_)
              have zl3 : (3 : Int32).toInt = 3 := by decide
              refine hp.elim (fun F38 h9z => h9z.elim (fun y39 h9z => h9z.elim (fun y40 h9z => h9z.elim (fun y41 h9z => h9z.elim (fun y42 h9z => h9z.elim (fun y43 h9z => h9z.elim (fun y44 h9z => h9z.elim (fun y45 h9z => h9z.elim (fun y46 h9z => h9z.elim (fun y47 h9z => h9z.elim (fun t48 h9z => h9z.elim (fun t49 h9z => h9z.elim (fun t50 h9z => h9z.elim (fun t51 h9z => h9z.elim (fun t52 h9z => h9z.elim (fun t53 h9z => h9z.elim (fun t54 h9z => h9z.elim (fun t55 h9z => h9z.elim (fun t56 h9z => h9z.elim (fun t57 h9z => h9z.elim (fun t58 h9z => h9z.elim (fun t59 h9z => h9z.elim (fun t60 h9z => h9z.elim (fun t61 h9z => h9z.elim (fun t62 h9z => ?_)))))))))))))))))))))))))
              subst h9z
              have hP : va_P D vwCl [(h_s, .inl (cI, 335, .inl f_s)), (h_names, .inl (cJ, 36, .inr (.inl f_names))), (h_reserved, .inl (cJ, 23, .inr (.inl f_reserved))), (h_planRead, .inl (cI, 24, .inl f_planRead)), (h0, .inr (10, vL 67 F38)), (h_tape, .inl (cB, 940, .inl f_tape))] H := hP
              have hD : va_D A [(h_s, .inl (cI, 335, .inl f_s)), (h_names, .inl (cJ, 36, .inr (.inl f_names))), (h_reserved, .inl (cJ, 23, .inr (.inl f_reserved))), (h_planRead, .inl (cI, 24, .inl f_planRead)), (h0, .inr (10, vL 67 F38)), (h_tape, .inl (cB, 940, .inl f_tape))] := hD
              refine W.widen (k := 0) (n := 0) (Nat.le_of_ble_eq_true rfl) (Nat.le_of_ble_eq_true rfl) ?_
              refine lv_if_ne (tgt := 432) hx hb dX10_planLine_427 (by decide) (fun c64 => ?_) (fun c64 => ?_)
              · have dc64 : r37.toInt ≠ 0 := ne_i (a := r37.toInt) (b := 0) rfl rfl c64
                have k65 : 1 ≤ r37.toInt ∧ r37.toInt ≤ 1 := ⟨ne_lo dc64 t60.1 ⟨Int.le_refl _, Int.le_refl _⟩ (by decide), t60.2⟩
                refine lv_aload_n hx hb dX10_planLine_432 rfl (lv_at hl 0 rfl) ?_
                have n66 : F38 10 = .ref h_reserved := (SAME.at t48 (by decide) e_reserved)
                refine call_Vi (wr := [(h_s, .inl (cI, 335, .inl f_s)), (h_names, .inl (cJ, 36, .inr (.inl f_names))), (h_planRead, .inl (cI, 24, .inl f_planRead)), (h_tape, .inl (cB, 940, .inl f_tape))]) (As := []) (rest := []) hx hb hml hown hw (m_X10_isName l D cI cJ cB cP cM cZ h0 h_reserved F38 y40 y43 y46 f_reserved _ n66 t51 t52 t55 t58 (by omega)) wV_X10_218_X10_isName dX10_planLine_433 hK hP hD hS hA [4, 2] [0, 1, 3, 5] rfl rfl (by decide) (by decide) (by decide) 0 10 rfl rfl GG.fb hG.at hl.1 rfl (Nat.le_of_ble_eq_true rfl) ⟨(Nat.le_of_ble_eq_true rfl), (Nat.le_of_ble_eq_true rfl)⟩ ⟨(Nat.le_of_ble_eq_true rfl), (Nat.le_of_ble_eq_true rfl)⟩ (fun r67 u H locs hp hP hD hS => ?_)
                obtain ⟨t68, rfl⟩ := hp
                have hP : va_P D vwCl [(h_s, .inl (cI, 335, .inl f_s)), (h_names, .inl (cJ, 36, .inr (.inl f_names))), (h_planRead, .inl (cI, 24, .inl f_planRead)), (h_tape, .inl (cB, 940, .inl f_tape)), (h0, .inr (10, vL 67 F38)), (h_reserved, .inl (cJ, 23, .inr (.inl f_reserved)))] H := hP
                have hD : va_D A [(h_s, .inl (cI, 335, .inl f_s)), (h_names, .inl (cJ, 36, .inr (.inl f_names))), (h_planRead, .inl (cI, 24, .inl f_planRead)), (h_tape, .inl (cB, 940, .inl f_tape)), (h0, .inr (10, vL 67 F38)), (h_reserved, .inl (cJ, 23, .inr (.inl f_reserved)))] := hD
                refine W.widen (k := 0) (n := 0) (Nat.le_of_ble_eq_true rfl) (Nat.le_of_ble_eq_true rfl) ?_
                refine lv_if_ne (tgt := 445) hx hb dX10_planLine_436 (by decide) (fun c70 => ?_) (fun c70 => ?_)
                · have dc70 : r67.toInt ≠ 0 := ne_i (a := r67.toInt) (b := 0) rfl rfl c70
                  have k71 : 1 ≤ r67.toInt ∧ r67.toInt ≤ 1 := ⟨ne_lo dc70 t68.1 ⟨Int.le_refl _, Int.le_refl _⟩ (by decide), t68.2⟩
                  refine lv_aload_n hx hb dX10_planLine_445 rfl (lv_at hl 0 rfl) ?_
                  refine lv_bipush (v := 12) hx hb dX10_planLine_446 (by decide) ?_
                  refine lv_aload_n hx hb dX10_planLine_448 rfl (lv_at hl 0 rfl) ?_
                  have n72 : F38 6 = .ref h_s := (SAME.at t48 (by decide) e_s)
                  refine get_f (D := D) (ci := 10) (v := .ref h_s) (C := RX10) (T := TX10) (N := 67) hx hb hw inAX10 hown hK hP 4 rfl rfl 6 (by decide) (hw _ q_1267) (fun _ h9 => h9) n72 dX10_planLine_449 ?_
                  refine lv_bipush (v := 7) hx hb dX10_planLine_452 (by decide) ?_
                  refine iald_n hx hb hK hP 0 0 rfl rfl 7 rfl (Nat.le_of_ble_eq_true rfl) (Nat.le_of_ble_eq_true rfl) rfl dX10_planLine_454 ?_
                  refine lv_topi (fun v73 ev73 => ?_)
                  have k74 : 0 ≤ v73.toInt ∧ v73.toInt ≤ 6 := by rw [ev73]; exact s_s_7.atN 7 (by decide) (by decide)
                  have n75 : F38 9 = .ref h_names := (SAME.at t48 (by decide) e_names)
                  refine call_Vi (wr := [(h_s, .inl (cI, 335, .inl f_s)), (h_planRead, .inl (cI, 24, .inl f_planRead)), (h_tape, .inl (cB, 940, .inl f_tape)), (h_reserved, .inl (cJ, 23, .inr (.inl f_reserved)))]) (As := [.int 12, .int v73]) (rest := []) hx hb hml hown hw (m_X10_find l D cI cJ cB cP cM cZ h0 h_names F38 y46 f_names 12 v73 _ n75 t58 (show 0 ≤ (12 : Int32).toInt ∧ (12 : Int32).toInt ≤ 30 by decide) (ir_wk k74 (by decide) (by decide)) (by have z0 : (12 : Int32).toInt = 12 := rfl; omega)) wV_X10_222_X10_find dX10_planLine_455 hK hP hD hS hA [4, 1] [0, 2, 3, 5] rfl rfl (by decide) (by decide) (by decide) 0 10 rfl rfl GG.fb hG.at hl.1 rfl (Nat.le_of_ble_eq_true rfl) ⟨(Nat.le_of_ble_eq_true rfl), (Nat.le_of_ble_eq_true rfl)⟩ ⟨(Nat.le_of_ble_eq_true rfl), (Nat.le_of_ble_eq_true rfl)⟩ (fun r76 u H locs hp hP hD hS => ?_)
                  have zl12 : (12 : Int32).toInt = 12 := by decide
                  rcases hp with ⟨t77, rfl, rfl⟩ | ⟨t78, t79, rfl⟩
                  · have hP : va_P D vwCl [(h_s, .inl (cI, 335, .inl f_s)), (h_planRead, .inl (cI, 24, .inl f_planRead)), (h_tape, .inl (cB, 940, .inl f_tape)), (h_reserved, .inl (cJ, 23, .inr (.inl f_reserved))), (h0, .inr (10, vL 67 F38)), (h_names, .inl (cJ, 36, .inr (.inl f_names)))] H := hP
                    have hD : va_D A [(h_s, .inl (cI, 335, .inl f_s)), (h_planRead, .inl (cI, 24, .inl f_planRead)), (h_tape, .inl (cB, 940, .inl f_tape)), (h_reserved, .inl (cJ, 23, .inr (.inl f_reserved))), (h0, .inr (10, vL 67 F38)), (h_names, .inl (cJ, 36, .inr (.inl f_names)))] := hD
                    refine W.widen (k := 0) (n := 0) (Nat.le_of_ble_eq_true rfl) (Nat.le_of_ble_eq_true rfl) ?_
                    refine lv_istore_n (lv' := [(1, .int (-1)), (0, .ref h0)]) hx hb dX10_planLine_458 rfl hl (by decide) rfl (fun ls hl => ?_)
                    refine lv_iload_n hx hb dX10_planLine_459 rfl (lv_at hl 0 rfl) ?_
                    refine lv_if_ge (tgt := 469) hx hb dX10_planLine_460 (by decide) (fun g => absurd g (by decide)) (fun _ => ?_)
                    refine lv_aload_n hx hb dX10_planLine_463 rfl (lv_at hl 1 rfl) ?_
                    refine lv_iconst (v := 3) hx hb dX10_planLine_464 (by decide) ?_
                    refine call_Vi (wr := [(h_s, .inl (cI, 335, .inl f_s)), (h_planRead, .inl (cI, 24, .inl f_planRead)), (h_tape, .inl (cB, 940, .inl f_tape)), (h_reserved, .inl (cJ, 23, .inr (.inl f_reserved))), (h_names, .inl (cJ, 36, .inr (.inl f_names)))]) (As := [.int 3]) (rest := []) hx hb hml hown hw (m_X10_bad l D cI cJ cB cP cM cZ h0 F38 y41 3 _ t53) wV_X10_205_X10_bad dX10_planLine_465 hK hP hD hS hA [4] [0, 1, 2, 3, 5] rfl rfl (by decide) (by decide) (by decide) 0 10 rfl rfl GG.fb hG.at hl.1 rfl (Nat.le_of_ble_eq_true rfl) ⟨(Nat.le_of_ble_eq_true rfl), (Nat.le_of_ble_eq_true rfl)⟩ ⟨(Nat.le_of_ble_eq_true rfl), (Nat.le_of_ble_eq_true rfl)⟩ (fun r81 u H locs hp hP hD hS => ?_)
                    obtain ⟨F82, t83, t84, t85, rfl, rfl⟩ := hp
                    have hP : va_P D vwCl [(h_s, .inl (cI, 335, .inl f_s)), (h_planRead, .inl (cI, 24, .inl f_planRead)), (h_tape, .inl (cB, 940, .inl f_tape)), (h_reserved, .inl (cJ, 23, .inr (.inl f_reserved))), (h_names, .inl (cJ, 36, .inr (.inl f_names))), (h0, .inr (10, vL 67 F82))] H := hP
                    have hD : va_D A [(h_s, .inl (cI, 335, .inl f_s)), (h_planRead, .inl (cI, 24, .inl f_planRead)), (h_tape, .inl (cB, 940, .inl f_tape)), (h_reserved, .inl (cJ, 23, .inr (.inl f_reserved))), (h_names, .inl (cJ, 36, .inr (.inl f_names))), (h0, .inr (10, vL 67 F82))] := hD
                    refine W.widen (k := 0) (n := 0) (Nat.le_of_ble_eq_true rfl) (Nat.le_of_ble_eq_true rfl) ?_
                    exact ret_i (v := 0) hx hb hr hlocks hS (hP.sub (ws' := [(h0, .inr (10, vL 67 F82)), (h_tape, .inl (cB, 940, .inl f_tape)), (h_s, .inl (cI, 335, .inl f_s)), (h_names, .inl (cJ, 36, .inr (.inl f_names))), (h_reserved, .inl (cJ, 23, .inr (.inl f_reserved))), (h_planRead, .inl (cI, 24, .inl f_planRead))]) [5, 2, 0, 4, 3, 1] rfl) (hD.sub (ws' := [(h0, .inr (10, vL 67 F82)), (h_tape, .inl (cB, 940, .inl f_tape)), (h_s, .inl (cI, 335, .inl f_s)), (h_names, .inl (cJ, 36, .inr (.inl f_names))), (h_reserved, .inl (cJ, 23, .inr (.inl f_reserved))), (h_planRead, .inl (cI, 24, .inl f_planRead))]) [5, 2, 0, 4, 3, 1] (by decide) rfl) dX10_planLine_468 rfl (Nat.le_of_ble_eq_true rfl) (Nat.le_of_ble_eq_true rfl) ⟨F82, y39, y40, y41, y42, y43, 3, y41, y46, x_got, y47, x_jumped, x_heights, f_planRead, (SAME.tr (SAME.tr SAME.rf t48 (by decide)) t83 (by decide)), (SAME.at t83 (by decide) t49), t50, (SAME.at t83 (by decide) t51), t52, (SAME.at t83 (by decide) t53), (SAME.at t83 (by decide) t54), (SAME.at t83 (by decide) t55), t84, t85, (SAME.at t83 (by decide) t58), (SAME.at t83 (by decide) (SAME.at t48 (by decide) e_got)), (SAME.at t83 (by decide) t59), (SAME.at t83 (by decide) (SAME.at t48 (by decide) e_jumped)), (SAME.at t83 (by decide) (SAME.at t48 (by decide) e_heights)), s_planRead_1, s_planRead_10, (show 0 ≤ (0 : Int32).toInt ∧ (0 : Int32).toInt ≤ 1 by decide), (by have zl0 : (0 : Int32).toInt = 0 := (by decide); omega), (by have zl3 : (3 : Int32).toInt = 3 := (by decide); omega), rfl⟩
                  · have hP : va_P D vwCl [(h_s, .inl (cI, 335, .inl f_s)), (h_planRead, .inl (cI, 24, .inl f_planRead)), (h_tape, .inl (cB, 940, .inl f_tape)), (h_reserved, .inl (cJ, 23, .inr (.inl f_reserved))), (h0, .inr (10, vL 67 F38)), (h_names, .inl (cJ, 36, .inr (.inl f_names)))] H := hP
                    have hD : va_D A [(h_s, .inl (cI, 335, .inl f_s)), (h_planRead, .inl (cI, 24, .inl f_planRead)), (h_tape, .inl (cB, 940, .inl f_tape)), (h_reserved, .inl (cJ, 23, .inr (.inl f_reserved))), (h0, .inr (10, vL 67 F38)), (h_names, .inl (cJ, 36, .inr (.inl f_names)))] := hD
                    refine W.widen (k := 0) (n := 0) (Nat.le_of_ble_eq_true rfl) (Nat.le_of_ble_eq_true rfl) ?_
                    have k87 : 1 ≤ v73.toInt ∧ v73.toInt ≤ 6 := ⟨lo_lt t79 (Int.le_refl _) (by decide), k74.2⟩
                    refine lv_istore_n (lv' := [(1, .int r76), (0, .ref h0)]) hx hb dX10_planLine_458 rfl hl (by decide) rfl (fun ls hl => ?_)
                    refine lv_iload_n hx hb dX10_planLine_459 rfl (lv_at hl 0 rfl) ?_
                    refine lv_if_ge (tgt := 469) hx hb dX10_planLine_460 (by decide) (fun c88 => ?_) (fun c88 => False.elim (bad_lt (nle_i (a := 0) (b := r76.toInt) rfl rfl c88) t78.1 (Int.le_refl _) (by decide)))
                    have dc88 : 0 ≤ r76.toInt := le_i (a := 0) (b := r76.toInt) rfl rfl c88
                    refine lv_aload_n hx hb dX10_planLine_469 rfl (lv_at hl 1 rfl) ?_
                    have n89 : F38 22 = .ref h_planRead := (SAME.at t48 (by decide) e_planRead)
                    refine get_f (D := D) (ci := 10) (v := .ref h_planRead) (C := RX10) (T := TX10) (N := 67) hx hb hw inAX10 hown hK hP 4 rfl rfl 22 (by decide) (hw _ q_1283) (fun _ h9 => h9) n89 dX10_planLine_470 ?_
                    refine lv_bipush (v := 10) hx hb dX10_planLine_473 (by decide) ?_
                    refine lv_iload_n hx hb dX10_planLine_475 rfl (lv_at hl 0 rfl) ?_
                    obtain ⟨g90, eg90⟩ : ∃ z : Nat → Int32, upd f_planRead 10 r76 = z := ⟨_, rfl⟩
                    have r91 : SG 1 4 0 11 g90 := by rw [← eg90]; exact s_planRead_1.upN (by decide)
                    have r92 : SG 10 10 0 5 g90 := by rw [← eg90]; exact s_planRead_10.upN (by omega)
                    refine iast_n hx hb hK hP hD hS 1 0 rfl rfl 10 rfl (Nat.le_of_ble_eq_true rfl) (Nat.le_of_ble_eq_true rfl) eg90 dX10_planLine_476 (fun H locs hP hD hS => ?_)
                    have hP : va_P D vwCl [(h_s, .inl (cI, 335, .inl f_s)), (h_planRead, .inl (cI, 24, .inl g90)), (h_tape, .inl (cB, 940, .inl f_tape)), (h_reserved, .inl (cJ, 23, .inr (.inl f_reserved))), (h0, .inr (10, vL 67 F38)), (h_names, .inl (cJ, 36, .inr (.inl f_names)))] H := hP
                    have hD : va_D A [(h_s, .inl (cI, 335, .inl f_s)), (h_planRead, .inl (cI, 24, .inl g90)), (h_tape, .inl (cB, 940, .inl f_tape)), (h_reserved, .inl (cJ, 23, .inr (.inl f_reserved))), (h0, .inr (10, vL 67 F38)), (h_names, .inl (cJ, 36, .inr (.inl f_names)))] := hD
                    refine lv_aload_n hx hb dX10_planLine_477 rfl (lv_at hl 1 rfl) ?_
                    have n93 : F38 1 = .ref h_tape := (SAME.at t48 (by decide) e_tape)
                    have n94 : F38 3 = .int x_size := (SAME.at t48 (by decide) e_size)
                    have n95 : F38 5 = .int x_limit := (SAME.at t48 (by decide) e_limit)
                    refine call_Vv (wr := [(h_s, .inl (cI, 335, .inl f_s)), (h_planRead, .inl (cI, 24, .inl g90)), (h_reserved, .inl (cJ, 23, .inr (.inl f_reserved))), (h_names, .inl (cJ, 36, .inr (.inl f_names)))]) (As := []) (rest := []) hx hb hml hown hw (m_X10_next l D cI cJ cB cP cM cZ h0 h_tape F38 x_size y39 x_limit y40 y43 y46 f_tape _ n93 n94 i_x_size t49 t50 n95 i_x_limit t51 t52 t55 t58 (by omega)) wV_X10_208_X10_next dX10_planLine_478 hK hP hD hS hA [4, 2] [0, 1, 3, 5] rfl rfl (by decide) (by decide) (by decide) 0 10 rfl rfl GG.fb hG.at hl.1 rfl (Nat.le_of_ble_eq_true rfl) ⟨(Nat.le_of_ble_eq_true rfl), (Nat.le_of_ble_eq_true rfl)⟩ ⟨(Nat.le_of_ble_eq_true rfl), (Nat.le_of_ble_eq_true rfl)⟩ (fun u H locs hp hP hD hS => ?_)
                    obtain ⟨F97, y98, y99, y100, y101, y102, y103, t104, t105, t106, t107, t108, t109, t110, t111, t112, t113, t114, t115, t116, t117, rfl⟩ := hp
                    have hP : va_P D vwCl [(h_s, .inl (cI, 335, .inl f_s)), (h_planRead, .inl (cI, 24, .inl g90)), (h_reserved, .inl (cJ, 23, .inr (.inl f_reserved))), (h_names, .inl (cJ, 36, .inr (.inl f_names))), (h0, .inr (10, vL 67 F97)), (h_tape, .inl (cB, 940, .inl f_tape))] H := hP
                    have hD : va_D A [(h_s, .inl (cI, 335, .inl f_s)), (h_planRead, .inl (cI, 24, .inl g90)), (h_reserved, .inl (cJ, 23, .inr (.inl f_reserved))), (h_names, .inl (cJ, 36, .inr (.inl f_names))), (h0, .inr (10, vL 67 F97)), (h_tape, .inl (cB, 940, .inl f_tape))] := hD
                    refine W.widen (k := 0) (n := 0) (Nat.le_of_ble_eq_true rfl) (Nat.le_of_ble_eq_true rfl) ?_
                    refine lv_iconst (v := 1) hx hb dX10_planLine_481 (by decide) ?_
                    exact ret_i (v := 1) hx hb hr hlocks hS (hP.sub (ws' := [(h0, .inr (10, vL 67 F97)), (h_tape, .inl (cB, 940, .inl f_tape)), (h_s, .inl (cI, 335, .inl f_s)), (h_names, .inl (cJ, 36, .inr (.inl f_names))), (h_reserved, .inl (cJ, 23, .inr (.inl f_reserved))), (h_planRead, .inl (cI, 24, .inl g90))]) [4, 5, 0, 3, 2, 1] rfl) (hD.sub (ws' := [(h0, .inr (10, vL 67 F97)), (h_tape, .inl (cB, 940, .inl f_tape)), (h_s, .inl (cI, 335, .inl f_s)), (h_names, .inl (cJ, 36, .inr (.inl f_names))), (h_reserved, .inl (cJ, 23, .inr (.inl f_reserved))), (h_planRead, .inl (cI, 24, .inl g90))]) [4, 5, 0, 3, 2, 1] (by decide) rfl) dX10_planLine_482 rfl (Nat.le_of_ble_eq_true rfl) (Nat.le_of_ble_eq_true rfl) ⟨F97, y98, y99, y100, y101, y102, y44, y45, y103, x_got, y47, x_jumped, x_heights, g90, (SAME.tr (SAME.tr SAME.rf t48 (by decide)) t104 (by decide)), t105, t106, t107, t108, t109, t111, t113, (SAME.at t104 (by decide) t56), (SAME.at t104 (by decide) t57), t114, (SAME.at t104 (by decide) (SAME.at t48 (by decide) e_got)), (SAME.at t104 (by decide) t59), (SAME.at t104 (by decide) (SAME.at t48 (by decide) e_jumped)), (SAME.at t104 (by decide) (SAME.at t48 (by decide) e_heights)), r91, r92, (show 0 ≤ (1 : Int32).toInt ∧ (1 : Int32).toInt ≤ 1 by decide), (by have zl1 : (1 : Int32).toInt = 1 := (by decide); omega), (by omega), rfl⟩
                · have dc70 : r67.toInt = 0 := eq_i (a := r67.toInt) (b := 0) rfl rfl c70
                  have k119 : 0 ≤ r67.toInt ∧ r67.toInt ≤ 0 := ⟨t68.1, Int.le_trans (Int.le_of_eq dc70) (Int.le_refl _)⟩
                  refine lv_aload_n hx hb dX10_planLine_439 rfl (lv_at hl 0 rfl) ?_
                  refine lv_iconst (v := 1) hx hb dX10_planLine_440 (by decide) ?_
                  refine call_Vi (wr := [(h_s, .inl (cI, 335, .inl f_s)), (h_names, .inl (cJ, 36, .inr (.inl f_names))), (h_planRead, .inl (cI, 24, .inl f_planRead)), (h_tape, .inl (cB, 940, .inl f_tape)), (h_reserved, .inl (cJ, 23, .inr (.inl f_reserved)))]) (As := [.int 1]) (rest := []) hx hb hml hown hw (m_X10_bad l D cI cJ cB cP cM cZ h0 F38 y41 1 _ t53) wV_X10_205_X10_bad dX10_planLine_441 hK hP hD hS hA [4] [0, 1, 2, 3, 5] rfl rfl (by decide) (by decide) (by decide) 0 10 rfl rfl GG.fb hG.at hl.1 rfl (Nat.le_of_ble_eq_true rfl) ⟨(Nat.le_of_ble_eq_true rfl), (Nat.le_of_ble_eq_true rfl)⟩ ⟨(Nat.le_of_ble_eq_true rfl), (Nat.le_of_ble_eq_true rfl)⟩ (fun r120 u H locs hp hP hD hS => ?_)
                  have zl1 : (1 : Int32).toInt = 1 := by decide
                  obtain ⟨F121, t122, t123, t124, rfl, rfl⟩ := hp
                  have hP : va_P D vwCl [(h_s, .inl (cI, 335, .inl f_s)), (h_names, .inl (cJ, 36, .inr (.inl f_names))), (h_planRead, .inl (cI, 24, .inl f_planRead)), (h_tape, .inl (cB, 940, .inl f_tape)), (h_reserved, .inl (cJ, 23, .inr (.inl f_reserved))), (h0, .inr (10, vL 67 F121))] H := hP
                  have hD : va_D A [(h_s, .inl (cI, 335, .inl f_s)), (h_names, .inl (cJ, 36, .inr (.inl f_names))), (h_planRead, .inl (cI, 24, .inl f_planRead)), (h_tape, .inl (cB, 940, .inl f_tape)), (h_reserved, .inl (cJ, 23, .inr (.inl f_reserved))), (h0, .inr (10, vL 67 F121))] := hD
                  refine W.widen (k := 0) (n := 0) (Nat.le_of_ble_eq_true rfl) (Nat.le_of_ble_eq_true rfl) ?_
                  exact ret_i (v := 0) hx hb hr hlocks hS (hP.sub (ws' := [(h0, .inr (10, vL 67 F121)), (h_tape, .inl (cB, 940, .inl f_tape)), (h_s, .inl (cI, 335, .inl f_s)), (h_names, .inl (cJ, 36, .inr (.inl f_names))), (h_reserved, .inl (cJ, 23, .inr (.inl f_reserved))), (h_planRead, .inl (cI, 24, .inl f_planRead))]) [5, 3, 0, 1, 4, 2] rfl) (hD.sub (ws' := [(h0, .inr (10, vL 67 F121)), (h_tape, .inl (cB, 940, .inl f_tape)), (h_s, .inl (cI, 335, .inl f_s)), (h_names, .inl (cJ, 36, .inr (.inl f_names))), (h_reserved, .inl (cJ, 23, .inr (.inl f_reserved))), (h_planRead, .inl (cI, 24, .inl f_planRead))]) [5, 3, 0, 1, 4, 2] (by decide) rfl) dX10_planLine_444 rfl (Nat.le_of_ble_eq_true rfl) (Nat.le_of_ble_eq_true rfl) ⟨F121, y39, y40, y41, y42, y43, 1, y41, y46, x_got, y47, x_jumped, x_heights, f_planRead, (SAME.tr (SAME.tr SAME.rf t48 (by decide)) t122 (by decide)), (SAME.at t122 (by decide) t49), t50, (SAME.at t122 (by decide) t51), t52, (SAME.at t122 (by decide) t53), (SAME.at t122 (by decide) t54), (SAME.at t122 (by decide) t55), t123, t124, (SAME.at t122 (by decide) t58), (SAME.at t122 (by decide) (SAME.at t48 (by decide) e_got)), (SAME.at t122 (by decide) t59), (SAME.at t122 (by decide) (SAME.at t48 (by decide) e_jumped)), (SAME.at t122 (by decide) (SAME.at t48 (by decide) e_heights)), s_planRead_1, s_planRead_10, (show 0 ≤ (0 : Int32).toInt ∧ (0 : Int32).toInt ≤ 1 by decide), (by have zl0 : (0 : Int32).toInt = 0 := (by decide); omega), (by have zl1 : (1 : Int32).toInt = 1 := (by decide); omega), rfl⟩
              · have dc64 : r37.toInt = 0 := eq_i (a := r37.toInt) (b := 0) rfl rfl c64
                have k126 : 0 ≤ r37.toInt ∧ r37.toInt ≤ 0 := ⟨t60.1, Int.le_trans (Int.le_of_eq dc64) (Int.le_refl _)⟩
                refine lv_iconst (v := 0) hx hb dX10_planLine_430 (by decide) ?_
                exact ret_i (v := 0) hx hb hr hlocks hS (hP.sub (ws' := [(h0, .inr (10, vL 67 F38)), (h_tape, .inl (cB, 940, .inl f_tape)), (h_s, .inl (cI, 335, .inl f_s)), (h_names, .inl (cJ, 36, .inr (.inl f_names))), (h_reserved, .inl (cJ, 23, .inr (.inl f_reserved))), (h_planRead, .inl (cI, 24, .inl f_planRead))]) [4, 5, 0, 1, 2, 3] rfl) (hD.sub (ws' := [(h0, .inr (10, vL 67 F38)), (h_tape, .inl (cB, 940, .inl f_tape)), (h_s, .inl (cI, 335, .inl f_s)), (h_names, .inl (cJ, 36, .inr (.inl f_names))), (h_reserved, .inl (cJ, 23, .inr (.inl f_reserved))), (h_planRead, .inl (cI, 24, .inl f_planRead))]) [4, 5, 0, 1, 2, 3] (by decide) rfl) dX10_planLine_431 rfl (Nat.le_of_ble_eq_true rfl) (Nat.le_of_ble_eq_true rfl) ⟨F38, y39, y40, y41, y42, y43, y44, y45, y46, x_got, y47, x_jumped, x_heights, f_planRead, (SAME.tr SAME.rf t48 (by decide)), t49, t50, t51, t52, t53, t54, t55, t56, t57, t58, (SAME.at t48 (by decide) e_got), t59, (SAME.at t48 (by decide) e_jumped), (SAME.at t48 (by decide) e_heights), s_planRead_1, s_planRead_10, (show 0 ≤ (0 : Int32).toInt ∧ (0 : Int32).toInt ≤ 1 by decide), (by have zl0 : (0 : Int32).toInt = 0 := (by decide); omega), (by omega), rfl⟩
            · have dc35 : r31.toInt = 0 := eq_i (a := r31.toInt) (b := 0) rfl rfl c35
              have k127 : 0 ≤ r31.toInt ∧ r31.toInt ≤ 0 := ⟨t32.1, Int.le_trans (Int.le_of_eq dc35) (Int.le_refl _)⟩
              refine lv_aload_n hx hb dX10_planLine_416 rfl (lv_at hl 0 rfl) ?_
              refine lv_iconst (v := 1) hx hb dX10_planLine_417 (by decide) ?_
              refine call_Vi (wr := [(h_tape, .inl (cB, 940, .inl f_tape)), (h_s, .inl (cI, 335, .inl f_s)), (h_names, .inl (cJ, 36, .inr (.inl f_names))), (h_reserved, .inl (cJ, 23, .inr (.inl f_reserved))), (h_planRead, .inl (cI, 24, .inl f_planRead))]) (As := [.int 1]) (rest := []) hx hb hml hown hw (m_X10_bad l D cI cJ cB cP cM cZ h0 Fh x_at 1 _ e_at) wV_X10_205_X10_bad dX10_planLine_418 hK hP hD hS hA [5] [0, 1, 2, 3, 4] rfl rfl (by decide) (by decide) (by decide) 0 10 rfl rfl GG.fb hG.at hl.1 rfl (Nat.le_of_ble_eq_true rfl) ⟨(Nat.le_of_ble_eq_true rfl), (Nat.le_of_ble_eq_true rfl)⟩ ⟨(Nat.le_of_ble_eq_true rfl), (Nat.le_of_ble_eq_true rfl)⟩ (fun r128 u H locs hp hP hD hS => ?_)
              have zl1 : (1 : Int32).toInt = 1 := by decide
              obtain ⟨F129, t130, t131, t132, rfl, rfl⟩ := hp
              have hP : va_P D vwCl [(h_tape, .inl (cB, 940, .inl f_tape)), (h_s, .inl (cI, 335, .inl f_s)), (h_names, .inl (cJ, 36, .inr (.inl f_names))), (h_reserved, .inl (cJ, 23, .inr (.inl f_reserved))), (h_planRead, .inl (cI, 24, .inl f_planRead)), (h0, .inr (10, vL 67 F129))] H := hP
              have hD : va_D A [(h_tape, .inl (cB, 940, .inl f_tape)), (h_s, .inl (cI, 335, .inl f_s)), (h_names, .inl (cJ, 36, .inr (.inl f_names))), (h_reserved, .inl (cJ, 23, .inr (.inl f_reserved))), (h_planRead, .inl (cI, 24, .inl f_planRead)), (h0, .inr (10, vL 67 F129))] := hD
              refine W.widen (k := 0) (n := 0) (Nat.le_of_ble_eq_true rfl) (Nat.le_of_ble_eq_true rfl) ?_
              exact ret_i (v := 0) hx hb hr hlocks hS (hP.sub (ws' := [(h0, .inr (10, vL 67 F129)), (h_tape, .inl (cB, 940, .inl f_tape)), (h_s, .inl (cI, 335, .inl f_s)), (h_names, .inl (cJ, 36, .inr (.inl f_names))), (h_reserved, .inl (cJ, 23, .inr (.inl f_reserved))), (h_planRead, .inl (cI, 24, .inl f_planRead))]) [5, 0, 1, 2, 3, 4] rfl) (hD.sub (ws' := [(h0, .inr (10, vL 67 F129)), (h_tape, .inl (cB, 940, .inl f_tape)), (h_s, .inl (cI, 335, .inl f_s)), (h_names, .inl (cJ, 36, .inr (.inl f_names))), (h_reserved, .inl (cJ, 23, .inr (.inl f_reserved))), (h_planRead, .inl (cI, 24, .inl f_planRead))]) [5, 0, 1, 2, 3, 4] (by decide) rfl) dX10_planLine_421 rfl (Nat.le_of_ble_eq_true rfl) (Nat.le_of_ble_eq_true rfl) ⟨F129, x_p, x_token, x_at, x_span, x_number, 1, x_at, x_word, x_got, x_onces, x_jumped, x_heights, f_planRead, (SAME.tr SAME.rf t130 (by decide)), (SAME.at t130 (by decide) e_p), i_x_p, (SAME.at t130 (by decide) e_token), i_x_token, (SAME.at t130 (by decide) e_at), (SAME.at t130 (by decide) e_span), (SAME.at t130 (by decide) e_number), t131, t132, (SAME.at t130 (by decide) e_word), (SAME.at t130 (by decide) e_got), (SAME.at t130 (by decide) e_onces), (SAME.at t130 (by decide) e_jumped), (SAME.at t130 (by decide) e_heights), s_planRead_1, s_planRead_10, (show 0 ≤ (0 : Int32).toInt ∧ (0 : Int32).toInt ≤ 1 by decide), (by have zl0 : (0 : Int32).toInt = 0 := (by decide); omega), (by have zl1 : (1 : Int32).toInt = 1 := (by decide); omega), rfl⟩
          · have dc29 : r25.toInt ≠ 0 := ne_i (a := r25.toInt) (b := 0) rfl rfl c29
            have k134 : 1 ≤ r25.toInt ∧ r25.toInt ≤ 1 := ⟨ne_lo dc29 t26.1 ⟨Int.le_refl _, Int.le_refl _⟩ (by decide), t26.2⟩
            refine lv_aload_n hx hb dX10_planLine_373 rfl (lv_at hl 0 rfl) ?_
            refine lv_iconst (v := 2) hx hb dX10_planLine_374 (by decide) ?_
            refine call_Vi (wr := [(h_s, .inl (cI, 335, .inl f_s)), (h_names, .inl (cJ, 36, .inr (.inl f_names))), (h_reserved, .inl (cJ, 23, .inr (.inl f_reserved))), (h_planRead, .inl (cI, 24, .inl f_planRead))]) (As := [.int 2]) (rest := []) hx hb hml hown hw (m_X10_isOnce l D cI cJ cB cP cM cZ h0 h_tape Fh x_size x_p x_limit x_token x_at x_span x_number x_fault x_faultAt x_word x_onces f_tape 2 _ e_tape e_size i_x_size e_p i_x_p e_limit i_x_limit e_token i_x_token e_at e_span e_number e_fault e_faultAt e_word e_onces (by omega)) wV_X10_239_X10_isOnce dX10_planLine_375 hK hP hD hS hA [5, 0] [1, 2, 3, 4] rfl rfl (by decide) (by decide) (by decide) 0 10 rfl rfl GG.fb hG.at hl.1 rfl (Nat.le_of_ble_eq_true rfl) ⟨(Nat.le_of_ble_eq_true rfl), (Nat.le_of_ble_eq_true rfl)⟩ ⟨(Nat.le_of_ble_eq_true rfl), (Nat.le_of_ble_eq_true rfl)⟩ (fun r135 u H locs hp hP hD hS => ?_)
            have zl2 : (2 : Int32).toInt = 2 := by decide
            refine hp.elim (fun F136 h9z => h9z.elim (fun y137 h9z => h9z.elim (fun y138 h9z => h9z.elim (fun y139 h9z => h9z.elim (fun y140 h9z => h9z.elim (fun y141 h9z => h9z.elim (fun y142 h9z => h9z.elim (fun y143 h9z => h9z.elim (fun y144 h9z => h9z.elim (fun y145 h9z => h9z.elim (fun t146 h9z => h9z.elim (fun t147 h9z => h9z.elim (fun t148 h9z => h9z.elim (fun t149 h9z => h9z.elim (fun t150 h9z => h9z.elim (fun t151 h9z => h9z.elim (fun t152 h9z => h9z.elim (fun t153 h9z => h9z.elim (fun t154 h9z => h9z.elim (fun t155 h9z => h9z.elim (fun t156 h9z => h9z.elim (fun t157 h9z => h9z.elim (fun t158 h9z => h9z.elim (fun t159 h9z => h9z.elim (fun t160 h9z => ?_)))))))))))))))))))))))))
            subst h9z
            have hP : va_P D vwCl [(h_s, .inl (cI, 335, .inl f_s)), (h_names, .inl (cJ, 36, .inr (.inl f_names))), (h_reserved, .inl (cJ, 23, .inr (.inl f_reserved))), (h_planRead, .inl (cI, 24, .inl f_planRead)), (h0, .inr (10, vL 67 F136)), (h_tape, .inl (cB, 940, .inl f_tape))] H := hP
            have hD : va_D A [(h_s, .inl (cI, 335, .inl f_s)), (h_names, .inl (cJ, 36, .inr (.inl f_names))), (h_reserved, .inl (cJ, 23, .inr (.inl f_reserved))), (h_planRead, .inl (cI, 24, .inl f_planRead)), (h0, .inr (10, vL 67 F136)), (h_tape, .inl (cB, 940, .inl f_tape))] := hD
            refine W.widen (k := 0) (n := 0) (Nat.le_of_ble_eq_true rfl) (Nat.le_of_ble_eq_true rfl) ?_
            refine lv_if_eq (tgt := 391) hx hb dX10_planLine_378 (by decide) (fun c162 => ?_) (fun c162 => ?_)
            · have dc162 : r135.toInt = 0 := eq_i (a := r135.toInt) (b := 0) rfl rfl c162
              have k163 : 0 ≤ r135.toInt ∧ r135.toInt ≤ 0 := ⟨t158.1, Int.le_trans (Int.le_of_eq dc162) (Int.le_refl _)⟩
              refine lv_iconst (v := 0) hx hb dX10_planLine_391 (by decide) ?_
              exact ret_i (v := 0) hx hb hr hlocks hS (hP.sub (ws' := [(h0, .inr (10, vL 67 F136)), (h_tape, .inl (cB, 940, .inl f_tape)), (h_s, .inl (cI, 335, .inl f_s)), (h_names, .inl (cJ, 36, .inr (.inl f_names))), (h_reserved, .inl (cJ, 23, .inr (.inl f_reserved))), (h_planRead, .inl (cI, 24, .inl f_planRead))]) [4, 5, 0, 1, 2, 3] rfl) (hD.sub (ws' := [(h0, .inr (10, vL 67 F136)), (h_tape, .inl (cB, 940, .inl f_tape)), (h_s, .inl (cI, 335, .inl f_s)), (h_names, .inl (cJ, 36, .inr (.inl f_names))), (h_reserved, .inl (cJ, 23, .inr (.inl f_reserved))), (h_planRead, .inl (cI, 24, .inl f_planRead))]) [4, 5, 0, 1, 2, 3] (by decide) rfl) dX10_planLine_392 rfl (Nat.le_of_ble_eq_true rfl) (Nat.le_of_ble_eq_true rfl) ⟨F136, y137, y138, y139, y140, y141, y142, y143, y144, x_got, y145, x_jumped, x_heights, f_planRead, (SAME.tr SAME.rf t146 (by decide)), t147, t148, t149, t150, t151, t152, t153, t154, t155, t156, (SAME.at t146 (by decide) e_got), t157, (SAME.at t146 (by decide) e_jumped), (SAME.at t146 (by decide) e_heights), s_planRead_1, s_planRead_10, (show 0 ≤ (0 : Int32).toInt ∧ (0 : Int32).toInt ≤ 1 by decide), (by have zl0 : (0 : Int32).toInt = 0 := (by decide); omega), (by omega), rfl⟩
            · have dc162 : r135.toInt ≠ 0 := ne_i (a := r135.toInt) (b := 0) rfl rfl c162
              have k164 : 1 ≤ r135.toInt ∧ r135.toInt ≤ 1 := ⟨ne_lo dc162 t158.1 ⟨Int.le_refl _, Int.le_refl _⟩ (by decide), t158.2⟩
              refine lv_aload_n hx hb dX10_planLine_381 rfl (lv_at hl 0 rfl) ?_
              refine lv_iconst (v := 1) hx hb dX10_planLine_382 (by decide) ?_
              refine lv_bipush (v := 60) hx hb dX10_planLine_383 (by decide) ?_
              have n165 : F136 1 = .ref h_tape := (SAME.at t146 (by decide) e_tape)
              have n166 : F136 3 = .int x_size := (SAME.at t146 (by decide) e_size)
              have n167 : F136 5 = .int x_limit := (SAME.at t146 (by decide) e_limit)
              have n168 : F136 19 = .int x_got := (SAME.at t146 (by decide) e_got)
              refine call_Vi (wr := [(h_s, .inl (cI, 335, .inl f_s)), (h_names, .inl (cJ, 36, .inr (.inl f_names))), (h_reserved, .inl (cJ, 23, .inr (.inl f_reserved))), (h_planRead, .inl (cI, 24, .inl f_planRead))]) (As := [.int 1, .int 60]) (rest := []) hx hb hml hown hw (m_X10_takes l D cI cJ cB cP cM cZ h0 h_tape F136 x_size y137 x_limit y138 y139 y141 y144 x_got f_tape 1 60 _ n165 n166 i_x_size t147 t148 n167 i_x_limit t149 t150 t151 t153 t156 n168 (by omega)) wV_X10_242_X10_takes dX10_planLine_385 hK hP hD hS hA [4, 5] [0, 1, 2, 3] rfl rfl (by decide) (by decide) (by decide) 0 10 rfl rfl GG.fb hG.at hl.1 rfl (Nat.le_of_ble_eq_true rfl) ⟨(Nat.le_of_ble_eq_true rfl), (Nat.le_of_ble_eq_true rfl)⟩ ⟨(Nat.le_of_ble_eq_true rfl), (Nat.le_of_ble_eq_true rfl)⟩ (fun r169 u H locs hp hP hD hS => ?_)
              have zl1 : (1 : Int32).toInt = 1 := by decide
              have zl60 : (60 : Int32).toInt = 60 := by decide
              rcases hp with hp | hp
              · obtain ⟨F170, y171, t172, t173, t174, t175, t176, rfl, rfl⟩ := hp
                have hP : va_P D vwCl [(h_s, .inl (cI, 335, .inl f_s)), (h_names, .inl (cJ, 36, .inr (.inl f_names))), (h_reserved, .inl (cJ, 23, .inr (.inl f_reserved))), (h_planRead, .inl (cI, 24, .inl f_planRead)), (h0, .inr (10, vL 67 F170)), (h_tape, .inl (cB, 940, .inl f_tape))] H := hP
                have hD : va_D A [(h_s, .inl (cI, 335, .inl f_s)), (h_names, .inl (cJ, 36, .inr (.inl f_names))), (h_reserved, .inl (cJ, 23, .inr (.inl f_reserved))), (h_planRead, .inl (cI, 24, .inl f_planRead)), (h0, .inr (10, vL 67 F170)), (h_tape, .inl (cB, 940, .inl f_tape))] := hD
                refine W.widen (k := 0) (n := 0) (Nat.le_of_ble_eq_true rfl) (Nat.le_of_ble_eq_true rfl) ?_
                refine lv_if_ne (tgt := 393) hx hb dX10_planLine_388 (by decide) (fun g => absurd (by decide) g) (fun _ => ?_)
                refine lv_iconst (v := 0) hx hb dX10_planLine_391 (by decide) ?_
                exact ret_i (v := 0) hx hb hr hlocks hS (hP.sub (ws' := [(h0, .inr (10, vL 67 F170)), (h_tape, .inl (cB, 940, .inl f_tape)), (h_s, .inl (cI, 335, .inl f_s)), (h_names, .inl (cJ, 36, .inr (.inl f_names))), (h_reserved, .inl (cJ, 23, .inr (.inl f_reserved))), (h_planRead, .inl (cI, 24, .inl f_planRead))]) [4, 5, 0, 1, 2, 3] rfl) (hD.sub (ws' := [(h0, .inr (10, vL 67 F170)), (h_tape, .inl (cB, 940, .inl f_tape)), (h_s, .inl (cI, 335, .inl f_s)), (h_names, .inl (cJ, 36, .inr (.inl f_names))), (h_reserved, .inl (cJ, 23, .inr (.inl f_reserved))), (h_planRead, .inl (cI, 24, .inl f_planRead))]) [4, 5, 0, 1, 2, 3] (by decide) rfl) dX10_planLine_392 rfl (Nat.le_of_ble_eq_true rfl) (Nat.le_of_ble_eq_true rfl) ⟨F170, y137, y138, y139, y140, y141, y171, y139, y144, x_got, y145, x_jumped, x_heights, f_planRead, (SAME.tr (SAME.tr SAME.rf t146 (by decide)) t172 (by decide)), (SAME.at t172 (by decide) t147), t148, (SAME.at t172 (by decide) t149), t150, (SAME.at t172 (by decide) t151), (SAME.at t172 (by decide) t152), (SAME.at t172 (by decide) t153), t173, t175, (SAME.at t172 (by decide) t156), (SAME.at t172 (by decide) n168), (SAME.at t172 (by decide) t157), (SAME.at t172 (by decide) (SAME.at t146 (by decide) e_jumped)), (SAME.at t172 (by decide) (SAME.at t146 (by decide) e_heights)), s_planRead_1, s_planRead_10, (show 0 ≤ (0 : Int32).toInt ∧ (0 : Int32).toInt ≤ 1 by decide), (by have zl0 : (0 : Int32).toInt = 0 := (by decide); omega), (by omega), rfl⟩
              · refine hp.elim (fun F177 h9z => h9z.elim (fun y178 h9z => h9z.elim (fun y179 h9z => h9z.elim (fun y180 h9z => h9z.elim (fun y181 h9z => h9z.elim (fun y182 h9z => h9z.elim (fun y183 h9z => h9z.elim (fun y184 h9z => h9z.elim (fun t185 h9z => h9z.elim (fun t186 h9z => h9z.elim (fun t187 h9z => h9z.elim (fun t188 h9z => h9z.elim (fun t189 h9z => h9z.elim (fun t190 h9z => h9z.elim (fun t191 h9z => h9z.elim (fun t192 h9z => h9z.elim (fun t193 h9z => h9z.elim (fun t194 h9z => h9z.elim (fun t195 h9z => h9z.elim (fun t196 h9z => h9z.elim (fun t197 h9z => h9z.elim (fun t198 h9z => h9z.elim (fun t199 h9z => h9z.elim (fun t200 h9z => h9z.elim (fun t201 h9z => h9z.elim (fun heq925 h9z => ?_))))))))))))))))))))))))))
                subst heq925
                subst h9z
                have hP : va_P D vwCl [(h_s, .inl (cI, 335, .inl f_s)), (h_names, .inl (cJ, 36, .inr (.inl f_names))), (h_reserved, .inl (cJ, 23, .inr (.inl f_reserved))), (h_planRead, .inl (cI, 24, .inl f_planRead)), (h0, .inr (10, vL 67 F177)), (h_tape, .inl (cB, 940, .inl f_tape))] H := hP
                have hD : va_D A [(h_s, .inl (cI, 335, .inl f_s)), (h_names, .inl (cJ, 36, .inr (.inl f_names))), (h_reserved, .inl (cJ, 23, .inr (.inl f_reserved))), (h_planRead, .inl (cI, 24, .inl f_planRead)), (h0, .inr (10, vL 67 F177)), (h_tape, .inl (cB, 940, .inl f_tape))] := hD
                refine W.widen (k := 0) (n := 0) (Nat.le_of_ble_eq_true rfl) (Nat.le_of_ble_eq_true rfl) ?_
                have k203 : 2 ≤ y138.toInt ∧ y138.toInt ≤ 2 := ⟨Int.le_trans (Int.le_refl _) (Int.le_of_eq t197.symm), Int.le_trans (Int.le_of_eq t197) (Int.le_refl _)⟩
                have k204 : 1 ≤ y141.toInt ∧ y141.toInt ≤ 2147483647 := ⟨Int.le_trans (Int.le_refl _) t198, (ir_any _).2⟩
                have k205 : 1 ≤ y141.toInt ∧ y141.toInt ≤ 60 := ⟨k204.1, Int.le_trans t199 (Int.le_refl _)⟩
                refine lv_if_ne (tgt := 393) hx hb dX10_planLine_388 (by decide) (fun _ => ?_) (fun g => absurd g (by decide))
                refine lv_aload_n hx hb dX10_planLine_393 rfl (lv_at hl 0 rfl) ?_
                have n206 : F136 22 = .ref h_planRead := (SAME.at t146 (by decide) e_planRead)
                have n207 : F177 22 = .ref h_planRead := (SAME.at t185 (by decide) n206)
                refine get_f (D := D) (ci := 10) (v := .ref h_planRead) (C := RX10) (T := TX10) (N := 67) hx hb hw inAX10 hown hK hP 4 rfl rfl 22 (by decide) (hw _ q_1283) (fun _ h9 => h9) n207 dX10_planLine_394 ?_
                refine lv_bipush (v := 11) hx hb dX10_planLine_397 (by decide) ?_
                refine lv_aload_n hx hb dX10_planLine_399 rfl (lv_at hl 0 rfl) ?_
                refine get_f (D := D) (ci := 10) (v := .int y184) (C := RX10) (T := TX10) (N := 67) hx hb hw inAX10 hown hK hP 4 rfl rfl 19 (by decide) (hw _ q_1280) (fun _ h9 => h9) t196 dX10_planLine_400 ?_
                obtain ⟨g208, eg208⟩ : ∃ z : Nat → Int32, upd f_planRead 11 y184 = z := ⟨_, rfl⟩
                have r209 : SG 1 4 0 11 g208 := by rw [← eg208]; exact s_planRead_1.upN (by decide)
                have r210 : SG 10 10 0 5 g208 := by rw [← eg208]; exact s_planRead_10.upN (by decide)
                refine iast_n hx hb hK hP hD hS 3 0 rfl rfl 11 rfl (Nat.le_of_ble_eq_true rfl) (Nat.le_of_ble_eq_true rfl) eg208 dX10_planLine_403 (fun H locs hP hD hS => ?_)
                have hP : va_P D vwCl [(h_s, .inl (cI, 335, .inl f_s)), (h_names, .inl (cJ, 36, .inr (.inl f_names))), (h_reserved, .inl (cJ, 23, .inr (.inl f_reserved))), (h_planRead, .inl (cI, 24, .inl g208)), (h0, .inr (10, vL 67 F177)), (h_tape, .inl (cB, 940, .inl f_tape))] H := hP
                have hD : va_D A [(h_s, .inl (cI, 335, .inl f_s)), (h_names, .inl (cJ, 36, .inr (.inl f_names))), (h_reserved, .inl (cJ, 23, .inr (.inl f_reserved))), (h_planRead, .inl (cI, 24, .inl g208)), (h0, .inr (10, vL 67 F177)), (h_tape, .inl (cB, 940, .inl f_tape))] := hD
                refine lv_iconst (v := 1) hx hb dX10_planLine_404 (by decide) ?_
                exact ret_i (v := 1) hx hb hr hlocks hS (hP.sub (ws' := [(h0, .inr (10, vL 67 F177)), (h_tape, .inl (cB, 940, .inl f_tape)), (h_s, .inl (cI, 335, .inl f_s)), (h_names, .inl (cJ, 36, .inr (.inl f_names))), (h_reserved, .inl (cJ, 23, .inr (.inl f_reserved))), (h_planRead, .inl (cI, 24, .inl g208))]) [4, 5, 0, 1, 2, 3] rfl) (hD.sub (ws' := [(h0, .inr (10, vL 67 F177)), (h_tape, .inl (cB, 940, .inl f_tape)), (h_s, .inl (cI, 335, .inl f_s)), (h_names, .inl (cJ, 36, .inr (.inl f_names))), (h_reserved, .inl (cJ, 23, .inr (.inl f_reserved))), (h_planRead, .inl (cI, 24, .inl g208))]) [4, 5, 0, 1, 2, 3] (by decide) rfl) dX10_planLine_405 rfl (Nat.le_of_ble_eq_true rfl) (Nat.le_of_ble_eq_true rfl) ⟨F177, y178, y179, y180, y181, y182, y142, y143, y183, y184, y145, x_jumped, x_heights, g208, (SAME.tr (SAME.tr SAME.rf t146 (by decide)) t185 (by decide)), t186, t187, t188, t189, t190, t192, t194, (SAME.at t185 (by decide) t154), (SAME.at t185 (by decide) t155), t195, t196, (SAME.at t185 (by decide) t157), (SAME.at t185 (by decide) (SAME.at t146 (by decide) e_jumped)), (SAME.at t185 (by decide) (SAME.at t146 (by decide) e_heights)), r209, r210, (show 0 ≤ (1 : Int32).toInt ∧ (1 : Int32).toInt ≤ 1 by decide), (by have zl1 : (1 : Int32).toInt = 1 := (by decide); omega), (by omega), rfl⟩
        · have dc23 : r19.toInt ≠ 0 := ne_i (a := r19.toInt) (b := 0) rfl rfl c23
          have k211 : 1 ≤ r19.toInt ∧ r19.toInt ≤ 1 := ⟨ne_lo dc23 t20.1 ⟨Int.le_refl _, Int.le_refl _⟩ (by decide), t20.2⟩
          refine lv_aload_n hx hb dX10_planLine_330 rfl (lv_at hl 0 rfl) ?_
          refine lv_iconst (v := 1) hx hb dX10_planLine_331 (by decide) ?_
          refine call_Vi (wr := [(h_s, .inl (cI, 335, .inl f_s)), (h_names, .inl (cJ, 36, .inr (.inl f_names))), (h_reserved, .inl (cJ, 23, .inr (.inl f_reserved))), (h_planRead, .inl (cI, 24, .inl f_planRead))]) (As := [.int 1]) (rest := []) hx hb hml hown hw (m_X10_isOnce l D cI cJ cB cP cM cZ h0 h_tape Fh x_size x_p x_limit x_token x_at x_span x_number x_fault x_faultAt x_word x_onces f_tape 1 _ e_tape e_size i_x_size e_p i_x_p e_limit i_x_limit e_token i_x_token e_at e_span e_number e_fault e_faultAt e_word e_onces (by omega)) wV_X10_239_X10_isOnce dX10_planLine_332 hK hP hD hS hA [5, 0] [1, 2, 3, 4] rfl rfl (by decide) (by decide) (by decide) 0 10 rfl rfl GG.fb hG.at hl.1 rfl (Nat.le_of_ble_eq_true rfl) ⟨(Nat.le_of_ble_eq_true rfl), (Nat.le_of_ble_eq_true rfl)⟩ ⟨(Nat.le_of_ble_eq_true rfl), (Nat.le_of_ble_eq_true rfl)⟩ (fun r212 u H locs hp hP hD hS => ?_)
          have zl1 : (1 : Int32).toInt = 1 := by decide
          refine hp.elim (fun F213 h9z => h9z.elim (fun y214 h9z => h9z.elim (fun y215 h9z => h9z.elim (fun y216 h9z => h9z.elim (fun y217 h9z => h9z.elim (fun y218 h9z => h9z.elim (fun y219 h9z => h9z.elim (fun y220 h9z => h9z.elim (fun y221 h9z => h9z.elim (fun y222 h9z => h9z.elim (fun t223 h9z => h9z.elim (fun t224 h9z => h9z.elim (fun t225 h9z => h9z.elim (fun t226 h9z => h9z.elim (fun t227 h9z => h9z.elim (fun t228 h9z => h9z.elim (fun t229 h9z => h9z.elim (fun t230 h9z => h9z.elim (fun t231 h9z => h9z.elim (fun t232 h9z => h9z.elim (fun t233 h9z => h9z.elim (fun t234 h9z => h9z.elim (fun t235 h9z => h9z.elim (fun t236 h9z => h9z.elim (fun t237 h9z => ?_)))))))))))))))))))))))))
          subst h9z
          have hP : va_P D vwCl [(h_s, .inl (cI, 335, .inl f_s)), (h_names, .inl (cJ, 36, .inr (.inl f_names))), (h_reserved, .inl (cJ, 23, .inr (.inl f_reserved))), (h_planRead, .inl (cI, 24, .inl f_planRead)), (h0, .inr (10, vL 67 F213)), (h_tape, .inl (cB, 940, .inl f_tape))] H := hP
          have hD : va_D A [(h_s, .inl (cI, 335, .inl f_s)), (h_names, .inl (cJ, 36, .inr (.inl f_names))), (h_reserved, .inl (cJ, 23, .inr (.inl f_reserved))), (h_planRead, .inl (cI, 24, .inl f_planRead)), (h0, .inr (10, vL 67 F213)), (h_tape, .inl (cB, 940, .inl f_tape))] := hD
          refine W.widen (k := 0) (n := 0) (Nat.le_of_ble_eq_true rfl) (Nat.le_of_ble_eq_true rfl) ?_
          refine lv_if_eq (tgt := 348) hx hb dX10_planLine_335 (by decide) (fun c239 => ?_) (fun c239 => ?_)
          · have dc239 : r212.toInt = 0 := eq_i (a := r212.toInt) (b := 0) rfl rfl c239
            have k240 : 0 ≤ r212.toInt ∧ r212.toInt ≤ 0 := ⟨t235.1, Int.le_trans (Int.le_of_eq dc239) (Int.le_refl _)⟩
            refine lv_iconst (v := 0) hx hb dX10_planLine_348 (by decide) ?_
            exact ret_i (v := 0) hx hb hr hlocks hS (hP.sub (ws' := [(h0, .inr (10, vL 67 F213)), (h_tape, .inl (cB, 940, .inl f_tape)), (h_s, .inl (cI, 335, .inl f_s)), (h_names, .inl (cJ, 36, .inr (.inl f_names))), (h_reserved, .inl (cJ, 23, .inr (.inl f_reserved))), (h_planRead, .inl (cI, 24, .inl f_planRead))]) [4, 5, 0, 1, 2, 3] rfl) (hD.sub (ws' := [(h0, .inr (10, vL 67 F213)), (h_tape, .inl (cB, 940, .inl f_tape)), (h_s, .inl (cI, 335, .inl f_s)), (h_names, .inl (cJ, 36, .inr (.inl f_names))), (h_reserved, .inl (cJ, 23, .inr (.inl f_reserved))), (h_planRead, .inl (cI, 24, .inl f_planRead))]) [4, 5, 0, 1, 2, 3] (by decide) rfl) dX10_planLine_349 rfl (Nat.le_of_ble_eq_true rfl) (Nat.le_of_ble_eq_true rfl) ⟨F213, y214, y215, y216, y217, y218, y219, y220, y221, x_got, y222, x_jumped, x_heights, f_planRead, (SAME.tr SAME.rf t223 (by decide)), t224, t225, t226, t227, t228, t229, t230, t231, t232, t233, (SAME.at t223 (by decide) e_got), t234, (SAME.at t223 (by decide) e_jumped), (SAME.at t223 (by decide) e_heights), s_planRead_1, s_planRead_10, (show 0 ≤ (0 : Int32).toInt ∧ (0 : Int32).toInt ≤ 1 by decide), (by have zl0 : (0 : Int32).toInt = 0 := (by decide); omega), (by omega), rfl⟩
          · have dc239 : r212.toInt ≠ 0 := ne_i (a := r212.toInt) (b := 0) rfl rfl c239
            have k241 : 1 ≤ r212.toInt ∧ r212.toInt ≤ 1 := ⟨ne_lo dc239 t235.1 ⟨Int.le_refl _, Int.le_refl _⟩ (by decide), t235.2⟩
            refine lv_aload_n hx hb dX10_planLine_338 rfl (lv_at hl 0 rfl) ?_
            refine lv_iconst (v := 0) hx hb dX10_planLine_339 (by decide) ?_
            refine lv_bipush (v := 99) hx hb dX10_planLine_340 (by decide) ?_
            have n242 : F213 1 = .ref h_tape := (SAME.at t223 (by decide) e_tape)
            have n243 : F213 3 = .int x_size := (SAME.at t223 (by decide) e_size)
            have n244 : F213 5 = .int x_limit := (SAME.at t223 (by decide) e_limit)
            have n245 : F213 19 = .int x_got := (SAME.at t223 (by decide) e_got)
            refine call_Vi (wr := [(h_s, .inl (cI, 335, .inl f_s)), (h_names, .inl (cJ, 36, .inr (.inl f_names))), (h_reserved, .inl (cJ, 23, .inr (.inl f_reserved))), (h_planRead, .inl (cI, 24, .inl f_planRead))]) (As := [.int 0, .int 99]) (rest := []) hx hb hml hown hw (m_X10_takes l D cI cJ cB cP cM cZ h0 h_tape F213 x_size y214 x_limit y215 y216 y218 y221 x_got f_tape 0 99 _ n242 n243 i_x_size t224 t225 n244 i_x_limit t226 t227 t228 t230 t233 n245 (by omega)) wV_X10_242_X10_takes dX10_planLine_342 hK hP hD hS hA [4, 5] [0, 1, 2, 3] rfl rfl (by decide) (by decide) (by decide) 0 10 rfl rfl GG.fb hG.at hl.1 rfl (Nat.le_of_ble_eq_true rfl) ⟨(Nat.le_of_ble_eq_true rfl), (Nat.le_of_ble_eq_true rfl)⟩ ⟨(Nat.le_of_ble_eq_true rfl), (Nat.le_of_ble_eq_true rfl)⟩ (fun r246 u H locs hp hP hD hS => ?_)
            have zl0 : (0 : Int32).toInt = 0 := by decide
            have zl99 : (99 : Int32).toInt = 99 := by decide
            rcases hp with hp | hp
            · obtain ⟨F247, y248, t249, t250, t251, t252, t253, rfl, rfl⟩ := hp
              have hP : va_P D vwCl [(h_s, .inl (cI, 335, .inl f_s)), (h_names, .inl (cJ, 36, .inr (.inl f_names))), (h_reserved, .inl (cJ, 23, .inr (.inl f_reserved))), (h_planRead, .inl (cI, 24, .inl f_planRead)), (h0, .inr (10, vL 67 F247)), (h_tape, .inl (cB, 940, .inl f_tape))] H := hP
              have hD : va_D A [(h_s, .inl (cI, 335, .inl f_s)), (h_names, .inl (cJ, 36, .inr (.inl f_names))), (h_reserved, .inl (cJ, 23, .inr (.inl f_reserved))), (h_planRead, .inl (cI, 24, .inl f_planRead)), (h0, .inr (10, vL 67 F247)), (h_tape, .inl (cB, 940, .inl f_tape))] := hD
              refine W.widen (k := 0) (n := 0) (Nat.le_of_ble_eq_true rfl) (Nat.le_of_ble_eq_true rfl) ?_
              refine lv_if_ne (tgt := 350) hx hb dX10_planLine_345 (by decide) (fun g => absurd (by decide) g) (fun _ => ?_)
              refine lv_iconst (v := 0) hx hb dX10_planLine_348 (by decide) ?_
              exact ret_i (v := 0) hx hb hr hlocks hS (hP.sub (ws' := [(h0, .inr (10, vL 67 F247)), (h_tape, .inl (cB, 940, .inl f_tape)), (h_s, .inl (cI, 335, .inl f_s)), (h_names, .inl (cJ, 36, .inr (.inl f_names))), (h_reserved, .inl (cJ, 23, .inr (.inl f_reserved))), (h_planRead, .inl (cI, 24, .inl f_planRead))]) [4, 5, 0, 1, 2, 3] rfl) (hD.sub (ws' := [(h0, .inr (10, vL 67 F247)), (h_tape, .inl (cB, 940, .inl f_tape)), (h_s, .inl (cI, 335, .inl f_s)), (h_names, .inl (cJ, 36, .inr (.inl f_names))), (h_reserved, .inl (cJ, 23, .inr (.inl f_reserved))), (h_planRead, .inl (cI, 24, .inl f_planRead))]) [4, 5, 0, 1, 2, 3] (by decide) rfl) dX10_planLine_349 rfl (Nat.le_of_ble_eq_true rfl) (Nat.le_of_ble_eq_true rfl) ⟨F247, y214, y215, y216, y217, y218, y248, y216, y221, x_got, y222, x_jumped, x_heights, f_planRead, (SAME.tr (SAME.tr SAME.rf t223 (by decide)) t249 (by decide)), (SAME.at t249 (by decide) t224), t225, (SAME.at t249 (by decide) t226), t227, (SAME.at t249 (by decide) t228), (SAME.at t249 (by decide) t229), (SAME.at t249 (by decide) t230), t250, t252, (SAME.at t249 (by decide) t233), (SAME.at t249 (by decide) n245), (SAME.at t249 (by decide) t234), (SAME.at t249 (by decide) (SAME.at t223 (by decide) e_jumped)), (SAME.at t249 (by decide) (SAME.at t223 (by decide) e_heights)), s_planRead_1, s_planRead_10, (show 0 ≤ (0 : Int32).toInt ∧ (0 : Int32).toInt ≤ 1 by decide), (by have zl0 : (0 : Int32).toInt = 0 := (by decide); omega), (by omega), rfl⟩
            · refine hp.elim (fun F254 h9z => h9z.elim (fun y255 h9z => h9z.elim (fun y256 h9z => h9z.elim (fun y257 h9z => h9z.elim (fun y258 h9z => h9z.elim (fun y259 h9z => h9z.elim (fun y260 h9z => h9z.elim (fun y261 h9z => h9z.elim (fun t262 h9z => h9z.elim (fun t263 h9z => h9z.elim (fun t264 h9z => h9z.elim (fun t265 h9z => h9z.elim (fun t266 h9z => h9z.elim (fun t267 h9z => h9z.elim (fun t268 h9z => h9z.elim (fun t269 h9z => h9z.elim (fun t270 h9z => h9z.elim (fun t271 h9z => h9z.elim (fun t272 h9z => h9z.elim (fun t273 h9z => h9z.elim (fun t274 h9z => h9z.elim (fun t275 h9z => h9z.elim (fun t276 h9z => h9z.elim (fun t277 h9z => h9z.elim (fun t278 h9z => h9z.elim (fun heq925 h9z => ?_))))))))))))))))))))))))))
              subst heq925
              subst h9z
              have hP : va_P D vwCl [(h_s, .inl (cI, 335, .inl f_s)), (h_names, .inl (cJ, 36, .inr (.inl f_names))), (h_reserved, .inl (cJ, 23, .inr (.inl f_reserved))), (h_planRead, .inl (cI, 24, .inl f_planRead)), (h0, .inr (10, vL 67 F254)), (h_tape, .inl (cB, 940, .inl f_tape))] H := hP
              have hD : va_D A [(h_s, .inl (cI, 335, .inl f_s)), (h_names, .inl (cJ, 36, .inr (.inl f_names))), (h_reserved, .inl (cJ, 23, .inr (.inl f_reserved))), (h_planRead, .inl (cI, 24, .inl f_planRead)), (h0, .inr (10, vL 67 F254)), (h_tape, .inl (cB, 940, .inl f_tape))] := hD
              refine W.widen (k := 0) (n := 0) (Nat.le_of_ble_eq_true rfl) (Nat.le_of_ble_eq_true rfl) ?_
              have k280 : 2 ≤ y215.toInt ∧ y215.toInt ≤ 2 := ⟨Int.le_trans (Int.le_refl _) (Int.le_of_eq t274.symm), Int.le_trans (Int.le_of_eq t274) (Int.le_refl _)⟩
              have k281 : 0 ≤ y218.toInt ∧ y218.toInt ≤ 2147483647 := ⟨Int.le_trans (Int.le_refl _) t275, (ir_any _).2⟩
              have k282 : 0 ≤ y218.toInt ∧ y218.toInt ≤ 99 := ⟨k281.1, Int.le_trans t276 (Int.le_refl _)⟩
              refine lv_if_ne (tgt := 350) hx hb dX10_planLine_345 (by decide) (fun _ => ?_) (fun g => absurd g (by decide))
              refine lv_aload_n hx hb dX10_planLine_350 rfl (lv_at hl 0 rfl) ?_
              have n283 : F213 22 = .ref h_planRead := (SAME.at t223 (by decide) e_planRead)
              have n284 : F254 22 = .ref h_planRead := (SAME.at t262 (by decide) n283)
              refine get_f (D := D) (ci := 10) (v := .ref h_planRead) (C := RX10) (T := TX10) (N := 67) hx hb hw inAX10 hown hK hP 4 rfl rfl 22 (by decide) (hw _ q_1283) (fun _ h9 => h9) n284 dX10_planLine_351 ?_
              refine lv_bipush (v := 9) hx hb dX10_planLine_354 (by decide) ?_
              refine lv_aload_n hx hb dX10_planLine_356 rfl (lv_at hl 0 rfl) ?_
              refine get_f (D := D) (ci := 10) (v := .int y261) (C := RX10) (T := TX10) (N := 67) hx hb hw inAX10 hown hK hP 4 rfl rfl 19 (by decide) (hw _ q_1280) (fun _ h9 => h9) t273 dX10_planLine_357 ?_
              obtain ⟨g285, eg285⟩ : ∃ z : Nat → Int32, upd f_planRead 9 y261 = z := ⟨_, rfl⟩
              have r286 : SG 1 4 0 11 g285 := by rw [← eg285]; exact s_planRead_1.upN (by decide)
              have r287 : SG 10 10 0 5 g285 := by rw [← eg285]; exact s_planRead_10.upN (by decide)
              refine iast_n hx hb hK hP hD hS 3 0 rfl rfl 9 rfl (Nat.le_of_ble_eq_true rfl) (Nat.le_of_ble_eq_true rfl) eg285 dX10_planLine_360 (fun H locs hP hD hS => ?_)
              have hP : va_P D vwCl [(h_s, .inl (cI, 335, .inl f_s)), (h_names, .inl (cJ, 36, .inr (.inl f_names))), (h_reserved, .inl (cJ, 23, .inr (.inl f_reserved))), (h_planRead, .inl (cI, 24, .inl g285)), (h0, .inr (10, vL 67 F254)), (h_tape, .inl (cB, 940, .inl f_tape))] H := hP
              have hD : va_D A [(h_s, .inl (cI, 335, .inl f_s)), (h_names, .inl (cJ, 36, .inr (.inl f_names))), (h_reserved, .inl (cJ, 23, .inr (.inl f_reserved))), (h_planRead, .inl (cI, 24, .inl g285)), (h0, .inr (10, vL 67 F254)), (h_tape, .inl (cB, 940, .inl f_tape))] := hD
              refine lv_iconst (v := 1) hx hb dX10_planLine_361 (by decide) ?_
              exact ret_i (v := 1) hx hb hr hlocks hS (hP.sub (ws' := [(h0, .inr (10, vL 67 F254)), (h_tape, .inl (cB, 940, .inl f_tape)), (h_s, .inl (cI, 335, .inl f_s)), (h_names, .inl (cJ, 36, .inr (.inl f_names))), (h_reserved, .inl (cJ, 23, .inr (.inl f_reserved))), (h_planRead, .inl (cI, 24, .inl g285))]) [4, 5, 0, 1, 2, 3] rfl) (hD.sub (ws' := [(h0, .inr (10, vL 67 F254)), (h_tape, .inl (cB, 940, .inl f_tape)), (h_s, .inl (cI, 335, .inl f_s)), (h_names, .inl (cJ, 36, .inr (.inl f_names))), (h_reserved, .inl (cJ, 23, .inr (.inl f_reserved))), (h_planRead, .inl (cI, 24, .inl g285))]) [4, 5, 0, 1, 2, 3] (by decide) rfl) dX10_planLine_362 rfl (Nat.le_of_ble_eq_true rfl) (Nat.le_of_ble_eq_true rfl) ⟨F254, y255, y256, y257, y258, y259, y219, y220, y260, y261, y222, x_jumped, x_heights, g285, (SAME.tr (SAME.tr SAME.rf t223 (by decide)) t262 (by decide)), t263, t264, t265, t266, t267, t269, t271, (SAME.at t262 (by decide) t231), (SAME.at t262 (by decide) t232), t272, t273, (SAME.at t262 (by decide) t234), (SAME.at t262 (by decide) (SAME.at t223 (by decide) e_jumped)), (SAME.at t262 (by decide) (SAME.at t223 (by decide) e_heights)), r286, r287, (show 0 ≤ (1 : Int32).toInt ∧ (1 : Int32).toInt ≤ 1 by decide), (by have zl1 : (1 : Int32).toInt = 1 := (by decide); omega), (by omega), rfl⟩
      · have dc17 : r13.toInt ≠ 0 := ne_i (a := r13.toInt) (b := 0) rfl rfl c17
        have k288 : 1 ≤ r13.toInt ∧ r13.toInt ≤ 1 := ⟨ne_lo dc17 t14.1 ⟨Int.le_refl _, Int.le_refl _⟩ (by decide), t14.2⟩
        refine lv_aload_n hx hb dX10_planLine_211 rfl (lv_at hl 0 rfl) ?_
        refine call_Vv (wr := [(h_s, .inl (cI, 335, .inl f_s)), (h_names, .inl (cJ, 36, .inr (.inl f_names))), (h_reserved, .inl (cJ, 23, .inr (.inl f_reserved))), (h_planRead, .inl (cI, 24, .inl f_planRead))]) (As := []) (rest := []) hx hb hml hown hw (m_X10_next l D cI cJ cB cP cM cZ h0 h_tape Fh x_size x_p x_limit x_token x_number x_word f_tape _ e_tape e_size i_x_size e_p i_x_p e_limit i_x_limit e_token i_x_token e_number e_word (by omega)) wV_X10_208_X10_next dX10_planLine_212 hK hP hD hS hA [5, 0] [1, 2, 3, 4] rfl rfl (by decide) (by decide) (by decide) 0 10 rfl rfl GG.fb hG.at hl.1 rfl (Nat.le_of_ble_eq_true rfl) ⟨(Nat.le_of_ble_eq_true rfl), (Nat.le_of_ble_eq_true rfl)⟩ ⟨(Nat.le_of_ble_eq_true rfl), (Nat.le_of_ble_eq_true rfl)⟩ (fun u H locs hp hP hD hS => ?_)
        obtain ⟨F290, y291, y292, y293, y294, y295, y296, t297, t298, t299, t300, t301, t302, t303, t304, t305, t306, t307, t308, t309, t310, rfl⟩ := hp
        have hP : va_P D vwCl [(h_s, .inl (cI, 335, .inl f_s)), (h_names, .inl (cJ, 36, .inr (.inl f_names))), (h_reserved, .inl (cJ, 23, .inr (.inl f_reserved))), (h_planRead, .inl (cI, 24, .inl f_planRead)), (h0, .inr (10, vL 67 F290)), (h_tape, .inl (cB, 940, .inl f_tape))] H := hP
        have hD : va_D A [(h_s, .inl (cI, 335, .inl f_s)), (h_names, .inl (cJ, 36, .inr (.inl f_names))), (h_reserved, .inl (cJ, 23, .inr (.inl f_reserved))), (h_planRead, .inl (cI, 24, .inl f_planRead)), (h0, .inr (10, vL 67 F290)), (h_tape, .inl (cB, 940, .inl f_tape))] := hD
        refine W.widen (k := 0) (n := 0) (Nat.le_of_ble_eq_true rfl) (Nat.le_of_ble_eq_true rfl) ?_
        refine lv_aload_n hx hb dX10_planLine_215 rfl (lv_at hl 0 rfl) ?_
        refine get_f (D := D) (ci := 10) (v := .int y292) (C := RX10) (T := TX10) (N := 67) hx hb hw inAX10 hown hK hP 4 rfl rfl 11 (by decide) (hw _ q_1272) (fun _ h9 => h9) t300 dX10_planLine_216 ?_
        refine lv_iconst (v := 2) hx hb dX10_planLine_219 (by decide) ?_
        refine lv_icmp_eq (tgt := 229) hx hb dX10_planLine_220 (by decide) (fun c312 => ?_) (fun c312 => ?_)
        · have dc312 : y292.toInt = 2 := eq_i (a := y292.toInt) (b := 2) rfl rfl c312
          have k313 : 2 ≤ y292.toInt ∧ y292.toInt ≤ 2 := ⟨Int.le_trans (Int.le_refl _) (Int.le_of_eq dc312.symm), Int.le_trans (Int.le_of_eq dc312) (Int.le_refl _)⟩
          refine lv_aload_n hx hb dX10_planLine_229 rfl (lv_at hl 0 rfl) ?_
          refine get_f (D := D) (ci := 10) (v := .int y295) (C := RX10) (T := TX10) (N := 67) hx hb hw inAX10 hown hK hP 4 rfl rfl 14 (by decide) (hw _ q_1275) (fun _ h9 => h9) t306 dX10_planLine_230 ?_
          refine lv_aload_n hx hb dX10_planLine_233 rfl (lv_at hl 0 rfl) ?_
          have n314 : F290 6 = .ref h_s := (SAME.at t297 (by decide) e_s)
          refine get_f (D := D) (ci := 10) (v := .ref h_s) (C := RX10) (T := TX10) (N := 67) hx hb hw inAX10 hown hK hP 4 rfl rfl 6 (by decide) (hw _ q_1267) (fun _ h9 => h9) n314 dX10_planLine_234 ?_
          refine lv_bipush (v := 6) hx hb dX10_planLine_237 (by decide) ?_
          refine iald_n hx hb hK hP 0 0 rfl rfl 6 rfl (Nat.le_of_ble_eq_true rfl) (Nat.le_of_ble_eq_true rfl) rfl dX10_planLine_239 ?_
          refine lv_topi (fun v315 ev315 => ?_)
          have k316 : 0 ≤ v315.toInt ∧ v315.toInt ≤ 12 := by rw [ev315]; exact s_s_6.atN 6 (by decide) (by decide)
          refine lv_icmp_lt (tgt := 249) hx hb dX10_planLine_240 (by decide) (fun c317 => ?_) (fun c317 => ?_)
          · have dc317 : y295.toInt < v315.toInt := lt_i (a := y295.toInt) (b := v315.toInt) rfl rfl c317
            have k318 : (-2147483648) ≤ y295.toInt ∧ y295.toInt ≤ 11 := ⟨(ir_any _).1, up_lt dc317 k316.2 (by decide)⟩
            refine lv_aload_n hx hb dX10_planLine_249 rfl (lv_at hl 0 rfl) ?_
            have n319 : F290 24 = .int x_heights := (SAME.at t297 (by decide) e_heights)
            refine get_f (D := D) (ci := 10) (v := .int x_heights) (C := RX10) (T := TX10) (N := 67) hx hb hw inAX10 hown hK hP 4 rfl rfl 24 (by decide) (hw _ q_1285) (fun _ h9 => h9) n319 dX10_planLine_250 ?_
            refine lv_aload_n hx hb dX10_planLine_253 rfl (lv_at hl 0 rfl) ?_
            refine get_f (D := D) (ci := 10) (v := .int y295) (C := RX10) (T := TX10) (N := 67) hx hb hw inAX10 hown hK hP 4 rfl rfl 14 (by decide) (hw _ q_1275) (fun _ h9 => h9) t306 dX10_planLine_254 ?_
            refine call_Si (wr := [(h_s, .inl (cI, 335, .inl f_s)), (h_names, .inl (cJ, 36, .inr (.inl f_names))), (h_reserved, .inl (cJ, 23, .inr (.inl f_reserved))), (h_planRead, .inl (cI, 24, .inl f_planRead)), (h0, .inr (10, vL 67 F290)), (h_tape, .inl (cB, 940, .inl f_tape))]) (As := [.int x_heights, .int y295]) (rest := []) hx hb hml hown hw (m_X10_bitOf l D cI cJ cB cP cM cZ x_heights y295 _ ) wS_X10_232_X10_bitOf dX10_planLine_257 hP hD hS hA [] [0, 1, 2, 3, 4, 5] rfl rfl (by decide) (by decide) (by decide) GG.fb hG.at hl.1 rfl (Nat.le_of_ble_eq_true rfl) ⟨(Nat.le_of_ble_eq_true rfl), (Nat.le_of_ble_eq_true rfl)⟩ ⟨(Nat.le_of_ble_eq_true rfl), (Nat.le_of_ble_eq_true rfl)⟩ (fun r320 u H locs hp hP hD hS => ?_)
            rcases hp with ⟨rfl, rfl⟩ | ⟨rfl, rfl⟩
            · have hP : va_P D vwCl [(h_s, .inl (cI, 335, .inl f_s)), (h_names, .inl (cJ, 36, .inr (.inl f_names))), (h_reserved, .inl (cJ, 23, .inr (.inl f_reserved))), (h_planRead, .inl (cI, 24, .inl f_planRead)), (h0, .inr (10, vL 67 F290)), (h_tape, .inl (cB, 940, .inl f_tape))] H := hP
              have hD : va_D A [(h_s, .inl (cI, 335, .inl f_s)), (h_names, .inl (cJ, 36, .inr (.inl f_names))), (h_reserved, .inl (cJ, 23, .inr (.inl f_reserved))), (h_planRead, .inl (cI, 24, .inl f_planRead)), (h0, .inr (10, vL 67 F290)), (h_tape, .inl (cB, 940, .inl f_tape))] := hD
              refine W.widen (k := 0) (n := 0) (Nat.le_of_ble_eq_true rfl) (Nat.le_of_ble_eq_true rfl) ?_
              refine lv_if_eq (tgt := 269) hx hb dX10_planLine_260 (by decide) (fun _ => ?_) (fun g => absurd (by decide) g)
              refine lv_aload_n hx hb dX10_planLine_269 rfl (lv_at hl 0 rfl) ?_
              refine lv_dup hx hb dX10_planLine_270 rfl ?_
              refine get_f (D := D) (ci := 10) (v := .int x_heights) (C := RX10) (T := TX10) (N := 67) hx hb hw inAX10 hown hK hP 4 rfl rfl 24 (by decide) (hw _ q_1285) (fun _ h9 => h9) n319 dX10_planLine_271 ?_
              refine lv_iconst (v := 1) hx hb dX10_planLine_274 (by decide) ?_
              refine lv_aload_n hx hb dX10_planLine_275 rfl (lv_at hl 0 rfl) ?_
              refine get_f (D := D) (ci := 10) (v := .int y295) (C := RX10) (T := TX10) (N := 67) hx hb hw inAX10 hown hK hP 4 rfl rfl 14 (by decide) (hw _ q_1275) (fun _ h9 => h9) t306 dX10_planLine_276 ?_
              refine lv_ishl hx hb dX10_planLine_279 ?_
              refine lv_topi (fun v322 ev322 => ?_)
              refine lv_ior hx hb dX10_planLine_280 ?_
              refine lv_topi (fun v323 ev323 => ?_)
              refine put_f (D := D) (ci := 10) (v := .int v323) (ty := .int) (C := RX10) (T := TX10) (N := 67) hx hb hw inAX10 tyX10 tyX10_ok nmX10 hown hK hP hD hS 4 rfl rfl 24 (by decide) (hw _ q_1285) (fun _ h9 => h9) rfl (by decide +kernel) rfl rfl dX10_planLine_281 (fun H locs F324 eF324 hP hD hS => ?_)
              have hP : va_P D vwCl [(h_s, .inl (cI, 335, .inl f_s)), (h_names, .inl (cJ, 36, .inr (.inl f_names))), (h_reserved, .inl (cJ, 23, .inr (.inl f_reserved))), (h_planRead, .inl (cI, 24, .inl f_planRead)), (h0, .inr (10, vL 67 F324)), (h_tape, .inl (cB, 940, .inl f_tape))] H := hP
              have hD : va_D A [(h_s, .inl (cI, 335, .inl f_s)), (h_names, .inl (cJ, 36, .inr (.inl f_names))), (h_reserved, .inl (cJ, 23, .inr (.inl f_reserved))), (h_planRead, .inl (cI, 24, .inl f_planRead)), (h0, .inr (10, vL 67 F324)), (h_tape, .inl (cB, 940, .inl f_tape))] := hD
              refine lv_aload_n hx hb dX10_planLine_284 rfl (lv_at hl 0 rfl) ?_
              have n325 : F324 14 = .int y295 := (get_ne eF324 (by decide) t306)
              refine get_f (D := D) (ci := 10) (v := .int y295) (C := RX10) (T := TX10) (N := 67) hx hb hw inAX10 hown hK hP 4 rfl rfl 14 (by decide) (hw _ q_1275) (fun _ h9 => h9) n325 dX10_planLine_285 ?_
              refine lv_istore_n (lv' := [(1, .int y295), (0, .ref h0)]) hx hb dX10_planLine_288 rfl hl (by decide) rfl (fun ls hl => ?_)
              refine lv_aload_n hx hb dX10_planLine_289 rfl (lv_at hl 1 rfl) ?_
              have n326 : F290 1 = .ref h_tape := (SAME.at t297 (by decide) e_tape)
              have n327 : F324 1 = .ref h_tape := (get_ne eF324 (by decide) n326)
              have n328 : F290 3 = .int x_size := (SAME.at t297 (by decide) e_size)
              have n329 : F324 3 = .int x_size := (get_ne eF324 (by decide) n328)
              have n330 : F324 4 = .int y291 := (get_ne eF324 (by decide) t298)
              have n331 : F290 5 = .int x_limit := (SAME.at t297 (by decide) e_limit)
              have n332 : F324 5 = .int x_limit := (get_ne eF324 (by decide) n331)
              have n333 : F324 11 = .int y292 := (get_ne eF324 (by decide) t300)
              have n334 : F324 18 = .long y296 := (get_ne eF324 (by decide) t307)
              refine call_Vv (wr := [(h_s, .inl (cI, 335, .inl f_s)), (h_names, .inl (cJ, 36, .inr (.inl f_names))), (h_reserved, .inl (cJ, 23, .inr (.inl f_reserved))), (h_planRead, .inl (cI, 24, .inl f_planRead))]) (As := []) (rest := []) hx hb hml hown hw (m_X10_next l D cI cJ cB cP cM cZ h0 h_tape F324 x_size y291 x_limit y292 y295 y296 f_tape _ n327 n329 i_x_size n330 t299 n332 i_x_limit n333 (ir_wk k313 (by decide) (by decide)) n325 n334 (by omega)) wV_X10_208_X10_next dX10_planLine_290 hK hP hD hS hA [4, 5] [0, 1, 2, 3] rfl rfl (by decide) (by decide) (by decide) 0 10 rfl rfl GG.fb hG.at hl.1 rfl (Nat.le_of_ble_eq_true rfl) ⟨(Nat.le_of_ble_eq_true rfl), (Nat.le_of_ble_eq_true rfl)⟩ ⟨(Nat.le_of_ble_eq_true rfl), (Nat.le_of_ble_eq_true rfl)⟩ (fun u H locs hp hP hD hS => ?_)
              obtain ⟨F336, y337, y338, y339, y340, y341, y342, t343, t344, t345, t346, t347, t348, t349, t350, t351, t352, t353, t354, t355, t356, rfl⟩ := hp
              have hP : va_P D vwCl [(h_s, .inl (cI, 335, .inl f_s)), (h_names, .inl (cJ, 36, .inr (.inl f_names))), (h_reserved, .inl (cJ, 23, .inr (.inl f_reserved))), (h_planRead, .inl (cI, 24, .inl f_planRead)), (h0, .inr (10, vL 67 F336)), (h_tape, .inl (cB, 940, .inl f_tape))] H := hP
              have hD : va_D A [(h_s, .inl (cI, 335, .inl f_s)), (h_names, .inl (cJ, 36, .inr (.inl f_names))), (h_reserved, .inl (cJ, 23, .inr (.inl f_reserved))), (h_planRead, .inl (cI, 24, .inl f_planRead)), (h0, .inr (10, vL 67 F336)), (h_tape, .inl (cB, 940, .inl f_tape))] := hD
              refine W.widen (k := 0) (n := 0) (Nat.le_of_ble_eq_true rfl) (Nat.le_of_ble_eq_true rfl) ?_
              refine lv_aload_n hx hb dX10_planLine_293 rfl (lv_at hl 1 rfl) ?_
              refine lv_iconst (v := 0) hx hb dX10_planLine_294 (by decide) ?_
              refine lv_bipush (v := 9) hx hb dX10_planLine_295 (by decide) ?_
              have n358 : F336 1 = .ref h_tape := (SAME.at t343 (by decide) n327)
              have n359 : F336 3 = .int x_size := (SAME.at t343 (by decide) n329)
              have n360 : F336 5 = .int x_limit := (SAME.at t343 (by decide) n332)
              have n361 : F290 19 = .int x_got := (SAME.at t297 (by decide) e_got)
              have n362 : F324 19 = .int x_got := (get_ne eF324 (by decide) n361)
              have n363 : F336 19 = .int x_got := (SAME.at t343 (by decide) n362)
              refine call_Vi (wr := [(h_s, .inl (cI, 335, .inl f_s)), (h_names, .inl (cJ, 36, .inr (.inl f_names))), (h_reserved, .inl (cJ, 23, .inr (.inl f_reserved))), (h_planRead, .inl (cI, 24, .inl f_planRead))]) (As := [.int 0, .int 9]) (rest := []) hx hb hml hown hw (m_X10_takes l D cI cJ cB cP cM cZ h0 h_tape F336 x_size y337 x_limit y338 y339 y341 y342 x_got f_tape 0 9 _ n358 n359 i_x_size t344 t345 n360 i_x_limit t346 t347 t348 t352 t353 n363 (by omega)) wV_X10_242_X10_takes dX10_planLine_297 hK hP hD hS hA [4, 5] [0, 1, 2, 3] rfl rfl (by decide) (by decide) (by decide) 0 10 rfl rfl GG.fb hG.at hl.1 rfl (Nat.le_of_ble_eq_true rfl) ⟨(Nat.le_of_ble_eq_true rfl), (Nat.le_of_ble_eq_true rfl)⟩ ⟨(Nat.le_of_ble_eq_true rfl), (Nat.le_of_ble_eq_true rfl)⟩ (fun r364 u H locs hp hP hD hS => ?_)
              have zl0 : (0 : Int32).toInt = 0 := by decide
              have zl9 : (9 : Int32).toInt = 9 := by decide
              rcases hp with hp | hp
              · obtain ⟨F365, y366, t367, t368, t369, t370, t371, rfl, rfl⟩ := hp
                have hP : va_P D vwCl [(h_s, .inl (cI, 335, .inl f_s)), (h_names, .inl (cJ, 36, .inr (.inl f_names))), (h_reserved, .inl (cJ, 23, .inr (.inl f_reserved))), (h_planRead, .inl (cI, 24, .inl f_planRead)), (h0, .inr (10, vL 67 F365)), (h_tape, .inl (cB, 940, .inl f_tape))] H := hP
                have hD : va_D A [(h_s, .inl (cI, 335, .inl f_s)), (h_names, .inl (cJ, 36, .inr (.inl f_names))), (h_reserved, .inl (cJ, 23, .inr (.inl f_reserved))), (h_planRead, .inl (cI, 24, .inl f_planRead)), (h0, .inr (10, vL 67 F365)), (h_tape, .inl (cB, 940, .inl f_tape))] := hD
                refine W.widen (k := 0) (n := 0) (Nat.le_of_ble_eq_true rfl) (Nat.le_of_ble_eq_true rfl) ?_
                refine lv_if_ne (tgt := 305) hx hb dX10_planLine_300 (by decide) (fun g => absurd (by decide) g) (fun _ => ?_)
                refine lv_iconst (v := 0) hx hb dX10_planLine_303 (by decide) ?_
                exact ret_i (v := 0) hx hb hr hlocks hS (hP.sub (ws' := [(h0, .inr (10, vL 67 F365)), (h_tape, .inl (cB, 940, .inl f_tape)), (h_s, .inl (cI, 335, .inl f_s)), (h_names, .inl (cJ, 36, .inr (.inl f_names))), (h_reserved, .inl (cJ, 23, .inr (.inl f_reserved))), (h_planRead, .inl (cI, 24, .inl f_planRead))]) [4, 5, 0, 1, 2, 3] rfl) (hD.sub (ws' := [(h0, .inr (10, vL 67 F365)), (h_tape, .inl (cB, 940, .inl f_tape)), (h_s, .inl (cI, 335, .inl f_s)), (h_names, .inl (cJ, 36, .inr (.inl f_names))), (h_reserved, .inl (cJ, 23, .inr (.inl f_reserved))), (h_planRead, .inl (cI, 24, .inl f_planRead))]) [4, 5, 0, 1, 2, 3] (by decide) rfl) dX10_planLine_304 rfl (Nat.le_of_ble_eq_true rfl) (Nat.le_of_ble_eq_true rfl) ⟨F365, y337, y338, y339, y340, y341, y366, y339, y342, x_got, x_onces, x_jumped, v323, f_planRead, (SAME.tr (SAME.tr (SAME.up eF324 (SAME.tr SAME.rf t297 (by decide)) (by decide)) t343 (by decide)) t367 (by decide)), (SAME.at t367 (by decide) t344), t345, (SAME.at t367 (by decide) t346), t347, (SAME.at t367 (by decide) t348), (SAME.at t367 (by decide) t350), (SAME.at t367 (by decide) t352), t368, t370, (SAME.at t367 (by decide) t353), (SAME.at t367 (by decide) n363), (SAME.at t367 (by decide) (SAME.at t343 (by decide) (get_ne eF324 (by decide) (SAME.at t297 (by decide) e_onces)))), (SAME.at t367 (by decide) (SAME.at t343 (by decide) (get_ne eF324 (by decide) (SAME.at t297 (by decide) e_jumped)))), (SAME.at t367 (by decide) (SAME.at t343 (by decide) (get_eq eF324))), s_planRead_1, s_planRead_10, (show 0 ≤ (0 : Int32).toInt ∧ (0 : Int32).toInt ≤ 1 by decide), (by have zl0 : (0 : Int32).toInt = 0 := (by decide); omega), (by omega), rfl⟩
              · refine hp.elim (fun F372 h9z => h9z.elim (fun y373 h9z => h9z.elim (fun y374 h9z => h9z.elim (fun y375 h9z => h9z.elim (fun y376 h9z => h9z.elim (fun y377 h9z => h9z.elim (fun y378 h9z => h9z.elim (fun y379 h9z => h9z.elim (fun t380 h9z => h9z.elim (fun t381 h9z => h9z.elim (fun t382 h9z => h9z.elim (fun t383 h9z => h9z.elim (fun t384 h9z => h9z.elim (fun t385 h9z => h9z.elim (fun t386 h9z => h9z.elim (fun t387 h9z => h9z.elim (fun t388 h9z => h9z.elim (fun t389 h9z => h9z.elim (fun t390 h9z => h9z.elim (fun t391 h9z => h9z.elim (fun t392 h9z => h9z.elim (fun t393 h9z => h9z.elim (fun t394 h9z => h9z.elim (fun t395 h9z => h9z.elim (fun t396 h9z => h9z.elim (fun heq925 h9z => ?_))))))))))))))))))))))))))
                subst heq925
                subst h9z
                have hP : va_P D vwCl [(h_s, .inl (cI, 335, .inl f_s)), (h_names, .inl (cJ, 36, .inr (.inl f_names))), (h_reserved, .inl (cJ, 23, .inr (.inl f_reserved))), (h_planRead, .inl (cI, 24, .inl f_planRead)), (h0, .inr (10, vL 67 F372)), (h_tape, .inl (cB, 940, .inl f_tape))] H := hP
                have hD : va_D A [(h_s, .inl (cI, 335, .inl f_s)), (h_names, .inl (cJ, 36, .inr (.inl f_names))), (h_reserved, .inl (cJ, 23, .inr (.inl f_reserved))), (h_planRead, .inl (cI, 24, .inl f_planRead)), (h0, .inr (10, vL 67 F372)), (h_tape, .inl (cB, 940, .inl f_tape))] := hD
                refine W.widen (k := 0) (n := 0) (Nat.le_of_ble_eq_true rfl) (Nat.le_of_ble_eq_true rfl) ?_
                have k398 : 2 ≤ y338.toInt ∧ y338.toInt ≤ 2 := ⟨Int.le_trans (Int.le_refl _) (Int.le_of_eq t392.symm), Int.le_trans (Int.le_of_eq t392) (Int.le_refl _)⟩
                have k399 : 0 ≤ y341.toInt ∧ y341.toInt ≤ 2147483647 := ⟨Int.le_trans (Int.le_refl _) t393, (ir_any _).2⟩
                have k400 : 0 ≤ y341.toInt ∧ y341.toInt ≤ 9 := ⟨k399.1, Int.le_trans t394 (Int.le_refl _)⟩
                refine lv_if_ne (tgt := 305) hx hb dX10_planLine_300 (by decide) (fun _ => ?_) (fun g => absurd g (by decide))
                refine lv_aload_n hx hb dX10_planLine_305 rfl (lv_at hl 1 rfl) ?_
                have n401 : F290 22 = .ref h_planRead := (SAME.at t297 (by decide) e_planRead)
                have n402 : F324 22 = .ref h_planRead := (get_ne eF324 (by decide) n401)
                have n403 : F336 22 = .ref h_planRead := (SAME.at t343 (by decide) n402)
                have n404 : F372 22 = .ref h_planRead := (SAME.at t380 (by decide) n403)
                refine get_f (D := D) (ci := 10) (v := .ref h_planRead) (C := RX10) (T := TX10) (N := 67) hx hb hw inAX10 hown hK hP 4 rfl rfl 22 (by decide) (hw _ q_1283) (fun _ h9 => h9) n404 dX10_planLine_306 ?_
                refine lv_bipush (v := 12) hx hb dX10_planLine_309 (by decide) ?_
                refine lv_iload_n hx hb dX10_planLine_311 rfl (lv_at hl 0 rfl) ?_
                refine lv_iadd hx hb dX10_planLine_312 ?_
                refine lv_topi (fun v405 ev405 => ?_)
                have bv405 : v405.toInt = 12 + y295.toInt := by rw [ev405]; exact add_k rfl rfl ⟨Int.le_refl _, Int.le_refl _⟩ k318 (by decide)
                have k406 : (-2147483636) ≤ v405.toInt ∧ v405.toInt ≤ 23 := add_r bv405 ⟨Int.le_refl _, Int.le_refl _⟩ k318 (by decide)
                refine lv_aload_n hx hb dX10_planLine_313 rfl (lv_at hl 1 rfl) ?_
                refine get_f (D := D) (ci := 10) (v := .int y379) (C := RX10) (T := TX10) (N := 67) hx hb hw inAX10 hown hK hP 4 rfl rfl 19 (by decide) (hw _ q_1280) (fun _ h9 => h9) t391 dX10_planLine_314 ?_
                obtain ⟨g407, eg407⟩ : ∃ z : Nat → Int32, upd f_planRead v405.toNatClampNeg y379 = z := ⟨_, rfl⟩
                have r408 : SG 1 4 0 11 g407 := by rw [← eg407]; exact s_planRead_1.up (by omega) (by omega)
                have r409 : SG 10 10 0 5 g407 := by rw [← eg407]; exact s_planRead_10.up (by omega) (by omega)
                refine iast_g hx hb hK hP hD hS 3 0 rfl rfl (ix_i (by omega) (by omega)) eg407 dX10_planLine_317 (fun H locs hP hD hS => ?_)
                have hP : va_P D vwCl [(h_s, .inl (cI, 335, .inl f_s)), (h_names, .inl (cJ, 36, .inr (.inl f_names))), (h_reserved, .inl (cJ, 23, .inr (.inl f_reserved))), (h_planRead, .inl (cI, 24, .inl g407)), (h0, .inr (10, vL 67 F372)), (h_tape, .inl (cB, 940, .inl f_tape))] H := hP
                have hD : va_D A [(h_s, .inl (cI, 335, .inl f_s)), (h_names, .inl (cJ, 36, .inr (.inl f_names))), (h_reserved, .inl (cJ, 23, .inr (.inl f_reserved))), (h_planRead, .inl (cI, 24, .inl g407)), (h0, .inr (10, vL 67 F372)), (h_tape, .inl (cB, 940, .inl f_tape))] := hD
                refine lv_iconst (v := 1) hx hb dX10_planLine_318 (by decide) ?_
                exact ret_i (v := 1) hx hb hr hlocks hS (hP.sub (ws' := [(h0, .inr (10, vL 67 F372)), (h_tape, .inl (cB, 940, .inl f_tape)), (h_s, .inl (cI, 335, .inl f_s)), (h_names, .inl (cJ, 36, .inr (.inl f_names))), (h_reserved, .inl (cJ, 23, .inr (.inl f_reserved))), (h_planRead, .inl (cI, 24, .inl g407))]) [4, 5, 0, 1, 2, 3] rfl) (hD.sub (ws' := [(h0, .inr (10, vL 67 F372)), (h_tape, .inl (cB, 940, .inl f_tape)), (h_s, .inl (cI, 335, .inl f_s)), (h_names, .inl (cJ, 36, .inr (.inl f_names))), (h_reserved, .inl (cJ, 23, .inr (.inl f_reserved))), (h_planRead, .inl (cI, 24, .inl g407))]) [4, 5, 0, 1, 2, 3] (by decide) rfl) dX10_planLine_319 rfl (Nat.le_of_ble_eq_true rfl) (Nat.le_of_ble_eq_true rfl) ⟨F372, y373, y374, y375, y376, y377, x_fault, x_faultAt, y378, y379, x_onces, x_jumped, v323, g407, (SAME.tr (SAME.tr (SAME.up eF324 (SAME.tr SAME.rf t297 (by decide)) (by decide)) t343 (by decide)) t380 (by decide)), t381, t382, t383, t384, t385, t387, t389, (SAME.at t380 (by decide) (SAME.at t343 (by decide) (get_ne eF324 (by decide) (SAME.at t297 (by decide) e_fault)))), (SAME.at t380 (by decide) (SAME.at t343 (by decide) (get_ne eF324 (by decide) (SAME.at t297 (by decide) e_faultAt)))), t390, t391, (SAME.at t380 (by decide) (SAME.at t343 (by decide) (get_ne eF324 (by decide) (SAME.at t297 (by decide) e_onces)))), (SAME.at t380 (by decide) (SAME.at t343 (by decide) (get_ne eF324 (by decide) (SAME.at t297 (by decide) e_jumped)))), (SAME.at t380 (by decide) (SAME.at t343 (by decide) (get_eq eF324))), r408, r409, (show 0 ≤ (1 : Int32).toInt ∧ (1 : Int32).toInt ≤ 1 by decide), (by have zl1 : (1 : Int32).toInt = 1 := (by decide); omega), (by omega), rfl⟩
            · have hP : va_P D vwCl [(h_s, .inl (cI, 335, .inl f_s)), (h_names, .inl (cJ, 36, .inr (.inl f_names))), (h_reserved, .inl (cJ, 23, .inr (.inl f_reserved))), (h_planRead, .inl (cI, 24, .inl f_planRead)), (h0, .inr (10, vL 67 F290)), (h_tape, .inl (cB, 940, .inl f_tape))] H := hP
              have hD : va_D A [(h_s, .inl (cI, 335, .inl f_s)), (h_names, .inl (cJ, 36, .inr (.inl f_names))), (h_reserved, .inl (cJ, 23, .inr (.inl f_reserved))), (h_planRead, .inl (cI, 24, .inl f_planRead)), (h0, .inr (10, vL 67 F290)), (h_tape, .inl (cB, 940, .inl f_tape))] := hD
              refine W.widen (k := 0) (n := 0) (Nat.le_of_ble_eq_true rfl) (Nat.le_of_ble_eq_true rfl) ?_
              refine lv_if_eq (tgt := 269) hx hb dX10_planLine_260 (by decide) (fun g => absurd g (by decide)) (fun _ => ?_)
              refine lv_aload_n hx hb dX10_planLine_263 rfl (lv_at hl 0 rfl) ?_
              refine lv_iconst (v := 3) hx hb dX10_planLine_264 (by decide) ?_
              refine call_Vi (wr := [(h_s, .inl (cI, 335, .inl f_s)), (h_names, .inl (cJ, 36, .inr (.inl f_names))), (h_reserved, .inl (cJ, 23, .inr (.inl f_reserved))), (h_planRead, .inl (cI, 24, .inl f_planRead)), (h_tape, .inl (cB, 940, .inl f_tape))]) (As := [.int 3]) (rest := []) hx hb hml hown hw (m_X10_bad l D cI cJ cB cP cM cZ h0 F290 y293 3 _ t302) wV_X10_205_X10_bad dX10_planLine_265 hK hP hD hS hA [4] [0, 1, 2, 3, 5] rfl rfl (by decide) (by decide) (by decide) 0 10 rfl rfl GG.fb hG.at hl.1 rfl (Nat.le_of_ble_eq_true rfl) ⟨(Nat.le_of_ble_eq_true rfl), (Nat.le_of_ble_eq_true rfl)⟩ ⟨(Nat.le_of_ble_eq_true rfl), (Nat.le_of_ble_eq_true rfl)⟩ (fun r410 u H locs hp hP hD hS => ?_)
              have zl3 : (3 : Int32).toInt = 3 := by decide
              obtain ⟨F411, t412, t413, t414, rfl, rfl⟩ := hp
              have hP : va_P D vwCl [(h_s, .inl (cI, 335, .inl f_s)), (h_names, .inl (cJ, 36, .inr (.inl f_names))), (h_reserved, .inl (cJ, 23, .inr (.inl f_reserved))), (h_planRead, .inl (cI, 24, .inl f_planRead)), (h_tape, .inl (cB, 940, .inl f_tape)), (h0, .inr (10, vL 67 F411))] H := hP
              have hD : va_D A [(h_s, .inl (cI, 335, .inl f_s)), (h_names, .inl (cJ, 36, .inr (.inl f_names))), (h_reserved, .inl (cJ, 23, .inr (.inl f_reserved))), (h_planRead, .inl (cI, 24, .inl f_planRead)), (h_tape, .inl (cB, 940, .inl f_tape)), (h0, .inr (10, vL 67 F411))] := hD
              refine W.widen (k := 0) (n := 0) (Nat.le_of_ble_eq_true rfl) (Nat.le_of_ble_eq_true rfl) ?_
              exact ret_i (v := 0) hx hb hr hlocks hS (hP.sub (ws' := [(h0, .inr (10, vL 67 F411)), (h_tape, .inl (cB, 940, .inl f_tape)), (h_s, .inl (cI, 335, .inl f_s)), (h_names, .inl (cJ, 36, .inr (.inl f_names))), (h_reserved, .inl (cJ, 23, .inr (.inl f_reserved))), (h_planRead, .inl (cI, 24, .inl f_planRead))]) [5, 4, 0, 1, 2, 3] rfl) (hD.sub (ws' := [(h0, .inr (10, vL 67 F411)), (h_tape, .inl (cB, 940, .inl f_tape)), (h_s, .inl (cI, 335, .inl f_s)), (h_names, .inl (cJ, 36, .inr (.inl f_names))), (h_reserved, .inl (cJ, 23, .inr (.inl f_reserved))), (h_planRead, .inl (cI, 24, .inl f_planRead))]) [5, 4, 0, 1, 2, 3] (by decide) rfl) dX10_planLine_268 rfl (Nat.le_of_ble_eq_true rfl) (Nat.le_of_ble_eq_true rfl) ⟨F411, y291, y292, y293, y294, y295, 3, y293, y296, x_got, x_onces, x_jumped, x_heights, f_planRead, (SAME.tr (SAME.tr SAME.rf t297 (by decide)) t412 (by decide)), (SAME.at t412 (by decide) t298), t299, (SAME.at t412 (by decide) t300), (ir_wk k313 (by decide) (by decide)), (SAME.at t412 (by decide) t302), (SAME.at t412 (by decide) t304), (SAME.at t412 (by decide) t306), t413, t414, (SAME.at t412 (by decide) t307), (SAME.at t412 (by decide) (SAME.at t297 (by decide) e_got)), (SAME.at t412 (by decide) (SAME.at t297 (by decide) e_onces)), (SAME.at t412 (by decide) (SAME.at t297 (by decide) e_jumped)), (SAME.at t412 (by decide) n319), s_planRead_1, s_planRead_10, (show 0 ≤ (0 : Int32).toInt ∧ (0 : Int32).toInt ≤ 1 by decide), (by have zl0 : (0 : Int32).toInt = 0 := (by decide); omega), (by have zl3 : (3 : Int32).toInt = 3 := (by decide); omega), rfl⟩
          · have dc317 : v315.toInt ≤ y295.toInt := nlt_i (a := y295.toInt) (b := v315.toInt) rfl rfl c317
            have k416 : 0 ≤ y295.toInt ∧ y295.toInt ≤ 2147483647 := ⟨Int.le_trans k316.1 dc317, (ir_any _).2⟩
            refine lv_aload_n hx hb dX10_planLine_243 rfl (lv_at hl 0 rfl) ?_
            refine lv_iconst (v := 2) hx hb dX10_planLine_244 (by decide) ?_
            refine call_Vi (wr := [(h_s, .inl (cI, 335, .inl f_s)), (h_names, .inl (cJ, 36, .inr (.inl f_names))), (h_reserved, .inl (cJ, 23, .inr (.inl f_reserved))), (h_planRead, .inl (cI, 24, .inl f_planRead)), (h_tape, .inl (cB, 940, .inl f_tape))]) (As := [.int 2]) (rest := []) hx hb hml hown hw (m_X10_bad l D cI cJ cB cP cM cZ h0 F290 y293 2 _ t302) wV_X10_205_X10_bad dX10_planLine_245 hK hP hD hS hA [4] [0, 1, 2, 3, 5] rfl rfl (by decide) (by decide) (by decide) 0 10 rfl rfl GG.fb hG.at hl.1 rfl (Nat.le_of_ble_eq_true rfl) ⟨(Nat.le_of_ble_eq_true rfl), (Nat.le_of_ble_eq_true rfl)⟩ ⟨(Nat.le_of_ble_eq_true rfl), (Nat.le_of_ble_eq_true rfl)⟩ (fun r417 u H locs hp hP hD hS => ?_)
            have zl2 : (2 : Int32).toInt = 2 := by decide
            obtain ⟨F418, t419, t420, t421, rfl, rfl⟩ := hp
            have hP : va_P D vwCl [(h_s, .inl (cI, 335, .inl f_s)), (h_names, .inl (cJ, 36, .inr (.inl f_names))), (h_reserved, .inl (cJ, 23, .inr (.inl f_reserved))), (h_planRead, .inl (cI, 24, .inl f_planRead)), (h_tape, .inl (cB, 940, .inl f_tape)), (h0, .inr (10, vL 67 F418))] H := hP
            have hD : va_D A [(h_s, .inl (cI, 335, .inl f_s)), (h_names, .inl (cJ, 36, .inr (.inl f_names))), (h_reserved, .inl (cJ, 23, .inr (.inl f_reserved))), (h_planRead, .inl (cI, 24, .inl f_planRead)), (h_tape, .inl (cB, 940, .inl f_tape)), (h0, .inr (10, vL 67 F418))] := hD
            refine W.widen (k := 0) (n := 0) (Nat.le_of_ble_eq_true rfl) (Nat.le_of_ble_eq_true rfl) ?_
            exact ret_i (v := 0) hx hb hr hlocks hS (hP.sub (ws' := [(h0, .inr (10, vL 67 F418)), (h_tape, .inl (cB, 940, .inl f_tape)), (h_s, .inl (cI, 335, .inl f_s)), (h_names, .inl (cJ, 36, .inr (.inl f_names))), (h_reserved, .inl (cJ, 23, .inr (.inl f_reserved))), (h_planRead, .inl (cI, 24, .inl f_planRead))]) [5, 4, 0, 1, 2, 3] rfl) (hD.sub (ws' := [(h0, .inr (10, vL 67 F418)), (h_tape, .inl (cB, 940, .inl f_tape)), (h_s, .inl (cI, 335, .inl f_s)), (h_names, .inl (cJ, 36, .inr (.inl f_names))), (h_reserved, .inl (cJ, 23, .inr (.inl f_reserved))), (h_planRead, .inl (cI, 24, .inl f_planRead))]) [5, 4, 0, 1, 2, 3] (by decide) rfl) dX10_planLine_248 rfl (Nat.le_of_ble_eq_true rfl) (Nat.le_of_ble_eq_true rfl) ⟨F418, y291, y292, y293, y294, y295, 2, y293, y296, x_got, x_onces, x_jumped, x_heights, f_planRead, (SAME.tr (SAME.tr SAME.rf t297 (by decide)) t419 (by decide)), (SAME.at t419 (by decide) t298), t299, (SAME.at t419 (by decide) t300), (ir_wk k313 (by decide) (by decide)), (SAME.at t419 (by decide) t302), (SAME.at t419 (by decide) t304), (SAME.at t419 (by decide) t306), t420, t421, (SAME.at t419 (by decide) t307), (SAME.at t419 (by decide) (SAME.at t297 (by decide) e_got)), (SAME.at t419 (by decide) (SAME.at t297 (by decide) e_onces)), (SAME.at t419 (by decide) (SAME.at t297 (by decide) e_jumped)), (SAME.at t419 (by decide) (SAME.at t297 (by decide) e_heights)), s_planRead_1, s_planRead_10, (show 0 ≤ (0 : Int32).toInt ∧ (0 : Int32).toInt ≤ 1 by decide), (by have zl0 : (0 : Int32).toInt = 0 := (by decide); omega), (by have zl2 : (2 : Int32).toInt = 2 := (by decide); omega), rfl⟩
        · have dc312 : y292.toInt ≠ 2 := ne_i (a := y292.toInt) (b := 2) rfl rfl c312
          refine lv_aload_n hx hb dX10_planLine_223 rfl (lv_at hl 0 rfl) ?_
          refine lv_iconst (v := 1) hx hb dX10_planLine_224 (by decide) ?_
          refine call_Vi (wr := [(h_s, .inl (cI, 335, .inl f_s)), (h_names, .inl (cJ, 36, .inr (.inl f_names))), (h_reserved, .inl (cJ, 23, .inr (.inl f_reserved))), (h_planRead, .inl (cI, 24, .inl f_planRead)), (h_tape, .inl (cB, 940, .inl f_tape))]) (As := [.int 1]) (rest := []) hx hb hml hown hw (m_X10_bad l D cI cJ cB cP cM cZ h0 F290 y293 1 _ t302) wV_X10_205_X10_bad dX10_planLine_225 hK hP hD hS hA [4] [0, 1, 2, 3, 5] rfl rfl (by decide) (by decide) (by decide) 0 10 rfl rfl GG.fb hG.at hl.1 rfl (Nat.le_of_ble_eq_true rfl) ⟨(Nat.le_of_ble_eq_true rfl), (Nat.le_of_ble_eq_true rfl)⟩ ⟨(Nat.le_of_ble_eq_true rfl), (Nat.le_of_ble_eq_true rfl)⟩ (fun r423 u H locs hp hP hD hS => ?_)
          have zl1 : (1 : Int32).toInt = 1 := by decide
          obtain ⟨F424, t425, t426, t427, rfl, rfl⟩ := hp
          have hP : va_P D vwCl [(h_s, .inl (cI, 335, .inl f_s)), (h_names, .inl (cJ, 36, .inr (.inl f_names))), (h_reserved, .inl (cJ, 23, .inr (.inl f_reserved))), (h_planRead, .inl (cI, 24, .inl f_planRead)), (h_tape, .inl (cB, 940, .inl f_tape)), (h0, .inr (10, vL 67 F424))] H := hP
          have hD : va_D A [(h_s, .inl (cI, 335, .inl f_s)), (h_names, .inl (cJ, 36, .inr (.inl f_names))), (h_reserved, .inl (cJ, 23, .inr (.inl f_reserved))), (h_planRead, .inl (cI, 24, .inl f_planRead)), (h_tape, .inl (cB, 940, .inl f_tape)), (h0, .inr (10, vL 67 F424))] := hD
          refine W.widen (k := 0) (n := 0) (Nat.le_of_ble_eq_true rfl) (Nat.le_of_ble_eq_true rfl) ?_
          exact ret_i (v := 0) hx hb hr hlocks hS (hP.sub (ws' := [(h0, .inr (10, vL 67 F424)), (h_tape, .inl (cB, 940, .inl f_tape)), (h_s, .inl (cI, 335, .inl f_s)), (h_names, .inl (cJ, 36, .inr (.inl f_names))), (h_reserved, .inl (cJ, 23, .inr (.inl f_reserved))), (h_planRead, .inl (cI, 24, .inl f_planRead))]) [5, 4, 0, 1, 2, 3] rfl) (hD.sub (ws' := [(h0, .inr (10, vL 67 F424)), (h_tape, .inl (cB, 940, .inl f_tape)), (h_s, .inl (cI, 335, .inl f_s)), (h_names, .inl (cJ, 36, .inr (.inl f_names))), (h_reserved, .inl (cJ, 23, .inr (.inl f_reserved))), (h_planRead, .inl (cI, 24, .inl f_planRead))]) [5, 4, 0, 1, 2, 3] (by decide) rfl) dX10_planLine_228 rfl (Nat.le_of_ble_eq_true rfl) (Nat.le_of_ble_eq_true rfl) ⟨F424, y291, y292, y293, y294, y295, 1, y293, y296, x_got, x_onces, x_jumped, x_heights, f_planRead, (SAME.tr (SAME.tr SAME.rf t297 (by decide)) t425 (by decide)), (SAME.at t425 (by decide) t298), t299, (SAME.at t425 (by decide) t300), t301, (SAME.at t425 (by decide) t302), (SAME.at t425 (by decide) t304), (SAME.at t425 (by decide) t306), t426, t427, (SAME.at t425 (by decide) t307), (SAME.at t425 (by decide) (SAME.at t297 (by decide) e_got)), (SAME.at t425 (by decide) (SAME.at t297 (by decide) e_onces)), (SAME.at t425 (by decide) (SAME.at t297 (by decide) e_jumped)), (SAME.at t425 (by decide) (SAME.at t297 (by decide) e_heights)), s_planRead_1, s_planRead_10, (show 0 ≤ (0 : Int32).toInt ∧ (0 : Int32).toInt ≤ 1 by decide), (by have zl0 : (0 : Int32).toInt = 0 := (by decide); omega), (by have zl1 : (1 : Int32).toInt = 1 := (by decide); omega), rfl⟩
    · have dc11 : r7.toInt ≠ 0 := ne_i (a := r7.toInt) (b := 0) rfl rfl c11
      have k429 : 1 ≤ r7.toInt ∧ r7.toInt ≤ 1 := ⟨ne_lo dc11 t8.1 ⟨Int.le_refl _, Int.le_refl _⟩ (by decide), t8.2⟩
      refine lv_aload_n hx hb dX10_planLine_95 rfl (lv_at hl 0 rfl) ?_
      refine call_Vv (wr := [(h_s, .inl (cI, 335, .inl f_s)), (h_names, .inl (cJ, 36, .inr (.inl f_names))), (h_reserved, .inl (cJ, 23, .inr (.inl f_reserved))), (h_planRead, .inl (cI, 24, .inl f_planRead))]) (As := []) (rest := []) hx hb hml hown hw (m_X10_next l D cI cJ cB cP cM cZ h0 h_tape Fh x_size x_p x_limit x_token x_number x_word f_tape _ e_tape e_size i_x_size e_p i_x_p e_limit i_x_limit e_token i_x_token e_number e_word (by omega)) wV_X10_208_X10_next dX10_planLine_96 hK hP hD hS hA [5, 0] [1, 2, 3, 4] rfl rfl (by decide) (by decide) (by decide) 0 10 rfl rfl GG.fb hG.at hl.1 rfl (Nat.le_of_ble_eq_true rfl) ⟨(Nat.le_of_ble_eq_true rfl), (Nat.le_of_ble_eq_true rfl)⟩ ⟨(Nat.le_of_ble_eq_true rfl), (Nat.le_of_ble_eq_true rfl)⟩ (fun u H locs hp hP hD hS => ?_)
      obtain ⟨F431, y432, y433, y434, y435, y436, y437, t438, t439, t440, t441, t442, t443, t444, t445, t446, t447, t448, t449, t450, t451, rfl⟩ := hp
      have hP : va_P D vwCl [(h_s, .inl (cI, 335, .inl f_s)), (h_names, .inl (cJ, 36, .inr (.inl f_names))), (h_reserved, .inl (cJ, 23, .inr (.inl f_reserved))), (h_planRead, .inl (cI, 24, .inl f_planRead)), (h0, .inr (10, vL 67 F431)), (h_tape, .inl (cB, 940, .inl f_tape))] H := hP
      have hD : va_D A [(h_s, .inl (cI, 335, .inl f_s)), (h_names, .inl (cJ, 36, .inr (.inl f_names))), (h_reserved, .inl (cJ, 23, .inr (.inl f_reserved))), (h_planRead, .inl (cI, 24, .inl f_planRead)), (h0, .inr (10, vL 67 F431)), (h_tape, .inl (cB, 940, .inl f_tape))] := hD
      refine W.widen (k := 0) (n := 0) (Nat.le_of_ble_eq_true rfl) (Nat.le_of_ble_eq_true rfl) ?_
      refine lv_aload_n hx hb dX10_planLine_99 rfl (lv_at hl 0 rfl) ?_
      have n453 : F431 6 = .ref h_s := (SAME.at t438 (by decide) e_s)
      have n454 : F431 9 = .ref h_names := (SAME.at t438 (by decide) e_names)
      have n455 : F431 10 = .ref h_reserved := (SAME.at t438 (by decide) e_reserved)
      have n456 : F431 15 = .int x_fault := (SAME.at t438 (by decide) e_fault)
      have n457 : F431 16 = .int x_faultAt := (SAME.at t438 (by decide) e_faultAt)
      have n458 : F431 19 = .int x_got := (SAME.at t438 (by decide) e_got)
      refine call_Vi (wr := [(h_planRead, .inl (cI, 24, .inl f_planRead)), (h_tape, .inl (cB, 940, .inl f_tape))]) (As := []) (rest := []) hx hb hml hown hw (m_X10_looksAtMan l D cI cJ cB cP cM cZ h0 h_s h_names h_reserved F431 y433 y434 y436 x_fault x_faultAt y437 x_got f_s f_names f_reserved _ n453 n454 n455 t441 t442 t443 t447 n456 n457 t448 n458 s_s_K0 s_s_0 s_s_105 s_s_114 s_s_130 s_s_139 s_s_153 s_s_44 s_s_5 s_s_6 s_s_7 (by omega)) wV_X10_266_X10_looksAtMan dX10_planLine_100 hK hP hD hS hA [4, 0, 1, 2] [3, 5] rfl rfl (by decide) (by decide) (by decide) 0 10 rfl rfl GG.fb hG.at hl.1 rfl (Nat.le_of_ble_eq_true rfl) ⟨(Nat.le_of_ble_eq_true rfl), (Nat.le_of_ble_eq_true rfl)⟩ ⟨(Nat.le_of_ble_eq_true rfl), (Nat.le_of_ble_eq_true rfl)⟩ (fun r459 u H locs hp hP hD hS => ?_)
      obtain ⟨F460, y461, y462, y463, t464, t465, t466, t467, t468, rfl⟩ := hp
      have hP : va_P D vwCl [(h_planRead, .inl (cI, 24, .inl f_planRead)), (h_tape, .inl (cB, 940, .inl f_tape)), (h0, .inr (10, vL 67 F460)), (h_s, .inl (cI, 335, .inl f_s)), (h_names, .inl (cJ, 36, .inr (.inl f_names))), (h_reserved, .inl (cJ, 23, .inr (.inl f_reserved)))] H := hP
      have hD : va_D A [(h_planRead, .inl (cI, 24, .inl f_planRead)), (h_tape, .inl (cB, 940, .inl f_tape)), (h0, .inr (10, vL 67 F460)), (h_s, .inl (cI, 335, .inl f_s)), (h_names, .inl (cJ, 36, .inr (.inl f_names))), (h_reserved, .inl (cJ, 23, .inr (.inl f_reserved)))] := hD
      refine W.widen (k := 0) (n := 0) (Nat.le_of_ble_eq_true rfl) (Nat.le_of_ble_eq_true rfl) ?_
      refine lv_if_ne (tgt := 108) hx hb dX10_planLine_103 (by decide) (fun c470 => ?_) (fun c470 => ?_)
      · have dc470 : r459.toInt ≠ 0 := ne_i (a := r459.toInt) (b := 0) rfl rfl c470
        have k471 : 1 ≤ r459.toInt ∧ r459.toInt ≤ 1 := ⟨ne_lo dc470 t468.1 ⟨Int.le_refl _, Int.le_refl _⟩ (by decide), t468.2⟩
        refine lv_aload_n hx hb dX10_planLine_108 rfl (lv_at hl 0 rfl) ?_
        have n472 : F431 22 = .ref h_planRead := (SAME.at t438 (by decide) e_planRead)
        have n473 : F460 22 = .ref h_planRead := (SAME.at t464 (by decide) n472)
        refine get_f (D := D) (ci := 10) (v := .ref h_planRead) (C := RX10) (T := TX10) (N := 67) hx hb hw inAX10 hown hK hP 2 rfl rfl 22 (by decide) (hw _ q_1283) (fun _ h9 => h9) n473 dX10_planLine_109 ?_
        refine lv_iconst (v := 0) hx hb dX10_planLine_112 (by decide) ?_
        refine iald_n hx hb hK hP 0 0 rfl rfl 0 rfl (Nat.le_of_ble_eq_true rfl) (Nat.le_of_ble_eq_true rfl) rfl dX10_planLine_113 ?_
        refine lv_topi (fun v474 ev474 => ?_)
        refine lv_iconst (v := 1) hx hb dX10_planLine_114 (by decide) ?_
        refine lv_icmp_ne (tgt := 130) hx hb dX10_planLine_115 (by decide) (fun c475 => ?_) (fun c475 => ?_)
        · have dc475 : v474.toInt ≠ 1 := ne_i (a := v474.toInt) (b := 1) rfl rfl c475
          refine lv_iconst (v := (-1)) hx hb dX10_planLine_130 (by decide) ?_
          refine lv_istore_n (lv' := [(1, .int (-1)), (0, .ref h0)]) hx hb dX10_planLine_131 rfl hl (by decide) rfl (fun ls hl => ?_)
          refine lv_iload_n hx hb dX10_planLine_132 rfl (lv_at hl 0 rfl) ?_
          refine lv_if_lt (tgt := 147) hx hb dX10_planLine_133 (by decide) (fun _ => ?_) (fun g => absurd (by decide) g)
          refine lv_aload_n hx hb dX10_planLine_147 rfl (lv_at hl 1 rfl) ?_
          refine lv_iconst (v := 3) hx hb dX10_planLine_148 (by decide) ?_
          have n476 : F460 12 = .int y434 := (SAME.at t464 (by decide) t443)
          refine call_Vi (wr := [(h_planRead, .inl (cI, 24, .inl f_planRead)), (h_tape, .inl (cB, 940, .inl f_tape)), (h_s, .inl (cI, 335, .inl f_s)), (h_names, .inl (cJ, 36, .inr (.inl f_names))), (h_reserved, .inl (cJ, 23, .inr (.inl f_reserved)))]) (As := [.int 3]) (rest := []) hx hb hml hown hw (m_X10_bad l D cI cJ cB cP cM cZ h0 F460 y434 3 _ n476) wV_X10_205_X10_bad dX10_planLine_149 hK hP hD hS hA [2] [0, 1, 3, 4, 5] rfl rfl (by decide) (by decide) (by decide) 0 10 rfl rfl GG.fb hG.at hl.1 rfl (Nat.le_of_ble_eq_true rfl) ⟨(Nat.le_of_ble_eq_true rfl), (Nat.le_of_ble_eq_true rfl)⟩ ⟨(Nat.le_of_ble_eq_true rfl), (Nat.le_of_ble_eq_true rfl)⟩ (fun r477 u H locs hp hP hD hS => ?_)
          have zl3 : (3 : Int32).toInt = 3 := by decide
          obtain ⟨F478, t479, t480, t481, rfl, rfl⟩ := hp
          have hP : va_P D vwCl [(h_planRead, .inl (cI, 24, .inl f_planRead)), (h_tape, .inl (cB, 940, .inl f_tape)), (h_s, .inl (cI, 335, .inl f_s)), (h_names, .inl (cJ, 36, .inr (.inl f_names))), (h_reserved, .inl (cJ, 23, .inr (.inl f_reserved))), (h0, .inr (10, vL 67 F478))] H := hP
          have hD : va_D A [(h_planRead, .inl (cI, 24, .inl f_planRead)), (h_tape, .inl (cB, 940, .inl f_tape)), (h_s, .inl (cI, 335, .inl f_s)), (h_names, .inl (cJ, 36, .inr (.inl f_names))), (h_reserved, .inl (cJ, 23, .inr (.inl f_reserved))), (h0, .inr (10, vL 67 F478))] := hD
          refine W.widen (k := 0) (n := 0) (Nat.le_of_ble_eq_true rfl) (Nat.le_of_ble_eq_true rfl) ?_
          exact ret_i (v := 0) hx hb hr hlocks hS (hP.sub (ws' := [(h0, .inr (10, vL 67 F478)), (h_tape, .inl (cB, 940, .inl f_tape)), (h_s, .inl (cI, 335, .inl f_s)), (h_names, .inl (cJ, 36, .inr (.inl f_names))), (h_reserved, .inl (cJ, 23, .inr (.inl f_reserved))), (h_planRead, .inl (cI, 24, .inl f_planRead))]) [5, 1, 2, 3, 4, 0] rfl) (hD.sub (ws' := [(h0, .inr (10, vL 67 F478)), (h_tape, .inl (cB, 940, .inl f_tape)), (h_s, .inl (cI, 335, .inl f_s)), (h_names, .inl (cJ, 36, .inr (.inl f_names))), (h_reserved, .inl (cJ, 23, .inr (.inl f_reserved))), (h_planRead, .inl (cI, 24, .inl f_planRead))]) [5, 1, 2, 3, 4, 0] (by decide) rfl) dX10_planLine_152 rfl (Nat.le_of_ble_eq_true rfl) (Nat.le_of_ble_eq_true rfl) ⟨F478, y432, y433, y434, y435, y436, 3, y434, y437, y463, x_onces, x_jumped, x_heights, f_planRead, (SAME.tr (SAME.tr (SAME.tr SAME.rf t438 (by decide)) t464 (by decide)) t479 (by decide)), (SAME.at t479 (by decide) (SAME.at t464 (by decide) t439)), t440, (SAME.at t479 (by decide) (SAME.at t464 (by decide) t441)), t442, (SAME.at t479 (by decide) n476), (SAME.at t479 (by decide) (SAME.at t464 (by decide) t445)), (SAME.at t479 (by decide) (SAME.at t464 (by decide) t447)), t480, t481, (SAME.at t479 (by decide) (SAME.at t464 (by decide) t448)), (SAME.at t479 (by decide) t467), (SAME.at t479 (by decide) (SAME.at t464 (by decide) (SAME.at t438 (by decide) e_onces))), (SAME.at t479 (by decide) (SAME.at t464 (by decide) (SAME.at t438 (by decide) e_jumped))), (SAME.at t479 (by decide) (SAME.at t464 (by decide) (SAME.at t438 (by decide) e_heights))), s_planRead_1, s_planRead_10, (show 0 ≤ (0 : Int32).toInt ∧ (0 : Int32).toInt ≤ 1 by decide), (by have zl0 : (0 : Int32).toInt = 0 := (by decide); omega), (by have zl3 : (3 : Int32).toInt = 3 := (by decide); omega), rfl⟩
        · have dc475 : v474.toInt = 1 := eq_i (a := v474.toInt) (b := 1) rfl rfl c475
          have k483 : 1 ≤ v474.toInt ∧ v474.toInt ≤ 1 := ⟨Int.le_trans (Int.le_refl _) (Int.le_of_eq dc475.symm), Int.le_trans (Int.le_of_eq dc475) (Int.le_refl _)⟩
          refine lv_aload_n hx hb dX10_planLine_118 rfl (lv_at hl 0 rfl) ?_
          refine lv_aload_n hx hb dX10_planLine_119 rfl (lv_at hl 0 rfl) ?_
          refine get_f (D := D) (ci := 10) (v := .int y463) (C := RX10) (T := TX10) (N := 67) hx hb hw inAX10 hown hK hP 2 rfl rfl 19 (by decide) (hw _ q_1280) (fun _ h9 => h9) t467 dX10_planLine_120 ?_
          refine lv_iconst (v := 4) hx hb dX10_planLine_123 (by decide) ?_
          refine call_Vi (wr := [(h_tape, .inl (cB, 940, .inl f_tape)), (h_s, .inl (cI, 335, .inl f_s)), (h_names, .inl (cJ, 36, .inr (.inl f_names))), (h_reserved, .inl (cJ, 23, .inr (.inl f_reserved)))]) (As := [.int y463, .int 4]) (rest := []) hx hb hml hown hw (m_X10_placeIn l D cI cJ cB cP cM cZ h0 h_planRead F460 f_planRead y463 4 _ n473 s_planRead_1 s_planRead_10 (show 0 ≤ (4 : Int32).toInt ∧ (4 : Int32).toInt ≤ 4 by decide)) wV_X10_269_X10_placeIn dX10_planLine_124 hK hP hD hS hA [2, 0] [1, 3, 4, 5] rfl rfl (by decide) (by decide) (by decide) 0 10 rfl rfl GG.fb hG.at hl.1 rfl (Nat.le_of_ble_eq_true rfl) ⟨(Nat.le_of_ble_eq_true rfl), (Nat.le_of_ble_eq_true rfl)⟩ ⟨(Nat.le_of_ble_eq_true rfl), (Nat.le_of_ble_eq_true rfl)⟩ (fun r484 u H locs hp hP hD hS => ?_)
          have zl4 : (4 : Int32).toInt = 4 := by decide
          obtain ⟨t485, rfl⟩ := hp
          have hP : va_P D vwCl [(h_tape, .inl (cB, 940, .inl f_tape)), (h_s, .inl (cI, 335, .inl f_s)), (h_names, .inl (cJ, 36, .inr (.inl f_names))), (h_reserved, .inl (cJ, 23, .inr (.inl f_reserved))), (h0, .inr (10, vL 67 F460)), (h_planRead, .inl (cI, 24, .inl f_planRead))] H := hP
          have hD : va_D A [(h_tape, .inl (cB, 940, .inl f_tape)), (h_s, .inl (cI, 335, .inl f_s)), (h_names, .inl (cJ, 36, .inr (.inl f_names))), (h_reserved, .inl (cJ, 23, .inr (.inl f_reserved))), (h0, .inr (10, vL 67 F460)), (h_planRead, .inl (cI, 24, .inl f_planRead))] := hD
          refine W.widen (k := 0) (n := 0) (Nat.le_of_ble_eq_true rfl) (Nat.le_of_ble_eq_true rfl) ?_
          refine lv_goto (tgt := 131) hx hb dX10_planLine_127 (by decide) ?_
          refine lv_istore_n (lv' := [(1, .int r484), (0, .ref h0)]) hx hb dX10_planLine_131 rfl hl (by decide) rfl (fun ls hl => ?_)
          refine lv_iload_n hx hb dX10_planLine_132 rfl (lv_at hl 0 rfl) ?_
          refine lv_if_lt (tgt := 147) hx hb dX10_planLine_133 (by decide) (fun c487 => ?_) (fun c487 => ?_)
          · have dc487 : r484.toInt < 0 := lt_i (a := r484.toInt) (b := 0) rfl rfl c487
            have k488 : (-1) ≤ r484.toInt ∧ r484.toInt ≤ (-1) := ⟨t485.1, up_lt dc487 (Int.le_refl _) (by decide)⟩
            refine lv_aload_n hx hb dX10_planLine_147 rfl (lv_at hl 1 rfl) ?_
            refine lv_iconst (v := 3) hx hb dX10_planLine_148 (by decide) ?_
            have n489 : F460 12 = .int y434 := (SAME.at t464 (by decide) t443)
            refine call_Vi (wr := [(h_tape, .inl (cB, 940, .inl f_tape)), (h_s, .inl (cI, 335, .inl f_s)), (h_names, .inl (cJ, 36, .inr (.inl f_names))), (h_reserved, .inl (cJ, 23, .inr (.inl f_reserved))), (h_planRead, .inl (cI, 24, .inl f_planRead))]) (As := [.int 3]) (rest := []) hx hb hml hown hw (m_X10_bad l D cI cJ cB cP cM cZ h0 F460 y434 3 _ n489) wV_X10_205_X10_bad dX10_planLine_149 hK hP hD hS hA [4] [0, 1, 2, 3, 5] rfl rfl (by decide) (by decide) (by decide) 0 10 rfl rfl GG.fb hG.at hl.1 rfl (Nat.le_of_ble_eq_true rfl) ⟨(Nat.le_of_ble_eq_true rfl), (Nat.le_of_ble_eq_true rfl)⟩ ⟨(Nat.le_of_ble_eq_true rfl), (Nat.le_of_ble_eq_true rfl)⟩ (fun r490 u H locs hp hP hD hS => ?_)
            have zl3 : (3 : Int32).toInt = 3 := by decide
            obtain ⟨F491, t492, t493, t494, rfl, rfl⟩ := hp
            have hP : va_P D vwCl [(h_tape, .inl (cB, 940, .inl f_tape)), (h_s, .inl (cI, 335, .inl f_s)), (h_names, .inl (cJ, 36, .inr (.inl f_names))), (h_reserved, .inl (cJ, 23, .inr (.inl f_reserved))), (h_planRead, .inl (cI, 24, .inl f_planRead)), (h0, .inr (10, vL 67 F491))] H := hP
            have hD : va_D A [(h_tape, .inl (cB, 940, .inl f_tape)), (h_s, .inl (cI, 335, .inl f_s)), (h_names, .inl (cJ, 36, .inr (.inl f_names))), (h_reserved, .inl (cJ, 23, .inr (.inl f_reserved))), (h_planRead, .inl (cI, 24, .inl f_planRead)), (h0, .inr (10, vL 67 F491))] := hD
            refine W.widen (k := 0) (n := 0) (Nat.le_of_ble_eq_true rfl) (Nat.le_of_ble_eq_true rfl) ?_
            exact ret_i (v := 0) hx hb hr hlocks hS (hP.sub (ws' := [(h0, .inr (10, vL 67 F491)), (h_tape, .inl (cB, 940, .inl f_tape)), (h_s, .inl (cI, 335, .inl f_s)), (h_names, .inl (cJ, 36, .inr (.inl f_names))), (h_reserved, .inl (cJ, 23, .inr (.inl f_reserved))), (h_planRead, .inl (cI, 24, .inl f_planRead))]) [5, 0, 1, 2, 3, 4] rfl) (hD.sub (ws' := [(h0, .inr (10, vL 67 F491)), (h_tape, .inl (cB, 940, .inl f_tape)), (h_s, .inl (cI, 335, .inl f_s)), (h_names, .inl (cJ, 36, .inr (.inl f_names))), (h_reserved, .inl (cJ, 23, .inr (.inl f_reserved))), (h_planRead, .inl (cI, 24, .inl f_planRead))]) [5, 0, 1, 2, 3, 4] (by decide) rfl) dX10_planLine_152 rfl (Nat.le_of_ble_eq_true rfl) (Nat.le_of_ble_eq_true rfl) ⟨F491, y432, y433, y434, y435, y436, 3, y434, y437, y463, x_onces, x_jumped, x_heights, f_planRead, (SAME.tr (SAME.tr (SAME.tr SAME.rf t438 (by decide)) t464 (by decide)) t492 (by decide)), (SAME.at t492 (by decide) (SAME.at t464 (by decide) t439)), t440, (SAME.at t492 (by decide) (SAME.at t464 (by decide) t441)), t442, (SAME.at t492 (by decide) n489), (SAME.at t492 (by decide) (SAME.at t464 (by decide) t445)), (SAME.at t492 (by decide) (SAME.at t464 (by decide) t447)), t493, t494, (SAME.at t492 (by decide) (SAME.at t464 (by decide) t448)), (SAME.at t492 (by decide) t467), (SAME.at t492 (by decide) (SAME.at t464 (by decide) (SAME.at t438 (by decide) e_onces))), (SAME.at t492 (by decide) (SAME.at t464 (by decide) (SAME.at t438 (by decide) e_jumped))), (SAME.at t492 (by decide) (SAME.at t464 (by decide) (SAME.at t438 (by decide) e_heights))), s_planRead_1, s_planRead_10, (show 0 ≤ (0 : Int32).toInt ∧ (0 : Int32).toInt ≤ 1 by decide), (by have zl0 : (0 : Int32).toInt = 0 := (by decide); omega), (by have zl3 : (3 : Int32).toInt = 3 := (by decide); omega), rfl⟩
          · have dc487 : 0 ≤ r484.toInt := nlt_i (a := r484.toInt) (b := 0) rfl rfl c487
            have k496 : 0 ≤ r484.toInt ∧ r484.toInt ≤ 3 := ⟨Int.le_trans (Int.le_refl _) dc487, t485.2⟩
            refine lv_aload_n hx hb dX10_planLine_136 rfl (lv_at hl 1 rfl) ?_
            have n497 : F431 23 = .int x_jumped := (SAME.at t438 (by decide) e_jumped)
            have n498 : F460 23 = .int x_jumped := (SAME.at t464 (by decide) n497)
            refine get_f (D := D) (ci := 10) (v := .int x_jumped) (C := RX10) (T := TX10) (N := 67) hx hb hw inAX10 hown hK hP 4 rfl rfl 23 (by decide) (hw _ q_1284) (fun _ h9 => h9) n498 dX10_planLine_137 ?_
            refine lv_iload_n hx hb dX10_planLine_140 rfl (lv_at hl 0 rfl) ?_
            refine call_Si (wr := [(h_tape, .inl (cB, 940, .inl f_tape)), (h_s, .inl (cI, 335, .inl f_s)), (h_names, .inl (cJ, 36, .inr (.inl f_names))), (h_reserved, .inl (cJ, 23, .inr (.inl f_reserved))), (h0, .inr (10, vL 67 F460)), (h_planRead, .inl (cI, 24, .inl f_planRead))]) (As := [.int x_jumped, .int r484]) (rest := []) hx hb hml hown hw (m_X10_bitOf l D cI cJ cB cP cM cZ x_jumped r484 _ ) wS_X10_232_X10_bitOf dX10_planLine_141 hP hD hS hA [] [0, 1, 2, 3, 4, 5] rfl rfl (by decide) (by decide) (by decide) GG.fb hG.at hl.1 rfl (Nat.le_of_ble_eq_true rfl) ⟨(Nat.le_of_ble_eq_true rfl), (Nat.le_of_ble_eq_true rfl)⟩ ⟨(Nat.le_of_ble_eq_true rfl), (Nat.le_of_ble_eq_true rfl)⟩ (fun r499 u H locs hp hP hD hS => ?_)
            rcases hp with ⟨rfl, rfl⟩ | ⟨rfl, rfl⟩
            · have hP : va_P D vwCl [(h_tape, .inl (cB, 940, .inl f_tape)), (h_s, .inl (cI, 335, .inl f_s)), (h_names, .inl (cJ, 36, .inr (.inl f_names))), (h_reserved, .inl (cJ, 23, .inr (.inl f_reserved))), (h0, .inr (10, vL 67 F460)), (h_planRead, .inl (cI, 24, .inl f_planRead))] H := hP
              have hD : va_D A [(h_tape, .inl (cB, 940, .inl f_tape)), (h_s, .inl (cI, 335, .inl f_s)), (h_names, .inl (cJ, 36, .inr (.inl f_names))), (h_reserved, .inl (cJ, 23, .inr (.inl f_reserved))), (h0, .inr (10, vL 67 F460)), (h_planRead, .inl (cI, 24, .inl f_planRead))] := hD
              refine W.widen (k := 0) (n := 0) (Nat.le_of_ble_eq_true rfl) (Nat.le_of_ble_eq_true rfl) ?_
              refine lv_if_eq (tgt := 153) hx hb dX10_planLine_144 (by decide) (fun _ => ?_) (fun g => absurd (by decide) g)
              refine lv_aload_n hx hb dX10_planLine_153 rfl (lv_at hl 1 rfl) ?_
              refine lv_dup hx hb dX10_planLine_154 rfl ?_
              refine get_f (D := D) (ci := 10) (v := .int x_jumped) (C := RX10) (T := TX10) (N := 67) hx hb hw inAX10 hown hK hP 4 rfl rfl 23 (by decide) (hw _ q_1284) (fun _ h9 => h9) n498 dX10_planLine_155 ?_
              refine lv_iconst (v := 1) hx hb dX10_planLine_158 (by decide) ?_
              refine lv_iload_n hx hb dX10_planLine_159 rfl (lv_at hl 0 rfl) ?_
              refine lv_ishl hx hb dX10_planLine_160 ?_
              refine lv_topi (fun v501 ev501 => ?_)
              have k502 : 1 ≤ v501.toInt ∧ v501.toInt ≤ 8 := by rw [ev501]; exact shl1_i (Int.le_trans (by decide) k496.1) (Int.le_trans k496.2 (by decide))
              refine lv_ior hx hb dX10_planLine_161 ?_
              refine lv_topi (fun v503 ev503 => ?_)
              refine put_f (D := D) (ci := 10) (v := .int v503) (ty := .int) (C := RX10) (T := TX10) (N := 67) hx hb hw inAX10 tyX10 tyX10_ok nmX10 hown hK hP hD hS 4 rfl rfl 23 (by decide) (hw _ q_1284) (fun _ h9 => h9) rfl (by decide +kernel) rfl rfl dX10_planLine_162 (fun H locs F504 eF504 hP hD hS => ?_)
              have hP : va_P D vwCl [(h_tape, .inl (cB, 940, .inl f_tape)), (h_s, .inl (cI, 335, .inl f_s)), (h_names, .inl (cJ, 36, .inr (.inl f_names))), (h_reserved, .inl (cJ, 23, .inr (.inl f_reserved))), (h0, .inr (10, vL 67 F504)), (h_planRead, .inl (cI, 24, .inl f_planRead))] H := hP
              have hD : va_D A [(h_tape, .inl (cB, 940, .inl f_tape)), (h_s, .inl (cI, 335, .inl f_s)), (h_names, .inl (cJ, 36, .inr (.inl f_names))), (h_reserved, .inl (cJ, 23, .inr (.inl f_reserved))), (h0, .inr (10, vL 67 F504)), (h_planRead, .inl (cI, 24, .inl f_planRead))] := hD
              refine lv_aload_n hx hb dX10_planLine_165 rfl (lv_at hl 1 rfl) ?_
              have n505 : F431 1 = .ref h_tape := (SAME.at t438 (by decide) e_tape)
              have n506 : F460 1 = .ref h_tape := (SAME.at t464 (by decide) n505)
              have n507 : F504 1 = .ref h_tape := (get_ne eF504 (by decide) n506)
              have n508 : F431 3 = .int x_size := (SAME.at t438 (by decide) e_size)
              have n509 : F460 3 = .int x_size := (SAME.at t464 (by decide) n508)
              have n510 : F504 3 = .int x_size := (get_ne eF504 (by decide) n509)
              have n511 : F460 4 = .int y432 := (SAME.at t464 (by decide) t439)
              have n512 : F504 4 = .int y432 := (get_ne eF504 (by decide) n511)
              have n513 : F431 5 = .int x_limit := (SAME.at t438 (by decide) e_limit)
              have n514 : F460 5 = .int x_limit := (SAME.at t464 (by decide) n513)
              have n515 : F504 5 = .int x_limit := (get_ne eF504 (by decide) n514)
              have n516 : F460 11 = .int y433 := (SAME.at t464 (by decide) t441)
              have n517 : F504 11 = .int y433 := (get_ne eF504 (by decide) n516)
              have n518 : F460 14 = .int y436 := (SAME.at t464 (by decide) t447)
              have n519 : F504 14 = .int y436 := (get_ne eF504 (by decide) n518)
              have n520 : F460 18 = .long y437 := (SAME.at t464 (by decide) t448)
              have n521 : F504 18 = .long y437 := (get_ne eF504 (by decide) n520)
              refine call_Vv (wr := [(h_s, .inl (cI, 335, .inl f_s)), (h_names, .inl (cJ, 36, .inr (.inl f_names))), (h_reserved, .inl (cJ, 23, .inr (.inl f_reserved))), (h_planRead, .inl (cI, 24, .inl f_planRead))]) (As := []) (rest := []) hx hb hml hown hw (m_X10_next l D cI cJ cB cP cM cZ h0 h_tape F504 x_size y432 x_limit y433 y436 y437 f_tape _ n507 n510 i_x_size n512 t440 n515 i_x_limit n517 t442 n519 n521 (by omega)) wV_X10_208_X10_next dX10_planLine_166 hK hP hD hS hA [4, 0] [1, 2, 3, 5] rfl rfl (by decide) (by decide) (by decide) 0 10 rfl rfl GG.fb hG.at hl.1 rfl (Nat.le_of_ble_eq_true rfl) ⟨(Nat.le_of_ble_eq_true rfl), (Nat.le_of_ble_eq_true rfl)⟩ ⟨(Nat.le_of_ble_eq_true rfl), (Nat.le_of_ble_eq_true rfl)⟩ (fun u H locs hp hP hD hS => ?_)
              obtain ⟨F523, y524, y525, y526, y527, y528, y529, t530, t531, t532, t533, t534, t535, t536, t537, t538, t539, t540, t541, t542, t543, rfl⟩ := hp
              have hP : va_P D vwCl [(h_s, .inl (cI, 335, .inl f_s)), (h_names, .inl (cJ, 36, .inr (.inl f_names))), (h_reserved, .inl (cJ, 23, .inr (.inl f_reserved))), (h_planRead, .inl (cI, 24, .inl f_planRead)), (h0, .inr (10, vL 67 F523)), (h_tape, .inl (cB, 940, .inl f_tape))] H := hP
              have hD : va_D A [(h_s, .inl (cI, 335, .inl f_s)), (h_names, .inl (cJ, 36, .inr (.inl f_names))), (h_reserved, .inl (cJ, 23, .inr (.inl f_reserved))), (h_planRead, .inl (cI, 24, .inl f_planRead)), (h0, .inr (10, vL 67 F523)), (h_tape, .inl (cB, 940, .inl f_tape))] := hD
              refine W.widen (k := 0) (n := 0) (Nat.le_of_ble_eq_true rfl) (Nat.le_of_ble_eq_true rfl) ?_
              refine lv_aload_n hx hb dX10_planLine_169 rfl (lv_at hl 1 rfl) ?_
              refine lv_iconst (v := 0) hx hb dX10_planLine_170 (by decide) ?_
              refine lv_aload_n hx hb dX10_planLine_171 rfl (lv_at hl 1 rfl) ?_
              have n545 : F460 6 = .ref h_s := (SAME.at t464 (by decide) n453)
              have n546 : F504 6 = .ref h_s := (get_ne eF504 (by decide) n545)
              have n547 : F523 6 = .ref h_s := (SAME.at t530 (by decide) n546)
              refine get_f (D := D) (ci := 10) (v := .ref h_s) (C := RX10) (T := TX10) (N := 67) hx hb hw inAX10 hown hK hP 4 rfl rfl 6 (by decide) (hw _ q_1267) (fun _ h9 => h9) n547 dX10_planLine_172 ?_
              refine lv_iconst (v := 0) hx hb dX10_planLine_175 (by decide) ?_
              refine iald_n hx hb hK hP 0 0 rfl rfl 0 rfl (Nat.le_of_ble_eq_true rfl) (Nat.le_of_ble_eq_true rfl) rfl dX10_planLine_176 ?_
              refine lv_topi (fun v548 ev548 => ?_)
              have k549 : 0 ≤ v548.toInt ∧ v548.toInt ≤ 40 := by rw [ev548]; exact s_s_0.atN 0 (by decide) (by decide)
              refine lv_iconst (v := 1) hx hb dX10_planLine_177 (by decide) ?_
              refine lv_isub hx hb dX10_planLine_178 ?_
              refine lv_topi (fun v550 ev550 => ?_)
              have bv550 : v550.toInt = v548.toInt - 1 := by rw [ev550]; exact sub_k rfl rfl k549 ⟨Int.le_refl _, Int.le_refl _⟩ (by decide)
              have k551 : (-1) ≤ v550.toInt ∧ v550.toInt ≤ 39 := sub_r bv550 k549 ⟨Int.le_refl _, Int.le_refl _⟩ (by decide)
              have n552 : F523 1 = .ref h_tape := (SAME.at t530 (by decide) n507)
              have n553 : F523 3 = .int x_size := (SAME.at t530 (by decide) n510)
              have n554 : F523 5 = .int x_limit := (SAME.at t530 (by decide) n515)
              have n555 : F504 19 = .int y463 := (get_ne eF504 (by decide) t467)
              have n556 : F523 19 = .int y463 := (SAME.at t530 (by decide) n555)
              refine call_Vi (wr := [(h_s, .inl (cI, 335, .inl f_s)), (h_names, .inl (cJ, 36, .inr (.inl f_names))), (h_reserved, .inl (cJ, 23, .inr (.inl f_reserved))), (h_planRead, .inl (cI, 24, .inl f_planRead))]) (As := [.int 0, .int v550]) (rest := []) hx hb hml hown hw (m_X10_takes l D cI cJ cB cP cM cZ h0 h_tape F523 x_size y524 x_limit y525 y526 y528 y529 y463 f_tape 0 v550 _ n552 n553 i_x_size t531 t532 n554 i_x_limit t533 t534 t535 t539 t540 n556 (by omega)) wV_X10_242_X10_takes dX10_planLine_179 hK hP hD hS hA [4, 5] [0, 1, 2, 3] rfl rfl (by decide) (by decide) (by decide) 0 10 rfl rfl GG.fb hG.at hl.1 rfl (Nat.le_of_ble_eq_true rfl) ⟨(Nat.le_of_ble_eq_true rfl), (Nat.le_of_ble_eq_true rfl)⟩ ⟨(Nat.le_of_ble_eq_true rfl), (Nat.le_of_ble_eq_true rfl)⟩ (fun r557 u H locs hp hP hD hS => ?_)
              have zl0 : (0 : Int32).toInt = 0 := by decide
              rcases hp with hp | hp
              · obtain ⟨F558, y559, t560, t561, t562, t563, t564, rfl, rfl⟩ := hp
                have hP : va_P D vwCl [(h_s, .inl (cI, 335, .inl f_s)), (h_names, .inl (cJ, 36, .inr (.inl f_names))), (h_reserved, .inl (cJ, 23, .inr (.inl f_reserved))), (h_planRead, .inl (cI, 24, .inl f_planRead)), (h0, .inr (10, vL 67 F558)), (h_tape, .inl (cB, 940, .inl f_tape))] H := hP
                have hD : va_D A [(h_s, .inl (cI, 335, .inl f_s)), (h_names, .inl (cJ, 36, .inr (.inl f_names))), (h_reserved, .inl (cJ, 23, .inr (.inl f_reserved))), (h_planRead, .inl (cI, 24, .inl f_planRead)), (h0, .inr (10, vL 67 F558)), (h_tape, .inl (cB, 940, .inl f_tape))] := hD
                refine W.widen (k := 0) (n := 0) (Nat.le_of_ble_eq_true rfl) (Nat.le_of_ble_eq_true rfl) ?_
                refine lv_if_ne (tgt := 187) hx hb dX10_planLine_182 (by decide) (fun g => absurd (by decide) g) (fun _ => ?_)
                refine lv_iconst (v := 0) hx hb dX10_planLine_185 (by decide) ?_
                exact ret_i (v := 0) hx hb hr hlocks hS (hP.sub (ws' := [(h0, .inr (10, vL 67 F558)), (h_tape, .inl (cB, 940, .inl f_tape)), (h_s, .inl (cI, 335, .inl f_s)), (h_names, .inl (cJ, 36, .inr (.inl f_names))), (h_reserved, .inl (cJ, 23, .inr (.inl f_reserved))), (h_planRead, .inl (cI, 24, .inl f_planRead))]) [4, 5, 0, 1, 2, 3] rfl) (hD.sub (ws' := [(h0, .inr (10, vL 67 F558)), (h_tape, .inl (cB, 940, .inl f_tape)), (h_s, .inl (cI, 335, .inl f_s)), (h_names, .inl (cJ, 36, .inr (.inl f_names))), (h_reserved, .inl (cJ, 23, .inr (.inl f_reserved))), (h_planRead, .inl (cI, 24, .inl f_planRead))]) [4, 5, 0, 1, 2, 3] (by decide) rfl) dX10_planLine_186 rfl (Nat.le_of_ble_eq_true rfl) (Nat.le_of_ble_eq_true rfl) ⟨F558, y524, y525, y526, y527, y528, y559, y526, y529, y463, x_onces, v503, x_heights, f_planRead, (SAME.tr (SAME.tr (SAME.up eF504 (SAME.tr (SAME.tr SAME.rf t438 (by decide)) t464 (by decide)) (by decide)) t530 (by decide)) t560 (by decide)), (SAME.at t560 (by decide) t531), t532, (SAME.at t560 (by decide) t533), t534, (SAME.at t560 (by decide) t535), (SAME.at t560 (by decide) t537), (SAME.at t560 (by decide) t539), t561, t563, (SAME.at t560 (by decide) t540), (SAME.at t560 (by decide) n556), (SAME.at t560 (by decide) (SAME.at t530 (by decide) (get_ne eF504 (by decide) (SAME.at t464 (by decide) (SAME.at t438 (by decide) e_onces))))), (SAME.at t560 (by decide) (SAME.at t530 (by decide) (get_eq eF504))), (SAME.at t560 (by decide) (SAME.at t530 (by decide) (get_ne eF504 (by decide) (SAME.at t464 (by decide) (SAME.at t438 (by decide) e_heights))))), s_planRead_1, s_planRead_10, (show 0 ≤ (0 : Int32).toInt ∧ (0 : Int32).toInt ≤ 1 by decide), (by have zl0 : (0 : Int32).toInt = 0 := (by decide); omega), (by omega), rfl⟩
              · refine hp.elim (fun F565 h9z => h9z.elim (fun y566 h9z => h9z.elim (fun y567 h9z => h9z.elim (fun y568 h9z => h9z.elim (fun y569 h9z => h9z.elim (fun y570 h9z => h9z.elim (fun y571 h9z => h9z.elim (fun y572 h9z => h9z.elim (fun t573 h9z => h9z.elim (fun t574 h9z => h9z.elim (fun t575 h9z => h9z.elim (fun t576 h9z => h9z.elim (fun t577 h9z => h9z.elim (fun t578 h9z => h9z.elim (fun t579 h9z => h9z.elim (fun t580 h9z => h9z.elim (fun t581 h9z => h9z.elim (fun t582 h9z => h9z.elim (fun t583 h9z => h9z.elim (fun t584 h9z => h9z.elim (fun t585 h9z => h9z.elim (fun t586 h9z => h9z.elim (fun t587 h9z => h9z.elim (fun t588 h9z => h9z.elim (fun t589 h9z => h9z.elim (fun heq925 h9z => ?_))))))))))))))))))))))))))
                subst heq925
                subst h9z
                have hP : va_P D vwCl [(h_s, .inl (cI, 335, .inl f_s)), (h_names, .inl (cJ, 36, .inr (.inl f_names))), (h_reserved, .inl (cJ, 23, .inr (.inl f_reserved))), (h_planRead, .inl (cI, 24, .inl f_planRead)), (h0, .inr (10, vL 67 F565)), (h_tape, .inl (cB, 940, .inl f_tape))] H := hP
                have hD : va_D A [(h_s, .inl (cI, 335, .inl f_s)), (h_names, .inl (cJ, 36, .inr (.inl f_names))), (h_reserved, .inl (cJ, 23, .inr (.inl f_reserved))), (h_planRead, .inl (cI, 24, .inl f_planRead)), (h0, .inr (10, vL 67 F565)), (h_tape, .inl (cB, 940, .inl f_tape))] := hD
                refine W.widen (k := 0) (n := 0) (Nat.le_of_ble_eq_true rfl) (Nat.le_of_ble_eq_true rfl) ?_
                have k591 : 2 ≤ y525.toInt ∧ y525.toInt ≤ 2 := ⟨Int.le_trans (Int.le_refl _) (Int.le_of_eq t585.symm), Int.le_trans (Int.le_of_eq t585) (Int.le_refl _)⟩
                have k592 : 0 ≤ y528.toInt ∧ y528.toInt ≤ 2147483647 := ⟨Int.le_trans (Int.le_refl _) t586, (ir_any _).2⟩
                have k593 : 0 ≤ y528.toInt ∧ y528.toInt ≤ 39 := ⟨k592.1, Int.le_trans t587 k551.2⟩
                have k594 : 0 ≤ v550.toInt ∧ v550.toInt ≤ 39 := ⟨Int.le_trans k592.1 t587, k551.2⟩
                have k595 : 1 ≤ v548.toInt ∧ v548.toInt ≤ 40 := ⟨lin_lo (lin_m bv550) k594.1 (by decide), k549.2⟩
                refine lv_if_ne (tgt := 187) hx hb dX10_planLine_182 (by decide) (fun _ => ?_) (fun g => absurd g (by decide))
                refine lv_aload_n hx hb dX10_planLine_187 rfl (lv_at hl 1 rfl) ?_
                have n596 : F504 22 = .ref h_planRead := (get_ne eF504 (by decide) n473)
                have n597 : F523 22 = .ref h_planRead := (SAME.at t530 (by decide) n596)
                have n598 : F565 22 = .ref h_planRead := (SAME.at t573 (by decide) n597)
                refine get_f (D := D) (ci := 10) (v := .ref h_planRead) (C := RX10) (T := TX10) (N := 67) hx hb hw inAX10 hown hK hP 4 rfl rfl 22 (by decide) (hw _ q_1283) (fun _ h9 => h9) n598 dX10_planLine_188 ?_
                refine lv_iconst (v := 5) hx hb dX10_planLine_191 (by decide) ?_
                refine lv_iload_n hx hb dX10_planLine_192 rfl (lv_at hl 0 rfl) ?_
                refine lv_iadd hx hb dX10_planLine_193 ?_
                refine lv_topi (fun v599 ev599 => ?_)
                have bv599 : v599.toInt = 5 + r484.toInt := by rw [ev599]; exact add_k rfl rfl ⟨Int.le_refl _, Int.le_refl _⟩ k496 (by decide)
                have k600 : 5 ≤ v599.toInt ∧ v599.toInt ≤ 8 := add_r bv599 ⟨Int.le_refl _, Int.le_refl _⟩ k496 (by decide)
                refine lv_aload_n hx hb dX10_planLine_194 rfl (lv_at hl 1 rfl) ?_
                refine get_f (D := D) (ci := 10) (v := .int y572) (C := RX10) (T := TX10) (N := 67) hx hb hw inAX10 hown hK hP 4 rfl rfl 19 (by decide) (hw _ q_1280) (fun _ h9 => h9) t584 dX10_planLine_195 ?_
                obtain ⟨g601, eg601⟩ : ∃ z : Nat → Int32, upd f_planRead v599.toNatClampNeg y572 = z := ⟨_, rfl⟩
                have r602 : SG 1 4 0 11 g601 := by rw [← eg601]; exact s_planRead_1.up (Int.le_trans (by decide) k600.1) (Or.inr (Or.inl (dec_lt k600.1 (by decide))))
                have r603 : SG 10 10 0 5 g601 := by rw [← eg601]; exact s_planRead_10.up (Int.le_trans (by decide) k600.1) (Or.inl (lt_dec k600.2 (by decide)))
                refine iast_g hx hb hK hP hD hS 3 0 rfl rfl (ix_k k600 (by decide) (by decide)) eg601 dX10_planLine_198 (fun H locs hP hD hS => ?_)
                have hP : va_P D vwCl [(h_s, .inl (cI, 335, .inl f_s)), (h_names, .inl (cJ, 36, .inr (.inl f_names))), (h_reserved, .inl (cJ, 23, .inr (.inl f_reserved))), (h_planRead, .inl (cI, 24, .inl g601)), (h0, .inr (10, vL 67 F565)), (h_tape, .inl (cB, 940, .inl f_tape))] H := hP
                have hD : va_D A [(h_s, .inl (cI, 335, .inl f_s)), (h_names, .inl (cJ, 36, .inr (.inl f_names))), (h_reserved, .inl (cJ, 23, .inr (.inl f_reserved))), (h_planRead, .inl (cI, 24, .inl g601)), (h0, .inr (10, vL 67 F565)), (h_tape, .inl (cB, 940, .inl f_tape))] := hD
                refine lv_iconst (v := 1) hx hb dX10_planLine_199 (by decide) ?_
                exact ret_i (v := 1) hx hb hr hlocks hS (hP.sub (ws' := [(h0, .inr (10, vL 67 F565)), (h_tape, .inl (cB, 940, .inl f_tape)), (h_s, .inl (cI, 335, .inl f_s)), (h_names, .inl (cJ, 36, .inr (.inl f_names))), (h_reserved, .inl (cJ, 23, .inr (.inl f_reserved))), (h_planRead, .inl (cI, 24, .inl g601))]) [4, 5, 0, 1, 2, 3] rfl) (hD.sub (ws' := [(h0, .inr (10, vL 67 F565)), (h_tape, .inl (cB, 940, .inl f_tape)), (h_s, .inl (cI, 335, .inl f_s)), (h_names, .inl (cJ, 36, .inr (.inl f_names))), (h_reserved, .inl (cJ, 23, .inr (.inl f_reserved))), (h_planRead, .inl (cI, 24, .inl g601))]) [4, 5, 0, 1, 2, 3] (by decide) rfl) dX10_planLine_200 rfl (Nat.le_of_ble_eq_true rfl) (Nat.le_of_ble_eq_true rfl) ⟨F565, y566, y567, y568, y569, y570, y461, y462, y571, y572, x_onces, v503, x_heights, g601, (SAME.tr (SAME.tr (SAME.up eF504 (SAME.tr (SAME.tr SAME.rf t438 (by decide)) t464 (by decide)) (by decide)) t530 (by decide)) t573 (by decide)), t574, t575, t576, t577, t578, t580, t582, (SAME.at t573 (by decide) (SAME.at t530 (by decide) (get_ne eF504 (by decide) t465))), (SAME.at t573 (by decide) (SAME.at t530 (by decide) (get_ne eF504 (by decide) t466))), t583, t584, (SAME.at t573 (by decide) (SAME.at t530 (by decide) (get_ne eF504 (by decide) (SAME.at t464 (by decide) (SAME.at t438 (by decide) e_onces))))), (SAME.at t573 (by decide) (SAME.at t530 (by decide) (get_eq eF504))), (SAME.at t573 (by decide) (SAME.at t530 (by decide) (get_ne eF504 (by decide) (SAME.at t464 (by decide) (SAME.at t438 (by decide) e_heights))))), r602, r603, (show 0 ≤ (1 : Int32).toInt ∧ (1 : Int32).toInt ≤ 1 by decide), (by have zl1 : (1 : Int32).toInt = 1 := (by decide); omega), (by omega), rfl⟩
            · have hP : va_P D vwCl [(h_tape, .inl (cB, 940, .inl f_tape)), (h_s, .inl (cI, 335, .inl f_s)), (h_names, .inl (cJ, 36, .inr (.inl f_names))), (h_reserved, .inl (cJ, 23, .inr (.inl f_reserved))), (h0, .inr (10, vL 67 F460)), (h_planRead, .inl (cI, 24, .inl f_planRead))] H := hP
              have hD : va_D A [(h_tape, .inl (cB, 940, .inl f_tape)), (h_s, .inl (cI, 335, .inl f_s)), (h_names, .inl (cJ, 36, .inr (.inl f_names))), (h_reserved, .inl (cJ, 23, .inr (.inl f_reserved))), (h0, .inr (10, vL 67 F460)), (h_planRead, .inl (cI, 24, .inl f_planRead))] := hD
              refine W.widen (k := 0) (n := 0) (Nat.le_of_ble_eq_true rfl) (Nat.le_of_ble_eq_true rfl) ?_
              refine lv_if_eq (tgt := 153) hx hb dX10_planLine_144 (by decide) (fun g => absurd g (by decide)) (fun _ => ?_)
              refine lv_aload_n hx hb dX10_planLine_147 rfl (lv_at hl 1 rfl) ?_
              refine lv_iconst (v := 3) hx hb dX10_planLine_148 (by decide) ?_
              have n604 : F460 12 = .int y434 := (SAME.at t464 (by decide) t443)
              refine call_Vi (wr := [(h_tape, .inl (cB, 940, .inl f_tape)), (h_s, .inl (cI, 335, .inl f_s)), (h_names, .inl (cJ, 36, .inr (.inl f_names))), (h_reserved, .inl (cJ, 23, .inr (.inl f_reserved))), (h_planRead, .inl (cI, 24, .inl f_planRead))]) (As := [.int 3]) (rest := []) hx hb hml hown hw (m_X10_bad l D cI cJ cB cP cM cZ h0 F460 y434 3 _ n604) wV_X10_205_X10_bad dX10_planLine_149 hK hP hD hS hA [4] [0, 1, 2, 3, 5] rfl rfl (by decide) (by decide) (by decide) 0 10 rfl rfl GG.fb hG.at hl.1 rfl (Nat.le_of_ble_eq_true rfl) ⟨(Nat.le_of_ble_eq_true rfl), (Nat.le_of_ble_eq_true rfl)⟩ ⟨(Nat.le_of_ble_eq_true rfl), (Nat.le_of_ble_eq_true rfl)⟩ (fun r605 u H locs hp hP hD hS => ?_)
              have zl3 : (3 : Int32).toInt = 3 := by decide
              obtain ⟨F606, t607, t608, t609, rfl, rfl⟩ := hp
              have hP : va_P D vwCl [(h_tape, .inl (cB, 940, .inl f_tape)), (h_s, .inl (cI, 335, .inl f_s)), (h_names, .inl (cJ, 36, .inr (.inl f_names))), (h_reserved, .inl (cJ, 23, .inr (.inl f_reserved))), (h_planRead, .inl (cI, 24, .inl f_planRead)), (h0, .inr (10, vL 67 F606))] H := hP
              have hD : va_D A [(h_tape, .inl (cB, 940, .inl f_tape)), (h_s, .inl (cI, 335, .inl f_s)), (h_names, .inl (cJ, 36, .inr (.inl f_names))), (h_reserved, .inl (cJ, 23, .inr (.inl f_reserved))), (h_planRead, .inl (cI, 24, .inl f_planRead)), (h0, .inr (10, vL 67 F606))] := hD
              refine W.widen (k := 0) (n := 0) (Nat.le_of_ble_eq_true rfl) (Nat.le_of_ble_eq_true rfl) ?_
              exact ret_i (v := 0) hx hb hr hlocks hS (hP.sub (ws' := [(h0, .inr (10, vL 67 F606)), (h_tape, .inl (cB, 940, .inl f_tape)), (h_s, .inl (cI, 335, .inl f_s)), (h_names, .inl (cJ, 36, .inr (.inl f_names))), (h_reserved, .inl (cJ, 23, .inr (.inl f_reserved))), (h_planRead, .inl (cI, 24, .inl f_planRead))]) [5, 0, 1, 2, 3, 4] rfl) (hD.sub (ws' := [(h0, .inr (10, vL 67 F606)), (h_tape, .inl (cB, 940, .inl f_tape)), (h_s, .inl (cI, 335, .inl f_s)), (h_names, .inl (cJ, 36, .inr (.inl f_names))), (h_reserved, .inl (cJ, 23, .inr (.inl f_reserved))), (h_planRead, .inl (cI, 24, .inl f_planRead))]) [5, 0, 1, 2, 3, 4] (by decide) rfl) dX10_planLine_152 rfl (Nat.le_of_ble_eq_true rfl) (Nat.le_of_ble_eq_true rfl) ⟨F606, y432, y433, y434, y435, y436, 3, y434, y437, y463, x_onces, x_jumped, x_heights, f_planRead, (SAME.tr (SAME.tr (SAME.tr SAME.rf t438 (by decide)) t464 (by decide)) t607 (by decide)), (SAME.at t607 (by decide) (SAME.at t464 (by decide) t439)), t440, (SAME.at t607 (by decide) (SAME.at t464 (by decide) t441)), t442, (SAME.at t607 (by decide) n604), (SAME.at t607 (by decide) (SAME.at t464 (by decide) t445)), (SAME.at t607 (by decide) (SAME.at t464 (by decide) t447)), t608, t609, (SAME.at t607 (by decide) (SAME.at t464 (by decide) t448)), (SAME.at t607 (by decide) t467), (SAME.at t607 (by decide) (SAME.at t464 (by decide) (SAME.at t438 (by decide) e_onces))), (SAME.at t607 (by decide) n498), (SAME.at t607 (by decide) (SAME.at t464 (by decide) (SAME.at t438 (by decide) e_heights))), s_planRead_1, s_planRead_10, (show 0 ≤ (0 : Int32).toInt ∧ (0 : Int32).toInt ≤ 1 by decide), (by have zl0 : (0 : Int32).toInt = 0 := (by decide); omega), (by have zl3 : (3 : Int32).toInt = 3 := (by decide); omega), rfl⟩
      · have dc470 : r459.toInt = 0 := eq_i (a := r459.toInt) (b := 0) rfl rfl c470
        have k611 : 0 ≤ r459.toInt ∧ r459.toInt ≤ 0 := ⟨t468.1, Int.le_trans (Int.le_of_eq dc470) (Int.le_refl _)⟩
        refine lv_iconst (v := 0) hx hb dX10_planLine_106 (by decide) ?_
        exact ret_i (v := 0) hx hb hr hlocks hS (hP.sub (ws' := [(h0, .inr (10, vL 67 F460)), (h_tape, .inl (cB, 940, .inl f_tape)), (h_s, .inl (cI, 335, .inl f_s)), (h_names, .inl (cJ, 36, .inr (.inl f_names))), (h_reserved, .inl (cJ, 23, .inr (.inl f_reserved))), (h_planRead, .inl (cI, 24, .inl f_planRead))]) [2, 1, 3, 4, 5, 0] rfl) (hD.sub (ws' := [(h0, .inr (10, vL 67 F460)), (h_tape, .inl (cB, 940, .inl f_tape)), (h_s, .inl (cI, 335, .inl f_s)), (h_names, .inl (cJ, 36, .inr (.inl f_names))), (h_reserved, .inl (cJ, 23, .inr (.inl f_reserved))), (h_planRead, .inl (cI, 24, .inl f_planRead))]) [2, 1, 3, 4, 5, 0] (by decide) rfl) dX10_planLine_107 rfl (Nat.le_of_ble_eq_true rfl) (Nat.le_of_ble_eq_true rfl) ⟨F460, y432, y433, y434, y435, y436, y461, y462, y437, y463, x_onces, x_jumped, x_heights, f_planRead, (SAME.tr (SAME.tr SAME.rf t438 (by decide)) t464 (by decide)), (SAME.at t464 (by decide) t439), t440, (SAME.at t464 (by decide) t441), t442, (SAME.at t464 (by decide) t443), (SAME.at t464 (by decide) t445), (SAME.at t464 (by decide) t447), t465, t466, (SAME.at t464 (by decide) t448), t467, (SAME.at t464 (by decide) (SAME.at t438 (by decide) e_onces)), (SAME.at t464 (by decide) (SAME.at t438 (by decide) e_jumped)), (SAME.at t464 (by decide) (SAME.at t438 (by decide) e_heights)), s_planRead_1, s_planRead_10, (show 0 ≤ (0 : Int32).toInt ∧ (0 : Int32).toInt ≤ 1 by decide), (by have zl0 : (0 : Int32).toInt = 0 := (by decide); omega), (by omega), rfl⟩
  · have dc5 : r1.toInt ≠ 0 := ne_i (a := r1.toInt) (b := 0) rfl rfl c5
    have k612 : 1 ≤ r1.toInt ∧ r1.toInt ≤ 1 := ⟨ne_lo dc5 t2.1 ⟨Int.le_refl _, Int.le_refl _⟩ (by decide), t2.2⟩
    refine lv_aload_n hx hb dX10_planLine_10 rfl (lv_at hl 0 rfl) ?_
    refine lv_iconst (v := 0) hx hb dX10_planLine_11 (by decide) ?_
    refine call_Vi (wr := [(h_s, .inl (cI, 335, .inl f_s)), (h_names, .inl (cJ, 36, .inr (.inl f_names))), (h_reserved, .inl (cJ, 23, .inr (.inl f_reserved))), (h_planRead, .inl (cI, 24, .inl f_planRead))]) (As := [.int 0]) (rest := []) hx hb hml hown hw (m_X10_isOnce l D cI cJ cB cP cM cZ h0 h_tape Fh x_size x_p x_limit x_token x_at x_span x_number x_fault x_faultAt x_word x_onces f_tape 0 _ e_tape e_size i_x_size e_p i_x_p e_limit i_x_limit e_token i_x_token e_at e_span e_number e_fault e_faultAt e_word e_onces (by omega)) wV_X10_239_X10_isOnce dX10_planLine_12 hK hP hD hS hA [5, 0] [1, 2, 3, 4] rfl rfl (by decide) (by decide) (by decide) 0 10 rfl rfl GG.fb hG.at hl.1 rfl (Nat.le_of_ble_eq_true rfl) ⟨(Nat.le_of_ble_eq_true rfl), (Nat.le_of_ble_eq_true rfl)⟩ ⟨(Nat.le_of_ble_eq_true rfl), (Nat.le_of_ble_eq_true rfl)⟩ (fun r613 u H locs hp hP hD hS => ?_)
    have zl0 : (0 : Int32).toInt = 0 := by decide
    refine hp.elim (fun F614 h9z => h9z.elim (fun y615 h9z => h9z.elim (fun y616 h9z => h9z.elim (fun y617 h9z => h9z.elim (fun y618 h9z => h9z.elim (fun y619 h9z => h9z.elim (fun y620 h9z => h9z.elim (fun y621 h9z => h9z.elim (fun y622 h9z => h9z.elim (fun y623 h9z => h9z.elim (fun t624 h9z => h9z.elim (fun t625 h9z => h9z.elim (fun t626 h9z => h9z.elim (fun t627 h9z => h9z.elim (fun t628 h9z => h9z.elim (fun t629 h9z => h9z.elim (fun t630 h9z => h9z.elim (fun t631 h9z => h9z.elim (fun t632 h9z => h9z.elim (fun t633 h9z => h9z.elim (fun t634 h9z => h9z.elim (fun t635 h9z => h9z.elim (fun t636 h9z => h9z.elim (fun t637 h9z => h9z.elim (fun t638 h9z => ?_)))))))))))))))))))))))))
    subst h9z
    have hP : va_P D vwCl [(h_s, .inl (cI, 335, .inl f_s)), (h_names, .inl (cJ, 36, .inr (.inl f_names))), (h_reserved, .inl (cJ, 23, .inr (.inl f_reserved))), (h_planRead, .inl (cI, 24, .inl f_planRead)), (h0, .inr (10, vL 67 F614)), (h_tape, .inl (cB, 940, .inl f_tape))] H := hP
    have hD : va_D A [(h_s, .inl (cI, 335, .inl f_s)), (h_names, .inl (cJ, 36, .inr (.inl f_names))), (h_reserved, .inl (cJ, 23, .inr (.inl f_reserved))), (h_planRead, .inl (cI, 24, .inl f_planRead)), (h0, .inr (10, vL 67 F614)), (h_tape, .inl (cB, 940, .inl f_tape))] := hD
    refine W.widen (k := 0) (n := 0) (Nat.le_of_ble_eq_true rfl) (Nat.le_of_ble_eq_true rfl) ?_
    refine lv_if_ne (tgt := 20) hx hb dX10_planLine_15 (by decide) (fun c640 => ?_) (fun c640 => ?_)
    · have dc640 : r613.toInt ≠ 0 := ne_i (a := r613.toInt) (b := 0) rfl rfl c640
      have k641 : 1 ≤ r613.toInt ∧ r613.toInt ≤ 1 := ⟨ne_lo dc640 t636.1 ⟨Int.le_refl _, Int.le_refl _⟩ (by decide), t636.2⟩
      refine lv_iconst (v := 0) hx hb dX10_planLine_20 (by decide) ?_
      refine lv_istore_n (lv' := [(1, .int 0), (0, .ref h0)]) hx hb dX10_planLine_21 rfl hl (by decide) rfl (fun ls hl => ?_)
      have n654 : F614 19 = .int x_got := (SAME.at t624 (by decide) e_got)
      refine mloop (α := (Int32) × (Nat → Int32) × (Nat → Value) × (Int32) × (Int32) × (Int32) × (Int32) × (Int32) × (Int32) × (Int32) × (Int64) × (Int32)) (nL := 2) (D := D) (A := A) (H0 := s.heap) (fun a => (4 - a.1.toInt).toNat) (fun a => IR 0 4 a.1 ∧ SG 1 4 0 11 a.2.1 ∧ SG 10 10 0 5 a.2.1 ∧ SAME [4, 11, 12, 13, 14, 15, 16, 18, 19] F614 a.2.2.1 ∧ a.2.2.1 4 = .int a.2.2.2.1 ∧ a.2.2.1 11 = .int a.2.2.2.2.1 ∧ a.2.2.1 12 = .int a.2.2.2.2.2.1 ∧ a.2.2.1 13 = .int a.2.2.2.2.2.2.1 ∧ a.2.2.1 14 = .int a.2.2.2.2.2.2.2.1 ∧ a.2.2.1 15 = .int a.2.2.2.2.2.2.2.2.1 ∧ a.2.2.1 16 = .int a.2.2.2.2.2.2.2.2.2.1 ∧ a.2.2.1 18 = .long a.2.2.2.2.2.2.2.2.2.2.1 ∧ a.2.2.1 19 = .int a.2.2.2.2.2.2.2.2.2.2.2 ∧ IR 0 940 a.2.2.2.1 ∧ IR 0 4 a.2.2.2.2.1 ∧ ((a.2.2.2.2.1.toInt = 2 → 0 ≤ a.2.2.2.2.2.2.2.1.toInt ∧ a.2.2.2.2.2.2.2.1.toInt ≤ 999))) (fun a => [(h_s, .inl (cI, 335, .inl f_s)), (h_names, .inl (cJ, 36, .inr (.inl f_names))), (h_reserved, .inl (cJ, 23, .inr (.inl f_reserved))), (h_planRead, .inl (cI, 24, .inl a.2.1)), (h0, .inr (10, vL 67 a.2.2.1)), (h_tape, .inl (cB, 940, .inl f_tape))]) (fun a => [(1, .int a.1), (0, .ref h0)]) (fun H locs ls => W p l e ({ frames := 3, cells := 0, slots := 0, locals := 65 } : Room) s m [.ref h0].toArray below meth c H locs 0 0 (MQ below (va_Qi (fun (r : Int32) (u : va_W) => ∃ (Gh : Nat → Value) (y_p : Int32) (y_token : Int32) (y_at : Int32) (y_span : Int32) (y_number : Int32) (y_fault : Int32) (y_faultAt : Int32) (y_word : Int64) (y_got : Int32) (y_onces : Int32) (y_jumped : Int32) (y_heights : Int32) (g_planRead : Nat → Int32), SAME [4, 11, 12, 13, 14, 15, 16, 18, 19, 21, 23, 24] Fh Gh ∧ Gh 4 = .int y_p ∧ IR 0 940 y_p ∧ Gh 11 = .int y_token ∧ IR 0 4 y_token ∧ Gh 12 = .int y_at ∧ Gh 13 = .int y_span ∧ Gh 14 = .int y_number ∧ Gh 15 = .int y_fault ∧ Gh 16 = .int y_faultAt ∧ Gh 18 = .long y_word ∧ Gh 19 = .int y_got ∧ Gh 21 = .int y_onces ∧ Gh 23 = .int y_jumped ∧ Gh 24 = .int y_heights ∧ SG 1 4 0 11 g_planRead ∧ SG 10 10 0 5 g_planRead ∧ IR 0 1 r ∧ ((r.toInt = 1 → (x_p.toInt ≤ y_p.toInt ∧ (y_token.toInt = 3 → x_p.toInt < y_p.toInt)))) ∧ ((y_token.toInt = 2 → 0 ≤ y_number.toInt ∧ y_number.toInt ≤ 999)) ∧ u = [(h0, .inr (10, vL 67 Gh)), (h_tape, .inl (cB, 940, .inl f_tape)), (h_s, .inl (cI, 335, .inl f_s)), (h_names, .inl (cJ, 36, .inr (.inl f_names))), (h_reserved, .inl (cJ, 23, .inr (.inl f_reserved))), (h_planRead, .inl (cI, 24, .inl g_planRead))]) (PO D A) A) [.ref h0].toArray s 0 0 A) (F0 m 22 ls [])) ?_ (0, f_planRead, F614, y615, y616, y617, y618, y619, y620, y621, y622, x_got) ⟨(show 0 ≤ (0 : Int32).toInt ∧ (0 : Int32).toInt ≤ 4 by decide), s_planRead_1, s_planRead_10, SAME.rf, t625, t627, t629, t630, t631, t632, t633, t634, n654, t626, t628, (by show (y616.toInt = 2 → 0 ≤ y619.toInt ∧ y619.toInt ≤ 999); omega)⟩ _ _ _ hP hD hS hl
      rintro ⟨u642, w643, G644, u645, u646, u647, u648, u649, u650, u651, u652, u653⟩ ⟨i655, i656, i657, i658, i659, i660, i661, i662, i663, i664, i665, i666, i667, i668, i669, i670⟩ ih H locs ls hP hD hS hl
      have i655 : 0 ≤ u642.toInt ∧ u642.toInt ≤ 4 := i655
      have i668 : 0 ≤ u645.toInt ∧ u645.toInt ≤ 940 := i668
      have i669 : 0 ≤ u646.toInt ∧ u646.toInt ≤ 4 := i669
      have i670 : (u646.toInt = 2 → 0 ≤ u649.toInt ∧ u649.toInt ≤ 999) := i670
      have hP : va_P D vwCl [(h_s, .inl (cI, 335, .inl f_s)), (h_names, .inl (cJ, 36, .inr (.inl f_names))), (h_reserved, .inl (cJ, 23, .inr (.inl f_reserved))), (h_planRead, .inl (cI, 24, .inl w643)), (h0, .inr (10, vL 67 G644)), (h_tape, .inl (cB, 940, .inl f_tape))] H := hP
      have hD : va_D A [(h_s, .inl (cI, 335, .inl f_s)), (h_names, .inl (cJ, 36, .inr (.inl f_names))), (h_reserved, .inl (cJ, 23, .inr (.inl f_reserved))), (h_planRead, .inl (cI, 24, .inl w643)), (h0, .inr (10, vL 67 G644)), (h_tape, .inl (cB, 940, .inl f_tape))] := hD
      have hl : lv_has ls 2 [(1, .int u642), (0, .ref h0)] := hl
      refine lv_iload_n hx hb dX10_planLine_22 rfl (lv_at hl 0 rfl) ?_
      refine lv_iconst (v := 4) hx hb dX10_planLine_23 (by decide) ?_
      refine lv_icmp_ge (tgt := 76) hx hb dX10_planLine_24 (by decide) (fun c671 => ?_) (fun c671 => ?_)
      · have dc671 : 4 ≤ u642.toInt := le_i (a := 4) (b := u642.toInt) rfl rfl c671
        have k672 : 4 ≤ u642.toInt ∧ u642.toInt ≤ 4 := ⟨Int.le_trans (Int.le_refl _) dc671, i655.2⟩
        refine lv_aload_n hx hb dX10_planLine_76 rfl (lv_at hl 1 rfl) ?_
        have n673 : F614 22 = .ref h_planRead := (SAME.at t624 (by decide) e_planRead)
        have n674 : G644 22 = .ref h_planRead := (SAME.at i658 (by decide) n673)
        refine get_f (D := D) (ci := 10) (v := .ref h_planRead) (C := RX10) (T := TX10) (N := 67) hx hb hw inAX10 hown hK hP 4 rfl rfl 22 (by decide) (hw _ q_1283) (fun _ h9 => h9) n674 dX10_planLine_77 ?_
        refine lv_iconst (v := 0) hx hb dX10_planLine_80 (by decide) ?_
        refine lv_iconst (v := 1) hx hb dX10_planLine_81 (by decide) ?_
        obtain ⟨g675, eg675⟩ : ∃ z : Nat → Int32, upd w643 0 1 = z := ⟨_, rfl⟩
        have r676 : SG 1 4 0 11 g675 := by rw [← eg675]; exact i656.upN (by decide)
        have r677 : SG 10 10 0 5 g675 := by rw [← eg675]; exact i657.upN (by decide)
        refine iast_n hx hb hK hP hD hS 3 0 rfl rfl 0 rfl (Nat.le_of_ble_eq_true rfl) (Nat.le_of_ble_eq_true rfl) eg675 dX10_planLine_82 (fun H locs hP hD hS => ?_)
        have hP : va_P D vwCl [(h_s, .inl (cI, 335, .inl f_s)), (h_names, .inl (cJ, 36, .inr (.inl f_names))), (h_reserved, .inl (cJ, 23, .inr (.inl f_reserved))), (h_planRead, .inl (cI, 24, .inl g675)), (h0, .inr (10, vL 67 G644)), (h_tape, .inl (cB, 940, .inl f_tape))] H := hP
        have hD : va_D A [(h_s, .inl (cI, 335, .inl f_s)), (h_names, .inl (cJ, 36, .inr (.inl f_names))), (h_reserved, .inl (cJ, 23, .inr (.inl f_reserved))), (h_planRead, .inl (cI, 24, .inl g675)), (h0, .inr (10, vL 67 G644)), (h_tape, .inl (cB, 940, .inl f_tape))] := hD
        refine lv_iconst (v := 1) hx hb dX10_planLine_83 (by decide) ?_
        exact ret_i (v := 1) hx hb hr hlocks hS (hP.sub (ws' := [(h0, .inr (10, vL 67 G644)), (h_tape, .inl (cB, 940, .inl f_tape)), (h_s, .inl (cI, 335, .inl f_s)), (h_names, .inl (cJ, 36, .inr (.inl f_names))), (h_reserved, .inl (cJ, 23, .inr (.inl f_reserved))), (h_planRead, .inl (cI, 24, .inl g675))]) [4, 5, 0, 1, 2, 3] rfl) (hD.sub (ws' := [(h0, .inr (10, vL 67 G644)), (h_tape, .inl (cB, 940, .inl f_tape)), (h_s, .inl (cI, 335, .inl f_s)), (h_names, .inl (cJ, 36, .inr (.inl f_names))), (h_reserved, .inl (cJ, 23, .inr (.inl f_reserved))), (h_planRead, .inl (cI, 24, .inl g675))]) [4, 5, 0, 1, 2, 3] (by decide) rfl) dX10_planLine_84 rfl (Nat.le_of_ble_eq_true rfl) (Nat.le_of_ble_eq_true rfl) ⟨G644, u645, u646, u647, u648, u649, u650, u651, u652, u653, y623, x_jumped, x_heights, g675, (SAME.tr (SAME.tr SAME.rf t624 (by decide)) i658 (by decide)), i659, i668, i660, i669, i661, i662, i663, i664, i665, i666, i667, (SAME.at i658 (by decide) t635), (SAME.at i658 (by decide) (SAME.at t624 (by decide) e_jumped)), (SAME.at i658 (by decide) (SAME.at t624 (by decide) e_heights)), r676, r677, (show 0 ≤ (1 : Int32).toInt ∧ (1 : Int32).toInt ≤ 1 by decide), (by have zl1 : (1 : Int32).toInt = 1 := (by decide); omega), (by omega), rfl⟩
      · have dc671 : u642.toInt < 4 := nle_i (a := 4) (b := u642.toInt) rfl rfl c671
        have k678 : 0 ≤ u642.toInt ∧ u642.toInt ≤ 3 := ⟨i655.1, up_lt dc671 (Int.le_refl _) (by decide)⟩
        refine lv_aload_n hx hb dX10_planLine_27 rfl (lv_at hl 1 rfl) ?_
        have n679 : F614 6 = .ref h_s := (SAME.at t624 (by decide) e_s)
        have n680 : G644 6 = .ref h_s := (SAME.at i658 (by decide) n679)
        have n681 : F614 9 = .ref h_names := (SAME.at t624 (by decide) e_names)
        have n682 : G644 9 = .ref h_names := (SAME.at i658 (by decide) n681)
        have n683 : F614 10 = .ref h_reserved := (SAME.at t624 (by decide) e_reserved)
        have n684 : G644 10 = .ref h_reserved := (SAME.at i658 (by decide) n683)
        refine call_Vi (wr := [(h_planRead, .inl (cI, 24, .inl w643)), (h_tape, .inl (cB, 940, .inl f_tape))]) (As := []) (rest := []) hx hb hml hown hw (m_X10_looksAtMan l D cI cJ cB cP cM cZ h0 h_s h_names h_reserved G644 u646 u647 u649 u650 u651 u652 u653 f_s f_names f_reserved _ n680 n682 n684 i660 i669 i661 i663 i664 i665 i666 i667 s_s_K0 s_s_0 s_s_105 s_s_114 s_s_130 s_s_139 s_s_153 s_s_44 s_s_5 s_s_6 s_s_7 (by omega)) wV_X10_266_X10_looksAtMan dX10_planLine_28 hK hP hD hS hA [4, 0, 1, 2] [3, 5] rfl rfl (by decide) (by decide) (by decide) 0 10 rfl rfl GG.fb hG.at hl.1 rfl (Nat.le_of_ble_eq_true rfl) ⟨(Nat.le_of_ble_eq_true rfl), (Nat.le_of_ble_eq_true rfl)⟩ ⟨(Nat.le_of_ble_eq_true rfl), (Nat.le_of_ble_eq_true rfl)⟩ (fun r685 u H locs hp hP hD hS => ?_)
        obtain ⟨F686, y687, y688, y689, t690, t691, t692, t693, t694, rfl⟩ := hp
        have hP : va_P D vwCl [(h_planRead, .inl (cI, 24, .inl w643)), (h_tape, .inl (cB, 940, .inl f_tape)), (h0, .inr (10, vL 67 F686)), (h_s, .inl (cI, 335, .inl f_s)), (h_names, .inl (cJ, 36, .inr (.inl f_names))), (h_reserved, .inl (cJ, 23, .inr (.inl f_reserved)))] H := hP
        have hD : va_D A [(h_planRead, .inl (cI, 24, .inl w643)), (h_tape, .inl (cB, 940, .inl f_tape)), (h0, .inr (10, vL 67 F686)), (h_s, .inl (cI, 335, .inl f_s)), (h_names, .inl (cJ, 36, .inr (.inl f_names))), (h_reserved, .inl (cJ, 23, .inr (.inl f_reserved)))] := hD
        refine W.widen (k := 0) (n := 0) (Nat.le_of_ble_eq_true rfl) (Nat.le_of_ble_eq_true rfl) ?_
        refine lv_if_ne (tgt := 36) hx hb dX10_planLine_31 (by decide) (fun c696 => ?_) (fun c696 => ?_)
        · have dc696 : r685.toInt ≠ 0 := ne_i (a := r685.toInt) (b := 0) rfl rfl c696
          have k697 : 1 ≤ r685.toInt ∧ r685.toInt ≤ 1 := ⟨ne_lo dc696 t694.1 ⟨Int.le_refl _, Int.le_refl _⟩ (by decide), t694.2⟩
          refine lv_aload_n hx hb dX10_planLine_36 rfl (lv_at hl 1 rfl) ?_
          refine lv_aload_n hx hb dX10_planLine_37 rfl (lv_at hl 1 rfl) ?_
          refine get_f (D := D) (ci := 10) (v := .int y689) (C := RX10) (T := TX10) (N := 67) hx hb hw inAX10 hown hK hP 2 rfl rfl 19 (by decide) (hw _ q_1280) (fun _ h9 => h9) t693 dX10_planLine_38 ?_
          refine lv_iload_n hx hb dX10_planLine_41 rfl (lv_at hl 0 rfl) ?_
          have n698 : F614 22 = .ref h_planRead := (SAME.at t624 (by decide) e_planRead)
          have n699 : G644 22 = .ref h_planRead := (SAME.at i658 (by decide) n698)
          have n700 : F686 22 = .ref h_planRead := (SAME.at t690 (by decide) n699)
          refine call_Vi (wr := [(h_tape, .inl (cB, 940, .inl f_tape)), (h_s, .inl (cI, 335, .inl f_s)), (h_names, .inl (cJ, 36, .inr (.inl f_names))), (h_reserved, .inl (cJ, 23, .inr (.inl f_reserved)))]) (As := [.int y689, .int u642]) (rest := []) hx hb hml hown hw (m_X10_placeIn l D cI cJ cB cP cM cZ h0 h_planRead F686 w643 y689 u642 _ n700 i656 i657 (ir_wk k678 (by decide) (by decide))) wV_X10_269_X10_placeIn dX10_planLine_42 hK hP hD hS hA [2, 0] [1, 3, 4, 5] rfl rfl (by decide) (by decide) (by decide) 0 10 rfl rfl GG.fb hG.at hl.1 rfl (Nat.le_of_ble_eq_true rfl) ⟨(Nat.le_of_ble_eq_true rfl), (Nat.le_of_ble_eq_true rfl)⟩ ⟨(Nat.le_of_ble_eq_true rfl), (Nat.le_of_ble_eq_true rfl)⟩ (fun r701 u H locs hp hP hD hS => ?_)
          obtain ⟨t702, rfl⟩ := hp
          have hP : va_P D vwCl [(h_tape, .inl (cB, 940, .inl f_tape)), (h_s, .inl (cI, 335, .inl f_s)), (h_names, .inl (cJ, 36, .inr (.inl f_names))), (h_reserved, .inl (cJ, 23, .inr (.inl f_reserved))), (h0, .inr (10, vL 67 F686)), (h_planRead, .inl (cI, 24, .inl w643))] H := hP
          have hD : va_D A [(h_tape, .inl (cB, 940, .inl f_tape)), (h_s, .inl (cI, 335, .inl f_s)), (h_names, .inl (cJ, 36, .inr (.inl f_names))), (h_reserved, .inl (cJ, 23, .inr (.inl f_reserved))), (h0, .inr (10, vL 67 F686)), (h_planRead, .inl (cI, 24, .inl w643))] := hD
          refine W.widen (k := 0) (n := 0) (Nat.le_of_ble_eq_true rfl) (Nat.le_of_ble_eq_true rfl) ?_
          refine lv_if_lt (tgt := 54) hx hb dX10_planLine_45 (by decide) (fun c704 => ?_) (fun c704 => ?_)
          · have dc704 : r701.toInt < 0 := lt_i (a := r701.toInt) (b := 0) rfl rfl c704
            have k705 : (-1) ≤ r701.toInt ∧ r701.toInt ≤ (-1) := ⟨t702.1, up_lt dc704 (Int.le_refl _) (by decide)⟩
            refine lv_aload_n hx hb dX10_planLine_54 rfl (lv_at hl 1 rfl) ?_
            refine get_f (D := D) (ci := 10) (v := .ref h_planRead) (C := RX10) (T := TX10) (N := 67) hx hb hw inAX10 hown hK hP 4 rfl rfl 22 (by decide) (hw _ q_1283) (fun _ h9 => h9) n700 dX10_planLine_55 ?_
            refine lv_iconst (v := 1) hx hb dX10_planLine_58 (by decide) ?_
            refine lv_iload_n hx hb dX10_planLine_59 rfl (lv_at hl 0 rfl) ?_
            refine lv_iadd hx hb dX10_planLine_60 ?_
            refine lv_topi (fun v706 ev706 => ?_)
            have bv706 : v706.toInt = 1 + u642.toInt := by rw [ev706]; exact add_k rfl rfl ⟨Int.le_refl _, Int.le_refl _⟩ k678 (by decide)
            have k707 : 1 ≤ v706.toInt ∧ v706.toInt ≤ 4 := add_r bv706 ⟨Int.le_refl _, Int.le_refl _⟩ k678 (by decide)
            refine lv_aload_n hx hb dX10_planLine_61 rfl (lv_at hl 1 rfl) ?_
            refine get_f (D := D) (ci := 10) (v := .int y689) (C := RX10) (T := TX10) (N := 67) hx hb hw inAX10 hown hK hP 4 rfl rfl 19 (by decide) (hw _ q_1280) (fun _ h9 => h9) t693 dX10_planLine_62 ?_
            obtain ⟨g708, eg708⟩ : ∃ z : Nat → Int32, upd w643 v706.toNatClampNeg y689 = z := ⟨_, rfl⟩
            have r709 : SG 1 4 0 11 g708 := by rw [← eg708]; exact i656.up (Int.le_trans (by decide) k707.1) (by omega)
            have r710 : SG 10 10 0 5 g708 := by rw [← eg708]; exact i657.up (Int.le_trans (by decide) k707.1) (Or.inl (lt_dec k707.2 (by decide)))
            refine iast_g hx hb hK hP hD hS 5 0 rfl rfl (ix_k k707 (by decide) (by decide)) eg708 dX10_planLine_65 (fun H locs hP hD hS => ?_)
            have hP : va_P D vwCl [(h_tape, .inl (cB, 940, .inl f_tape)), (h_s, .inl (cI, 335, .inl f_s)), (h_names, .inl (cJ, 36, .inr (.inl f_names))), (h_reserved, .inl (cJ, 23, .inr (.inl f_reserved))), (h0, .inr (10, vL 67 F686)), (h_planRead, .inl (cI, 24, .inl g708))] H := hP
            have hD : va_D A [(h_tape, .inl (cB, 940, .inl f_tape)), (h_s, .inl (cI, 335, .inl f_s)), (h_names, .inl (cJ, 36, .inr (.inl f_names))), (h_reserved, .inl (cJ, 23, .inr (.inl f_reserved))), (h0, .inr (10, vL 67 F686)), (h_planRead, .inl (cI, 24, .inl g708))] := hD
            refine lv_aload_n hx hb dX10_planLine_66 rfl (lv_at hl 1 rfl) ?_
            have n711 : F614 1 = .ref h_tape := (SAME.at t624 (by decide) e_tape)
            have n712 : G644 1 = .ref h_tape := (SAME.at i658 (by decide) n711)
            have n713 : F686 1 = .ref h_tape := (SAME.at t690 (by decide) n712)
            have n714 : F614 3 = .int x_size := (SAME.at t624 (by decide) e_size)
            have n715 : G644 3 = .int x_size := (SAME.at i658 (by decide) n714)
            have n716 : F686 3 = .int x_size := (SAME.at t690 (by decide) n715)
            have n717 : F686 4 = .int u645 := (SAME.at t690 (by decide) i659)
            have n718 : F614 5 = .int x_limit := (SAME.at t624 (by decide) e_limit)
            have n719 : G644 5 = .int x_limit := (SAME.at i658 (by decide) n718)
            have n720 : F686 5 = .int x_limit := (SAME.at t690 (by decide) n719)
            have n721 : F686 11 = .int u646 := (SAME.at t690 (by decide) i660)
            have n722 : F686 14 = .int u649 := (SAME.at t690 (by decide) i663)
            have n723 : F686 18 = .long u652 := (SAME.at t690 (by decide) i666)
            refine call_Vv (wr := [(h_s, .inl (cI, 335, .inl f_s)), (h_names, .inl (cJ, 36, .inr (.inl f_names))), (h_reserved, .inl (cJ, 23, .inr (.inl f_reserved))), (h_planRead, .inl (cI, 24, .inl g708))]) (As := []) (rest := []) hx hb hml hown hw (m_X10_next l D cI cJ cB cP cM cZ h0 h_tape F686 x_size u645 x_limit u646 u649 u652 f_tape _ n713 n716 i_x_size n717 i668 n720 i_x_limit n721 i669 n722 n723 (by omega)) wV_X10_208_X10_next dX10_planLine_67 hK hP hD hS hA [4, 0] [1, 2, 3, 5] rfl rfl (by decide) (by decide) (by decide) 0 10 rfl rfl GG.fb hG.at hl.1 rfl (Nat.le_of_ble_eq_true rfl) ⟨(Nat.le_of_ble_eq_true rfl), (Nat.le_of_ble_eq_true rfl)⟩ ⟨(Nat.le_of_ble_eq_true rfl), (Nat.le_of_ble_eq_true rfl)⟩ (fun u H locs hp hP hD hS => ?_)
            obtain ⟨F725, y726, y727, y728, y729, y730, y731, t732, t733, t734, t735, t736, t737, t738, t739, t740, t741, t742, t743, t744, t745, rfl⟩ := hp
            have hP : va_P D vwCl [(h_s, .inl (cI, 335, .inl f_s)), (h_names, .inl (cJ, 36, .inr (.inl f_names))), (h_reserved, .inl (cJ, 23, .inr (.inl f_reserved))), (h_planRead, .inl (cI, 24, .inl g708)), (h0, .inr (10, vL 67 F725)), (h_tape, .inl (cB, 940, .inl f_tape))] H := hP
            have hD : va_D A [(h_s, .inl (cI, 335, .inl f_s)), (h_names, .inl (cJ, 36, .inr (.inl f_names))), (h_reserved, .inl (cJ, 23, .inr (.inl f_reserved))), (h_planRead, .inl (cI, 24, .inl g708)), (h0, .inr (10, vL 67 F725)), (h_tape, .inl (cB, 940, .inl f_tape))] := hD
            refine W.widen (k := 0) (n := 0) (Nat.le_of_ble_eq_true rfl) (Nat.le_of_ble_eq_true rfl) ?_
            obtain ⟨v747, ev747⟩ : ∃ z : Int32, z = u642 + 1 := ⟨_, rfl⟩
            have bv747 : v747.toInt = u642.toInt + 1 := by rw [ev747]; exact add_k rfl rfl k678 ⟨Int.le_refl _, Int.le_refl _⟩ (by decide)
            have k748 : 1 ≤ v747.toInt ∧ v747.toInt ≤ 4 := add_r bv747 k678 ⟨Int.le_refl _, Int.le_refl _⟩ (by decide)
            refine lv_iinc (v := v747) (lv' := [(1, .int v747), (0, .ref h0)]) hx hb dX10_planLine_70 hl (k := 0) rfl (by rw [ev747]; rfl) (by decide) rfl (fun ls hl => ?_)
            refine lv_goto (tgt := 22) hx hb dX10_planLine_73 (by decide) ?_
            have n749 : F725 15 = .int y687 := (SAME.at t732 (by decide) t691)
            have n750 : F725 16 = .int y688 := (SAME.at t732 (by decide) t692)
            have n751 : F725 19 = .int y689 := (SAME.at t732 (by decide) t693)
            exact ih (v747, g708, F725, y726, y727, y728, y729, y730, y687, y688, y731, y689) ⟨(ir_wk k748 (by decide) (by decide)), r709, r710, (SAME.tr (SAME.tr (SAME.tr SAME.rf i658 (by decide)) t690 (by decide)) t732 (by decide)), t733, t735, t737, t739, t741, n749, n750, t742, n751, t734, t736, (by show (y727.toInt = 2 → 0 ≤ y730.toInt ∧ y730.toInt ≤ 999); omega)⟩ (by show (4 - v747.toInt).toNat < (4 - u642.toInt).toNat; omega) _ _ _ hP hD hS (lv_sub hl [0, 1] rfl)
          · have dc704 : 0 ≤ r701.toInt := nlt_i (a := r701.toInt) (b := 0) rfl rfl c704
            have k752 : 0 ≤ r701.toInt ∧ r701.toInt ≤ 3 := ⟨Int.le_trans (Int.le_refl _) dc704, t702.2⟩
            refine lv_aload_n hx hb dX10_planLine_48 rfl (lv_at hl 1 rfl) ?_
            refine lv_iconst (v := 3) hx hb dX10_planLine_49 (by decide) ?_
            have n753 : F686 12 = .int u647 := (SAME.at t690 (by decide) i661)
            refine call_Vi (wr := [(h_tape, .inl (cB, 940, .inl f_tape)), (h_s, .inl (cI, 335, .inl f_s)), (h_names, .inl (cJ, 36, .inr (.inl f_names))), (h_reserved, .inl (cJ, 23, .inr (.inl f_reserved))), (h_planRead, .inl (cI, 24, .inl w643))]) (As := [.int 3]) (rest := []) hx hb hml hown hw (m_X10_bad l D cI cJ cB cP cM cZ h0 F686 u647 3 _ n753) wV_X10_205_X10_bad dX10_planLine_50 hK hP hD hS hA [4] [0, 1, 2, 3, 5] rfl rfl (by decide) (by decide) (by decide) 0 10 rfl rfl GG.fb hG.at hl.1 rfl (Nat.le_of_ble_eq_true rfl) ⟨(Nat.le_of_ble_eq_true rfl), (Nat.le_of_ble_eq_true rfl)⟩ ⟨(Nat.le_of_ble_eq_true rfl), (Nat.le_of_ble_eq_true rfl)⟩ (fun r754 u H locs hp hP hD hS => ?_)
            have zl3 : (3 : Int32).toInt = 3 := by decide
            obtain ⟨F755, t756, t757, t758, rfl, rfl⟩ := hp
            have hP : va_P D vwCl [(h_tape, .inl (cB, 940, .inl f_tape)), (h_s, .inl (cI, 335, .inl f_s)), (h_names, .inl (cJ, 36, .inr (.inl f_names))), (h_reserved, .inl (cJ, 23, .inr (.inl f_reserved))), (h_planRead, .inl (cI, 24, .inl w643)), (h0, .inr (10, vL 67 F755))] H := hP
            have hD : va_D A [(h_tape, .inl (cB, 940, .inl f_tape)), (h_s, .inl (cI, 335, .inl f_s)), (h_names, .inl (cJ, 36, .inr (.inl f_names))), (h_reserved, .inl (cJ, 23, .inr (.inl f_reserved))), (h_planRead, .inl (cI, 24, .inl w643)), (h0, .inr (10, vL 67 F755))] := hD
            refine W.widen (k := 0) (n := 0) (Nat.le_of_ble_eq_true rfl) (Nat.le_of_ble_eq_true rfl) ?_
            exact ret_i (v := 0) hx hb hr hlocks hS (hP.sub (ws' := [(h0, .inr (10, vL 67 F755)), (h_tape, .inl (cB, 940, .inl f_tape)), (h_s, .inl (cI, 335, .inl f_s)), (h_names, .inl (cJ, 36, .inr (.inl f_names))), (h_reserved, .inl (cJ, 23, .inr (.inl f_reserved))), (h_planRead, .inl (cI, 24, .inl w643))]) [5, 0, 1, 2, 3, 4] rfl) (hD.sub (ws' := [(h0, .inr (10, vL 67 F755)), (h_tape, .inl (cB, 940, .inl f_tape)), (h_s, .inl (cI, 335, .inl f_s)), (h_names, .inl (cJ, 36, .inr (.inl f_names))), (h_reserved, .inl (cJ, 23, .inr (.inl f_reserved))), (h_planRead, .inl (cI, 24, .inl w643))]) [5, 0, 1, 2, 3, 4] (by decide) rfl) dX10_planLine_53 rfl (Nat.le_of_ble_eq_true rfl) (Nat.le_of_ble_eq_true rfl) ⟨F755, u645, u646, u647, u648, u649, 3, u647, u652, y689, y623, x_jumped, x_heights, w643, (SAME.tr (SAME.tr (SAME.tr (SAME.tr SAME.rf t624 (by decide)) i658 (by decide)) t690 (by decide)) t756 (by decide)), (SAME.at t756 (by decide) (SAME.at t690 (by decide) i659)), i668, (SAME.at t756 (by decide) (SAME.at t690 (by decide) i660)), i669, (SAME.at t756 (by decide) n753), (SAME.at t756 (by decide) (SAME.at t690 (by decide) i662)), (SAME.at t756 (by decide) (SAME.at t690 (by decide) i663)), t757, t758, (SAME.at t756 (by decide) (SAME.at t690 (by decide) i666)), (SAME.at t756 (by decide) t693), (SAME.at t756 (by decide) (SAME.at t690 (by decide) (SAME.at i658 (by decide) t635))), (SAME.at t756 (by decide) (SAME.at t690 (by decide) (SAME.at i658 (by decide) (SAME.at t624 (by decide) e_jumped)))), (SAME.at t756 (by decide) (SAME.at t690 (by decide) (SAME.at i658 (by decide) (SAME.at t624 (by decide) e_heights)))), i656, i657, (show 0 ≤ (0 : Int32).toInt ∧ (0 : Int32).toInt ≤ 1 by decide), (by have zl0 : (0 : Int32).toInt = 0 := (by decide); omega), (by have zl3 : (3 : Int32).toInt = 3 := (by decide); omega), rfl⟩
        · have dc696 : r685.toInt = 0 := eq_i (a := r685.toInt) (b := 0) rfl rfl c696
          have k760 : 0 ≤ r685.toInt ∧ r685.toInt ≤ 0 := ⟨t694.1, Int.le_trans (Int.le_of_eq dc696) (Int.le_refl _)⟩
          refine lv_iconst (v := 0) hx hb dX10_planLine_34 (by decide) ?_
          exact ret_i (v := 0) hx hb hr hlocks hS (hP.sub (ws' := [(h0, .inr (10, vL 67 F686)), (h_tape, .inl (cB, 940, .inl f_tape)), (h_s, .inl (cI, 335, .inl f_s)), (h_names, .inl (cJ, 36, .inr (.inl f_names))), (h_reserved, .inl (cJ, 23, .inr (.inl f_reserved))), (h_planRead, .inl (cI, 24, .inl w643))]) [2, 1, 3, 4, 5, 0] rfl) (hD.sub (ws' := [(h0, .inr (10, vL 67 F686)), (h_tape, .inl (cB, 940, .inl f_tape)), (h_s, .inl (cI, 335, .inl f_s)), (h_names, .inl (cJ, 36, .inr (.inl f_names))), (h_reserved, .inl (cJ, 23, .inr (.inl f_reserved))), (h_planRead, .inl (cI, 24, .inl w643))]) [2, 1, 3, 4, 5, 0] (by decide) rfl) dX10_planLine_35 rfl (Nat.le_of_ble_eq_true rfl) (Nat.le_of_ble_eq_true rfl) ⟨F686, u645, u646, u647, u648, u649, y687, y688, u652, y689, y623, x_jumped, x_heights, w643, (SAME.tr (SAME.tr (SAME.tr SAME.rf t624 (by decide)) i658 (by decide)) t690 (by decide)), (SAME.at t690 (by decide) i659), i668, (SAME.at t690 (by decide) i660), i669, (SAME.at t690 (by decide) i661), (SAME.at t690 (by decide) i662), (SAME.at t690 (by decide) i663), t691, t692, (SAME.at t690 (by decide) i666), t693, (SAME.at t690 (by decide) (SAME.at i658 (by decide) t635)), (SAME.at t690 (by decide) (SAME.at i658 (by decide) (SAME.at t624 (by decide) e_jumped))), (SAME.at t690 (by decide) (SAME.at i658 (by decide) (SAME.at t624 (by decide) e_heights))), i656, i657, (show 0 ≤ (0 : Int32).toInt ∧ (0 : Int32).toInt ≤ 1 by decide), (by have zl0 : (0 : Int32).toInt = 0 := (by decide); omega), (by omega), rfl⟩
    · have dc640 : r613.toInt = 0 := eq_i (a := r613.toInt) (b := 0) rfl rfl c640
      have k761 : 0 ≤ r613.toInt ∧ r613.toInt ≤ 0 := ⟨t636.1, Int.le_trans (Int.le_of_eq dc640) (Int.le_refl _)⟩
      refine lv_iconst (v := 0) hx hb dX10_planLine_18 (by decide) ?_
      exact ret_i (v := 0) hx hb hr hlocks hS (hP.sub (ws' := [(h0, .inr (10, vL 67 F614)), (h_tape, .inl (cB, 940, .inl f_tape)), (h_s, .inl (cI, 335, .inl f_s)), (h_names, .inl (cJ, 36, .inr (.inl f_names))), (h_reserved, .inl (cJ, 23, .inr (.inl f_reserved))), (h_planRead, .inl (cI, 24, .inl f_planRead))]) [4, 5, 0, 1, 2, 3] rfl) (hD.sub (ws' := [(h0, .inr (10, vL 67 F614)), (h_tape, .inl (cB, 940, .inl f_tape)), (h_s, .inl (cI, 335, .inl f_s)), (h_names, .inl (cJ, 36, .inr (.inl f_names))), (h_reserved, .inl (cJ, 23, .inr (.inl f_reserved))), (h_planRead, .inl (cI, 24, .inl f_planRead))]) [4, 5, 0, 1, 2, 3] (by decide) rfl) dX10_planLine_19 rfl (Nat.le_of_ble_eq_true rfl) (Nat.le_of_ble_eq_true rfl) ⟨F614, y615, y616, y617, y618, y619, y620, y621, y622, x_got, y623, x_jumped, x_heights, f_planRead, (SAME.tr SAME.rf t624 (by decide)), t625, t626, t627, t628, t629, t630, t631, t632, t633, t634, (SAME.at t624 (by decide) e_got), t635, (SAME.at t624 (by decide) e_jumped), (SAME.at t624 (by decide) e_heights), s_planRead_1, s_planRead_10, (show 0 ≤ (0 : Int32).toInt ∧ (0 : Int32).toInt ≤ 1 by decide), (by have zl0 : (0 : Int32).toInt = 0 := (by decide); omega), (by omega), rfl⟩
