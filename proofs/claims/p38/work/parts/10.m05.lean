set_option maxHeartbeats 4000000 in
set_option maxRecDepth 100000 in
theorem m_X10_course (l : Launch) (D : va_G) (cI cJ cB cP cM cZ : ClassId) (h0 : Nat) (h_tape : Nat) (h_s : Nat) (h_h : Nat) (h_names : Nat) (h_reserved : Nat) (Fh : Nat → Value) (x_length : Int32) (x_token : Int32) (x_number : Int32) (x_faultAt : Int32) (x_ids : Int32) (x_word : Int64) (x_got : Int32) (x_undoMany : Int32) (f_tape : Nat → Int32) (f_s : Nat → Int32) (f_h : Nat → Int32) (f_names : Nat → Int64) (f_reserved : Nat → Int64) (sz : Nat) (e_tape : Fh 1 = .ref h_tape) (e_length : Fh 2 = .int x_length) (i_x_length : IR 0 940 x_length) (e_s : Fh 6 = .ref h_s) (e_h : Fh 7 = .ref h_h) (e_names : Fh 9 = .ref h_names) (e_reserved : Fh 10 = .ref h_reserved) (e_token : Fh 11 = .int x_token) (i_x_token : IR 0 4 x_token) (e_number : Fh 14 = .int x_number) (e_faultAt : Fh 16 = .int x_faultAt) (e_ids : Fh 17 = .int x_ids) (e_word : Fh 18 = .long x_word) (e_got : Fh 19 = .int x_got) (e_undoMany : Fh 41 = .int x_undoMany) (i_x_undoMany : IR 0 8 x_undoMany) (s_s_K0 : KW 0 f_s) (s_s_0 : SG 0 0 0 40 f_s) (s_s_105 : SG 105 108 0 11 f_s) (s_s_114 : SG 114 114 0 5 f_s) (s_s_130 : SG 130 133 0 11 f_s) (s_s_139 : SG 139 139 0 5 f_s) (s_s_153 : SG 153 153 0 44 f_s) (s_s_44 : SG 44 55 0 9 f_s) (s_s_5 : SG 5 5 0 12 f_s) (s_s_6 : SG 6 6 0 12 f_s) (s_s_7 : SG 7 7 0 6 f_s) (s_h_0 : SG 0 0 0 40 f_h) (s_h_44 : SG 44 55 0 9 f_h) (s_h_5 : SG 5 5 0 12 f_h) (s_h_6 : SG 6 6 0 12 f_h) (s_h_7 : SG 7 7 0 6 f_h) (o_0 : (x_token.toInt = 2 → 0 ≤ x_number.toInt ∧ x_number.toInt ≤ 999)) : CI l yX10_course cX10_course 2 (some .int) { frames := 4, cells := 0, slots := 0, locals := 87 } (GG D cI cJ cB cP cM cZ) D [(h0, .inr (10, vL 67 Fh)), (h_tape, .inl (cB, 940, .inl f_tape)), (h_s, .inl (cI, 335, .inl f_s)), (h_h, .inl (cI, 104, .inl f_h)), (h_names, .inl (cJ, 36, .inr (.inl f_names))), (h_reserved, .inl (cJ, 23, .inr (.inl f_reserved)))] sz [.ref h0] (fun (r : Int32) (u : va_W) => ∃ (Gh : Nat → Value) (y_p : Int32) (y_token : Int32) (y_at : Int32) (y_span : Int32) (y_number : Int32) (y_fault : Int32) (y_faultAt : Int32) (y_ids : Int32) (y_word : Int64) (y_got : Int32) (y_lines : Int32) (y_onces : Int32) (y_undoMany : Int32) (g_s : Nat → Int32) (g_h : Nat → Int32) (g_names : Nat → Int64), SAME [0, 2, 3, 4, 5, 11, 12, 13, 14, 15, 16, 17, 18, 19, 20, 21, 41] Fh Gh ∧ Gh 0 = .int 0 ∧ Gh 2 = .int 0 ∧ Gh 3 = .int x_length ∧ Gh 4 = .int y_p ∧ IR 0 940 y_p ∧ Gh 5 = .int 900 ∧ Gh 11 = .int y_token ∧ IR 0 4 y_token ∧ Gh 12 = .int y_at ∧ Gh 13 = .int y_span ∧ Gh 14 = .int y_number ∧ Gh 15 = .int y_fault ∧ Gh 16 = .int y_faultAt ∧ Gh 17 = .int y_ids ∧ Gh 18 = .long y_word ∧ Gh 19 = .int y_got ∧ Gh 20 = .int y_lines ∧ Gh 21 = .int y_onces ∧ Gh 41 = .int y_undoMany ∧ IR 0 8 y_undoMany ∧ SG 153 153 0 44 g_s ∧ SG 0 0 0 40 g_s ∧ SG 5 5 0 12 g_s ∧ SG 6 6 0 12 g_s ∧ SG 7 7 0 6 g_s ∧ SG 44 55 0 9 g_s ∧ KW 0 g_s ∧ SG 105 108 0 11 g_s ∧ SG 114 114 0 5 g_s ∧ SG 130 133 0 11 g_s ∧ SG 139 139 0 5 g_s ∧ SG 0 0 0 40 g_h ∧ SG 5 5 0 12 g_h ∧ SG 6 6 0 12 g_h ∧ SG 7 7 0 6 g_h ∧ SG 44 55 0 9 g_h ∧ ((y_token.toInt = 2 → 0 ≤ y_number.toInt ∧ y_number.toInt ≤ 999)) ∧ u = [(h0, .inr (10, vL 67 Gh)), (h_tape, .inl (cB, 940, .inl f_tape)), (h_s, .inl (cI, 335, .inl g_s)), (h_h, .inl (cI, 104, .inl g_h)), (h_names, .inl (cJ, 36, .inr (.inl g_names))), (h_reserved, .inl (cJ, 23, .inr (.inl f_reserved)))]) := by
  refine CI_mk (by decide) (Nat.le_of_ble_eq_true rfl) ?_
  intro p e s m below meth c A ls E hAe hG hsz hP hD hA hS hl
  obtain ⟨hx, hb, hr, hw, hown, hlocks, hml, hnm⟩ := E
  have hK := hG.1
  have i_x_length : 0 ≤ x_length.toInt ∧ x_length.toInt ≤ 940 := i_x_length
  have i_x_token : 0 ≤ x_token.toInt ∧ x_token.toInt ≤ 4 := i_x_token
  have i_x_undoMany : 0 ≤ x_undoMany.toInt ∧ x_undoMany.toInt ≤ 8 := i_x_undoMany
  have hl : lv_has ls 2 [(0, .ref h0)] := hl
  refine lv_aload_n hx hb dX10_course_0 rfl (lv_at hl 0 rfl) ?_
  refine lv_iconst (v := 0) hx hb dX10_course_1 (by decide) ?_
  refine put_f (D := D) (ci := 10) (v := .int 0) (ty := .int) (C := RX10) (T := TX10) (N := 67) hx hb hw inAX10 tyX10 tyX10_ok nmX10 hown hK hP hD hS 0 rfl rfl 0 (by decide) (hw _ q_1261) (fun _ h9 => h9) rfl (by decide +kernel) rfl rfl dX10_course_2 (fun H locs F1 eF1 hP hD hS => ?_)
  have hP : va_P D vwCl [(h0, .inr (10, vL 67 F1)), (h_tape, .inl (cB, 940, .inl f_tape)), (h_s, .inl (cI, 335, .inl f_s)), (h_h, .inl (cI, 104, .inl f_h)), (h_names, .inl (cJ, 36, .inr (.inl f_names))), (h_reserved, .inl (cJ, 23, .inr (.inl f_reserved)))] H := hP
  have hD : va_D A [(h0, .inr (10, vL 67 F1)), (h_tape, .inl (cB, 940, .inl f_tape)), (h_s, .inl (cI, 335, .inl f_s)), (h_h, .inl (cI, 104, .inl f_h)), (h_names, .inl (cJ, 36, .inr (.inl f_names))), (h_reserved, .inl (cJ, 23, .inr (.inl f_reserved)))] := hD
  refine lv_aload_n hx hb dX10_course_5 rfl (lv_at hl 0 rfl) ?_
  refine lv_sipush (v := 900) hx hb dX10_course_6 (by decide) ?_
  have n2 : F1 2 = .int x_length := (get_ne eF1 (by decide) e_length)
  refine call_Vv (wr := [(h_tape, .inl (cB, 940, .inl f_tape)), (h_s, .inl (cI, 335, .inl f_s)), (h_h, .inl (cI, 104, .inl f_h)), (h_names, .inl (cJ, 36, .inr (.inl f_names))), (h_reserved, .inl (cJ, 23, .inr (.inl f_reserved)))]) (As := [.int 900]) (rest := []) hx hb hml hown hw (m_X10_taken l D cI cJ cB cP cM cZ h0 F1 x_length 900 _ n2 i_x_length (show 200 ≤ (900 : Int32).toInt ∧ (900 : Int32).toInt ≤ 940 by decide)) wV_X10_248_X10_taken dX10_course_9 hK hP hD hS hA [0] [1, 2, 3, 4, 5] rfl rfl (by decide) (by decide) (by decide) 0 10 rfl rfl GG.fb hG.at hl.1 rfl (Nat.le_of_ble_eq_true rfl) ⟨(Nat.le_of_ble_eq_true rfl), (Nat.le_of_ble_eq_true rfl)⟩ ⟨(Nat.le_of_ble_eq_true rfl), (Nat.le_of_ble_eq_true rfl)⟩ (fun u H locs hp hP hD hS => ?_)
  have zl900 : (900 : Int32).toInt = 900 := by decide
  obtain ⟨F4, t5, t6, t7, t8, t9, rfl⟩ := hp
  have hP : va_P D vwCl [(h_tape, .inl (cB, 940, .inl f_tape)), (h_s, .inl (cI, 335, .inl f_s)), (h_h, .inl (cI, 104, .inl f_h)), (h_names, .inl (cJ, 36, .inr (.inl f_names))), (h_reserved, .inl (cJ, 23, .inr (.inl f_reserved))), (h0, .inr (10, vL 67 F4))] H := hP
  have hD : va_D A [(h_tape, .inl (cB, 940, .inl f_tape)), (h_s, .inl (cI, 335, .inl f_s)), (h_h, .inl (cI, 104, .inl f_h)), (h_names, .inl (cJ, 36, .inr (.inl f_names))), (h_reserved, .inl (cJ, 23, .inr (.inl f_reserved))), (h0, .inr (10, vL 67 F4))] := hD
  refine W.widen (k := 0) (n := 0) (Nat.le_of_ble_eq_true rfl) (Nat.le_of_ble_eq_true rfl) ?_
  refine lv_aload_n hx hb dX10_course_12 rfl (lv_at hl 0 rfl) ?_
  refine lv_iconst (v := 0) hx hb dX10_course_13 (by decide) ?_
  refine put_f (D := D) (ci := 10) (v := .int 0) (ty := .int) (C := RX10) (T := TX10) (N := 67) hx hb hw inAX10 tyX10 tyX10_ok nmX10 hown hK hP hD hS 5 rfl rfl 15 (by decide) (hw _ q_1276) (fun _ h9 => h9) rfl (by decide +kernel) rfl rfl dX10_course_14 (fun H locs F11 eF11 hP hD hS => ?_)
  have hP : va_P D vwCl [(h_tape, .inl (cB, 940, .inl f_tape)), (h_s, .inl (cI, 335, .inl f_s)), (h_h, .inl (cI, 104, .inl f_h)), (h_names, .inl (cJ, 36, .inr (.inl f_names))), (h_reserved, .inl (cJ, 23, .inr (.inl f_reserved))), (h0, .inr (10, vL 67 F11))] H := hP
  have hD : va_D A [(h_tape, .inl (cB, 940, .inl f_tape)), (h_s, .inl (cI, 335, .inl f_s)), (h_h, .inl (cI, 104, .inl f_h)), (h_names, .inl (cJ, 36, .inr (.inl f_names))), (h_reserved, .inl (cJ, 23, .inr (.inl f_reserved))), (h0, .inr (10, vL 67 F11))] := hD
  refine lv_aload_n hx hb dX10_course_17 rfl (lv_at hl 0 rfl) ?_
  refine lv_iconst (v := 0) hx hb dX10_course_18 (by decide) ?_
  refine put_f (D := D) (ci := 10) (v := .int 0) (ty := .int) (C := RX10) (T := TX10) (N := 67) hx hb hw inAX10 tyX10 tyX10_ok nmX10 hown hK hP hD hS 5 rfl rfl 20 (by decide) (hw _ q_1281) (fun _ h9 => h9) rfl (by decide +kernel) rfl rfl dX10_course_19 (fun H locs F12 eF12 hP hD hS => ?_)
  have hP : va_P D vwCl [(h_tape, .inl (cB, 940, .inl f_tape)), (h_s, .inl (cI, 335, .inl f_s)), (h_h, .inl (cI, 104, .inl f_h)), (h_names, .inl (cJ, 36, .inr (.inl f_names))), (h_reserved, .inl (cJ, 23, .inr (.inl f_reserved))), (h0, .inr (10, vL 67 F12))] H := hP
  have hD : va_D A [(h_tape, .inl (cB, 940, .inl f_tape)), (h_s, .inl (cI, 335, .inl f_s)), (h_h, .inl (cI, 104, .inl f_h)), (h_names, .inl (cJ, 36, .inr (.inl f_names))), (h_reserved, .inl (cJ, 23, .inr (.inl f_reserved))), (h0, .inr (10, vL 67 F12))] := hD
  refine lv_aload_n hx hb dX10_course_22 rfl (lv_at hl 0 rfl) ?_
  refine lv_iconst (v := 0) hx hb dX10_course_23 (by decide) ?_
  refine put_f (D := D) (ci := 10) (v := .int 0) (ty := .int) (C := RX10) (T := TX10) (N := 67) hx hb hw inAX10 tyX10 tyX10_ok nmX10 hown hK hP hD hS 5 rfl rfl 21 (by decide) (hw _ q_1282) (fun _ h9 => h9) rfl (by decide +kernel) rfl rfl dX10_course_24 (fun H locs F13 eF13 hP hD hS => ?_)
  have hP : va_P D vwCl [(h_tape, .inl (cB, 940, .inl f_tape)), (h_s, .inl (cI, 335, .inl f_s)), (h_h, .inl (cI, 104, .inl f_h)), (h_names, .inl (cJ, 36, .inr (.inl f_names))), (h_reserved, .inl (cJ, 23, .inr (.inl f_reserved))), (h0, .inr (10, vL 67 F13))] H := hP
  have hD : va_D A [(h_tape, .inl (cB, 940, .inl f_tape)), (h_s, .inl (cI, 335, .inl f_s)), (h_h, .inl (cI, 104, .inl f_h)), (h_names, .inl (cJ, 36, .inr (.inl f_names))), (h_reserved, .inl (cJ, 23, .inr (.inl f_reserved))), (h0, .inr (10, vL 67 F13))] := hD
  refine lv_aload_n hx hb dX10_course_27 rfl (lv_at hl 0 rfl) ?_
  have n14 : F1 7 = .ref h_h := (get_ne eF1 (by decide) e_h)
  have n15 : F4 7 = .ref h_h := (SAME.at t5 (by decide) n14)
  have n16 : F11 7 = .ref h_h := (get_ne eF11 (by decide) n15)
  have n17 : F12 7 = .ref h_h := (get_ne eF12 (by decide) n16)
  have n18 : F13 7 = .ref h_h := (get_ne eF13 (by decide) n17)
  refine call_Vv (wr := [(h_tape, .inl (cB, 940, .inl f_tape)), (h_s, .inl (cI, 335, .inl f_s)), (h_names, .inl (cJ, 36, .inr (.inl f_names))), (h_reserved, .inl (cJ, 23, .inr (.inl f_reserved)))]) (As := []) (rest := []) hx hb hml hown hw (m_X10_clears l D cI cJ cB cP cM cZ h0 h_h F13 f_h _ n18 s_h_0 s_h_44 s_h_5 s_h_6 s_h_7) wV_X10_166_X10_clears dX10_course_28 hK hP hD hS hA [5, 2] [0, 1, 3, 4] rfl rfl (by decide) (by decide) (by decide) 0 10 rfl rfl GG.fb hG.at hl.1 rfl (Nat.le_of_ble_eq_true rfl) ⟨(Nat.le_of_ble_eq_true rfl), (Nat.le_of_ble_eq_true rfl)⟩ ⟨(Nat.le_of_ble_eq_true rfl), (Nat.le_of_ble_eq_true rfl)⟩ (fun u H locs hp hP hD hS => ?_)
  obtain ⟨g20, t21, t22, t23, t24, t25, rfl⟩ := hp
  have hP : va_P D vwCl [(h_tape, .inl (cB, 940, .inl f_tape)), (h_s, .inl (cI, 335, .inl f_s)), (h_names, .inl (cJ, 36, .inr (.inl f_names))), (h_reserved, .inl (cJ, 23, .inr (.inl f_reserved))), (h0, .inr (10, vL 67 F13)), (h_h, .inl (cI, 104, .inl g20))] H := hP
  have hD : va_D A [(h_tape, .inl (cB, 940, .inl f_tape)), (h_s, .inl (cI, 335, .inl f_s)), (h_names, .inl (cJ, 36, .inr (.inl f_names))), (h_reserved, .inl (cJ, 23, .inr (.inl f_reserved))), (h0, .inr (10, vL 67 F13)), (h_h, .inl (cI, 104, .inl g20))] := hD
  refine W.widen (k := 0) (n := 0) (Nat.le_of_ble_eq_true rfl) (Nat.le_of_ble_eq_true rfl) ?_
  refine lv_aload_n hx hb dX10_course_31 rfl (lv_at hl 0 rfl) ?_
  have n27 : F1 1 = .ref h_tape := (get_ne eF1 (by decide) e_tape)
  have n28 : F4 1 = .ref h_tape := (SAME.at t5 (by decide) n27)
  have n29 : F11 1 = .ref h_tape := (get_ne eF11 (by decide) n28)
  have n30 : F12 1 = .ref h_tape := (get_ne eF12 (by decide) n29)
  have n31 : F13 1 = .ref h_tape := (get_ne eF13 (by decide) n30)
  have n32 : F11 3 = .int x_length := (get_ne eF11 (by decide) t7)
  have n33 : F12 3 = .int x_length := (get_ne eF12 (by decide) n32)
  have n34 : F13 3 = .int x_length := (get_ne eF13 (by decide) n33)
  have n35 : F11 4 = .int 0 := (get_ne eF11 (by decide) t8)
  have n36 : F12 4 = .int 0 := (get_ne eF12 (by decide) n35)
  have n37 : F13 4 = .int 0 := (get_ne eF13 (by decide) n36)
  have n38 : F11 5 = .int 900 := (get_ne eF11 (by decide) t9)
  have n39 : F12 5 = .int 900 := (get_ne eF12 (by decide) n38)
  have n40 : F13 5 = .int 900 := (get_ne eF13 (by decide) n39)
  have n41 : F1 11 = .int x_token := (get_ne eF1 (by decide) e_token)
  have n42 : F4 11 = .int x_token := (SAME.at t5 (by decide) n41)
  have n43 : F11 11 = .int x_token := (get_ne eF11 (by decide) n42)
  have n44 : F12 11 = .int x_token := (get_ne eF12 (by decide) n43)
  have n45 : F13 11 = .int x_token := (get_ne eF13 (by decide) n44)
  have n46 : F1 14 = .int x_number := (get_ne eF1 (by decide) e_number)
  have n47 : F4 14 = .int x_number := (SAME.at t5 (by decide) n46)
  have n48 : F11 14 = .int x_number := (get_ne eF11 (by decide) n47)
  have n49 : F12 14 = .int x_number := (get_ne eF12 (by decide) n48)
  have n50 : F13 14 = .int x_number := (get_ne eF13 (by decide) n49)
  have n51 : F1 18 = .long x_word := (get_ne eF1 (by decide) e_word)
  have n52 : F4 18 = .long x_word := (SAME.at t5 (by decide) n51)
  have n53 : F11 18 = .long x_word := (get_ne eF11 (by decide) n52)
  have n54 : F12 18 = .long x_word := (get_ne eF12 (by decide) n53)
  have n55 : F13 18 = .long x_word := (get_ne eF13 (by decide) n54)
  refine call_Vv (wr := [(h_s, .inl (cI, 335, .inl f_s)), (h_names, .inl (cJ, 36, .inr (.inl f_names))), (h_reserved, .inl (cJ, 23, .inr (.inl f_reserved))), (h_h, .inl (cI, 104, .inl g20))]) (As := []) (rest := []) hx hb hml hown hw (m_X10_next l D cI cJ cB cP cM cZ h0 h_tape F13 x_length 0 900 x_token x_number x_word f_tape _ n31 n34 i_x_length n37 (show 0 ≤ (0 : Int32).toInt ∧ (0 : Int32).toInt ≤ 940 by decide) n40 (show 200 ≤ (900 : Int32).toInt ∧ (900 : Int32).toInt ≤ 940 by decide) n45 i_x_token n50 n55 (by omega)) wV_X10_208_X10_next dX10_course_32 hK hP hD hS hA [4, 0] [1, 2, 3, 5] rfl rfl (by decide) (by decide) (by decide) 0 10 rfl rfl GG.fb hG.at hl.1 rfl (Nat.le_of_ble_eq_true rfl) ⟨(Nat.le_of_ble_eq_true rfl), (Nat.le_of_ble_eq_true rfl)⟩ ⟨(Nat.le_of_ble_eq_true rfl), (Nat.le_of_ble_eq_true rfl)⟩ (fun u H locs hp hP hD hS => ?_)
  have zl0 : (0 : Int32).toInt = 0 := by decide
  obtain ⟨F57, y58, y59, y60, y61, y62, y63, t64, t65, t66, t67, t68, t69, t70, t71, t72, t73, t74, t75, t76, t77, rfl⟩ := hp
  have hP : va_P D vwCl [(h_s, .inl (cI, 335, .inl f_s)), (h_names, .inl (cJ, 36, .inr (.inl f_names))), (h_reserved, .inl (cJ, 23, .inr (.inl f_reserved))), (h_h, .inl (cI, 104, .inl g20)), (h0, .inr (10, vL 67 F57)), (h_tape, .inl (cB, 940, .inl f_tape))] H := hP
  have hD : va_D A [(h_s, .inl (cI, 335, .inl f_s)), (h_names, .inl (cJ, 36, .inr (.inl f_names))), (h_reserved, .inl (cJ, 23, .inr (.inl f_reserved))), (h_h, .inl (cI, 104, .inl g20)), (h0, .inr (10, vL 67 F57)), (h_tape, .inl (cB, 940, .inl f_tape))] := hD
  refine W.widen (k := 0) (n := 0) (Nat.le_of_ble_eq_true rfl) (Nat.le_of_ble_eq_true rfl) ?_
  have cut93 : ∀ (w79 : Nat → Int64) (w80 : Nat → Int32) (G81 : Nat → Value) (u82 : Int32) (u83 : Int32) (u84 : Int32) (u85 : Int32) (u86 : Int32) (u87 : Int32) (u88 : Int32) (u89 : Int64) (u90 : Int32) (u91 : Int32) (u92 : Int32) (_ : SG 0 0 0 40 w80) (_ : SG 44 55 0 9 w80) (_ : SG 5 5 0 12 w80) (_ : SG 6 6 0 12 w80) (_ : SG 7 7 0 6 w80) (_ : SAME [4, 11, 12, 13, 14, 15, 16, 18, 19, 20, 21] F57 G81) (_ : G81 4 = .int u82) (_ : G81 11 = .int u83) (_ : G81 12 = .int u84) (_ : G81 13 = .int u85) (_ : G81 14 = .int u86) (_ : G81 15 = .int u87) (_ : G81 16 = .int u88) (_ : G81 18 = .long u89) (_ : G81 19 = .int u90) (_ : G81 20 = .int u91) (_ : G81 21 = .int u92) (_ : IR 0 940 u82) (_ : IR 0 4 u83) (_ : ((u83.toInt = 2 → 0 ≤ u86.toInt ∧ u86.toInt ≤ 999))) (H : Heap) (locs : List Loc) (ls : Array Slot), va_P D vwCl [(h_s, .inl (cI, 335, .inl f_s)), (h_names, .inl (cJ, 36, .inr (.inl w79))), (h_reserved, .inl (cJ, 23, .inr (.inl f_reserved))), (h_h, .inl (cI, 104, .inl w80)), (h0, .inr (10, vL 67 G81)), (h_tape, .inl (cB, 940, .inl f_tape))] H → va_D A [(h_s, .inl (cI, 335, .inl f_s)), (h_names, .inl (cJ, 36, .inr (.inl w79))), (h_reserved, .inl (cJ, 23, .inr (.inl f_reserved))), (h_h, .inl (cI, 104, .inl w80)), (h0, .inr (10, vL 67 G81)), (h_tape, .inl (cB, 940, .inl f_tape))] → va_S A s.heap H locs → lv_has ls 2 [(0, .ref h0)] → W p l e ({ frames := 4, cells := 0, slots := 0, locals := 87 } : Room) s m [.ref h0].toArray below meth c H locs 0 0 (MQ below (va_Qi (fun (r : Int32) (u : va_W) => ∃ (Gh : Nat → Value) (y_p : Int32) (y_token : Int32) (y_at : Int32) (y_span : Int32) (y_number : Int32) (y_fault : Int32) (y_faultAt : Int32) (y_ids : Int32) (y_word : Int64) (y_got : Int32) (y_lines : Int32) (y_onces : Int32) (y_undoMany : Int32) (g_s : Nat → Int32) (g_h : Nat → Int32) (g_names : Nat → Int64), SAME [0, 2, 3, 4, 5, 11, 12, 13, 14, 15, 16, 17, 18, 19, 20, 21, 41] Fh Gh ∧ Gh 0 = .int 0 ∧ Gh 2 = .int 0 ∧ Gh 3 = .int x_length ∧ Gh 4 = .int y_p ∧ IR 0 940 y_p ∧ Gh 5 = .int 900 ∧ Gh 11 = .int y_token ∧ IR 0 4 y_token ∧ Gh 12 = .int y_at ∧ Gh 13 = .int y_span ∧ Gh 14 = .int y_number ∧ Gh 15 = .int y_fault ∧ Gh 16 = .int y_faultAt ∧ Gh 17 = .int y_ids ∧ Gh 18 = .long y_word ∧ Gh 19 = .int y_got ∧ Gh 20 = .int y_lines ∧ Gh 21 = .int y_onces ∧ Gh 41 = .int y_undoMany ∧ IR 0 8 y_undoMany ∧ SG 153 153 0 44 g_s ∧ SG 0 0 0 40 g_s ∧ SG 5 5 0 12 g_s ∧ SG 6 6 0 12 g_s ∧ SG 7 7 0 6 g_s ∧ SG 44 55 0 9 g_s ∧ KW 0 g_s ∧ SG 105 108 0 11 g_s ∧ SG 114 114 0 5 g_s ∧ SG 130 133 0 11 g_s ∧ SG 139 139 0 5 g_s ∧ SG 0 0 0 40 g_h ∧ SG 5 5 0 12 g_h ∧ SG 6 6 0 12 g_h ∧ SG 7 7 0 6 g_h ∧ SG 44 55 0 9 g_h ∧ ((y_token.toInt = 2 → 0 ≤ y_number.toInt ∧ y_number.toInt ≤ 999)) ∧ u = [(h0, .inr (10, vL 67 Gh)), (h_tape, .inl (cB, 940, .inl f_tape)), (h_s, .inl (cI, 335, .inl g_s)), (h_h, .inl (cI, 104, .inl g_h)), (h_names, .inl (cJ, 36, .inr (.inl g_names))), (h_reserved, .inl (cJ, 23, .inr (.inl f_reserved)))]) (PO D A) A) [.ref h0].toArray s 0 0 A) (F0 m 78 ls []) := by
    intro w79 w80 G81 u82 u83 u84 u85 u86 u87 u88 u89 u90 u91 u92 i94 i95 i96 i97 i98 i99 i100 i101 i102 i103 i104 i105 i106 i107 i108 i109 i110 i111 i112 i113 H locs ls hP hD hS hl
    have i111 : 0 ≤ u82.toInt ∧ u82.toInt ≤ 940 := i111
    have i112 : 0 ≤ u83.toInt ∧ u83.toInt ≤ 4 := i112
    have i113 : (u83.toInt = 2 → 0 ≤ u86.toInt ∧ u86.toInt ≤ 999) := i113
    refine lv_iconst (v := 0) hx hb dX10_course_78 (by decide) ?_
    refine lv_istore_n (lv' := [(1, .int 0), (0, .ref h0)]) hx hb dX10_course_79 rfl hl (by decide) rfl (fun ls hl => ?_)
    refine mloop (α := (Int32) × (Nat → Int32)) (nL := 2) (D := D) (A := A) (H0 := s.heap) (fun a => (335 - a.1.toInt).toNat) (fun a => IR 0 335 a.1 ∧ (SGK 0 0 0 40 a.2 (a.1.toInt)) ∧ (SGK 5 5 0 12 a.2 (a.1.toInt)) ∧ (SGK 6 6 0 12 a.2 (a.1.toInt)) ∧ (SGK 7 7 0 6 a.2 (a.1.toInt)) ∧ (SGK 44 55 0 9 a.2 (a.1.toInt)) ∧ (SGK 105 108 0 11 a.2 (a.1.toInt)) ∧ (SGK 114 114 0 5 a.2 (a.1.toInt)) ∧ (SGK 130 133 0 11 a.2 (a.1.toInt)) ∧ (SGK 139 139 0 5 a.2 (a.1.toInt)) ∧ (SGK 153 153 0 0 a.2 (a.1.toInt))) (fun a => [(h_s, .inl (cI, 335, .inl a.2)), (h_names, .inl (cJ, 36, .inr (.inl w79))), (h_reserved, .inl (cJ, 23, .inr (.inl f_reserved))), (h_h, .inl (cI, 104, .inl w80)), (h0, .inr (10, vL 67 G81)), (h_tape, .inl (cB, 940, .inl f_tape))]) (fun a => [(1, .int a.1), (0, .ref h0)]) (fun H locs ls => W p l e ({ frames := 4, cells := 0, slots := 0, locals := 87 } : Room) s m [.ref h0].toArray below meth c H locs 0 0 (MQ below (va_Qi (fun (r : Int32) (u : va_W) => ∃ (Gh : Nat → Value) (y_p : Int32) (y_token : Int32) (y_at : Int32) (y_span : Int32) (y_number : Int32) (y_fault : Int32) (y_faultAt : Int32) (y_ids : Int32) (y_word : Int64) (y_got : Int32) (y_lines : Int32) (y_onces : Int32) (y_undoMany : Int32) (g_s : Nat → Int32) (g_h : Nat → Int32) (g_names : Nat → Int64), SAME [0, 2, 3, 4, 5, 11, 12, 13, 14, 15, 16, 17, 18, 19, 20, 21, 41] Fh Gh ∧ Gh 0 = .int 0 ∧ Gh 2 = .int 0 ∧ Gh 3 = .int x_length ∧ Gh 4 = .int y_p ∧ IR 0 940 y_p ∧ Gh 5 = .int 900 ∧ Gh 11 = .int y_token ∧ IR 0 4 y_token ∧ Gh 12 = .int y_at ∧ Gh 13 = .int y_span ∧ Gh 14 = .int y_number ∧ Gh 15 = .int y_fault ∧ Gh 16 = .int y_faultAt ∧ Gh 17 = .int y_ids ∧ Gh 18 = .long y_word ∧ Gh 19 = .int y_got ∧ Gh 20 = .int y_lines ∧ Gh 21 = .int y_onces ∧ Gh 41 = .int y_undoMany ∧ IR 0 8 y_undoMany ∧ SG 153 153 0 44 g_s ∧ SG 0 0 0 40 g_s ∧ SG 5 5 0 12 g_s ∧ SG 6 6 0 12 g_s ∧ SG 7 7 0 6 g_s ∧ SG 44 55 0 9 g_s ∧ KW 0 g_s ∧ SG 105 108 0 11 g_s ∧ SG 114 114 0 5 g_s ∧ SG 130 133 0 11 g_s ∧ SG 139 139 0 5 g_s ∧ SG 0 0 0 40 g_h ∧ SG 5 5 0 12 g_h ∧ SG 6 6 0 12 g_h ∧ SG 7 7 0 6 g_h ∧ SG 44 55 0 9 g_h ∧ ((y_token.toInt = 2 → 0 ≤ y_number.toInt ∧ y_number.toInt ≤ 999)) ∧ u = [(h0, .inr (10, vL 67 Gh)), (h_tape, .inl (cB, 940, .inl f_tape)), (h_s, .inl (cI, 335, .inl g_s)), (h_h, .inl (cI, 104, .inl g_h)), (h_names, .inl (cJ, 36, .inr (.inl g_names))), (h_reserved, .inl (cJ, 23, .inr (.inl f_reserved)))]) (PO D A) A) [.ref h0].toArray s 0 0 A) (F0 m 80 ls [])) ?_ (0, f_s) ⟨(show 0 ≤ (0 : Int32).toInt ∧ (0 : Int32).toInt ≤ 335 by decide), (show SGK 0 0 0 40 f_s (0) from (SGK.zero (by decide))), (show SGK 5 5 0 12 f_s (0) from (SGK.zero (by decide))), (show SGK 6 6 0 12 f_s (0) from (SGK.zero (by decide))), (show SGK 7 7 0 6 f_s (0) from (SGK.zero (by decide))), (show SGK 44 55 0 9 f_s (0) from (SGK.zero (by decide))), (show SGK 105 108 0 11 f_s (0) from (SGK.zero (by decide))), (show SGK 114 114 0 5 f_s (0) from (SGK.zero (by decide))), (show SGK 130 133 0 11 f_s (0) from (SGK.zero (by decide))), (show SGK 139 139 0 5 f_s (0) from (SGK.zero (by decide))), (show SGK 153 153 0 0 f_s (0) from (SGK.zero (by decide)))⟩ _ _ _ hP hD hS hl
    rintro ⟨u114, w115⟩ ⟨i116, i117, i118, i119, i120, i121, i122, i123, i124, i125, i126⟩ ih H locs ls hP hD hS hl
    have i116 : 0 ≤ u114.toInt ∧ u114.toInt ≤ 335 := i116
    have i117 : SGK 0 0 0 40 w115 (u114.toInt) := i117
    have i118 : SGK 5 5 0 12 w115 (u114.toInt) := i118
    have i119 : SGK 6 6 0 12 w115 (u114.toInt) := i119
    have i120 : SGK 7 7 0 6 w115 (u114.toInt) := i120
    have i121 : SGK 44 55 0 9 w115 (u114.toInt) := i121
    have i122 : SGK 105 108 0 11 w115 (u114.toInt) := i122
    have i123 : SGK 114 114 0 5 w115 (u114.toInt) := i123
    have i124 : SGK 130 133 0 11 w115 (u114.toInt) := i124
    have i125 : SGK 139 139 0 5 w115 (u114.toInt) := i125
    have i126 : SGK 153 153 0 0 w115 (u114.toInt) := i126
    have hP : va_P D vwCl [(h_s, .inl (cI, 335, .inl w115)), (h_names, .inl (cJ, 36, .inr (.inl w79))), (h_reserved, .inl (cJ, 23, .inr (.inl f_reserved))), (h_h, .inl (cI, 104, .inl w80)), (h0, .inr (10, vL 67 G81)), (h_tape, .inl (cB, 940, .inl f_tape))] H := hP
    have hD : va_D A [(h_s, .inl (cI, 335, .inl w115)), (h_names, .inl (cJ, 36, .inr (.inl w79))), (h_reserved, .inl (cJ, 23, .inr (.inl f_reserved))), (h_h, .inl (cI, 104, .inl w80)), (h0, .inr (10, vL 67 G81)), (h_tape, .inl (cB, 940, .inl f_tape))] := hD
    have hl : lv_has ls 2 [(1, .int u114), (0, .ref h0)] := hl
    refine lv_iload_n hx hb dX10_course_80 rfl (lv_at hl 0 rfl) ?_
    refine lv_sipush (v := 335) hx hb dX10_course_81 (by decide) ?_
    refine lv_icmp_ge (tgt := 115) hx hb dX10_course_84 (by decide) (fun c127 => ?_) (fun c127 => ?_)
    · have dc127 : 335 ≤ u114.toInt := le_i (a := 335) (b := u114.toInt) rfl rfl c127
      have k128 : 335 ≤ u114.toInt ∧ u114.toInt ≤ 335 := ⟨Int.le_trans (Int.le_refl _) dc127, i116.2⟩
      have r129 : SG 0 0 0 40 w115 := SGK.all i117 (by omega)
      have r130 : SG 5 5 0 12 w115 := SGK.all i118 (by omega)
      have r131 : SG 6 6 0 12 w115 := SGK.all i119 (by omega)
      have r132 : SG 7 7 0 6 w115 := SGK.all i120 (by omega)
      have r133 : SG 44 55 0 9 w115 := SGK.all i121 (by omega)
      have r134 : SG 105 108 0 11 w115 := SGK.all i122 (by omega)
      have r135 : SG 114 114 0 5 w115 := SGK.all i123 (by omega)
      have r136 : SG 130 133 0 11 w115 := SGK.all i124 (by omega)
      have r137 : SG 139 139 0 5 w115 := SGK.all i125 (by omega)
      have r138 : SG 153 153 0 0 w115 := SGK.all i126 (by omega)
      have r139 : KW 0 w115 := KW.none r138
      refine lv_iconst (v := 0) hx hb dX10_course_115 (by decide) ?_
      refine lv_istore_n (lv' := [(1, .int 0), (0, .ref h0)]) hx hb dX10_course_116 rfl hl (by decide) rfl (fun ls hl => ?_)
      refine mloop (α := (Int32) × (Nat → Int64)) (nL := 2) (D := D) (A := A) (H0 := s.heap) (fun a => (18 - a.1.toInt).toNat) (fun a => IR 0 18 a.1) (fun a => [(h_s, .inl (cI, 335, .inl w115)), (h_names, .inl (cJ, 36, .inr (.inl a.2))), (h_reserved, .inl (cJ, 23, .inr (.inl f_reserved))), (h_h, .inl (cI, 104, .inl w80)), (h0, .inr (10, vL 67 G81)), (h_tape, .inl (cB, 940, .inl f_tape))]) (fun a => [(1, .int a.1), (0, .ref h0)]) (fun H locs ls => W p l e ({ frames := 4, cells := 0, slots := 0, locals := 87 } : Room) s m [.ref h0].toArray below meth c H locs 0 0 (MQ below (va_Qi (fun (r : Int32) (u : va_W) => ∃ (Gh : Nat → Value) (y_p : Int32) (y_token : Int32) (y_at : Int32) (y_span : Int32) (y_number : Int32) (y_fault : Int32) (y_faultAt : Int32) (y_ids : Int32) (y_word : Int64) (y_got : Int32) (y_lines : Int32) (y_onces : Int32) (y_undoMany : Int32) (g_s : Nat → Int32) (g_h : Nat → Int32) (g_names : Nat → Int64), SAME [0, 2, 3, 4, 5, 11, 12, 13, 14, 15, 16, 17, 18, 19, 20, 21, 41] Fh Gh ∧ Gh 0 = .int 0 ∧ Gh 2 = .int 0 ∧ Gh 3 = .int x_length ∧ Gh 4 = .int y_p ∧ IR 0 940 y_p ∧ Gh 5 = .int 900 ∧ Gh 11 = .int y_token ∧ IR 0 4 y_token ∧ Gh 12 = .int y_at ∧ Gh 13 = .int y_span ∧ Gh 14 = .int y_number ∧ Gh 15 = .int y_fault ∧ Gh 16 = .int y_faultAt ∧ Gh 17 = .int y_ids ∧ Gh 18 = .long y_word ∧ Gh 19 = .int y_got ∧ Gh 20 = .int y_lines ∧ Gh 21 = .int y_onces ∧ Gh 41 = .int y_undoMany ∧ IR 0 8 y_undoMany ∧ SG 153 153 0 44 g_s ∧ SG 0 0 0 40 g_s ∧ SG 5 5 0 12 g_s ∧ SG 6 6 0 12 g_s ∧ SG 7 7 0 6 g_s ∧ SG 44 55 0 9 g_s ∧ KW 0 g_s ∧ SG 105 108 0 11 g_s ∧ SG 114 114 0 5 g_s ∧ SG 130 133 0 11 g_s ∧ SG 139 139 0 5 g_s ∧ SG 0 0 0 40 g_h ∧ SG 5 5 0 12 g_h ∧ SG 6 6 0 12 g_h ∧ SG 7 7 0 6 g_h ∧ SG 44 55 0 9 g_h ∧ ((y_token.toInt = 2 → 0 ≤ y_number.toInt ∧ y_number.toInt ≤ 999)) ∧ u = [(h0, .inr (10, vL 67 Gh)), (h_tape, .inl (cB, 940, .inl f_tape)), (h_s, .inl (cI, 335, .inl g_s)), (h_h, .inl (cI, 104, .inl g_h)), (h_names, .inl (cJ, 36, .inr (.inl g_names))), (h_reserved, .inl (cJ, 23, .inr (.inl f_reserved)))]) (PO D A) A) [.ref h0].toArray s 0 0 A) (F0 m 117 ls [])) ?_ (0, w79) (show 0 ≤ (0 : Int32).toInt ∧ (0 : Int32).toInt ≤ 18 by decide) _ _ _ hP hD hS hl
      rintro ⟨u140, w141⟩ i142 ih_117 H locs ls hP hD hS hl
      have i142 : 0 ≤ u140.toInt ∧ u140.toInt ≤ 18 := i142
      have hP : va_P D vwCl [(h_s, .inl (cI, 335, .inl w115)), (h_names, .inl (cJ, 36, .inr (.inl w141))), (h_reserved, .inl (cJ, 23, .inr (.inl f_reserved))), (h_h, .inl (cI, 104, .inl w80)), (h0, .inr (10, vL 67 G81)), (h_tape, .inl (cB, 940, .inl f_tape))] H := hP
      have hD : va_D A [(h_s, .inl (cI, 335, .inl w115)), (h_names, .inl (cJ, 36, .inr (.inl w141))), (h_reserved, .inl (cJ, 23, .inr (.inl f_reserved))), (h_h, .inl (cI, 104, .inl w80)), (h0, .inr (10, vL 67 G81)), (h_tape, .inl (cB, 940, .inl f_tape))] := hD
      have hl : lv_has ls 2 [(1, .int u140), (0, .ref h0)] := hl
      refine lv_iload_n hx hb dX10_course_117 rfl (lv_at hl 0 rfl) ?_
      refine lv_bipush (v := 18) hx hb dX10_course_118 (by decide) ?_
      refine lv_icmp_ge (tgt := 144) hx hb dX10_course_120 (by decide) (fun c143 => ?_) (fun c143 => ?_)
      · have dc143 : 18 ≤ u140.toInt := le_i (a := 18) (b := u140.toInt) rfl rfl c143
        have k144 : 18 ≤ u140.toInt ∧ u140.toInt ≤ 18 := ⟨Int.le_trans (Int.le_refl _) dc143, i142.2⟩
        refine lv_aload_n hx hb dX10_course_144 rfl (lv_at hl 1 rfl) ?_
        refine lv_dup hx hb dX10_course_145 rfl ?_
        have n145 : F1 17 = .int x_ids := (get_ne eF1 (by decide) e_ids)
        have n146 : F4 17 = .int x_ids := (SAME.at t5 (by decide) n145)
        have n147 : F11 17 = .int x_ids := (get_ne eF11 (by decide) n146)
        have n148 : F12 17 = .int x_ids := (get_ne eF12 (by decide) n147)
        have n149 : F13 17 = .int x_ids := (get_ne eF13 (by decide) n148)
        have n150 : F57 17 = .int x_ids := (SAME.at t64 (by decide) n149)
        have n151 : G81 17 = .int x_ids := (SAME.at i99 (by decide) n150)
        refine get_f (D := D) (ci := 10) (v := .int x_ids) (C := RX10) (T := TX10) (N := 67) hx hb hw inAX10 hown hK hP 4 rfl rfl 17 (by decide) (hw _ q_1278) (fun _ h9 => h9) n151 dX10_course_146 ?_
        refine lv_iconst (v := 1) hx hb dX10_course_149 (by decide) ?_
        refine lv_iadd hx hb dX10_course_150 ?_
        refine lv_topi (fun v152 ev152 => ?_)
        refine put_f (D := D) (ci := 10) (v := .int v152) (ty := .int) (C := RX10) (T := TX10) (N := 67) hx hb hw inAX10 tyX10 tyX10_ok nmX10 hown hK hP hD hS 4 rfl rfl 17 (by decide) (hw _ q_1278) (fun _ h9 => h9) rfl (by decide +kernel) rfl rfl dX10_course_151 (fun H locs F153 eF153 hP hD hS => ?_)
        have hP : va_P D vwCl [(h_s, .inl (cI, 335, .inl w115)), (h_names, .inl (cJ, 36, .inr (.inl w141))), (h_reserved, .inl (cJ, 23, .inr (.inl f_reserved))), (h_h, .inl (cI, 104, .inl w80)), (h0, .inr (10, vL 67 F153)), (h_tape, .inl (cB, 940, .inl f_tape))] H := hP
        have hD : va_D A [(h_s, .inl (cI, 335, .inl w115)), (h_names, .inl (cJ, 36, .inr (.inl w141))), (h_reserved, .inl (cJ, 23, .inr (.inl f_reserved))), (h_h, .inl (cI, 104, .inl w80)), (h0, .inr (10, vL 67 F153)), (h_tape, .inl (cB, 940, .inl f_tape))] := hD
        refine lv_aload_n hx hb dX10_course_154 rfl (lv_at hl 1 rfl) ?_
        have n154 : F1 6 = .ref h_s := (get_ne eF1 (by decide) e_s)
        have n155 : F4 6 = .ref h_s := (SAME.at t5 (by decide) n154)
        have n156 : F11 6 = .ref h_s := (get_ne eF11 (by decide) n155)
        have n157 : F12 6 = .ref h_s := (get_ne eF12 (by decide) n156)
        have n158 : F13 6 = .ref h_s := (get_ne eF13 (by decide) n157)
        have n159 : F57 6 = .ref h_s := (SAME.at t64 (by decide) n158)
        have n160 : G81 6 = .ref h_s := (SAME.at i99 (by decide) n159)
        have n161 : F153 6 = .ref h_s := (get_ne eF153 (by decide) n160)
        refine get_f (D := D) (ci := 10) (v := .ref h_s) (C := RX10) (T := TX10) (N := 67) hx hb hw inAX10 hown hK hP 4 rfl rfl 6 (by decide) (hw _ q_1267) (fun _ h9 => h9) n161 dX10_course_155 ?_
        refine lv_sipush (v := 334) hx hb dX10_course_158 (by decide) ?_
        refine lv_aload_n hx hb dX10_course_161 rfl (lv_at hl 1 rfl) ?_
        refine get_f (D := D) (ci := 10) (v := .int v152) (C := RX10) (T := TX10) (N := 67) hx hb hw inAX10 hown hK hP 4 rfl rfl 17 (by decide) (hw _ q_1278) (fun _ h9 => h9) (get_eq eF153) dX10_course_162 ?_
        obtain ⟨g162, eg162⟩ : ∃ z : Nat → Int32, upd w115 334 v152 = z := ⟨_, rfl⟩
        have r163 : KW 0 g162 := by rw [← eg162]; exact r139.upN (by decide)
        have r164 : SG 0 0 0 40 g162 := by rw [← eg162]; exact r129.upN (by decide)
        have r165 : SG 105 108 0 11 g162 := by rw [← eg162]; exact r134.upN (by decide)
        have r166 : SG 114 114 0 5 g162 := by rw [← eg162]; exact r135.upN (by decide)
        have r167 : SG 130 133 0 11 g162 := by rw [← eg162]; exact r136.upN (by decide)
        have r168 : SG 139 139 0 5 g162 := by rw [← eg162]; exact r137.upN (by decide)
        have r169 : SG 153 153 0 0 g162 := by rw [← eg162]; exact r138.upN (by decide)
        have r170 : SG 44 55 0 9 g162 := by rw [← eg162]; exact r133.upN (by decide)
        have r171 : SG 5 5 0 12 g162 := by rw [← eg162]; exact r130.upN (by decide)
        have r172 : SG 6 6 0 12 g162 := by rw [← eg162]; exact r131.upN (by decide)
        have r173 : SG 7 7 0 6 g162 := by rw [← eg162]; exact r132.upN (by decide)
        refine iast_n hx hb hK hP hD hS 0 0 rfl rfl 334 rfl (Nat.le_of_ble_eq_true rfl) (Nat.le_of_ble_eq_true rfl) eg162 dX10_course_165 (fun H locs hP hD hS => ?_)
        have hP : va_P D vwCl [(h_s, .inl (cI, 335, .inl g162)), (h_names, .inl (cJ, 36, .inr (.inl w141))), (h_reserved, .inl (cJ, 23, .inr (.inl f_reserved))), (h_h, .inl (cI, 104, .inl w80)), (h0, .inr (10, vL 67 F153)), (h_tape, .inl (cB, 940, .inl f_tape))] H := hP
        have hD : va_D A [(h_s, .inl (cI, 335, .inl g162)), (h_names, .inl (cJ, 36, .inr (.inl w141))), (h_reserved, .inl (cJ, 23, .inr (.inl f_reserved))), (h_h, .inl (cI, 104, .inl w80)), (h0, .inr (10, vL 67 F153)), (h_tape, .inl (cB, 940, .inl f_tape))] := hD
        refine lv_aload_n hx hb dX10_course_166 rfl (lv_at hl 1 rfl) ?_
        refine get_f (D := D) (ci := 10) (v := .ref h_s) (C := RX10) (T := TX10) (N := 67) hx hb hw inAX10 hown hK hP 4 rfl rfl 6 (by decide) (hw _ q_1267) (fun _ h9 => h9) n161 dX10_course_167 ?_
        refine lv_bipush (v := 115) hx hb dX10_course_170 (by decide) ?_
        refine lv_iconst (v := 1) hx hb dX10_course_172 (by decide) ?_
        obtain ⟨g174, eg174⟩ : ∃ z : Nat → Int32, upd g162 115 1 = z := ⟨_, rfl⟩
        have r175 : KW 0 g174 := by rw [← eg174]; exact r163.upN (by decide)
        have r176 : SG 0 0 0 40 g174 := by rw [← eg174]; exact r164.upN (by decide)
        have r177 : SG 105 108 0 11 g174 := by rw [← eg174]; exact r165.upN (by decide)
        have r178 : SG 114 114 0 5 g174 := by rw [← eg174]; exact r166.upN (by decide)
        have r179 : SG 130 133 0 11 g174 := by rw [← eg174]; exact r167.upN (by decide)
        have r180 : SG 139 139 0 5 g174 := by rw [← eg174]; exact r168.upN (by decide)
        have r181 : SG 153 153 0 0 g174 := by rw [← eg174]; exact r169.upN (by decide)
        have r182 : SG 44 55 0 9 g174 := by rw [← eg174]; exact r170.upN (by decide)
        have r183 : SG 5 5 0 12 g174 := by rw [← eg174]; exact r171.upN (by decide)
        have r184 : SG 6 6 0 12 g174 := by rw [← eg174]; exact r172.upN (by decide)
        have r185 : SG 7 7 0 6 g174 := by rw [← eg174]; exact r173.upN (by decide)
        refine iast_n hx hb hK hP hD hS 0 0 rfl rfl 115 rfl (Nat.le_of_ble_eq_true rfl) (Nat.le_of_ble_eq_true rfl) eg174 dX10_course_173 (fun H locs hP hD hS => ?_)
        have hP : va_P D vwCl [(h_s, .inl (cI, 335, .inl g174)), (h_names, .inl (cJ, 36, .inr (.inl w141))), (h_reserved, .inl (cJ, 23, .inr (.inl f_reserved))), (h_h, .inl (cI, 104, .inl w80)), (h0, .inr (10, vL 67 F153)), (h_tape, .inl (cB, 940, .inl f_tape))] H := hP
        have hD : va_D A [(h_s, .inl (cI, 335, .inl g174)), (h_names, .inl (cJ, 36, .inr (.inl w141))), (h_reserved, .inl (cJ, 23, .inr (.inl f_reserved))), (h_h, .inl (cI, 104, .inl w80)), (h0, .inr (10, vL 67 F153)), (h_tape, .inl (cB, 940, .inl f_tape))] := hD
        refine lv_iconst (v := 0) hx hb dX10_course_174 (by decide) ?_
        refine lv_istore_n (lv' := [(1, .int 0), (0, .ref h0)]) hx hb dX10_course_175 rfl hl (by decide) rfl (fun ls hl => ?_)
        refine mloop (α := (Int32) × (Nat → Int32)) (nL := 2) (D := D) (A := A) (H0 := s.heap) (fun a => (12 - a.1.toInt).toNat) (fun a => IR 0 12 a.1 ∧ KW 0 a.2 ∧ SG 0 0 0 40 a.2 ∧ SG 105 108 0 11 a.2 ∧ SG 114 114 0 5 a.2 ∧ SG 130 133 0 11 a.2 ∧ SG 139 139 0 5 a.2 ∧ SG 153 153 0 44 a.2 ∧ SG 44 55 0 9 a.2 ∧ SG 5 5 0 12 a.2 ∧ SG 6 6 0 12 a.2 ∧ SG 7 7 0 6 a.2) (fun a => [(h_s, .inl (cI, 335, .inl a.2)), (h_names, .inl (cJ, 36, .inr (.inl w141))), (h_reserved, .inl (cJ, 23, .inr (.inl f_reserved))), (h_h, .inl (cI, 104, .inl w80)), (h0, .inr (10, vL 67 F153)), (h_tape, .inl (cB, 940, .inl f_tape))]) (fun a => [(1, .int a.1), (0, .ref h0)]) (fun H locs ls => W p l e ({ frames := 4, cells := 0, slots := 0, locals := 87 } : Room) s m [.ref h0].toArray below meth c H locs 0 0 (MQ below (va_Qi (fun (r : Int32) (u : va_W) => ∃ (Gh : Nat → Value) (y_p : Int32) (y_token : Int32) (y_at : Int32) (y_span : Int32) (y_number : Int32) (y_fault : Int32) (y_faultAt : Int32) (y_ids : Int32) (y_word : Int64) (y_got : Int32) (y_lines : Int32) (y_onces : Int32) (y_undoMany : Int32) (g_s : Nat → Int32) (g_h : Nat → Int32) (g_names : Nat → Int64), SAME [0, 2, 3, 4, 5, 11, 12, 13, 14, 15, 16, 17, 18, 19, 20, 21, 41] Fh Gh ∧ Gh 0 = .int 0 ∧ Gh 2 = .int 0 ∧ Gh 3 = .int x_length ∧ Gh 4 = .int y_p ∧ IR 0 940 y_p ∧ Gh 5 = .int 900 ∧ Gh 11 = .int y_token ∧ IR 0 4 y_token ∧ Gh 12 = .int y_at ∧ Gh 13 = .int y_span ∧ Gh 14 = .int y_number ∧ Gh 15 = .int y_fault ∧ Gh 16 = .int y_faultAt ∧ Gh 17 = .int y_ids ∧ Gh 18 = .long y_word ∧ Gh 19 = .int y_got ∧ Gh 20 = .int y_lines ∧ Gh 21 = .int y_onces ∧ Gh 41 = .int y_undoMany ∧ IR 0 8 y_undoMany ∧ SG 153 153 0 44 g_s ∧ SG 0 0 0 40 g_s ∧ SG 5 5 0 12 g_s ∧ SG 6 6 0 12 g_s ∧ SG 7 7 0 6 g_s ∧ SG 44 55 0 9 g_s ∧ KW 0 g_s ∧ SG 105 108 0 11 g_s ∧ SG 114 114 0 5 g_s ∧ SG 130 133 0 11 g_s ∧ SG 139 139 0 5 g_s ∧ SG 0 0 0 40 g_h ∧ SG 5 5 0 12 g_h ∧ SG 6 6 0 12 g_h ∧ SG 7 7 0 6 g_h ∧ SG 44 55 0 9 g_h ∧ ((y_token.toInt = 2 → 0 ≤ y_number.toInt ∧ y_number.toInt ≤ 999)) ∧ u = [(h0, .inr (10, vL 67 Gh)), (h_tape, .inl (cB, 940, .inl f_tape)), (h_s, .inl (cI, 335, .inl g_s)), (h_h, .inl (cI, 104, .inl g_h)), (h_names, .inl (cJ, 36, .inr (.inl g_names))), (h_reserved, .inl (cJ, 23, .inr (.inl f_reserved)))]) (PO D A) A) [.ref h0].toArray s 0 0 A) (F0 m 176 ls [])) ?_ (0, g174) ⟨(show 0 ≤ (0 : Int32).toInt ∧ (0 : Int32).toInt ≤ 12 by decide), r175, r176, r177, r178, r179, r180, (SG.wk r181 (by decide) (by decide)), r182, r183, r184, r185⟩ _ _ _ hP hD hS hl
        rintro ⟨u186, w187⟩ ⟨i188, i189, i190, i191, i192, i193, i194, i195, i196, i197, i198, i199⟩ ih_176 H locs ls hP hD hS hl
        have i188 : 0 ≤ u186.toInt ∧ u186.toInt ≤ 12 := i188
        have hP : va_P D vwCl [(h_s, .inl (cI, 335, .inl w187)), (h_names, .inl (cJ, 36, .inr (.inl w141))), (h_reserved, .inl (cJ, 23, .inr (.inl f_reserved))), (h_h, .inl (cI, 104, .inl w80)), (h0, .inr (10, vL 67 F153)), (h_tape, .inl (cB, 940, .inl f_tape))] H := hP
        have hD : va_D A [(h_s, .inl (cI, 335, .inl w187)), (h_names, .inl (cJ, 36, .inr (.inl w141))), (h_reserved, .inl (cJ, 23, .inr (.inl f_reserved))), (h_h, .inl (cI, 104, .inl w80)), (h0, .inr (10, vL 67 F153)), (h_tape, .inl (cB, 940, .inl f_tape))] := hD
        have hl : lv_has ls 2 [(1, .int u186), (0, .ref h0)] := hl
        refine lv_iload_n hx hb dX10_course_176 rfl (lv_at hl 0 rfl) ?_
        refine lv_aload_n hx hb dX10_course_177 rfl (lv_at hl 1 rfl) ?_
        refine get_f (D := D) (ci := 10) (v := .ref h_s) (C := RX10) (T := TX10) (N := 67) hx hb hw inAX10 hown hK hP 4 rfl rfl 6 (by decide) (hw _ q_1267) (fun _ h9 => h9) n161 dX10_course_178 ?_
        refine lv_bipush (v := 6) hx hb dX10_course_181 (by decide) ?_
        refine iald_n hx hb hK hP 0 0 rfl rfl 6 rfl (Nat.le_of_ble_eq_true rfl) (Nat.le_of_ble_eq_true rfl) rfl dX10_course_183 ?_
        refine lv_topi (fun v200 ev200 => ?_)
        have k201 : 0 ≤ v200.toInt ∧ v200.toInt ≤ 12 := by rw [ev200]; exact i198.atN 6 (by decide) (by decide)
        refine lv_icmp_ge (tgt := 211) hx hb dX10_course_184 (by decide) (fun c202 => ?_) (fun c202 => ?_)
        · have dc202 : v200.toInt ≤ u186.toInt := le_i (a := v200.toInt) (b := u186.toInt) rfl rfl c202
          refine lv_aload_n hx hb dX10_course_211 rfl (lv_at hl 1 rfl) ?_
          refine lv_iconst (v := 0) hx hb dX10_course_212 (by decide) ?_
          refine put_f (D := D) (ci := 10) (v := .int 0) (ty := .int) (C := RX10) (T := TX10) (N := 67) hx hb hw inAX10 tyX10 tyX10_ok nmX10 hown hK hP hD hS 4 rfl rfl 41 (by decide) (hw _ q_1302) (fun _ h9 => h9) rfl (by decide +kernel) rfl rfl dX10_course_213 (fun H locs F203 eF203 hP hD hS => ?_)
          have hP : va_P D vwCl [(h_s, .inl (cI, 335, .inl w187)), (h_names, .inl (cJ, 36, .inr (.inl w141))), (h_reserved, .inl (cJ, 23, .inr (.inl f_reserved))), (h_h, .inl (cI, 104, .inl w80)), (h0, .inr (10, vL 67 F203)), (h_tape, .inl (cB, 940, .inl f_tape))] H := hP
          have hD : va_D A [(h_s, .inl (cI, 335, .inl w187)), (h_names, .inl (cJ, 36, .inr (.inl w141))), (h_reserved, .inl (cJ, 23, .inr (.inl f_reserved))), (h_h, .inl (cI, 104, .inl w80)), (h0, .inr (10, vL 67 F203)), (h_tape, .inl (cB, 940, .inl f_tape))] := hD
          refine lv_aload_n hx hb dX10_course_216 rfl (lv_at hl 1 rfl) ?_
          have n204 : F153 20 = .int u91 := (get_ne eF153 (by decide) i109)
          have n205 : F203 20 = .int u91 := (get_ne eF203 (by decide) n204)
          refine get_f (D := D) (ci := 10) (v := .int u91) (C := RX10) (T := TX10) (N := 67) hx hb hw inAX10 hown hK hP 4 rfl rfl 20 (by decide) (hw _ q_1281) (fun _ h9 => h9) n205 dX10_course_217 ?_
          exact ret_i (v := u91) hx hb hr hlocks hS (hP.sub (ws' := [(h0, .inr (10, vL 67 F203)), (h_tape, .inl (cB, 940, .inl f_tape)), (h_s, .inl (cI, 335, .inl w187)), (h_h, .inl (cI, 104, .inl w80)), (h_names, .inl (cJ, 36, .inr (.inl w141))), (h_reserved, .inl (cJ, 23, .inr (.inl f_reserved)))]) [4, 5, 0, 3, 1, 2] rfl) (hD.sub (ws' := [(h0, .inr (10, vL 67 F203)), (h_tape, .inl (cB, 940, .inl f_tape)), (h_s, .inl (cI, 335, .inl w187)), (h_h, .inl (cI, 104, .inl w80)), (h_names, .inl (cJ, 36, .inr (.inl w141))), (h_reserved, .inl (cJ, 23, .inr (.inl f_reserved)))]) [4, 5, 0, 3, 1, 2] (by decide) rfl) dX10_course_220 rfl (Nat.le_of_ble_eq_true rfl) (Nat.le_of_ble_eq_true rfl) ⟨F203, u82, u83, u84, u85, u86, u87, u88, v152, u89, u90, u91, u92, 0, w187, w80, w141, (SAME.up eF203 (SAME.up eF153 (SAME.tr (SAME.tr (SAME.up eF13 (SAME.up eF12 (SAME.up eF11 (SAME.tr (SAME.up eF1 SAME.rf (by decide)) t5 (by decide)) (by decide)) (by decide)) (by decide)) t64 (by decide)) i99 (by decide)) (by decide)) (by decide)), (get_ne eF203 (by decide) (get_ne eF153 (by decide) (SAME.at i99 (by decide) (SAME.at t64 (by decide) (get_ne eF13 (by decide) (get_ne eF12 (by decide) (get_ne eF11 (by decide) (SAME.at t5 (by decide) (get_eq eF1))))))))), (get_ne eF203 (by decide) (get_ne eF153 (by decide) (SAME.at i99 (by decide) (SAME.at t64 (by decide) (get_ne eF13 (by decide) (get_ne eF12 (by decide) (get_ne eF11 (by decide) t6))))))), (get_ne eF203 (by decide) (get_ne eF153 (by decide) (SAME.at i99 (by decide) (SAME.at t64 (by decide) n34)))), (get_ne eF203 (by decide) (get_ne eF153 (by decide) i100)), i111, (get_ne eF203 (by decide) (get_ne eF153 (by decide) (SAME.at i99 (by decide) (SAME.at t64 (by decide) n40)))), (get_ne eF203 (by decide) (get_ne eF153 (by decide) i101)), i112, (get_ne eF203 (by decide) (get_ne eF153 (by decide) i102)), (get_ne eF203 (by decide) (get_ne eF153 (by decide) i103)), (get_ne eF203 (by decide) (get_ne eF153 (by decide) i104)), (get_ne eF203 (by decide) (get_ne eF153 (by decide) i105)), (get_ne eF203 (by decide) (get_ne eF153 (by decide) i106)), (get_ne eF203 (by decide) (get_eq eF153)), (get_ne eF203 (by decide) (get_ne eF153 (by decide) i107)), (get_ne eF203 (by decide) (get_ne eF153 (by decide) i108)), n205, (get_ne eF203 (by decide) (get_ne eF153 (by decide) i110)), (get_eq eF203), (show 0 ≤ (0 : Int32).toInt ∧ (0 : Int32).toInt ≤ 8 by decide), i195, i190, i197, i198, i199, i196, i189, i191, i192, i193, i194, i94, i96, i97, i98, i95, (by have zl0 : (0 : Int32).toInt = 0 := (by decide); omega), rfl⟩
        · have dc202 : u186.toInt < v200.toInt := nle_i (a := v200.toInt) (b := u186.toInt) rfl rfl c202
          have k206 : 0 ≤ u186.toInt ∧ u186.toInt ≤ 11 := ⟨i188.1, up_lt dc202 k201.2 (by decide)⟩
          have k207 : 1 ≤ v200.toInt ∧ v200.toInt ≤ 12 := ⟨lo_lt dc202 i188.1 (by decide), k201.2⟩
          refine lv_aload_n hx hb dX10_course_187 rfl (lv_at hl 1 rfl) ?_
          refine get_f (D := D) (ci := 10) (v := .ref h_s) (C := RX10) (T := TX10) (N := 67) hx hb hw inAX10 hown hK hP 4 rfl rfl 6 (by decide) (hw _ q_1267) (fun _ h9 => h9) n161 dX10_course_188 ?_
          refine lv_bipush (v := 116) hx hb dX10_course_191 (by decide) ?_
          refine lv_iload_n hx hb dX10_course_193 rfl (lv_at hl 0 rfl) ?_
          refine lv_iadd hx hb dX10_course_194 ?_
          refine lv_topi (fun v208 ev208 => ?_)
          have bv208 : v208.toInt = 116 + u186.toInt := by rw [ev208]; exact add_k rfl rfl ⟨Int.le_refl _, Int.le_refl _⟩ k206 (by decide)
          have k209 : 116 ≤ v208.toInt ∧ v208.toInt ≤ 127 := add_r bv208 ⟨Int.le_refl _, Int.le_refl _⟩ k206 (by decide)
          refine lv_aload_n hx hb dX10_course_195 rfl (lv_at hl 1 rfl) ?_
          refine get_f (D := D) (ci := 10) (v := .ref h_s) (C := RX10) (T := TX10) (N := 67) hx hb hw inAX10 hown hK hP 4 rfl rfl 6 (by decide) (hw _ q_1267) (fun _ h9 => h9) n161 dX10_course_196 ?_
          refine lv_bipush (v := 68) hx hb dX10_course_199 (by decide) ?_
          refine lv_iload_n hx hb dX10_course_201 rfl (lv_at hl 0 rfl) ?_
          refine lv_iadd hx hb dX10_course_202 ?_
          refine lv_topi (fun v210 ev210 => ?_)
          have bv210 : v210.toInt = 68 + u186.toInt := by rw [ev210]; exact add_k rfl rfl ⟨Int.le_refl _, Int.le_refl _⟩ k206 (by decide)
          have k211 : 68 ≤ v210.toInt ∧ v210.toInt ≤ 79 := add_r bv210 ⟨Int.le_refl _, Int.le_refl _⟩ k206 (by decide)
          refine va_iald hx hb hK hP 0 0 rfl rfl (ix_k k211 (by decide) (by decide)) dX10_course_203 ?_
          refine lv_topi (fun v212 ev212 => ?_)
          obtain ⟨g213, eg213⟩ : ∃ z : Nat → Int32, upd w187 v208.toNatClampNeg v212 = z := ⟨_, rfl⟩
          have r214 : KW 0 g213 := by rw [← eg213]; exact i189.up (Int.le_trans (by decide) k209.1) (Or.inl (lt_dec k209.2 (by decide)))
          have r215 : SG 0 0 0 40 g213 := by rw [← eg213]; exact i190.up (Int.le_trans (by decide) k209.1) (Or.inr (Or.inl (dec_lt k209.1 (by decide))))
          have r216 : SG 105 108 0 11 g213 := by rw [← eg213]; exact i191.up (Int.le_trans (by decide) k209.1) (Or.inr (Or.inl (dec_lt k209.1 (by decide))))
          have r217 : SG 114 114 0 5 g213 := by rw [← eg213]; exact i192.up (Int.le_trans (by decide) k209.1) (Or.inr (Or.inl (dec_lt k209.1 (by decide))))
          have r218 : SG 130 133 0 11 g213 := by rw [← eg213]; exact i193.up (Int.le_trans (by decide) k209.1) (Or.inl (lt_dec k209.2 (by decide)))
          have r219 : SG 139 139 0 5 g213 := by rw [← eg213]; exact i194.up (Int.le_trans (by decide) k209.1) (Or.inl (lt_dec k209.2 (by decide)))
          have r220 : SG 153 153 0 44 g213 := by rw [← eg213]; exact i195.up (Int.le_trans (by decide) k209.1) (Or.inl (lt_dec k209.2 (by decide)))
          have r221 : SG 44 55 0 9 g213 := by rw [← eg213]; exact i196.up (Int.le_trans (by decide) k209.1) (Or.inr (Or.inl (dec_lt k209.1 (by decide))))
          have r222 : SG 5 5 0 12 g213 := by rw [← eg213]; exact i197.up (Int.le_trans (by decide) k209.1) (Or.inr (Or.inl (dec_lt k209.1 (by decide))))
          have r223 : SG 6 6 0 12 g213 := by rw [← eg213]; exact i198.up (Int.le_trans (by decide) k209.1) (Or.inr (Or.inl (dec_lt k209.1 (by decide))))
          have r224 : SG 7 7 0 6 g213 := by rw [← eg213]; exact i199.up (Int.le_trans (by decide) k209.1) (Or.inr (Or.inl (dec_lt k209.1 (by decide))))
          refine iast_g hx hb hK hP hD hS 0 0 rfl rfl (ix_k k209 (by decide) (by decide)) eg213 dX10_course_204 (fun H locs hP hD hS => ?_)
          have hP : va_P D vwCl [(h_s, .inl (cI, 335, .inl g213)), (h_names, .inl (cJ, 36, .inr (.inl w141))), (h_reserved, .inl (cJ, 23, .inr (.inl f_reserved))), (h_h, .inl (cI, 104, .inl w80)), (h0, .inr (10, vL 67 F153)), (h_tape, .inl (cB, 940, .inl f_tape))] H := hP
          have hD : va_D A [(h_s, .inl (cI, 335, .inl g213)), (h_names, .inl (cJ, 36, .inr (.inl w141))), (h_reserved, .inl (cJ, 23, .inr (.inl f_reserved))), (h_h, .inl (cI, 104, .inl w80)), (h0, .inr (10, vL 67 F153)), (h_tape, .inl (cB, 940, .inl f_tape))] := hD
          obtain ⟨v225, ev225⟩ : ∃ z : Int32, z = u186 + 1 := ⟨_, rfl⟩
          have bv225 : v225.toInt = u186.toInt + 1 := by rw [ev225]; exact add_k rfl rfl k206 ⟨Int.le_refl _, Int.le_refl _⟩ (by decide)
          have k226 : 1 ≤ v225.toInt ∧ v225.toInt ≤ 12 := add_r bv225 k206 ⟨Int.le_refl _, Int.le_refl _⟩ (by decide)
          refine lv_iinc (v := v225) (lv' := [(1, .int v225), (0, .ref h0)]) hx hb dX10_course_205 hl (k := 0) rfl (by rw [ev225]; rfl) (by decide) rfl (fun ls hl => ?_)
          refine lv_goto (tgt := 176) hx hb dX10_course_208 (by decide) ?_
          exact ih_176 (v225, g213) ⟨(ir_wk k226 (by decide) (by decide)), r214, r215, r216, r217, r218, r219, r220, r221, r222, r223, r224⟩ (by show (12 - v225.toInt).toNat < (12 - u186.toInt).toNat; omega) _ _ _ hP hD hS (lv_sub hl [0, 1] rfl)
      · have dc143 : u140.toInt < 18 := nle_i (a := 18) (b := u140.toInt) rfl rfl c143
        have k227 : 0 ≤ u140.toInt ∧ u140.toInt ≤ 17 := ⟨i142.1, up_lt dc143 (Int.le_refl _) (by decide)⟩
        refine lv_aload_n hx hb dX10_course_123 rfl (lv_at hl 1 rfl) ?_
        have n228 : F1 9 = .ref h_names := (get_ne eF1 (by decide) e_names)
        have n229 : F4 9 = .ref h_names := (SAME.at t5 (by decide) n228)
        have n230 : F11 9 = .ref h_names := (get_ne eF11 (by decide) n229)
        have n231 : F12 9 = .ref h_names := (get_ne eF12 (by decide) n230)
        have n232 : F13 9 = .ref h_names := (get_ne eF13 (by decide) n231)
        have n233 : F57 9 = .ref h_names := (SAME.at t64 (by decide) n232)
        have n234 : G81 9 = .ref h_names := (SAME.at i99 (by decide) n233)
        refine get_f (D := D) (ci := 10) (v := .ref h_names) (C := RX10) (T := TX10) (N := 67) hx hb hw inAX10 hown hK hP 4 rfl rfl 9 (by decide) (hw _ q_1270) (fun _ h9 => h9) n234 dX10_course_124 ?_
        refine lv_iload_n hx hb dX10_course_127 rfl (lv_at hl 0 rfl) ?_
        refine lv_aload_n hx hb dX10_course_128 rfl (lv_at hl 1 rfl) ?_
        refine get_f (D := D) (ci := 10) (v := .ref h_names) (C := RX10) (T := TX10) (N := 67) hx hb hw inAX10 hown hK hP 4 rfl rfl 9 (by decide) (hw _ q_1270) (fun _ h9 => h9) n234 dX10_course_129 ?_
        refine lv_bipush (v := 18) hx hb dX10_course_132 (by decide) ?_
        refine lv_iload_n hx hb dX10_course_134 rfl (lv_at hl 0 rfl) ?_
        refine lv_iadd hx hb dX10_course_135 ?_
        refine lv_topi (fun v235 ev235 => ?_)
        have bv235 : v235.toInt = 18 + u140.toInt := by rw [ev235]; exact add_k rfl rfl ⟨Int.le_refl _, Int.le_refl _⟩ k227 (by decide)
        have k236 : 18 ≤ v235.toInt ∧ v235.toInt ≤ 35 := add_r bv235 ⟨Int.le_refl _, Int.le_refl _⟩ k227 (by decide)
        refine va_lald hx hb hK hP 1 1 rfl rfl (ix_k k236 (by decide) (by decide)) dX10_course_136 ?_
        refine lv_topl (fun v237 ev237 => ?_)
        obtain ⟨g238, eg238⟩ : ∃ z : Nat → Int64, vp_updL w141 u140.toNatClampNeg v237 = z := ⟨_, rfl⟩
        refine last_g hx hb hK hP hD hS 1 1 rfl rfl (ix_k k227 (by decide) (by decide)) eg238 dX10_course_137 (fun H locs hP hD hS => ?_)
        have hP : va_P D vwCl [(h_s, .inl (cI, 335, .inl w115)), (h_names, .inl (cJ, 36, .inr (.inl g238))), (h_reserved, .inl (cJ, 23, .inr (.inl f_reserved))), (h_h, .inl (cI, 104, .inl w80)), (h0, .inr (10, vL 67 G81)), (h_tape, .inl (cB, 940, .inl f_tape))] H := hP
        have hD : va_D A [(h_s, .inl (cI, 335, .inl w115)), (h_names, .inl (cJ, 36, .inr (.inl g238))), (h_reserved, .inl (cJ, 23, .inr (.inl f_reserved))), (h_h, .inl (cI, 104, .inl w80)), (h0, .inr (10, vL 67 G81)), (h_tape, .inl (cB, 940, .inl f_tape))] := hD
        obtain ⟨v239, ev239⟩ : ∃ z : Int32, z = u140 + 1 := ⟨_, rfl⟩
        have bv239 : v239.toInt = u140.toInt + 1 := by rw [ev239]; exact add_k rfl rfl k227 ⟨Int.le_refl _, Int.le_refl _⟩ (by decide)
        have k240 : 1 ≤ v239.toInt ∧ v239.toInt ≤ 18 := add_r bv239 k227 ⟨Int.le_refl _, Int.le_refl _⟩ (by decide)
        refine lv_iinc (v := v239) (lv' := [(1, .int v239), (0, .ref h0)]) hx hb dX10_course_138 hl (k := 0) rfl (by rw [ev239]; rfl) (by decide) rfl (fun ls hl => ?_)
        refine lv_goto (tgt := 117) hx hb dX10_course_141 (by decide) ?_
        exact ih_117 (v239, g238) (ir_wk k240 (by decide) (by decide)) (by show (18 - v239.toInt).toNat < (18 - u140.toInt).toNat; omega) _ _ _ hP hD hS (lv_sub hl [0, 1] rfl)
    · have dc127 : u114.toInt < 335 := nle_i (a := 335) (b := u114.toInt) rfl rfl c127
      have k241 : 0 ≤ u114.toInt ∧ u114.toInt ≤ 334 := ⟨i116.1, up_lt dc127 (Int.le_refl _) (by decide)⟩
      refine lv_aload_n hx hb dX10_course_87 rfl (lv_at hl 1 rfl) ?_
      have n242 : F1 6 = .ref h_s := (get_ne eF1 (by decide) e_s)
      have n243 : F4 6 = .ref h_s := (SAME.at t5 (by decide) n242)
      have n244 : F11 6 = .ref h_s := (get_ne eF11 (by decide) n243)
      have n245 : F12 6 = .ref h_s := (get_ne eF12 (by decide) n244)
      have n246 : F13 6 = .ref h_s := (get_ne eF13 (by decide) n245)
      have n247 : F57 6 = .ref h_s := (SAME.at t64 (by decide) n246)
      have n248 : G81 6 = .ref h_s := (SAME.at i99 (by decide) n247)
      refine get_f (D := D) (ci := 10) (v := .ref h_s) (C := RX10) (T := TX10) (N := 67) hx hb hw inAX10 hown hK hP 4 rfl rfl 6 (by decide) (hw _ q_1267) (fun _ h9 => h9) n248 dX10_course_88 ?_
      refine lv_iload_n hx hb dX10_course_91 rfl (lv_at hl 0 rfl) ?_
      refine lv_iload_n hx hb dX10_course_92 rfl (lv_at hl 0 rfl) ?_
      refine lv_bipush (v := 104) hx hb dX10_course_93 (by decide) ?_
      refine lv_icmp_ge (tgt := 107) hx hb dX10_course_95 (by decide) (fun c249 => ?_) (fun c249 => ?_)
      · have dc249 : 104 ≤ u114.toInt := le_i (a := 104) (b := u114.toInt) rfl rfl c249
        have k250 : 104 ≤ u114.toInt ∧ u114.toInt ≤ 334 := ⟨Int.le_trans (Int.le_refl _) dc249, k241.2⟩
        refine lv_iconst (v := 0) hx hb dX10_course_107 (by decide) ?_
        obtain ⟨g251, eg251⟩ : ∃ z : Nat → Int32, upd w115 u114.toNatClampNeg 0 = z := ⟨_, rfl⟩
        refine iast_g hx hb hK hP hD hS 0 0 rfl rfl (ix_k k250 (by decide) (by decide)) eg251 dX10_course_108 (fun H locs hP hD hS => ?_)
        have hP : va_P D vwCl [(h_s, .inl (cI, 335, .inl g251)), (h_names, .inl (cJ, 36, .inr (.inl w79))), (h_reserved, .inl (cJ, 23, .inr (.inl f_reserved))), (h_h, .inl (cI, 104, .inl w80)), (h0, .inr (10, vL 67 G81)), (h_tape, .inl (cB, 940, .inl f_tape))] H := hP
        have hD : va_D A [(h_s, .inl (cI, 335, .inl g251)), (h_names, .inl (cJ, 36, .inr (.inl w79))), (h_reserved, .inl (cJ, 23, .inr (.inl f_reserved))), (h_h, .inl (cI, 104, .inl w80)), (h0, .inr (10, vL 67 G81)), (h_tape, .inl (cB, 940, .inl f_tape))] := hD
        obtain ⟨v252, ev252⟩ : ∃ z : Int32, z = u114 + 1 := ⟨_, rfl⟩
        have bv252 : v252.toInt = u114.toInt + 1 := by rw [ev252]; exact add_k rfl rfl k250 ⟨Int.le_refl _, Int.le_refl _⟩ (by decide)
        have k253 : 105 ≤ v252.toInt ∧ v252.toInt ≤ 335 := add_r bv252 k250 ⟨Int.le_refl _, Int.le_refl _⟩ (by decide)
        refine lv_iinc (v := v252) (lv' := [(1, .int v252), (0, .ref h0)]) hx hb dX10_course_109 hl (k := 0) rfl (by rw [ev252]; rfl) (by decide) rfl (fun ls hl => ?_)
        refine lv_goto (tgt := 80) hx hb dX10_course_112 (by decide) ?_
        exact ih (v252, g251) ⟨(ir_wk k253 (by decide) (by decide)), (SGK.step i117 eg251 (by omega) (by omega) (by omega) (fun q1 q2 => ⟨by decide, by decide⟩)), (SGK.step i118 eg251 (by omega) (by omega) (by omega) (fun q1 q2 => ⟨by decide, by decide⟩)), (SGK.step i119 eg251 (by omega) (by omega) (by omega) (fun q1 q2 => ⟨by decide, by decide⟩)), (SGK.step i120 eg251 (by omega) (by omega) (by omega) (fun q1 q2 => ⟨by decide, by decide⟩)), (SGK.step i121 eg251 (by omega) (by omega) (by omega) (fun q1 q2 => ⟨by decide, by decide⟩)), (SGK.step i122 eg251 (by omega) (by omega) (by omega) (fun q1 q2 => ⟨by decide, by decide⟩)), (SGK.step i123 eg251 (by omega) (by omega) (by omega) (fun q1 q2 => ⟨by decide, by decide⟩)), (SGK.step i124 eg251 (by omega) (by omega) (by omega) (fun q1 q2 => ⟨by decide, by decide⟩)), (SGK.step i125 eg251 (by omega) (by omega) (by omega) (fun q1 q2 => ⟨by decide, by decide⟩)), (SGK.step i126 eg251 (by omega) (by omega) (by omega) (fun q1 q2 => ⟨by decide, by decide⟩))⟩ (by show (335 - v252.toInt).toNat < (335 - u114.toInt).toNat; omega) _ _ _ hP hD hS (lv_sub hl [0, 1] rfl)
      · have dc249 : u114.toInt < 104 := nle_i (a := 104) (b := u114.toInt) rfl rfl c249
        have k254 : 0 ≤ u114.toInt ∧ u114.toInt ≤ 103 := ⟨k241.1, up_lt dc249 (Int.le_refl _) (by decide)⟩
        refine lv_aload_n hx hb dX10_course_98 rfl (lv_at hl 1 rfl) ?_
        have n255 : F57 7 = .ref h_h := (SAME.at t64 (by decide) n18)
        have n256 : G81 7 = .ref h_h := (SAME.at i99 (by decide) n255)
        refine get_f (D := D) (ci := 10) (v := .ref h_h) (C := RX10) (T := TX10) (N := 67) hx hb hw inAX10 hown hK hP 4 rfl rfl 7 (by decide) (hw _ q_1268) (fun _ h9 => h9) n256 dX10_course_99 ?_
        refine lv_iload_n hx hb dX10_course_102 rfl (lv_at hl 0 rfl) ?_
        refine va_iald hx hb hK hP 3 0 rfl rfl (ix_k k254 (by decide) (by decide)) dX10_course_103 ?_
        refine lv_topi (fun v257 ev257 => ?_)
        have r258 : IMP (0 ≤ u114.toInt → u114.toInt ≤ 0 → 0 ≤ v257.toInt ∧ v257.toInt ≤ 40) := IMP.mk (fun q1 q2 => by rw [ev257]; exact i94.at _ q1 q2)
        have r259 : IMP (44 ≤ u114.toInt → u114.toInt ≤ 55 → 0 ≤ v257.toInt ∧ v257.toInt ≤ 9) := IMP.mk (fun q1 q2 => by rw [ev257]; exact i95.at _ q1 q2)
        have r260 : IMP (5 ≤ u114.toInt → u114.toInt ≤ 5 → 0 ≤ v257.toInt ∧ v257.toInt ≤ 12) := IMP.mk (fun q1 q2 => by rw [ev257]; exact i96.at _ q1 q2)
        have r261 : IMP (6 ≤ u114.toInt → u114.toInt ≤ 6 → 0 ≤ v257.toInt ∧ v257.toInt ≤ 12) := IMP.mk (fun q1 q2 => by rw [ev257]; exact i97.at _ q1 q2)
        have r262 : IMP (7 ≤ u114.toInt → u114.toInt ≤ 7 → 0 ≤ v257.toInt ∧ v257.toInt ≤ 6) := IMP.mk (fun q1 q2 => by rw [ev257]; exact i98.at _ q1 q2)
        refine lv_goto (tgt := 108) hx hb dX10_course_104 (by decide) ?_
        obtain ⟨g263, eg263⟩ : ∃ z : Nat → Int32, upd w115 u114.toNatClampNeg v257 = z := ⟨_, rfl⟩
        refine iast_g hx hb hK hP hD hS 0 0 rfl rfl (ix_k k254 (by decide) (by decide)) eg263 dX10_course_108 (fun H locs hP hD hS => ?_)
        have hP : va_P D vwCl [(h_s, .inl (cI, 335, .inl g263)), (h_names, .inl (cJ, 36, .inr (.inl w79))), (h_reserved, .inl (cJ, 23, .inr (.inl f_reserved))), (h_h, .inl (cI, 104, .inl w80)), (h0, .inr (10, vL 67 G81)), (h_tape, .inl (cB, 940, .inl f_tape))] H := hP
        have hD : va_D A [(h_s, .inl (cI, 335, .inl g263)), (h_names, .inl (cJ, 36, .inr (.inl w79))), (h_reserved, .inl (cJ, 23, .inr (.inl f_reserved))), (h_h, .inl (cI, 104, .inl w80)), (h0, .inr (10, vL 67 G81)), (h_tape, .inl (cB, 940, .inl f_tape))] := hD
        obtain ⟨v264, ev264⟩ : ∃ z : Int32, z = u114 + 1 := ⟨_, rfl⟩
        have bv264 : v264.toInt = u114.toInt + 1 := by rw [ev264]; exact add_k rfl rfl k254 ⟨Int.le_refl _, Int.le_refl _⟩ (by decide)
        have k265 : 1 ≤ v264.toInt ∧ v264.toInt ≤ 104 := add_r bv264 k254 ⟨Int.le_refl _, Int.le_refl _⟩ (by decide)
        refine lv_iinc (v := v264) (lv' := [(1, .int v264), (0, .ref h0)]) hx hb dX10_course_109 hl (k := 0) rfl (by rw [ev264]; rfl) (by decide) rfl (fun ls hl => ?_)
        refine lv_goto (tgt := 80) hx hb dX10_course_112 (by decide) ?_
        exact ih (v264, g263) ⟨(ir_wk k265 (by decide) (by decide)), (SGK.step i117 eg263 (by omega) (by omega) (by omega) (fun q1 q2 => ⟨Int.le_trans (by decide) (r258.h (by omega) (by omega)).1, Int.le_trans (r258.h (by omega) (by omega)).2 (by decide)⟩)), (SGK.step i118 eg263 (by omega) (by omega) (by omega) (fun q1 q2 => ⟨Int.le_trans (by decide) (r260.h (by omega) (by omega)).1, Int.le_trans (r260.h (by omega) (by omega)).2 (by decide)⟩)), (SGK.step i119 eg263 (by omega) (by omega) (by omega) (fun q1 q2 => ⟨Int.le_trans (by decide) (r261.h (by omega) (by omega)).1, Int.le_trans (r261.h (by omega) (by omega)).2 (by decide)⟩)), (SGK.step i120 eg263 (by omega) (by omega) (by omega) (fun q1 q2 => ⟨Int.le_trans (by decide) (r262.h (by omega) (by omega)).1, Int.le_trans (r262.h (by omega) (by omega)).2 (by decide)⟩)), (SGK.step i121 eg263 (by omega) (by omega) (by omega) (fun q1 q2 => ⟨Int.le_trans (by decide) (r259.h (by omega) (by omega)).1, Int.le_trans (r259.h (by omega) (by omega)).2 (by decide)⟩)), (SGK.step i122 eg263 (by omega) (by omega) (by omega) (fun q1 q2 => ⟨by omega, by omega⟩)), (SGK.step i123 eg263 (by omega) (by omega) (by omega) (fun q1 q2 => ⟨by omega, by omega⟩)), (SGK.step i124 eg263 (by omega) (by omega) (by omega) (fun q1 q2 => ⟨by omega, by omega⟩)), (SGK.step i125 eg263 (by omega) (by omega) (by omega) (fun q1 q2 => ⟨by omega, by omega⟩)), (SGK.step i126 eg263 (by omega) (by omega) (by omega) (fun q1 q2 => ⟨by omega, by omega⟩))⟩ (by show (335 - v264.toInt).toNat < (335 - u114.toInt).toNat; omega) _ _ _ hP hD hS (lv_sub hl [0, 1] rfl)
  have n266 : F12 15 = .int 0 := (get_ne eF12 (by decide) (get_eq eF11))
  have n267 : F13 15 = .int 0 := (get_ne eF13 (by decide) n266)
  have n268 : F57 15 = .int 0 := (SAME.at t64 (by decide) n267)
  have n269 : F1 16 = .int x_faultAt := (get_ne eF1 (by decide) e_faultAt)
  have n270 : F4 16 = .int x_faultAt := (SAME.at t5 (by decide) n269)
  have n271 : F11 16 = .int x_faultAt := (get_ne eF11 (by decide) n270)
  have n272 : F12 16 = .int x_faultAt := (get_ne eF12 (by decide) n271)
  have n273 : F13 16 = .int x_faultAt := (get_ne eF13 (by decide) n272)
  have n274 : F57 16 = .int x_faultAt := (SAME.at t64 (by decide) n273)
  have n275 : F1 19 = .int x_got := (get_ne eF1 (by decide) e_got)
  have n276 : F4 19 = .int x_got := (SAME.at t5 (by decide) n275)
  have n277 : F11 19 = .int x_got := (get_ne eF11 (by decide) n276)
  have n278 : F12 19 = .int x_got := (get_ne eF12 (by decide) n277)
  have n279 : F13 19 = .int x_got := (get_ne eF13 (by decide) n278)
  have n280 : F57 19 = .int x_got := (SAME.at t64 (by decide) n279)
  have n281 : F13 20 = .int 0 := (get_ne eF13 (by decide) (get_eq eF12))
  have n282 : F57 20 = .int 0 := (SAME.at t64 (by decide) n281)
  have n283 : F57 21 = .int 0 := (SAME.at t64 (by decide) (get_eq eF13))
  refine mloop (α := (Nat → Int64) × (Nat → Int32) × (Nat → Value) × (Int32) × (Int32) × (Int32) × (Int32) × (Int32) × (Int32) × (Int32) × (Int64) × (Int32) × (Int32) × (Int32)) (nL := 2) (D := D) (A := A) (H0 := s.heap) (fun a => (x_length.toInt - a.2.2.2.1.toInt).toNat) (fun a => SG 0 0 0 40 a.2.1 ∧ SG 44 55 0 9 a.2.1 ∧ SG 5 5 0 12 a.2.1 ∧ SG 6 6 0 12 a.2.1 ∧ SG 7 7 0 6 a.2.1 ∧ SAME [4, 11, 12, 13, 14, 15, 16, 18, 19, 20, 21] F57 a.2.2.1 ∧ a.2.2.1 4 = .int a.2.2.2.1 ∧ a.2.2.1 11 = .int a.2.2.2.2.1 ∧ a.2.2.1 12 = .int a.2.2.2.2.2.1 ∧ a.2.2.1 13 = .int a.2.2.2.2.2.2.1 ∧ a.2.2.1 14 = .int a.2.2.2.2.2.2.2.1 ∧ a.2.2.1 15 = .int a.2.2.2.2.2.2.2.2.1 ∧ a.2.2.1 16 = .int a.2.2.2.2.2.2.2.2.2.1 ∧ a.2.2.1 18 = .long a.2.2.2.2.2.2.2.2.2.2.1 ∧ a.2.2.1 19 = .int a.2.2.2.2.2.2.2.2.2.2.2.1 ∧ a.2.2.1 20 = .int a.2.2.2.2.2.2.2.2.2.2.2.2.1 ∧ a.2.2.1 21 = .int a.2.2.2.2.2.2.2.2.2.2.2.2.2 ∧ IR 0 940 a.2.2.2.1 ∧ IR 0 4 a.2.2.2.2.1 ∧ ((a.2.2.2.2.1.toInt = 2 → 0 ≤ a.2.2.2.2.2.2.2.1.toInt ∧ a.2.2.2.2.2.2.2.1.toInt ≤ 999))) (fun a => [(h_s, .inl (cI, 335, .inl f_s)), (h_names, .inl (cJ, 36, .inr (.inl a.1))), (h_reserved, .inl (cJ, 23, .inr (.inl f_reserved))), (h_h, .inl (cI, 104, .inl a.2.1)), (h0, .inr (10, vL 67 a.2.2.1)), (h_tape, .inl (cB, 940, .inl f_tape))]) (fun a => [(0, .ref h0)]) (fun H locs ls => W p l e ({ frames := 4, cells := 0, slots := 0, locals := 87 } : Room) s m [.ref h0].toArray below meth c H locs 0 0 (MQ below (va_Qi (fun (r : Int32) (u : va_W) => ∃ (Gh : Nat → Value) (y_p : Int32) (y_token : Int32) (y_at : Int32) (y_span : Int32) (y_number : Int32) (y_fault : Int32) (y_faultAt : Int32) (y_ids : Int32) (y_word : Int64) (y_got : Int32) (y_lines : Int32) (y_onces : Int32) (y_undoMany : Int32) (g_s : Nat → Int32) (g_h : Nat → Int32) (g_names : Nat → Int64), SAME [0, 2, 3, 4, 5, 11, 12, 13, 14, 15, 16, 17, 18, 19, 20, 21, 41] Fh Gh ∧ Gh 0 = .int 0 ∧ Gh 2 = .int 0 ∧ Gh 3 = .int x_length ∧ Gh 4 = .int y_p ∧ IR 0 940 y_p ∧ Gh 5 = .int 900 ∧ Gh 11 = .int y_token ∧ IR 0 4 y_token ∧ Gh 12 = .int y_at ∧ Gh 13 = .int y_span ∧ Gh 14 = .int y_number ∧ Gh 15 = .int y_fault ∧ Gh 16 = .int y_faultAt ∧ Gh 17 = .int y_ids ∧ Gh 18 = .long y_word ∧ Gh 19 = .int y_got ∧ Gh 20 = .int y_lines ∧ Gh 21 = .int y_onces ∧ Gh 41 = .int y_undoMany ∧ IR 0 8 y_undoMany ∧ SG 153 153 0 44 g_s ∧ SG 0 0 0 40 g_s ∧ SG 5 5 0 12 g_s ∧ SG 6 6 0 12 g_s ∧ SG 7 7 0 6 g_s ∧ SG 44 55 0 9 g_s ∧ KW 0 g_s ∧ SG 105 108 0 11 g_s ∧ SG 114 114 0 5 g_s ∧ SG 130 133 0 11 g_s ∧ SG 139 139 0 5 g_s ∧ SG 0 0 0 40 g_h ∧ SG 5 5 0 12 g_h ∧ SG 6 6 0 12 g_h ∧ SG 7 7 0 6 g_h ∧ SG 44 55 0 9 g_h ∧ ((y_token.toInt = 2 → 0 ≤ y_number.toInt ∧ y_number.toInt ≤ 999)) ∧ u = [(h0, .inr (10, vL 67 Gh)), (h_tape, .inl (cB, 940, .inl f_tape)), (h_s, .inl (cI, 335, .inl g_s)), (h_h, .inl (cI, 104, .inl g_h)), (h_names, .inl (cJ, 36, .inr (.inl g_names))), (h_reserved, .inl (cJ, 23, .inr (.inl f_reserved)))]) (PO D A) A) [.ref h0].toArray s 0 0 A) (F0 m 35 ls [])) ?_ (f_names, g20, F57, y58, y59, y60, y61, y62, 0, x_faultAt, y63, x_got, 0, 0) ⟨t21, t25, t22, t23, t24, SAME.rf, t65, t67, t69, t71, t73, n268, n274, t74, n280, n282, n283, t66, t68, (by show (y59.toInt = 2 → 0 ≤ y62.toInt ∧ y62.toInt ≤ 999); omega)⟩ _ _ _ hP hD hS hl
  rintro ⟨w79, w80, G81, u82, u83, u84, u85, u86, u87, u88, u89, u90, u91, u92⟩ ⟨i284, i285, i286, i287, i288, i289, i290, i291, i292, i293, i294, i295, i296, i297, i298, i299, i300, i301, i302, i303⟩ ih H locs ls hP hD hS hl
  have i301 : 0 ≤ u82.toInt ∧ u82.toInt ≤ 940 := i301
  have i302 : 0 ≤ u83.toInt ∧ u83.toInt ≤ 4 := i302
  have i303 : (u83.toInt = 2 → 0 ≤ u86.toInt ∧ u86.toInt ≤ 999) := i303
  have hP : va_P D vwCl [(h_s, .inl (cI, 335, .inl f_s)), (h_names, .inl (cJ, 36, .inr (.inl w79))), (h_reserved, .inl (cJ, 23, .inr (.inl f_reserved))), (h_h, .inl (cI, 104, .inl w80)), (h0, .inr (10, vL 67 G81)), (h_tape, .inl (cB, 940, .inl f_tape))] H := hP
  have hD : va_D A [(h_s, .inl (cI, 335, .inl f_s)), (h_names, .inl (cJ, 36, .inr (.inl w79))), (h_reserved, .inl (cJ, 23, .inr (.inl f_reserved))), (h_h, .inl (cI, 104, .inl w80)), (h0, .inr (10, vL 67 G81)), (h_tape, .inl (cB, 940, .inl f_tape))] := hD
  have hl : lv_has ls 2 [(0, .ref h0)] := hl
  refine lv_aload_n hx hb dX10_course_35 rfl (lv_at hl 0 rfl) ?_
  refine get_f (D := D) (ci := 10) (v := .int u83) (C := RX10) (T := TX10) (N := 67) hx hb hw inAX10 hown hK hP 4 rfl rfl 11 (by decide) (hw _ q_1272) (fun _ h9 => h9) i291 dX10_course_36 ?_
  refine lv_if_eq (tgt := 78) hx hb dX10_course_39 (by decide) (fun c304 => ?_) (fun c304 => ?_)
  · have dc304 : u83.toInt = 0 := eq_i (a := u83.toInt) (b := 0) rfl rfl c304
    have k305 : 0 ≤ u83.toInt ∧ u83.toInt ≤ 0 := ⟨i302.1, Int.le_trans (Int.le_of_eq dc304) (Int.le_refl _)⟩
    exact cut93 w79 w80 G81 u82 u83 u84 u85 u86 u87 u88 u89 u90 u91 u92 i284 i285 i286 i287 i288 (SAME.tr SAME.rf i289 (by decide)) i290 i291 i292 i293 i294 i295 i296 i297 i298 i299 i300 i301 (ir_wk k305 (by decide) (by decide)) (by show (u83.toInt = 2 → 0 ≤ u86.toInt ∧ u86.toInt ≤ 999); omega) _ _ _ hP hD hS (lv_sub hl [0] rfl)
  · have dc304 : u83.toInt ≠ 0 := ne_i (a := u83.toInt) (b := 0) rfl rfl c304
    have k306 : 1 ≤ u83.toInt ∧ u83.toInt ≤ 4 := ⟨ne_lo dc304 i302.1 ⟨Int.le_refl _, Int.le_refl _⟩ (by decide), i302.2⟩
    refine lv_aload_n hx hb dX10_course_42 rfl (lv_at hl 0 rfl) ?_
    have n307 : F57 1 = .ref h_tape := (SAME.at t64 (by decide) n31)
    have n308 : G81 1 = .ref h_tape := (SAME.at i289 (by decide) n307)
    have n309 : F57 3 = .int x_length := (SAME.at t64 (by decide) n34)
    have n310 : G81 3 = .int x_length := (SAME.at i289 (by decide) n309)
    have n311 : F57 5 = .int 900 := (SAME.at t64 (by decide) n40)
    have n312 : G81 5 = .int 900 := (SAME.at i289 (by decide) n311)
    have n313 : F57 7 = .ref h_h := (SAME.at t64 (by decide) n18)
    have n314 : G81 7 = .ref h_h := (SAME.at i289 (by decide) n313)
    have n315 : F1 9 = .ref h_names := (get_ne eF1 (by decide) e_names)
    have n316 : F4 9 = .ref h_names := (SAME.at t5 (by decide) n315)
    have n317 : F11 9 = .ref h_names := (get_ne eF11 (by decide) n316)
    have n318 : F12 9 = .ref h_names := (get_ne eF12 (by decide) n317)
    have n319 : F13 9 = .ref h_names := (get_ne eF13 (by decide) n318)
    have n320 : F57 9 = .ref h_names := (SAME.at t64 (by decide) n319)
    have n321 : G81 9 = .ref h_names := (SAME.at i289 (by decide) n320)
    have n322 : F1 10 = .ref h_reserved := (get_ne eF1 (by decide) e_reserved)
    have n323 : F4 10 = .ref h_reserved := (SAME.at t5 (by decide) n322)
    have n324 : F11 10 = .ref h_reserved := (get_ne eF11 (by decide) n323)
    have n325 : F12 10 = .ref h_reserved := (get_ne eF12 (by decide) n324)
    have n326 : F13 10 = .ref h_reserved := (get_ne eF13 (by decide) n325)
    have n327 : F57 10 = .ref h_reserved := (SAME.at t64 (by decide) n326)
    have n328 : G81 10 = .ref h_reserved := (SAME.at i289 (by decide) n327)
    refine call_Vi (wr := [(h_s, .inl (cI, 335, .inl f_s))]) (As := []) (rest := []) hx hb hml hown hw (m_X10_line0 l D cI cJ cB cP cM cZ h0 h_tape h_h h_names h_reserved G81 x_length u82 900 u83 u84 u85 u86 u87 u88 u89 u90 u92 f_tape w80 w79 f_reserved _ n308 n310 i_x_length i290 i301 n312 (show 200 ≤ (900 : Int32).toInt ∧ (900 : Int32).toInt ≤ 940 by decide) n314 n321 n328 i291 (ir_wk k306 (by decide) (by decide)) i292 i293 i294 i295 i296 i297 i298 i300 i284 i285 i286 i287 i288 (by omega)) wV_X10_254_X10_line0 dX10_course_43 hK hP hD hS hA [4, 5, 3, 1, 2] [0] rfl rfl (by decide) (by decide) (by decide) 0 10 rfl rfl GG.fb hG.at hl.1 rfl (Nat.le_of_ble_eq_true rfl) ⟨(Nat.le_of_ble_eq_true rfl), (Nat.le_of_ble_eq_true rfl)⟩ ⟨(Nat.le_of_ble_eq_true rfl), (Nat.le_of_ble_eq_true rfl)⟩ (fun r329 u H locs hp hP hD hS => ?_)
    refine hp.elim (fun F330 h9z => h9z.elim (fun y331 h9z => h9z.elim (fun y332 h9z => h9z.elim (fun y333 h9z => h9z.elim (fun y334 h9z => h9z.elim (fun y335 h9z => h9z.elim (fun y336 h9z => h9z.elim (fun y337 h9z => h9z.elim (fun y338 h9z => h9z.elim (fun y339 h9z => h9z.elim (fun y340 h9z => h9z.elim (fun g341 h9z => h9z.elim (fun g342 h9z => h9z.elim (fun t343 h9z => h9z.elim (fun t344 h9z => h9z.elim (fun t345 h9z => h9z.elim (fun t346 h9z => h9z.elim (fun t347 h9z => h9z.elim (fun t348 h9z => h9z.elim (fun t349 h9z => h9z.elim (fun t350 h9z => h9z.elim (fun t351 h9z => h9z.elim (fun t352 h9z => h9z.elim (fun t353 h9z => h9z.elim (fun t354 h9z => h9z.elim (fun t355 h9z => h9z.elim (fun t356 h9z => h9z.elim (fun t357 h9z => h9z.elim (fun t358 h9z => h9z.elim (fun t359 h9z => h9z.elim (fun t360 h9z => h9z.elim (fun t361 h9z => h9z.elim (fun t362 h9z => h9z.elim (fun t363 h9z => ?_))))))))))))))))))))))))))))))))))
    subst h9z
    have hP : va_P D vwCl [(h_s, .inl (cI, 335, .inl f_s)), (h0, .inr (10, vL 67 F330)), (h_tape, .inl (cB, 940, .inl f_tape)), (h_h, .inl (cI, 104, .inl g341)), (h_names, .inl (cJ, 36, .inr (.inl g342))), (h_reserved, .inl (cJ, 23, .inr (.inl f_reserved)))] H := hP
    have hD : va_D A [(h_s, .inl (cI, 335, .inl f_s)), (h0, .inr (10, vL 67 F330)), (h_tape, .inl (cB, 940, .inl f_tape)), (h_h, .inl (cI, 104, .inl g341)), (h_names, .inl (cJ, 36, .inr (.inl g342))), (h_reserved, .inl (cJ, 23, .inr (.inl f_reserved)))] := hD
    refine W.widen (k := 0) (n := 0) (Nat.le_of_ble_eq_true rfl) (Nat.le_of_ble_eq_true rfl) ?_
    refine lv_if_eq (tgt := 58) hx hb dX10_course_46 (by decide) (fun c365 => ?_) (fun c365 => ?_)
    · have dc365 : r329.toInt = 0 := eq_i (a := r329.toInt) (b := 0) rfl rfl c365
      have k366 : 0 ≤ r329.toInt ∧ r329.toInt ≤ 0 := ⟨t361.1, Int.le_trans (Int.le_of_eq dc365) (Int.le_refl _)⟩
      refine lv_iconst (v := (-1)) hx hb dX10_course_58 (by decide) ?_
      refine lv_aload_n hx hb dX10_course_59 rfl (lv_at hl 0 rfl) ?_
      refine get_f (D := D) (ci := 10) (v := .int y337) (C := RX10) (T := TX10) (N := 67) hx hb hw inAX10 hown hK hP 1 rfl rfl 16 (by decide) (hw _ q_1277) (fun _ h9 => h9) t352 dX10_course_60 ?_
      refine lv_isub hx hb dX10_course_63 ?_
      refine lv_topi (fun v367 ev367 => ?_)
      have bv367 : v367.toInt = (-1) - y337.toInt := by rw [ev367]; exact sub_k rfl rfl ⟨Int.le_refl _, Int.le_refl _⟩ (ir_any _) (by decide)
      have k368 : (-2147483648) ≤ v367.toInt ∧ v367.toInt ≤ 2147483647 := sub_r bv367 ⟨Int.le_refl _, Int.le_refl _⟩ (ir_any _) (by decide)
      exact ret_i (v := v367) hx hb hr hlocks hS (hP.sub (ws' := [(h0, .inr (10, vL 67 F330)), (h_tape, .inl (cB, 940, .inl f_tape)), (h_s, .inl (cI, 335, .inl f_s)), (h_h, .inl (cI, 104, .inl g341)), (h_names, .inl (cJ, 36, .inr (.inl g342))), (h_reserved, .inl (cJ, 23, .inr (.inl f_reserved)))]) [1, 2, 0, 3, 4, 5] rfl) (hD.sub (ws' := [(h0, .inr (10, vL 67 F330)), (h_tape, .inl (cB, 940, .inl f_tape)), (h_s, .inl (cI, 335, .inl f_s)), (h_h, .inl (cI, 104, .inl g341)), (h_names, .inl (cJ, 36, .inr (.inl g342))), (h_reserved, .inl (cJ, 23, .inr (.inl f_reserved)))]) [1, 2, 0, 3, 4, 5] (by decide) rfl) dX10_course_64 rfl (Nat.le_of_ble_eq_true rfl) (Nat.le_of_ble_eq_true rfl) ⟨F330, y331, y332, y333, y334, y335, y336, y337, x_ids, y338, y339, u91, y340, x_undoMany, f_s, g341, g342, (SAME.tr (SAME.tr (SAME.tr (SAME.up eF13 (SAME.up eF12 (SAME.up eF11 (SAME.tr (SAME.up eF1 SAME.rf (by decide)) t5 (by decide)) (by decide)) (by decide)) (by decide)) t64 (by decide)) i289 (by decide)) t343 (by decide)), (SAME.at t343 (by decide) (SAME.at i289 (by decide) (SAME.at t64 (by decide) (get_ne eF13 (by decide) (get_ne eF12 (by decide) (get_ne eF11 (by decide) (SAME.at t5 (by decide) (get_eq eF1)))))))), (SAME.at t343 (by decide) (SAME.at i289 (by decide) (SAME.at t64 (by decide) (get_ne eF13 (by decide) (get_ne eF12 (by decide) (get_ne eF11 (by decide) t6)))))), (SAME.at t343 (by decide) n310), t344, t345, (SAME.at t343 (by decide) n312), t346, t347, t348, t349, t350, t351, t352, (SAME.at t343 (by decide) (SAME.at i289 (by decide) (SAME.at t64 (by decide) (get_ne eF13 (by decide) (get_ne eF12 (by decide) (get_ne eF11 (by decide) (SAME.at t5 (by decide) (get_ne eF1 (by decide) e_ids)))))))), t353, t354, (SAME.at t343 (by decide) i299), t355, (SAME.at t343 (by decide) (SAME.at i289 (by decide) (SAME.at t64 (by decide) (get_ne eF13 (by decide) (get_ne eF12 (by decide) (get_ne eF11 (by decide) (SAME.at t5 (by decide) (get_ne eF1 (by decide) e_undoMany)))))))), i_x_undoMany, s_s_153, s_s_0, s_s_5, s_s_6, s_s_7, s_s_44, s_s_K0, s_s_105, s_s_114, s_s_130, s_s_139, t356, t357, t358, t359, t360, (by omega), rfl⟩
    · have dc365 : r329.toInt ≠ 0 := ne_i (a := r329.toInt) (b := 0) rfl rfl c365
      have k369 : 1 ≤ r329.toInt ∧ r329.toInt ≤ 1 := ⟨ne_lo dc365 t361.1 ⟨Int.le_refl _, Int.le_refl _⟩ (by decide), t361.2⟩
      refine lv_aload_n hx hb dX10_course_49 rfl (lv_at hl 0 rfl) ?_
      refine lv_bipush (v := 59) hx hb dX10_course_50 (by decide) ?_
      have n370 : F330 1 = .ref h_tape := (SAME.at t343 (by decide) n308)
      have n371 : F330 3 = .int x_length := (SAME.at t343 (by decide) n310)
      have n372 : F330 5 = .int 900 := (SAME.at t343 (by decide) n312)
      refine call_Vi (wr := [(h_s, .inl (cI, 335, .inl f_s)), (h_h, .inl (cI, 104, .inl g341)), (h_names, .inl (cJ, 36, .inr (.inl g342))), (h_reserved, .inl (cJ, 23, .inr (.inl f_reserved)))]) (As := [.int 59]) (rest := []) hx hb hml hown hw (m_X10_sign l D cI cJ cB cP cM cZ h0 h_tape F330 x_length y331 900 y332 y333 y334 y335 y336 y337 y338 f_tape 59 _ n370 n371 i_x_length t344 t345 n372 (show 200 ≤ (900 : Int32).toInt ∧ (900 : Int32).toInt ≤ 940 by decide) t346 t347 t348 t349 t350 t351 t352 t353 (by omega)) wV_X10_257_X10_sign dX10_course_52 hK hP hD hS hA [1, 2] [0, 3, 4, 5] rfl rfl (by decide) (by decide) (by decide) 0 10 rfl rfl GG.fb hG.at hl.1 rfl (Nat.le_of_ble_eq_true rfl) ⟨(Nat.le_of_ble_eq_true rfl), (Nat.le_of_ble_eq_true rfl)⟩ ⟨(Nat.le_of_ble_eq_true rfl), (Nat.le_of_ble_eq_true rfl)⟩ (fun r373 u H locs hp hP hD hS => ?_)
      have zl59 : (59 : Int32).toInt = 59 := by decide
      obtain ⟨F374, y375, y376, y377, y378, y379, y380, y381, y382, t383, t384, t385, t386, t387, t388, t389, t390, t391, t392, t393, t394, t395, t396, rfl⟩ := hp
      have hP : va_P D vwCl [(h_s, .inl (cI, 335, .inl f_s)), (h_h, .inl (cI, 104, .inl g341)), (h_names, .inl (cJ, 36, .inr (.inl g342))), (h_reserved, .inl (cJ, 23, .inr (.inl f_reserved))), (h0, .inr (10, vL 67 F374)), (h_tape, .inl (cB, 940, .inl f_tape))] H := hP
      have hD : va_D A [(h_s, .inl (cI, 335, .inl f_s)), (h_h, .inl (cI, 104, .inl g341)), (h_names, .inl (cJ, 36, .inr (.inl g342))), (h_reserved, .inl (cJ, 23, .inr (.inl f_reserved))), (h0, .inr (10, vL 67 F374)), (h_tape, .inl (cB, 940, .inl f_tape))] := hD
      refine W.widen (k := 0) (n := 0) (Nat.le_of_ble_eq_true rfl) (Nat.le_of_ble_eq_true rfl) ?_
      refine lv_if_ne (tgt := 65) hx hb dX10_course_55 (by decide) (fun c398 => ?_) (fun c398 => ?_)
      · have dc398 : r373.toInt ≠ 0 := ne_i (a := r373.toInt) (b := 0) rfl rfl c398
        have k399 : 1 ≤ r373.toInt ∧ r373.toInt ≤ 1 := ⟨ne_lo dc398 t394.1 ⟨Int.le_refl _, Int.le_refl _⟩ (by decide), t394.2⟩
        refine lv_aload_n hx hb dX10_course_65 rfl (lv_at hl 0 rfl) ?_
        refine lv_dup hx hb dX10_course_66 rfl ?_
        have n400 : F330 20 = .int u91 := (SAME.at t343 (by decide) i299)
        have n401 : F374 20 = .int u91 := (SAME.at t383 (by decide) n400)
        refine get_f (D := D) (ci := 10) (v := .int u91) (C := RX10) (T := TX10) (N := 67) hx hb hw inAX10 hown hK hP 4 rfl rfl 20 (by decide) (hw _ q_1281) (fun _ h9 => h9) n401 dX10_course_67 ?_
        refine lv_iconst (v := 1) hx hb dX10_course_70 (by decide) ?_
        refine lv_iadd hx hb dX10_course_71 ?_
        refine lv_topi (fun v402 ev402 => ?_)
        refine put_f (D := D) (ci := 10) (v := .int v402) (ty := .int) (C := RX10) (T := TX10) (N := 67) hx hb hw inAX10 tyX10 tyX10_ok nmX10 hown hK hP hD hS 4 rfl rfl 20 (by decide) (hw _ q_1281) (fun _ h9 => h9) rfl (by decide +kernel) rfl rfl dX10_course_72 (fun H locs F403 eF403 hP hD hS => ?_)
        have hP : va_P D vwCl [(h_s, .inl (cI, 335, .inl f_s)), (h_h, .inl (cI, 104, .inl g341)), (h_names, .inl (cJ, 36, .inr (.inl g342))), (h_reserved, .inl (cJ, 23, .inr (.inl f_reserved))), (h0, .inr (10, vL 67 F403)), (h_tape, .inl (cB, 940, .inl f_tape))] H := hP
        have hD : va_D A [(h_s, .inl (cI, 335, .inl f_s)), (h_h, .inl (cI, 104, .inl g341)), (h_names, .inl (cJ, 36, .inr (.inl g342))), (h_reserved, .inl (cJ, 23, .inr (.inl f_reserved))), (h0, .inr (10, vL 67 F403)), (h_tape, .inl (cB, 940, .inl f_tape))] := hD
        refine lv_goto (tgt := 35) hx hb dX10_course_75 (by decide) ?_
        have n404 : F403 4 = .int y375 := (get_ne eF403 (by decide) t384)
        have n405 : F403 11 = .int y376 := (get_ne eF403 (by decide) t386)
        have n406 : F403 12 = .int y377 := (get_ne eF403 (by decide) t388)
        have n407 : F403 13 = .int y378 := (get_ne eF403 (by decide) t389)
        have n408 : F403 14 = .int y379 := (get_ne eF403 (by decide) t390)
        have n409 : F403 15 = .int y380 := (get_ne eF403 (by decide) t391)
        have n410 : F403 16 = .int y381 := (get_ne eF403 (by decide) t392)
        have n411 : F403 18 = .long y382 := (get_ne eF403 (by decide) t393)
        have n412 : F374 19 = .int y339 := (SAME.at t383 (by decide) t354)
        have n413 : F403 19 = .int y339 := (get_ne eF403 (by decide) n412)
        have n414 : F374 21 = .int y340 := (SAME.at t383 (by decide) t355)
        have n415 : F403 21 = .int y340 := (get_ne eF403 (by decide) n414)
        exact ih (g342, g341, F403, y375, y376, y377, y378, y379, y380, y381, y382, y339, v402, y340) ⟨t356, t360, t357, t358, t359, (SAME.up eF403 (SAME.tr (SAME.tr (SAME.tr SAME.rf i289 (by decide)) t343 (by decide)) t383 (by decide)) (by decide)), n404, n405, n406, n407, n408, n409, n410, n411, n413, (get_eq eF403), n415, t385, t387, (by show (y376.toInt = 2 → 0 ≤ y379.toInt ∧ y379.toInt ≤ 999); omega)⟩ (by show (x_length.toInt - y375.toInt).toNat < (x_length.toInt - u82.toInt).toNat; omega) _ _ _ (hP.sub [0, 2, 3, 1, 4, 5] rfl) (hD.sub [0, 2, 3, 1, 4, 5] (by decide) rfl) hS (lv_sub hl [0] rfl)
      · have dc398 : r373.toInt = 0 := eq_i (a := r373.toInt) (b := 0) rfl rfl c398
        have k416 : 0 ≤ r373.toInt ∧ r373.toInt ≤ 0 := ⟨t394.1, Int.le_trans (Int.le_of_eq dc398) (Int.le_refl _)⟩
        refine lv_iconst (v := (-1)) hx hb dX10_course_58 (by decide) ?_
        refine lv_aload_n hx hb dX10_course_59 rfl (lv_at hl 0 rfl) ?_
        refine get_f (D := D) (ci := 10) (v := .int y381) (C := RX10) (T := TX10) (N := 67) hx hb hw inAX10 hown hK hP 4 rfl rfl 16 (by decide) (hw _ q_1277) (fun _ h9 => h9) t392 dX10_course_60 ?_
        refine lv_isub hx hb dX10_course_63 ?_
        refine lv_topi (fun v417 ev417 => ?_)
        have bv417 : v417.toInt = (-1) - y381.toInt := by rw [ev417]; exact sub_k rfl rfl ⟨Int.le_refl _, Int.le_refl _⟩ (ir_any _) (by decide)
        have k418 : (-2147483648) ≤ v417.toInt ∧ v417.toInt ≤ 2147483647 := sub_r bv417 ⟨Int.le_refl _, Int.le_refl _⟩ (ir_any _) (by decide)
        exact ret_i (v := v417) hx hb hr hlocks hS (hP.sub (ws' := [(h0, .inr (10, vL 67 F374)), (h_tape, .inl (cB, 940, .inl f_tape)), (h_s, .inl (cI, 335, .inl f_s)), (h_h, .inl (cI, 104, .inl g341)), (h_names, .inl (cJ, 36, .inr (.inl g342))), (h_reserved, .inl (cJ, 23, .inr (.inl f_reserved)))]) [4, 5, 0, 1, 2, 3] rfl) (hD.sub (ws' := [(h0, .inr (10, vL 67 F374)), (h_tape, .inl (cB, 940, .inl f_tape)), (h_s, .inl (cI, 335, .inl f_s)), (h_h, .inl (cI, 104, .inl g341)), (h_names, .inl (cJ, 36, .inr (.inl g342))), (h_reserved, .inl (cJ, 23, .inr (.inl f_reserved)))]) [4, 5, 0, 1, 2, 3] (by decide) rfl) dX10_course_64 rfl (Nat.le_of_ble_eq_true rfl) (Nat.le_of_ble_eq_true rfl) ⟨F374, y375, y376, y377, y378, y379, y380, y381, x_ids, y382, y339, u91, y340, x_undoMany, f_s, g341, g342, (SAME.tr (SAME.tr (SAME.tr (SAME.tr (SAME.up eF13 (SAME.up eF12 (SAME.up eF11 (SAME.tr (SAME.up eF1 SAME.rf (by decide)) t5 (by decide)) (by decide)) (by decide)) (by decide)) t64 (by decide)) i289 (by decide)) t343 (by decide)) t383 (by decide)), (SAME.at t383 (by decide) (SAME.at t343 (by decide) (SAME.at i289 (by decide) (SAME.at t64 (by decide) (get_ne eF13 (by decide) (get_ne eF12 (by decide) (get_ne eF11 (by decide) (SAME.at t5 (by decide) (get_eq eF1))))))))), (SAME.at t383 (by decide) (SAME.at t343 (by decide) (SAME.at i289 (by decide) (SAME.at t64 (by decide) (get_ne eF13 (by decide) (get_ne eF12 (by decide) (get_ne eF11 (by decide) t6))))))), (SAME.at t383 (by decide) n371), t384, t385, (SAME.at t383 (by decide) n372), t386, t387, t388, t389, t390, t391, t392, (SAME.at t383 (by decide) (SAME.at t343 (by decide) (SAME.at i289 (by decide) (SAME.at t64 (by decide) (get_ne eF13 (by decide) (get_ne eF12 (by decide) (get_ne eF11 (by decide) (SAME.at t5 (by decide) (get_ne eF1 (by decide) e_ids))))))))), t393, (SAME.at t383 (by decide) t354), (SAME.at t383 (by decide) (SAME.at t343 (by decide) i299)), (SAME.at t383 (by decide) t355), (SAME.at t383 (by decide) (SAME.at t343 (by decide) (SAME.at i289 (by decide) (SAME.at t64 (by decide) (get_ne eF13 (by decide) (get_ne eF12 (by decide) (get_ne eF11 (by decide) (SAME.at t5 (by decide) (get_ne eF1 (by decide) e_undoMany))))))))), i_x_undoMany, s_s_153, s_s_0, s_s_5, s_s_6, s_s_7, s_s_44, s_s_K0, s_s_105, s_s_114, s_s_130, s_s_139, t356, t357, t358, t359, t360, (by omega), rfl⟩
set_option maxHeartbeats 4000000 in
set_option maxRecDepth 100000 in
theorem m_X10_fault (l : Launch) (D : va_G) (cI cJ cB cP cM cZ : ClassId) (h0 : Nat) (Fh : Nat → Value) (x_fault : Int32) (sz : Nat) (e_fault : Fh 15 = .int x_fault) : CI l yX10_fault cX10_fault 1 (some .int) { frames := 0, cells := 0, slots := 0, locals := 0 } (GG D cI cJ cB cP cM cZ) D [(h0, .inr (10, vL 67 Fh))] sz [.ref h0] (fun (r : Int32) (u : va_W) => ∃ (Gh : Nat → Value), SAME [0] Fh Gh ∧ Gh 0 = .int 0 ∧ r = x_fault ∧ u = [(h0, .inr (10, vL 67 Gh))]) := by
  refine CI_mk (by decide) (Nat.le_of_ble_eq_true rfl) ?_
  intro p e s m below meth c A ls E hAe hG hsz hP hD hA hS hl
  obtain ⟨hx, hb, hr, hw, hown, hlocks, hml, hnm⟩ := E
  have hK := hG.1
  have hl : lv_has ls 1 [(0, .ref h0)] := hl
  refine lv_aload_n hx hb dX10_fault_0 rfl (lv_at hl 0 rfl) ?_
  refine lv_iconst (v := 0) hx hb dX10_fault_1 (by decide) ?_
  refine put_f (D := D) (ci := 10) (v := .int 0) (ty := .int) (C := RX10) (T := TX10) (N := 67) hx hb hw inAX10 tyX10 tyX10_ok nmX10 hown hK hP hD hS 0 rfl rfl 0 (by decide) (hw _ q_1261) (fun _ h9 => h9) rfl (by decide +kernel) rfl rfl dX10_fault_2 (fun H locs F1 eF1 hP hD hS => ?_)
  have hP : va_P D vwCl [(h0, .inr (10, vL 67 F1))] H := hP
  have hD : va_D A [(h0, .inr (10, vL 67 F1))] := hD
  refine lv_aload_n hx hb dX10_fault_5 rfl (lv_at hl 0 rfl) ?_
  have n2 : F1 15 = .int x_fault := (get_ne eF1 (by decide) e_fault)
  refine get_f (D := D) (ci := 10) (v := .int x_fault) (C := RX10) (T := TX10) (N := 67) hx hb hw inAX10 hown hK hP 0 rfl rfl 15 (by decide) (hw _ q_1276) (fun _ h9 => h9) n2 dX10_fault_6 ?_
  exact ret_i (v := x_fault) hx hb hr hlocks hS hP hD dX10_fault_9 rfl (Nat.le_of_ble_eq_true rfl) (Nat.le_of_ble_eq_true rfl) ⟨F1, (SAME.up eF1 SAME.rf (by decide)), (get_eq eF1), rfl, rfl⟩
set_option maxHeartbeats 4000000 in
set_option maxRecDepth 100000 in
theorem m_X10_looksAtMan (l : Launch) (D : va_G) (cI cJ cB cP cM cZ : ClassId) (h0 : Nat) (h_s : Nat) (h_names : Nat) (h_reserved : Nat) (Fh : Nat → Value) (x_token : Int32) (x_at : Int32) (x_number : Int32) (x_fault : Int32) (x_faultAt : Int32) (x_word : Int64) (x_got : Int32) (f_s : Nat → Int32) (f_names : Nat → Int64) (f_reserved : Nat → Int64) (sz : Nat) (e_s : Fh 6 = .ref h_s) (e_names : Fh 9 = .ref h_names) (e_reserved : Fh 10 = .ref h_reserved) (e_token : Fh 11 = .int x_token) (i_x_token : IR 0 4 x_token) (e_at : Fh 12 = .int x_at) (e_number : Fh 14 = .int x_number) (e_fault : Fh 15 = .int x_fault) (e_faultAt : Fh 16 = .int x_faultAt) (e_word : Fh 18 = .long x_word) (e_got : Fh 19 = .int x_got) (s_s_K0 : KW 0 f_s) (s_s_0 : SG 0 0 0 40 f_s) (s_s_105 : SG 105 108 0 11 f_s) (s_s_114 : SG 114 114 0 5 f_s) (s_s_130 : SG 130 133 0 11 f_s) (s_s_139 : SG 139 139 0 5 f_s) (s_s_153 : SG 153 153 0 44 f_s) (s_s_44 : SG 44 55 0 9 f_s) (s_s_5 : SG 5 5 0 12 f_s) (s_s_6 : SG 6 6 0 12 f_s) (s_s_7 : SG 7 7 0 6 f_s) (o_0 : (x_token.toInt = 2 → 0 ≤ x_number.toInt ∧ x_number.toInt ≤ 999)) : CI l yX10_looksAtMan cX10_looksAtMan 1 (some .boolean) { frames := 1, cells := 0, slots := 0, locals := 23 } (GG D cI cJ cB cP cM cZ) D [(h0, .inr (10, vL 67 Fh)), (h_s, .inl (cI, 335, .inl f_s)), (h_names, .inl (cJ, 36, .inr (.inl f_names))), (h_reserved, .inl (cJ, 23, .inr (.inl f_reserved)))] sz [.ref h0] (fun (r : Int32) (u : va_W) => ∃ (Gh : Nat → Value) (y_fault : Int32) (y_faultAt : Int32) (y_got : Int32), SAME [15, 16, 19] Fh Gh ∧ Gh 15 = .int y_fault ∧ Gh 16 = .int y_faultAt ∧ Gh 19 = .int y_got ∧ IR 0 1 r ∧ u = [(h0, .inr (10, vL 67 Gh)), (h_s, .inl (cI, 335, .inl f_s)), (h_names, .inl (cJ, 36, .inr (.inl f_names))), (h_reserved, .inl (cJ, 23, .inr (.inl f_reserved)))]) := by
  refine CI_mk (by decide) (Nat.le_of_ble_eq_true rfl) ?_
  intro p e s m below meth c A ls E hAe hG hsz hP hD hA hS hl
  obtain ⟨hx, hb, hr, hw, hown, hlocks, hml, hnm⟩ := E
  have hK := hG.1
  have i_x_token : 0 ≤ x_token.toInt ∧ x_token.toInt ≤ 4 := i_x_token
  have hl : lv_has ls 1 [(0, .ref h0)] := hl
  refine lv_aload_n hx hb dX10_looksAtMan_0 rfl (lv_at hl 0 rfl) ?_
  refine call_Vi (wr := [(h_s, .inl (cI, 335, .inl f_s)), (h_names, .inl (cJ, 36, .inr (.inl f_names)))]) (As := []) (rest := []) hx hb hml hown hw (m_X10_isName l D cI cJ cB cP cM cZ h0 h_reserved Fh x_token x_number x_word f_reserved _ e_reserved e_token i_x_token e_number e_word (by omega)) wV_X10_218_X10_isName dX10_looksAtMan_1 hK hP hD hS hA [0, 3] [1, 2] rfl rfl (by decide) (by decide) (by decide) 0 10 rfl rfl GG.fb hG.at hl.1 rfl (Nat.le_of_ble_eq_true rfl) ⟨(Nat.le_of_ble_eq_true rfl), (Nat.le_of_ble_eq_true rfl)⟩ ⟨(Nat.le_of_ble_eq_true rfl), (Nat.le_of_ble_eq_true rfl)⟩ (fun r1 u H locs hp hP hD hS => ?_)
  obtain ⟨t2, rfl⟩ := hp
  have hP : va_P D vwCl [(h_s, .inl (cI, 335, .inl f_s)), (h_names, .inl (cJ, 36, .inr (.inl f_names))), (h0, .inr (10, vL 67 Fh)), (h_reserved, .inl (cJ, 23, .inr (.inl f_reserved)))] H := hP
  have hD : va_D A [(h_s, .inl (cI, 335, .inl f_s)), (h_names, .inl (cJ, 36, .inr (.inl f_names))), (h0, .inr (10, vL 67 Fh)), (h_reserved, .inl (cJ, 23, .inr (.inl f_reserved)))] := hD
  refine W.widen (k := 0) (n := 0) (Nat.le_of_ble_eq_true rfl) (Nat.le_of_ble_eq_true rfl) ?_
  refine lv_if_ne (tgt := 13) hx hb dX10_looksAtMan_4 (by decide) (fun c4 => ?_) (fun c4 => ?_)
  · have dc4 : r1.toInt ≠ 0 := ne_i (a := r1.toInt) (b := 0) rfl rfl c4
    have k5 : 1 ≤ r1.toInt ∧ r1.toInt ≤ 1 := ⟨ne_lo dc4 t2.1 ⟨Int.le_refl _, Int.le_refl _⟩ (by decide), t2.2⟩
    refine lv_aload_n hx hb dX10_looksAtMan_13 rfl (lv_at hl 0 rfl) ?_
    refine lv_aload_n hx hb dX10_looksAtMan_14 rfl (lv_at hl 0 rfl) ?_
    refine lv_iconst (v := 0) hx hb dX10_looksAtMan_15 (by decide) ?_
    refine lv_aload_n hx hb dX10_looksAtMan_16 rfl (lv_at hl 0 rfl) ?_
    refine get_f (D := D) (ci := 10) (v := .ref h_s) (C := RX10) (T := TX10) (N := 67) hx hb hw inAX10 hown hK hP 2 rfl rfl 6 (by decide) (hw _ q_1267) (fun _ h9 => h9) e_s dX10_looksAtMan_17 ?_
    refine lv_iconst (v := 5) hx hb dX10_looksAtMan_20 (by decide) ?_
    refine iald_n hx hb hK hP 0 0 rfl rfl 5 rfl (Nat.le_of_ble_eq_true rfl) (Nat.le_of_ble_eq_true rfl) rfl dX10_looksAtMan_21 ?_
    refine lv_topi (fun v6 ev6 => ?_)
    have k7 : 0 ≤ v6.toInt ∧ v6.toInt ≤ 12 := by rw [ev6]; exact s_s_5.atN 5 (by decide) (by decide)
    refine call_Vi (wr := [(h_s, .inl (cI, 335, .inl f_s)), (h_reserved, .inl (cJ, 23, .inr (.inl f_reserved)))]) (As := [.int 0, .int v6]) (rest := [.ref h0]) hx hb hml hown hw (m_X10_find l D cI cJ cB cP cM cZ h0 h_names Fh x_word f_names 0 v6 _ e_names e_word (show 0 ≤ (0 : Int32).toInt ∧ (0 : Int32).toInt ≤ 30 by decide) k7 (by have z0 : (0 : Int32).toInt = 0 := rfl; omega)) wV_X10_222_X10_find dX10_looksAtMan_22 hK hP hD hS hA [2, 1] [0, 3] rfl rfl (by decide) (by decide) (by decide) 0 10 rfl rfl GG.fb hG.at hl.1 rfl (Nat.le_of_ble_eq_true rfl) ⟨(Nat.le_of_ble_eq_true rfl), (Nat.le_of_ble_eq_true rfl)⟩ ⟨(Nat.le_of_ble_eq_true rfl), (Nat.le_of_ble_eq_true rfl)⟩ (fun r8 u H locs hp hP hD hS => ?_)
    have zl0 : (0 : Int32).toInt = 0 := by decide
    rcases hp with ⟨t9, rfl, rfl⟩ | ⟨t10, t11, rfl⟩
    · have hP : va_P D vwCl [(h_s, .inl (cI, 335, .inl f_s)), (h_reserved, .inl (cJ, 23, .inr (.inl f_reserved))), (h0, .inr (10, vL 67 Fh)), (h_names, .inl (cJ, 36, .inr (.inl f_names)))] H := hP
      have hD : va_D A [(h_s, .inl (cI, 335, .inl f_s)), (h_reserved, .inl (cJ, 23, .inr (.inl f_reserved))), (h0, .inr (10, vL 67 Fh)), (h_names, .inl (cJ, 36, .inr (.inl f_names)))] := hD
      refine W.widen (k := 0) (n := 0) (Nat.le_of_ble_eq_true rfl) (Nat.le_of_ble_eq_true rfl) ?_
      refine put_f (D := D) (ci := 10) (v := .int (-1)) (ty := .int) (C := RX10) (T := TX10) (N := 67) hx hb hw inAX10 tyX10 tyX10_ok nmX10 hown hK hP hD hS 2 rfl rfl 19 (by decide) (hw _ q_1280) (fun _ h9 => h9) rfl (by decide +kernel) rfl rfl dX10_looksAtMan_25 (fun H locs F13 eF13 hP hD hS => ?_)
      have hP : va_P D vwCl [(h_s, .inl (cI, 335, .inl f_s)), (h_reserved, .inl (cJ, 23, .inr (.inl f_reserved))), (h0, .inr (10, vL 67 F13)), (h_names, .inl (cJ, 36, .inr (.inl f_names)))] H := hP
      have hD : va_D A [(h_s, .inl (cI, 335, .inl f_s)), (h_reserved, .inl (cJ, 23, .inr (.inl f_reserved))), (h0, .inr (10, vL 67 F13)), (h_names, .inl (cJ, 36, .inr (.inl f_names)))] := hD
      refine lv_aload_n hx hb dX10_looksAtMan_28 rfl (lv_at hl 0 rfl) ?_
      refine get_f (D := D) (ci := 10) (v := .int (-1)) (C := RX10) (T := TX10) (N := 67) hx hb hw inAX10 hown hK hP 2 rfl rfl 19 (by decide) (hw _ q_1280) (fun _ h9 => h9) (get_eq eF13) dX10_looksAtMan_29 ?_
      refine lv_if_ge (tgt := 43) hx hb dX10_looksAtMan_32 (by decide) (fun g => absurd g (by decide)) (fun _ => ?_)
      refine lv_aload_n hx hb dX10_looksAtMan_35 rfl (lv_at hl 0 rfl) ?_
      refine lv_iconst (v := 3) hx hb dX10_looksAtMan_36 (by decide) ?_
      have n14 : F13 12 = .int x_at := (get_ne eF13 (by decide) e_at)
      refine call_Vi (wr := [(h_s, .inl (cI, 335, .inl f_s)), (h_reserved, .inl (cJ, 23, .inr (.inl f_reserved))), (h_names, .inl (cJ, 36, .inr (.inl f_names)))]) (As := [.int 3]) (rest := []) hx hb hml hown hw (m_X10_bad l D cI cJ cB cP cM cZ h0 F13 x_at 3 _ n14) wV_X10_205_X10_bad dX10_looksAtMan_37 hK hP hD hS hA [2] [0, 1, 3] rfl rfl (by decide) (by decide) (by decide) 0 10 rfl rfl GG.fb hG.at hl.1 rfl (Nat.le_of_ble_eq_true rfl) ⟨(Nat.le_of_ble_eq_true rfl), (Nat.le_of_ble_eq_true rfl)⟩ ⟨(Nat.le_of_ble_eq_true rfl), (Nat.le_of_ble_eq_true rfl)⟩ (fun r15 u H locs hp hP hD hS => ?_)
      have zl3 : (3 : Int32).toInt = 3 := by decide
      obtain ⟨F16, t17, t18, t19, rfl, rfl⟩ := hp
      have hP : va_P D vwCl [(h_s, .inl (cI, 335, .inl f_s)), (h_reserved, .inl (cJ, 23, .inr (.inl f_reserved))), (h_names, .inl (cJ, 36, .inr (.inl f_names))), (h0, .inr (10, vL 67 F16))] H := hP
      have hD : va_D A [(h_s, .inl (cI, 335, .inl f_s)), (h_reserved, .inl (cJ, 23, .inr (.inl f_reserved))), (h_names, .inl (cJ, 36, .inr (.inl f_names))), (h0, .inr (10, vL 67 F16))] := hD
      refine W.widen (k := 0) (n := 0) (Nat.le_of_ble_eq_true rfl) (Nat.le_of_ble_eq_true rfl) ?_
      refine lv_if_eq (tgt := 47) hx hb dX10_looksAtMan_40 (by decide) (fun _ => ?_) (fun g => absurd (by decide) g)
      refine lv_iconst (v := 0) hx hb dX10_looksAtMan_47 (by decide) ?_
      exact ret_i (v := 0) hx hb hr hlocks hS (hP.sub (ws' := [(h0, .inr (10, vL 67 F16)), (h_s, .inl (cI, 335, .inl f_s)), (h_names, .inl (cJ, 36, .inr (.inl f_names))), (h_reserved, .inl (cJ, 23, .inr (.inl f_reserved)))]) [3, 0, 2, 1] rfl) (hD.sub (ws' := [(h0, .inr (10, vL 67 F16)), (h_s, .inl (cI, 335, .inl f_s)), (h_names, .inl (cJ, 36, .inr (.inl f_names))), (h_reserved, .inl (cJ, 23, .inr (.inl f_reserved)))]) [3, 0, 2, 1] (by decide) rfl) dX10_looksAtMan_48 rfl (Nat.le_of_ble_eq_true rfl) (Nat.le_of_ble_eq_true rfl) ⟨F16, 3, x_at, (-1), (SAME.tr (SAME.up eF13 SAME.rf (by decide)) t17 (by decide)), t18, t19, (SAME.at t17 (by decide) (get_eq eF13)), (show 0 ≤ (0 : Int32).toInt ∧ (0 : Int32).toInt ≤ 1 by decide), rfl⟩
    · have hP : va_P D vwCl [(h_s, .inl (cI, 335, .inl f_s)), (h_reserved, .inl (cJ, 23, .inr (.inl f_reserved))), (h0, .inr (10, vL 67 Fh)), (h_names, .inl (cJ, 36, .inr (.inl f_names)))] H := hP
      have hD : va_D A [(h_s, .inl (cI, 335, .inl f_s)), (h_reserved, .inl (cJ, 23, .inr (.inl f_reserved))), (h0, .inr (10, vL 67 Fh)), (h_names, .inl (cJ, 36, .inr (.inl f_names)))] := hD
      refine W.widen (k := 0) (n := 0) (Nat.le_of_ble_eq_true rfl) (Nat.le_of_ble_eq_true rfl) ?_
      have k21 : 1 ≤ v6.toInt ∧ v6.toInt ≤ 12 := ⟨lo_lt t11 (Int.le_refl _) (by decide), k7.2⟩
      refine put_f (D := D) (ci := 10) (v := .int r8) (ty := .int) (C := RX10) (T := TX10) (N := 67) hx hb hw inAX10 tyX10 tyX10_ok nmX10 hown hK hP hD hS 2 rfl rfl 19 (by decide) (hw _ q_1280) (fun _ h9 => h9) rfl (by decide +kernel) rfl rfl dX10_looksAtMan_25 (fun H locs F22 eF22 hP hD hS => ?_)
      have hP : va_P D vwCl [(h_s, .inl (cI, 335, .inl f_s)), (h_reserved, .inl (cJ, 23, .inr (.inl f_reserved))), (h0, .inr (10, vL 67 F22)), (h_names, .inl (cJ, 36, .inr (.inl f_names)))] H := hP
      have hD : va_D A [(h_s, .inl (cI, 335, .inl f_s)), (h_reserved, .inl (cJ, 23, .inr (.inl f_reserved))), (h0, .inr (10, vL 67 F22)), (h_names, .inl (cJ, 36, .inr (.inl f_names)))] := hD
      refine lv_aload_n hx hb dX10_looksAtMan_28 rfl (lv_at hl 0 rfl) ?_
      refine get_f (D := D) (ci := 10) (v := .int r8) (C := RX10) (T := TX10) (N := 67) hx hb hw inAX10 hown hK hP 2 rfl rfl 19 (by decide) (hw _ q_1280) (fun _ h9 => h9) (get_eq eF22) dX10_looksAtMan_29 ?_
      refine lv_if_ge (tgt := 43) hx hb dX10_looksAtMan_32 (by decide) (fun c23 => ?_) (fun c23 => False.elim (bad_lt (nle_i (a := 0) (b := r8.toInt) rfl rfl c23) t10.1 (Int.le_refl _) (by decide)))
      have dc23 : 0 ≤ r8.toInt := le_i (a := 0) (b := r8.toInt) rfl rfl c23
      refine lv_iconst (v := 1) hx hb dX10_looksAtMan_43 (by decide) ?_
      refine lv_goto (tgt := 48) hx hb dX10_looksAtMan_44 (by decide) ?_
      exact ret_i (v := 1) hx hb hr hlocks hS (hP.sub (ws' := [(h0, .inr (10, vL 67 F22)), (h_s, .inl (cI, 335, .inl f_s)), (h_names, .inl (cJ, 36, .inr (.inl f_names))), (h_reserved, .inl (cJ, 23, .inr (.inl f_reserved)))]) [2, 0, 3, 1] rfl) (hD.sub (ws' := [(h0, .inr (10, vL 67 F22)), (h_s, .inl (cI, 335, .inl f_s)), (h_names, .inl (cJ, 36, .inr (.inl f_names))), (h_reserved, .inl (cJ, 23, .inr (.inl f_reserved)))]) [2, 0, 3, 1] (by decide) rfl) dX10_looksAtMan_48 rfl (Nat.le_of_ble_eq_true rfl) (Nat.le_of_ble_eq_true rfl) ⟨F22, x_fault, x_faultAt, r8, (SAME.up eF22 SAME.rf (by decide)), (get_ne eF22 (by decide) e_fault), (get_ne eF22 (by decide) e_faultAt), (get_eq eF22), (show 0 ≤ (1 : Int32).toInt ∧ (1 : Int32).toInt ≤ 1 by decide), rfl⟩
  · have dc4 : r1.toInt = 0 := eq_i (a := r1.toInt) (b := 0) rfl rfl c4
    have k24 : 0 ≤ r1.toInt ∧ r1.toInt ≤ 0 := ⟨t2.1, Int.le_trans (Int.le_of_eq dc4) (Int.le_refl _)⟩
    refine lv_aload_n hx hb dX10_looksAtMan_7 rfl (lv_at hl 0 rfl) ?_
    refine lv_iconst (v := 1) hx hb dX10_looksAtMan_8 (by decide) ?_
    refine call_Vi (wr := [(h_s, .inl (cI, 335, .inl f_s)), (h_names, .inl (cJ, 36, .inr (.inl f_names))), (h_reserved, .inl (cJ, 23, .inr (.inl f_reserved)))]) (As := [.int 1]) (rest := []) hx hb hml hown hw (m_X10_bad l D cI cJ cB cP cM cZ h0 Fh x_at 1 _ e_at) wV_X10_205_X10_bad dX10_looksAtMan_9 hK hP hD hS hA [2] [0, 1, 3] rfl rfl (by decide) (by decide) (by decide) 0 10 rfl rfl GG.fb hG.at hl.1 rfl (Nat.le_of_ble_eq_true rfl) ⟨(Nat.le_of_ble_eq_true rfl), (Nat.le_of_ble_eq_true rfl)⟩ ⟨(Nat.le_of_ble_eq_true rfl), (Nat.le_of_ble_eq_true rfl)⟩ (fun r25 u H locs hp hP hD hS => ?_)
    have zl1 : (1 : Int32).toInt = 1 := by decide
    obtain ⟨F26, t27, t28, t29, rfl, rfl⟩ := hp
    have hP : va_P D vwCl [(h_s, .inl (cI, 335, .inl f_s)), (h_names, .inl (cJ, 36, .inr (.inl f_names))), (h_reserved, .inl (cJ, 23, .inr (.inl f_reserved))), (h0, .inr (10, vL 67 F26))] H := hP
    have hD : va_D A [(h_s, .inl (cI, 335, .inl f_s)), (h_names, .inl (cJ, 36, .inr (.inl f_names))), (h_reserved, .inl (cJ, 23, .inr (.inl f_reserved))), (h0, .inr (10, vL 67 F26))] := hD
    refine W.widen (k := 0) (n := 0) (Nat.le_of_ble_eq_true rfl) (Nat.le_of_ble_eq_true rfl) ?_
    exact ret_i (v := 0) hx hb hr hlocks hS (hP.sub (ws' := [(h0, .inr (10, vL 67 F26)), (h_s, .inl (cI, 335, .inl f_s)), (h_names, .inl (cJ, 36, .inr (.inl f_names))), (h_reserved, .inl (cJ, 23, .inr (.inl f_reserved)))]) [3, 0, 1, 2] rfl) (hD.sub (ws' := [(h0, .inr (10, vL 67 F26)), (h_s, .inl (cI, 335, .inl f_s)), (h_names, .inl (cJ, 36, .inr (.inl f_names))), (h_reserved, .inl (cJ, 23, .inr (.inl f_reserved)))]) [3, 0, 1, 2] (by decide) rfl) dX10_looksAtMan_12 rfl (Nat.le_of_ble_eq_true rfl) (Nat.le_of_ble_eq_true rfl) ⟨F26, 1, x_at, x_got, (SAME.tr SAME.rf t27 (by decide)), t28, t29, (SAME.at t27 (by decide) e_got), (show 0 ≤ (0 : Int32).toInt ∧ (0 : Int32).toInt ≤ 1 by decide), rfl⟩
set_option maxHeartbeats 4000000 in
set_option maxRecDepth 100000 in
theorem m_X10_placeIn (l : Launch) (D : va_G) (cI cJ cB cP cM cZ : ClassId) (h0 : Nat) (h_planRead : Nat) (Fh : Nat → Value) (f_planRead : Nat → Int32) (p0 : Int32) (p1 : Int32) (sz : Nat) (e_planRead : Fh 22 = .ref h_planRead) (s_planRead_1 : SG 1 4 0 11 f_planRead) (s_planRead_10 : SG 10 10 0 5 f_planRead) (i_p1 : IR 0 4 p1) : CI l yX10_placeIn cX10_placeIn 4 (some .int) { frames := 0, cells := 0, slots := 0, locals := 0 } (GG D cI cJ cB cP cM cZ) D [(h0, .inr (10, vL 67 Fh)), (h_planRead, .inl (cI, 24, .inl f_planRead))] sz [.ref h0, .int p0, .int p1] (fun (r : Int32) (u : va_W) => IR (-1) 3 r ∧ u = [(h0, .inr (10, vL 67 Fh)), (h_planRead, .inl (cI, 24, .inl f_planRead))]) := by
  refine CI_mk (by decide) (Nat.le_of_ble_eq_true rfl) ?_
  intro p e s m below meth c A ls E hAe hG hsz hP hD hA hS hl
  obtain ⟨hx, hb, hr, hw, hown, hlocks, hml, hnm⟩ := E
  have hK := hG.1
  have i_p1 : 0 ≤ p1.toInt ∧ p1.toInt ≤ 4 := i_p1
  have hl : lv_has ls 4 [(0, .ref h0), (1, .int p0), (2, .int p1)] := hl
  refine lv_iconst (v := 0) hx hb dX10_placeIn_0 (by decide) ?_
  refine lv_istore_n (lv' := [(3, .int 0), (0, .ref h0), (1, .int p0), (2, .int p1)]) hx hb dX10_placeIn_1 rfl hl (by decide) rfl (fun ls hl => ?_)
  refine mloop (α := (Int32)) (nL := 4) (D := D) (A := A) (H0 := s.heap) (fun a => (4 - a.toInt).toNat) (fun a => IR 0 4 a) (fun a => [(h0, .inr (10, vL 67 Fh)), (h_planRead, .inl (cI, 24, .inl f_planRead))]) (fun a => [(3, .int a), (0, .ref h0), (1, .int p0), (2, .int p1)]) (fun H locs ls => W p l e ({ frames := 0, cells := 0, slots := 0, locals := 0 } : Room) s m [.ref h0, .int p0, .int p1].toArray below meth c H locs 0 0 (MQ below (va_Qi (fun (r : Int32) (u : va_W) => IR (-1) 3 r ∧ u = [(h0, .inr (10, vL 67 Fh)), (h_planRead, .inl (cI, 24, .inl f_planRead))]) (PO D A) A) [.ref h0, .int p0, .int p1].toArray s 0 0 A) (F0 m 2 ls [])) ?_ (0) (show 0 ≤ (0 : Int32).toInt ∧ (0 : Int32).toInt ≤ 4 by decide) _ _ _ hP hD hS hl
  rintro u1 i2 ih H locs ls hP hD hS hl
  have i2 : 0 ≤ u1.toInt ∧ u1.toInt ≤ 4 := i2
  have hP : va_P D vwCl [(h0, .inr (10, vL 67 Fh)), (h_planRead, .inl (cI, 24, .inl f_planRead))] H := hP
  have hD : va_D A [(h0, .inr (10, vL 67 Fh)), (h_planRead, .inl (cI, 24, .inl f_planRead))] := hD
  have hl : lv_has ls 4 [(3, .int u1), (0, .ref h0), (1, .int p0), (2, .int p1)] := hl
  refine lv_iload_n hx hb dX10_placeIn_2 rfl (lv_at hl 0 rfl) ?_
  refine lv_iload_n hx hb dX10_placeIn_3 rfl (lv_at hl 3 rfl) ?_
  refine lv_icmp_ge (tgt := 27) hx hb dX10_placeIn_4 (by decide) (fun c3 => ?_) (fun c3 => ?_)
  · have dc3 : p1.toInt ≤ u1.toInt := le_i (a := p1.toInt) (b := u1.toInt) rfl rfl c3
    refine lv_iconst (v := (-1)) hx hb dX10_placeIn_27 (by decide) ?_
    exact ret_i (v := (-1)) hx hb hr hlocks hS hP hD dX10_placeIn_28 rfl (Nat.le_of_ble_eq_true rfl) (Nat.le_of_ble_eq_true rfl) ⟨(show (-1) ≤ ((-1) : Int32).toInt ∧ ((-1) : Int32).toInt ≤ 3 by decide), rfl⟩
  · have dc3 : u1.toInt < p1.toInt := nle_i (a := p1.toInt) (b := u1.toInt) rfl rfl c3
    have k4 : 0 ≤ u1.toInt ∧ u1.toInt ≤ 3 := ⟨i2.1, up_lt dc3 i_p1.2 (by decide)⟩
    have k5 : 1 ≤ p1.toInt ∧ p1.toInt ≤ 4 := ⟨lo_lt dc3 i2.1 (by decide), i_p1.2⟩
    refine lv_aload_n hx hb dX10_placeIn_7 rfl (lv_at hl 1 rfl) ?_
    refine get_f (D := D) (ci := 10) (v := .ref h_planRead) (C := RX10) (T := TX10) (N := 67) hx hb hw inAX10 hown hK hP 0 rfl rfl 22 (by decide) (hw _ q_1283) (fun _ h9 => h9) e_planRead dX10_placeIn_8 ?_
    refine lv_iconst (v := 1) hx hb dX10_placeIn_11 (by decide) ?_
    refine lv_iload_n hx hb dX10_placeIn_12 rfl (lv_at hl 0 rfl) ?_
    refine lv_iadd hx hb dX10_placeIn_13 ?_
    refine lv_topi (fun v6 ev6 => ?_)
    have bv6 : v6.toInt = 1 + u1.toInt := by rw [ev6]; exact add_k rfl rfl ⟨Int.le_refl _, Int.le_refl _⟩ k4 (by decide)
    have k7 : 1 ≤ v6.toInt ∧ v6.toInt ≤ 4 := add_r bv6 ⟨Int.le_refl _, Int.le_refl _⟩ k4 (by decide)
    refine va_iald hx hb hK hP 1 0 rfl rfl (ix_k k7 (by decide) (by decide)) dX10_placeIn_14 ?_
    refine lv_topi (fun v8 ev8 => ?_)
    have k9 : 0 ≤ v8.toInt ∧ v8.toInt ≤ 11 := by rw [ev8]; exact s_planRead_1.at _ (Int.le_trans (by decide) k7.1) (Int.le_trans k7.2 (by decide))
    refine lv_iload_n hx hb dX10_placeIn_15 rfl (lv_at hl 2 rfl) ?_
    refine lv_icmp_ne (tgt := 21) hx hb dX10_placeIn_16 (by decide) (fun c10 => ?_) (fun c10 => ?_)
    · have dc10 : v8.toInt ≠ p0.toInt := ne_i (a := v8.toInt) (b := p0.toInt) rfl rfl c10
      obtain ⟨v11, ev11⟩ : ∃ z : Int32, z = u1 + 1 := ⟨_, rfl⟩
      have bv11 : v11.toInt = u1.toInt + 1 := by rw [ev11]; exact add_k rfl rfl k4 ⟨Int.le_refl _, Int.le_refl _⟩ (by decide)
      have k12 : 1 ≤ v11.toInt ∧ v11.toInt ≤ 4 := add_r bv11 k4 ⟨Int.le_refl _, Int.le_refl _⟩ (by decide)
      refine lv_iinc (v := v11) (lv' := [(3, .int v11), (0, .ref h0), (1, .int p0), (2, .int p1)]) hx hb dX10_placeIn_21 hl (k := 0) rfl (by rw [ev11]; rfl) (by decide) rfl (fun ls hl => ?_)
      refine lv_goto (tgt := 2) hx hb dX10_placeIn_24 (by decide) ?_
      exact ih (v11) (ir_wk k12 (by decide) (by decide)) (by show (4 - v11.toInt).toNat < (4 - u1.toInt).toNat; omega) _ _ _ hP hD hS (lv_sub hl [0, 1, 2, 3] rfl)
    · have dc10 : v8.toInt = p0.toInt := eq_i (a := v8.toInt) (b := p0.toInt) rfl rfl c10
      have k13 : 0 ≤ p0.toInt ∧ p0.toInt ≤ 11 := ⟨Int.le_trans k9.1 (Int.le_of_eq dc10), Int.le_trans (Int.le_of_eq dc10.symm) k9.2⟩
      refine lv_iload_n hx hb dX10_placeIn_19 rfl (lv_at hl 0 rfl) ?_
      exact ret_i (v := u1) hx hb hr hlocks hS hP hD dX10_placeIn_20 rfl (Nat.le_of_ble_eq_true rfl) (Nat.le_of_ble_eq_true rfl) ⟨(ir_wk k4 (by decide) (by decide)), rfl⟩
set_option maxHeartbeats 4000000 in
set_option maxRecDepth 100000 in
theorem m_X10_planLine (l : Launch) (D : va_G) (cI cJ cB cP cM cZ : ClassId) (h0 : Nat) (h_tape : Nat) (h_s : Nat) (h_names : Nat) (h_reserved : Nat) (h_planRead : Nat) (Fh : Nat → Value) (x_size : Int32) (x_p : Int32) (x_limit : Int32) (x_token : Int32) (x_at : Int32) (x_span : Int32) (x_number : Int32) (x_fault : Int32) (x_faultAt : Int32) (x_word : Int64) (x_got : Int32) (x_onces : Int32) (x_jumped : Int32) (x_heights : Int32) (f_tape : Nat → Int32) (f_s : Nat → Int32) (f_names : Nat → Int64) (f_reserved : Nat → Int64) (f_planRead : Nat → Int32) (sz : Nat) (e_tape : Fh 1 = .ref h_tape) (e_size : Fh 3 = .int x_size) (i_x_size : IR 0 940 x_size) (e_p : Fh 4 = .int x_p) (i_x_p : IR 0 940 x_p) (e_limit : Fh 5 = .int x_limit) (i_x_limit : IR 200 940 x_limit) (e_s : Fh 6 = .ref h_s) (e_names : Fh 9 = .ref h_names) (e_reserved : Fh 10 = .ref h_reserved) (e_token : Fh 11 = .int x_token) (i_x_token : IR 0 4 x_token) (e_at : Fh 12 = .int x_at) (e_span : Fh 13 = .int x_span) (e_number : Fh 14 = .int x_number) (e_fault : Fh 15 = .int x_fault) (e_faultAt : Fh 16 = .int x_faultAt) (e_word : Fh 18 = .long x_word) (e_got : Fh 19 = .int x_got) (e_onces : Fh 21 = .int x_onces) (e_planRead : Fh 22 = .ref h_planRead) (e_jumped : Fh 23 = .int x_jumped) (e_heights : Fh 24 = .int x_heights) (s_s_K0 : KW 0 f_s) (s_s_0 : SG 0 0 0 40 f_s) (s_s_105 : SG 105 108 0 11 f_s) (s_s_114 : SG 114 114 0 5 f_s) (s_s_130 : SG 130 133 0 11 f_s) (s_s_139 : SG 139 139 0 5 f_s) (s_s_153 : SG 153 153 0 44 f_s) (s_s_44 : SG 44 55 0 9 f_s) (s_s_5 : SG 5 5 0 12 f_s) (s_s_6 : SG 6 6 0 12 f_s) (s_s_7 : SG 7 7 0 6 f_s) (s_planRead_1 : SG 1 4 0 11 f_planRead) (s_planRead_10 : SG 10 10 0 5 f_planRead) (o_0 : (x_token.toInt = 2 → 0 ≤ x_number.toInt ∧ x_number.toInt ≤ 999)) : CI l yX10_planLine cX10_planLine 2 (some .boolean) { frames := 3, cells := 0, slots := 0, locals := 65 } (GG D cI cJ cB cP cM cZ) D [(h0, .inr (10, vL 67 Fh)), (h_tape, .inl (cB, 940, .inl f_tape)), (h_s, .inl (cI, 335, .inl f_s)), (h_names, .inl (cJ, 36, .inr (.inl f_names))), (h_reserved, .inl (cJ, 23, .inr (.inl f_reserved))), (h_planRead, .inl (cI, 24, .inl f_planRead))] sz [.ref h0] (fun (r : Int32) (u : va_W) => ∃ (Gh : Nat → Value) (y_p : Int32) (y_token : Int32) (y_at : Int32) (y_span : Int32) (y_number : Int32) (y_fault : Int32) (y_faultAt : Int32) (y_word : Int64) (y_got : Int32) (y_onces : Int32) (y_jumped : Int32) (y_heights : Int32) (g_planRead : Nat → Int32), SAME [4, 11, 12, 13, 14, 15, 16, 18, 19, 21, 23, 24] Fh Gh ∧ Gh 4 = .int y_p ∧ IR 0 940 y_p ∧ Gh 11 = .int y_token ∧ IR 0 4 y_token ∧ Gh 12 = .int y_at ∧ Gh 13 = .int y_span ∧ Gh 14 = .int y_number ∧ Gh 15 = .int y_fault ∧ Gh 16 = .int y_faultAt ∧ Gh 18 = .long y_word ∧ Gh 19 = .int y_got ∧ Gh 21 = .int y_onces ∧ Gh 23 = .int y_jumped ∧ Gh 24 = .int y_heights ∧ SG 1 4 0 11 g_planRead ∧ SG 10 10 0 5 g_planRead ∧ IR 0 1 r ∧ ((r.toInt = 1 → (x_p.toInt ≤ y_p.toInt ∧ (y_token.toInt = 3 → x_p.toInt < y_p.toInt)))) ∧ ((y_token.toInt = 2 → 0 ≤ y_number.toInt ∧ y_number.toInt ≤ 999)) ∧ u = [(h0, .inr (10, vL 67 Gh)), (h_tape, .inl (cB, 940, .inl f_tape)), (h_s, .inl (cI, 335, .inl f_s)), (h_names, .inl (cJ, 36, .inr (.inl f_names))), (h_reserved, .inl (cJ, 23, .inr (.inl f_reserved))), (h_planRead, .inl (cI, 24, .inl g_planRead))]) := by
  refine CI_mk (by decide) (Nat.le_of_ble_eq_true rfl) ?_
  intro p e s m below meth c A ls E hAe hG hsz hP hD hA hS hl
  obtain ⟨hx, hb, hr, hw, hown, hlocks, hml, hnm⟩ := E
  have hK := hG.1
  have i_x_size : 0 ≤ x_size.toInt ∧ x_size.toInt ≤ 940 := i_x_size
  have i_x_p : 0 ≤ x_p.toInt ∧ x_p.toInt ≤ 940 := i_x_p
  have i_x_limit : 200 ≤ x_limit.toInt ∧ x_limit.toInt ≤ 940 := i_x_limit
  have i_x_token : 0 ≤ x_token.toInt ∧ x_token.toInt ≤ 4 := i_x_token
  have hl : lv_has ls 2 [(0, .ref h0)] := hl
  refine lv_aload_n hx hb dX10_planLine_0 rfl (lv_at hl 0 rfl) ?_
  refine lv_ldc2 hx hb hown (hw _ q_1242) dX10_planLine_1 ?_
  refine call_Vi (wr := [(h_tape, .inl (cB, 940, .inl f_tape)), (h_s, .inl (cI, 335, .inl f_s)), (h_names, .inl (cJ, 36, .inr (.inl f_names))), (h_reserved, .inl (cJ, 23, .inr (.inl f_reserved))), (h_planRead, .inl (cI, 24, .inl f_planRead))]) (As := [.long 1668441463]) (rest := []) hx hb hml hown hw (m_X10_isWord l D cI cJ cB cP cM cZ h0 Fh x_token x_number x_word 1668441463 _ e_token i_x_token e_number e_word (by omega)) wV_X10_225_X10_isWord dX10_planLine_4 hK hP hD hS hA [0] [1, 2, 3, 4, 5] rfl rfl (by decide) (by decide) (by decide) 0 10 rfl rfl GG.fb hG.at hl.1 rfl (Nat.le_of_ble_eq_true rfl) ⟨(Nat.le_of_ble_eq_true rfl), (Nat.le_of_ble_eq_true rfl)⟩ ⟨(Nat.le_of_ble_eq_true rfl), (Nat.le_of_ble_eq_true rfl)⟩ (fun r1 u H locs hp hP hD hS => ?_)
  have zl1668441463 : (1668441463 : Int32).toInt = 1668441463 := by decide
  obtain ⟨t2, t3, rfl⟩ := hp
  have hP : va_P D vwCl [(h_tape, .inl (cB, 940, .inl f_tape)), (h_s, .inl (cI, 335, .inl f_s)), (h_names, .inl (cJ, 36, .inr (.inl f_names))), (h_reserved, .inl (cJ, 23, .inr (.inl f_reserved))), (h_planRead, .inl (cI, 24, .inl f_planRead)), (h0, .inr (10, vL 67 Fh))] H := hP
  have hD : va_D A [(h_tape, .inl (cB, 940, .inl f_tape)), (h_s, .inl (cI, 335, .inl f_s)), (h_names, .inl (cJ, 36, .inr (.inl f_names))), (h_reserved, .inl (cJ, 23, .inr (.inl f_reserved))), (h_planRead, .inl (cI, 24, .inl f_planRead)), (h0, .inr (10, vL 67 Fh))] := hD
  refine W.widen (k := 0) (n := 0) (Nat.le_of_ble_eq_true rfl) (Nat.le_of_ble_eq_true rfl) ?_
  refine lv_if_eq (tgt := 85) hx hb dX10_planLine_7 (by decide) (fun c5 => ?_) (fun c5 => ?_)
  · have dc5 : r1.toInt = 0 := eq_i (a := r1.toInt) (b := 0) rfl rfl c5
    have k6 : 0 ≤ r1.toInt ∧ r1.toInt ≤ 0 := ⟨t2.1, Int.le_trans (Int.le_of_eq dc5) (Int.le_refl _)⟩
    refine lv_aload_n hx hb dX10_planLine_85 rfl (lv_at hl 0 rfl) ?_
    refine lv_ldc2 hx hb hown (hw _ q_1243) dX10_planLine_86 ?_
    refine call_Vi (wr := [(h_tape, .inl (cB, 940, .inl f_tape)), (h_s, .inl (cI, 335, .inl f_s)), (h_names, .inl (cJ, 36, .inr (.inl f_names))), (h_reserved, .inl (cJ, 23, .inr (.inl f_reserved))), (h_planRead, .inl (cI, 24, .inl f_planRead))]) (As := [.long 1786080624]) (rest := []) hx hb hml hown hw (m_X10_isWord l D cI cJ cB cP cM cZ h0 Fh x_token x_number x_word 1786080624 _ e_token i_x_token e_number e_word (by omega)) wV_X10_225_X10_isWord dX10_planLine_89 hK hP hD hS hA [5] [0, 1, 2, 3, 4] rfl rfl (by decide) (by decide) (by decide) 0 10 rfl rfl GG.fb hG.at hl.1 rfl (Nat.le_of_ble_eq_true rfl) ⟨(Nat.le_of_ble_eq_true rfl), (Nat.le_of_ble_eq_true rfl)⟩ ⟨(Nat.le_of_ble_eq_true rfl), (Nat.le_of_ble_eq_true rfl)⟩ (fun r7 u H locs hp hP hD hS => ?_)
    have zl1786080624 : (1786080624 : Int32).toInt = 1786080624 := by decide
    obtain ⟨t8, t9, rfl⟩ := hp
    have hP : va_P D vwCl [(h_tape, .inl (cB, 940, .inl f_tape)), (h_s, .inl (cI, 335, .inl f_s)), (h_names, .inl (cJ, 36, .inr (.inl f_names))), (h_reserved, .inl (cJ, 23, .inr (.inl f_reserved))), (h_planRead, .inl (cI, 24, .inl f_planRead)), (h0, .inr (10, vL 67 Fh))] H := hP
    have hD : va_D A [(h_tape, .inl (cB, 940, .inl f_tape)), (h_s, .inl (cI, 335, .inl f_s)), (h_names, .inl (cJ, 36, .inr (.inl f_names))), (h_reserved, .inl (cJ, 23, .inr (.inl f_reserved))), (h_planRead, .inl (cI, 24, .inl f_planRead)), (h0, .inr (10, vL 67 Fh))] := hD
    refine W.widen (k := 0) (n := 0) (Nat.le_of_ble_eq_true rfl) (Nat.le_of_ble_eq_true rfl) ?_
    refine lv_if_eq (tgt := 201) hx hb dX10_planLine_92 (by decide) (fun c11 => ?_) (fun c11 => ?_)
    · have dc11 : r7.toInt = 0 := eq_i (a := r7.toInt) (b := 0) rfl rfl c11
      have k12 : 0 ≤ r7.toInt ∧ r7.toInt ≤ 0 := ⟨t8.1, Int.le_trans (Int.le_of_eq dc11) (Int.le_refl _)⟩
      refine lv_aload_n hx hb dX10_planLine_201 rfl (lv_at hl 0 rfl) ?_
      refine lv_ldc2 hx hb hown (hw _ q_1245) dX10_planLine_202 ?_
      refine call_Vi (wr := [(h_tape, .inl (cB, 940, .inl f_tape)), (h_s, .inl (cI, 335, .inl f_s)), (h_names, .inl (cJ, 36, .inr (.inl f_names))), (h_reserved, .inl (cJ, 23, .inr (.inl f_reserved))), (h_planRead, .inl (cI, 24, .inl f_planRead))]) (As := [.long 1751738216]) (rest := []) hx hb hml hown hw (m_X10_isWord l D cI cJ cB cP cM cZ h0 Fh x_token x_number x_word 1751738216 _ e_token i_x_token e_number e_word (by omega)) wV_X10_225_X10_isWord dX10_planLine_205 hK hP hD hS hA [5] [0, 1, 2, 3, 4] rfl rfl (by decide) (by decide) (by decide) 0 10 rfl rfl GG.fb hG.at hl.1 rfl (Nat.le_of_ble_eq_true rfl) ⟨(Nat.le_of_ble_eq_true rfl), (Nat.le_of_ble_eq_true rfl)⟩ ⟨(Nat.le_of_ble_eq_true rfl), (Nat.le_of_ble_eq_true rfl)⟩ (fun r13 u H locs hp hP hD hS => ?_)
      have zl1751738216 : (1751738216 : Int32).toInt = 1751738216 := by decide
      obtain ⟨t14, t15, rfl⟩ := hp
      have hP : va_P D vwCl [(h_tape, .inl (cB, 940, .inl f_tape)), (h_s, .inl (cI, 335, .inl f_s)), (h_names, .inl (cJ, 36, .inr (.inl f_names))), (h_reserved, .inl (cJ, 23, .inr (.inl f_reserved))), (h_planRead, .inl (cI, 24, .inl f_planRead)), (h0, .inr (10, vL 67 Fh))] H := hP
      have hD : va_D A [(h_tape, .inl (cB, 940, .inl f_tape)), (h_s, .inl (cI, 335, .inl f_s)), (h_names, .inl (cJ, 36, .inr (.inl f_names))), (h_reserved, .inl (cJ, 23, .inr (.inl f_reserved))), (h_planRead, .inl (cI, 24, .inl f_planRead)), (h0, .inr (10, vL 67 Fh))] := hD
      refine W.widen (k := 0) (n := 0) (Nat.le_of_ble_eq_true rfl) (Nat.le_of_ble_eq_true rfl) ?_
      refine lv_if_eq (tgt := 320) hx hb dX10_planLine_208 (by decide) (fun c17 => ?_) (fun c17 => ?_)
      · have dc17 : r13.toInt = 0 := eq_i (a := r13.toInt) (b := 0) rfl rfl c17
        have k18 : 0 ≤ r13.toInt ∧ r13.toInt ≤ 0 := ⟨t14.1, Int.le_trans (Int.le_of_eq dc17) (Int.le_refl _)⟩
        refine lv_aload_n hx hb dX10_planLine_320 rfl (lv_at hl 0 rfl) ?_
        refine lv_ldc2 hx hb hown (hw _ q_1244) dX10_planLine_321 ?_
        refine call_Vi (wr := [(h_tape, .inl (cB, 940, .inl f_tape)), (h_s, .inl (cI, 335, .inl f_s)), (h_names, .inl (cJ, 36, .inr (.inl f_names))), (h_reserved, .inl (cJ, 23, .inr (.inl f_reserved))), (h_planRead, .inl (cI, 24, .inl f_planRead))]) (As := [.long 1818583396]) (rest := []) hx hb hml hown hw (m_X10_isWord l D cI cJ cB cP cM cZ h0 Fh x_token x_number x_word 1818583396 _ e_token i_x_token e_number e_word (by omega)) wV_X10_225_X10_isWord dX10_planLine_324 hK hP hD hS hA [5] [0, 1, 2, 3, 4] rfl rfl (by decide) (by decide) (by decide) 0 10 rfl rfl GG.fb hG.at hl.1 rfl (Nat.le_of_ble_eq_true rfl) ⟨(Nat.le_of_ble_eq_true rfl), (Nat.le_of_ble_eq_true rfl)⟩ ⟨(Nat.le_of_ble_eq_true rfl), (Nat.le_of_ble_eq_true rfl)⟩ (fun r19 u H locs hp hP hD hS => ?_)
        have zl1818583396 : (1818583396 : Int32).toInt = 1818583396 := by decide
        obtain ⟨t20, t21, rfl⟩ := hp
        have hP : va_P D vwCl [(h_tape, .inl (cB, 940, .inl f_tape)), (h_s, .inl (cI, 335, .inl f_s)), (h_names, .inl (cJ, 36, .inr (.inl f_names))), (h_reserved, .inl (cJ, 23, .inr (.inl f_reserved))), (h_planRead, .inl (cI, 24, .inl f_planRead)), (h0, .inr (10, vL 67 Fh))] H := hP
        have hD : va_D A [(h_tape, .inl (cB, 940, .inl f_tape)), (h_s, .inl (cI, 335, .inl f_s)), (h_names, .inl (cJ, 36, .inr (.inl f_names))), (h_reserved, .inl (cJ, 23, .inr (.inl f_reserved))), (h_planRead, .inl (cI, 24, .inl f_planRead)), (h0, .inr (10, vL 67 Fh))] := hD
        refine W.widen (k := 0) (n := 0) (Nat.le_of_ble_eq_true rfl) (Nat.le_of_ble_eq_true rfl) ?_
        refine lv_if_eq (tgt := 363) hx hb dX10_planLine_327 (by decide) (fun c23 => ?_) (fun c23 => ?_)
        · have dc23 : r19.toInt = 0 := eq_i (a := r19.toInt) (b := 0) rfl rfl c23
          have k24 : 0 ≤ r19.toInt ∧ r19.toInt ≤ 0 := ⟨t20.1, Int.le_trans (Int.le_of_eq dc23) (Int.le_refl _)⟩
          refine lv_aload_n hx hb dX10_planLine_363 rfl (lv_at hl 0 rfl) ?_
          refine lv_ldc2 hx hb hown (hw _ q_1247) dX10_planLine_364 ?_
          refine call_Vi (wr := [(h_tape, .inl (cB, 940, .inl f_tape)), (h_s, .inl (cI, 335, .inl f_s)), (h_names, .inl (cJ, 36, .inr (.inl f_names))), (h_reserved, .inl (cJ, 23, .inr (.inl f_reserved))), (h_planRead, .inl (cI, 24, .inl f_planRead))]) (As := [.long 495873782388]) (rest := []) hx hb hml hown hw (m_X10_isWord l D cI cJ cB cP cM cZ h0 Fh x_token x_number x_word 495873782388 _ e_token i_x_token e_number e_word (by omega)) wV_X10_225_X10_isWord dX10_planLine_367 hK hP hD hS hA [5] [0, 1, 2, 3, 4] rfl rfl (by decide) (by decide) (by decide) 0 10 rfl rfl GG.fb hG.at hl.1 rfl (Nat.le_of_ble_eq_true rfl) ⟨(Nat.le_of_ble_eq_true rfl), (Nat.le_of_ble_eq_true rfl)⟩ ⟨(Nat.le_of_ble_eq_true rfl), (Nat.le_of_ble_eq_true rfl)⟩ (fun r25 u H locs hp hP hD hS => ?_)
          have zl495873782388 : (495873782388 : Int32).toInt = 495873782388 := by decide
          obtain ⟨t26, t27, rfl⟩ := hp
          have hP : va_P D vwCl [(h_tape, .inl (cB, 940, .inl f_tape)), (h_s, .inl (cI, 335, .inl f_s)), (h_names, .inl (cJ, 36, .inr (.inl f_names))), (h_reserved, .inl (cJ, 23, .inr (.inl f_reserved))), (h_planRead, .inl (cI, 24, .inl f_planRead)), (h0, .inr (10, vL 67 Fh))] H := hP
          have hD : va_D A [(h_tape, .inl (cB, 940, .inl f_tape)), (h_s, .inl (cI, 335, .inl f_s)), (h_names, .inl (cJ, 36, .inr (.inl f_names))), (h_reserved, .inl (cJ, 23, .inr (.inl f_reserved))), (h_planRead, .inl (cI, 24, .inl f_planRead)), (h0, .inr (10, vL 67 Fh))] := hD
          refine W.widen (k := 0) (n := 0) (Nat.le_of_ble_eq_true rfl) (Nat.le_of_ble_eq_true rfl) ?_
          refine lv_if_eq (tgt := 406) hx hb dX10_planLine_370 (by decide) (fun c29 => ?_) (fun c29 => ?_)
          · have dc29 : r25.toInt = 0 := eq_i (a := r25.toInt) (b := 0) rfl rfl c29
            have k30 : 0 ≤ r25.toInt ∧ r25.toInt ≤ 0 := ⟨t26.1, Int.le_trans (Int.le_of_eq dc29) (Int.le_refl _)⟩
            refine lv_aload_n hx hb dX10_planLine_406 rfl (lv_at hl 0 rfl) ?_
            refine lv_ldc2 hx hb hown (hw _ q_1246) dX10_planLine_407 ?_
            refine call_Vi (wr := [(h_tape, .inl (cB, 940, .inl f_tape)), (h_s, .inl (cI, 335, .inl f_s)), (h_names, .inl (cJ, 36, .inr (.inl f_names))), (h_reserved, .inl (cJ, 23, .inr (.inl f_reserved))), (h_planRead, .inl (cI, 24, .inl f_planRead))]) (As := [.long 28526]) (rest := []) hx hb hml hown hw (m_X10_isWord l D cI cJ cB cP cM cZ h0 Fh x_token x_number x_word 28526 _ e_token i_x_token e_number e_word (by omega)) wV_X10_225_X10_isWord dX10_planLine_410 hK hP hD hS hA [5] [0, 1, 2, 3, 4] rfl rfl (by decide) (by decide) (by decide) 0 10 rfl rfl GG.fb hG.at hl.1 rfl (Nat.le_of_ble_eq_true rfl) ⟨(Nat.le_of_ble_eq_true rfl), (Nat.le_of_ble_eq_true rfl)⟩ ⟨(Nat.le_of_ble_eq_true rfl), (Nat.le_of_ble_eq_true rfl)⟩ (fun r31 u H locs hp hP hD hS => ?_)
            have zl28526 : (28526 : Int32).toInt = 28526 := by decide
            obtain ⟨t32, t33, rfl⟩ := hp
            have hP : va_P D vwCl [(h_tape, .inl (cB, 940, .inl f_tape)), (h_s, .inl (cI, 335, .inl f_s)), (h_names, .inl (cJ, 36, .inr (.inl f_names))), (h_reserved, .inl (cJ, 23, .inr (.inl f_reserved))), (h_planRead, .inl (cI, 24, .inl f_planRead)), (h0, .inr (10, vL 67 Fh))] H := hP
            have hD : va_D A [(h_tape, .inl (cB, 940, .inl f_tape)), (h_s, .inl (cI, 335, .inl f_s)), (h_names, .inl (cJ, 36, .inr (.inl f_names))), (h_reserved, .inl (cJ, 23, .inr (.inl f_reserved))), (h_planRead, .inl (cI, 24, .inl f_planRead)), (h0, .inr (10, vL 67 Fh))] := hD
            refine W.widen (k := 0) (n := 0) (Nat.le_of_ble_eq_true rfl) (Nat.le_of_ble_eq_true rfl) ?_
            refine lv_if_ne (tgt := 422) hx hb dX10_planLine_413 (by decide) (fun c35 => ?_) (fun c35 => ?_)
            · have dc35 : r31.toInt ≠ 0 := ne_i (a := r31.toInt) (b := 0) rfl rfl c35
              have k36 : 1 ≤ r31.toInt ∧ r31.toInt ≤ 1 := ⟨ne_lo dc35 t32.1 ⟨Int.le_refl _, Int.le_refl _⟩ (by decide), t32.2⟩
              refine lv_aload_n hx hb dX10_planLine_422 rfl (lv_at hl 0 rfl) ?_
              refine lv_iconst (v := 3) hx hb dX10_planLine_423 (by decide) ?_
              refine call_Vi (wr := [(h_s, .inl (cI, 335, .inl f_s)), (h_names, .inl (cJ, 36, .inr (.inl f_names))), (h_reserved, .inl (cJ, 23, .inr (.inl f_reserved))), (h_planRead, .inl (cI, 24, .inl f_planRead))]) (As := [.int 3]) (rest := []) hx hb hml hown hw (m_X10_isOnce l D cI cJ cB cP cM cZ h0 h_tape Fh x_size x_p x_limit x_token x_at x_span x_number x_fault x_faultAt x_word x_onces f_tape 3 _ e_tape e_size i_x_size e_p i_x_p e_limit i_x_limit e_token i_x_token e_at e_span e_number e_fault e_faultAt e_word e_onces (by omega)) wV_X10_239_X10_isOnce dX10_planLine_424 hK hP hD hS hA [5, 0] [1, 2, 3, 4] rfl rfl (by decide) (by decide) (by decide) 0 10 rfl rfl GG.fb hG.at hl.1 rfl (Nat.le_of_ble_eq_true rfl) ⟨(Nat.le_of_ble_eq_true rfl), (Nat.le_of_ble_eq_true rfl)⟩ ⟨(Nat.le_of_ble_eq_true rfl), (Nat.le_of_ble_eq_true rfl)⟩ (fun r37 u H locs hp hP hD hS => ?_)
              have zl3 : (3 : Int32).toInt = 3 := by decide
              refine hp.elim (fun F38 h9z => h9z.elim (fun y39 h9z => h9z.elim (fun y40 h9z => h9z.elim (fun y41 h9z => h9z.elim (fun y42 h9z => h9z.elim (fun y43 h9z => h9z.elim (fun y44 h9z => h9z.elim (fun y45 h9z => h9z.elim (fun y46 h9z => h9z.elim (fun y47 h9z => h9z.elim (fun t48 h9z => h9z.elim (fun t49 h9z => h9z.elim (fun t50 h9z => h9z.elim (fun t51 h9z => h9z.elim (fun t52 h9z => h9z.elim (fun t53 h9z => h9z.elim (fun t54 h9z => h9z.elim (fun t55 h9z => h9z.elim (fun t56 h9z => h9z.elim (fun t57 h9z => h9z.elim (fun t58 h9z => h9z.elim (fun t59 h9z => h9z.elim (fun t60 h9z => h9z.elim (fun t61 h9z => h9z.elim (fun t62 h9z => ?_)))))))))))))))))))))))))
              subst h9z
              have hP : va_P D vwCl [(h_s, .inl (cI, 335, .inl f_s)), (h_names, .inl (cJ, 36, .inr (.inl f_names))), (h_reserved, .inl (cJ, 23, .inr (.inl f_reserved))), (h_planRead, .inl (cI, 24, .inl f_planRead)), (h0, .inr (10, vL 67 F38)), (h_tape, .inl (cB, 940, .inl f_tape))] H := hP
              have hD : va_D A [(h_s, .inl (cI, 335, .inl f_s)), (h_names, .inl (cJ, 36, .inr (.inl f_names))), (h_reserved, .inl (cJ, 23, .inr (.inl f_reserved))), (h_planRead, .inl (cI, 24, .inl f_planRead)), (h0, .inr (10, vL 67 F38)), (h_tape, .inl (cB, 940, .inl f_tape))] := hD
              refine W.widen (k := 0) (n := 0) (Nat.le_of_ble_eq_true rfl) (Nat.le_of_ble_eq_true rfl) ?_
              refine lv_if_ne (tgt := 432) hx hb dX10_planLine_427 (by decide) (fun c64 => ?_) (fun c64 => ?_)
              · have dc64 : r37.toInt ≠ 0 := ne_i (a := r37.toInt) (b := 0) rfl rfl c64
                have k65 : 1 ≤ r37.toInt ∧ r37.toInt ≤ 1 := ⟨ne_lo dc64 t60.1 ⟨Int.le_refl _, Int.le_refl _⟩ (by decide), t60.2⟩
                refine lv_aload_n hx hb dX10_planLine_432 rfl (lv_at hl 0 rfl) ?_
                have n66 : F38 10 = .ref h_reserved := (SAME.at t48 (by decide) e_reserved)
                refine call_Vi (wr := [(h_s, .inl (cI, 335, .inl f_s)), (h_names, .inl (cJ, 36, .inr (.inl f_names))), (h_planRead, .inl (cI, 24, .inl f_planRead)), (h_tape, .inl (cB, 940, .inl f_tape))]) (As := []) (rest := []) hx hb hml hown hw (m_X10_isName l D cI cJ cB cP cM cZ h0 h_reserved F38 y40 y43 y46 f_reserved _ n66 t51 t52 t55 t58 (by omega)) wV_X10_218_X10_isName dX10_planLine_433 hK hP hD hS hA [4, 2] [0, 1, 3, 5] rfl rfl (by decide) (by decide) (by decide) 0 10 rfl rfl GG.fb hG.at hl.1 rfl (Nat.le_of_ble_eq_true rfl) ⟨(Nat.le_of_ble_eq_true rfl), (Nat.le_of_ble_eq_true rfl)⟩ ⟨(Nat.le_of_ble_eq_true rfl), (Nat.le_of_ble_eq_true rfl)⟩ (fun r67 u H locs hp hP hD hS => ?_)
                obtain ⟨t68, rfl⟩ := hp
                have hP : va_P D vwCl [(h_s, .inl (cI, 335, .inl f_s)), (h_names, .inl (cJ, 36, .inr (.inl f_names))), (h_planRead, .inl (cI, 24, .inl f_planRead)), (h_tape, .inl (cB, 940, .inl f_tape)), (h0, .inr (10, vL 67 F38)), (h_reserved, .inl (cJ, 23, .inr (.inl f_reserved)))] H := hP
                have hD : va_D A [(h_s, .inl (cI, 335, .inl f_s)), (h_names, .inl (cJ, 36, .inr (.inl f_names))), (h_planRead, .inl (cI, 24, .inl f_planRead)), (h_tape, .inl (cB, 940, .inl f_tape)), (h0, .inr (10, vL 67 F38)), (h_reserved, .inl (cJ, 23, .inr (.inl f_reserved)))] := hD
                refine W.widen (k := 0) (n := 0) (Nat.le_of_ble_eq_true rfl) (Nat.le_of_ble_eq_true rfl) ?_
                refine lv_if_ne (tgt := 445) hx hb dX10_planLine_436 (by decide) (fun c70 => ?_) (fun c70 => ?_)
                · have dc70 : r67.toInt ≠ 0 := ne_i (a := r67.toInt) (b := 0) rfl rfl c70
                  have k71 : 1 ≤ r67.toInt ∧ r67.toInt ≤ 1 := ⟨ne_lo dc70 t68.1 ⟨Int.le_refl _, Int.le_refl _⟩ (by decide), t68.2⟩
                  refine lv_aload_n hx hb dX10_planLine_445 rfl (lv_at hl 0 rfl) ?_
                  refine lv_bipush (v := 12) hx hb dX10_planLine_446 (by decide) ?_
                  refine lv_aload_n hx hb dX10_planLine_448 rfl (lv_at hl 0 rfl) ?_
                  have n72 : F38 6 = .ref h_s := (SAME.at t48 (by decide) e_s)
                  refine get_f (D := D) (ci := 10) (v := .ref h_s) (C := RX10) (T := TX10) (N := 67) hx hb hw inAX10 hown hK hP 4 rfl rfl 6 (by decide) (hw _ q_1267) (fun _ h9 => h9) n72 dX10_planLine_449 ?_
                  refine lv_bipush (v := 7) hx hb dX10_planLine_452 (by decide) ?_
                  refine iald_n hx hb hK hP 0 0 rfl rfl 7 rfl (Nat.le_of_ble_eq_true rfl) (Nat.le_of_ble_eq_true rfl) rfl dX10_planLine_454 ?_
                  refine lv_topi (fun v73 ev73 => ?_)
                  have k74 : 0 ≤ v73.toInt ∧ v73.toInt ≤ 6 := by rw [ev73]; exact s_s_7.atN 7 (by decide) (by decide)
                  have n75 : F38 9 = .ref h_names := (SAME.at t48 (by decide) e_names)
                  refine call_Vi (wr := [(h_s, .inl (cI, 335, .inl f_s)), (h_planRead, .inl (cI, 24, .inl f_planRead)), (h_tape, .inl (cB, 940, .inl f_tape)), (h_reserved, .inl (cJ, 23, .inr (.inl f_reserved)))]) (As := [.int 12, .int v73]) (rest := []) hx hb hml hown hw (m_X10_find l D cI cJ cB cP cM cZ h0 h_names F38 y46 f_names 12 v73 _ n75 t58 (show 0 ≤ (12 : Int32).toInt ∧ (12 : Int32).toInt ≤ 30 by decide) (ir_wk k74 (by decide) (by decide)) (by have z0 : (12 : Int32).toInt = 12 := rfl; omega)) wV_X10_222_X10_find dX10_planLine_455 hK hP hD hS hA [4, 1] [0, 2, 3, 5] rfl rfl (by decide) (by decide) (by decide) 0 10 rfl rfl GG.fb hG.at hl.1 rfl (Nat.le_of_ble_eq_true rfl) ⟨(Nat.le_of_ble_eq_true rfl), (Nat.le_of_ble_eq_true rfl)⟩ ⟨(Nat.le_of_ble_eq_true rfl), (Nat.le_of_ble_eq_true rfl)⟩ (fun r76 u H locs hp hP hD hS => ?_)
                  have zl12 : (12 : Int32).toInt = 12 := by decide
                  rcases hp with ⟨t77, rfl, rfl⟩ | ⟨t78, t79, rfl⟩
                  · have hP : va_P D vwCl [(h_s, .inl (cI, 335, .inl f_s)), (h_planRead, .inl (cI, 24, .inl f_planRead)), (h_tape, .inl (cB, 940, .inl f_tape)), (h_reserved, .inl (cJ, 23, .inr (.inl f_reserved))), (h0, .inr (10, vL 67 F38)), (h_names, .inl (cJ, 36, .inr (.inl f_names)))] H := hP
                    have hD : va_D A [(h_s, .inl (cI, 335, .inl f_s)), (h_planRead, .inl (cI, 24, .inl f_planRead)), (h_tape, .inl (cB, 940, .inl f_tape)), (h_reserved, .inl (cJ, 23, .inr (.inl f_reserved))), (h0, .inr (10, vL 67 F38)), (h_names, .inl (cJ, 36, .inr (.inl f_names)))] := hD
                    refine W.widen (k := 0) (n := 0) (Nat.le_of_ble_eq_true rfl) (Nat.le_of_ble_eq_true rfl) ?_
                    refine lv_istore_n (lv' := [(1, .int (-1)), (0, .ref h0)]) hx hb dX10_planLine_458 rfl hl (by decide) rfl (fun ls hl => ?_)
                    refine lv_iload_n hx hb dX10_planLine_459 rfl (lv_at hl 0 rfl) ?_
                    refine lv_if_ge (tgt := 469) hx hb dX10_planLine_460 (by decide) (fun g => absurd g (by decide)) (fun _ => ?_)
                    refine lv_aload_n hx hb dX10_planLine_463 rfl (lv_at hl 1 rfl) ?_
                    refine lv_iconst (v := 3) hx hb dX10_planLine_464 (by decide) ?_
                    refine call_Vi (wr := [(h_s, .inl (cI, 335, .inl f_s)), (h_planRead, .inl (cI, 24, .inl f_planRead)), (h_tape, .inl (cB, 940, .inl f_tape)), (h_reserved, .inl (cJ, 23, .inr (.inl f_reserved))), (h_names, .inl (cJ, 36, .inr (.inl f_names)))]) (As := [.int 3]) (rest := []) hx hb hml hown hw (m_X10_bad l D cI cJ cB cP cM cZ h0 F38 y41 3 _ t53) wV_X10_205_X10_bad dX10_planLine_465 hK hP hD hS hA [4] [0, 1, 2, 3, 5] rfl rfl (by decide) (by decide) (by decide) 0 10 rfl rfl GG.fb hG.at hl.1 rfl (Nat.le_of_ble_eq_true rfl) ⟨(Nat.le_of_ble_eq_true rfl), (Nat.le_of_ble_eq_true rfl)⟩ ⟨(Nat.le_of_ble_eq_true rfl), (Nat.le_of_ble_eq_true rfl)⟩ (fun r81 u H locs hp hP hD hS => ?_)
                    obtain ⟨F82, t83, t84, t85, rfl, rfl⟩ := hp
                    have hP : va_P D vwCl [(h_s, .inl (cI, 335, .inl f_s)), (h_planRead, .inl (cI, 24, .inl f_planRead)), (h_tape, .inl (cB, 940, .inl f_tape)), (h_reserved, .inl (cJ, 23, .inr (.inl f_reserved))), (h_names, .inl (cJ, 36, .inr (.inl f_names))), (h0, .inr (10, vL 67 F82))] H := hP
                    have hD : va_D A [(h_s, .inl (cI, 335, .inl f_s)), (h_planRead, .inl (cI, 24, .inl f_planRead)), (h_tape, .inl (cB, 940, .inl f_tape)), (h_reserved, .inl (cJ, 23, .inr (.inl f_reserved))), (h_names, .inl (cJ, 36, .inr (.inl f_names))), (h0, .inr (10, vL 67 F82))] := hD
                    refine W.widen (k := 0) (n := 0) (Nat.le_of_ble_eq_true rfl) (Nat.le_of_ble_eq_true rfl) ?_
                    exact ret_i (v := 0) hx hb hr hlocks hS (hP.sub (ws' := [(h0, .inr (10, vL 67 F82)), (h_tape, .inl (cB, 940, .inl f_tape)), (h_s, .inl (cI, 335, .inl f_s)), (h_names, .inl (cJ, 36, .inr (.inl f_names))), (h_reserved, .inl (cJ, 23, .inr (.inl f_reserved))), (h_planRead, .inl (cI, 24, .inl f_planRead))]) [5, 2, 0, 4, 3, 1] rfl) (hD.sub (ws' := [(h0, .inr (10, vL 67 F82)), (h_tape, .inl (cB, 940, .inl f_tape)), (h_s, .inl (cI, 335, .inl f_s)), (h_names, .inl (cJ, 36, .inr (.inl f_names))), (h_reserved, .inl (cJ, 23, .inr (.inl f_reserved))), (h_planRead, .inl (cI, 24, .inl f_planRead))]) [5, 2, 0, 4, 3, 1] (by decide) rfl) dX10_planLine_468 rfl (Nat.le_of_ble_eq_true rfl) (Nat.le_of_ble_eq_true rfl) ⟨F82, y39, y40, y41, y42, y43, 3, y41, y46, x_got, y47, x_jumped, x_heights, f_planRead, (SAME.tr (SAME.tr SAME.rf t48 (by decide)) t83 (by decide)), (SAME.at t83 (by decide) t49), t50, (SAME.at t83 (by decide) t51), t52, (SAME.at t83 (by decide) t53), (SAME.at t83 (by decide) t54), (SAME.at t83 (by decide) t55), t84, t85, (SAME.at t83 (by decide) t58), (SAME.at t83 (by decide) (SAME.at t48 (by decide) e_got)), (SAME.at t83 (by decide) t59), (SAME.at t83 (by decide) (SAME.at t48 (by decide) e_jumped)), (SAME.at t83 (by decide) (SAME.at t48 (by decide) e_heights)), s_planRead_1, s_planRead_10, (show 0 ≤ (0 : Int32).toInt ∧ (0 : Int32).toInt ≤ 1 by decide), (by have zl0 : (0 : Int32).toInt = 0 := (by decide); omega), (by have zl3 : (3 : Int32).toInt = 3 := (by decide); omega), rfl⟩
                  · have hP : va_P D vwCl [(h_s, .inl (cI, 335, .inl f_s)), (h_planRead, .inl (cI, 24, .inl f_planRead)), (h_tape, .inl (cB, 940, .inl f_tape)), (h_reserved, .inl (cJ, 23, .inr (.inl f_reserved))), (h0, .inr (10, vL 67 F38)), (h_names, .inl (cJ, 36, .inr (.inl f_names)))] H := hP
                    have hD : va_D A [(h_s, .inl (cI, 335, .inl f_s)), (h_planRead, .inl (cI, 24, .inl f_planRead)), (h_tape, .inl (cB, 940, .inl f_tape)), (h_reserved, .inl (cJ, 23, .inr (.inl f_reserved))), (h0, .inr (10, vL 67 F38)), (h_names, .inl (cJ, 36, .inr (.inl f_names)))] := hD
                    refine W.widen (k := 0) (n := 0) (Nat.le_of_ble_eq_true rfl) (Nat.le_of_ble_eq_true rfl) ?_
                    have k87 : 1 ≤ v73.toInt ∧ v73.toInt ≤ 6 := ⟨lo_lt t79 (Int.le_refl _) (by decide), k74.2⟩
                    refine lv_istore_n (lv' := [(1, .int r76), (0, .ref h0)]) hx hb dX10_planLine_458 rfl hl (by decide) rfl (fun ls hl => ?_)
                    refine lv_iload_n hx hb dX10_planLine_459 rfl (lv_at hl 0 rfl) ?_
                    refine lv_if_ge (tgt := 469) hx hb dX10_planLine_460 (by decide) (fun c88 => ?_) (fun c88 => False.elim (bad_lt (nle_i (a := 0) (b := r76.toInt) rfl rfl c88) t78.1 (Int.le_refl _) (by decide)))
                    have dc88 : 0 ≤ r76.toInt := le_i (a := 0) (b := r76.toInt) rfl rfl c88
                    refine lv_aload_n hx hb dX10_planLine_469 rfl (lv_at hl 1 rfl) ?_
                    have n89 : F38 22 = .ref h_planRead := (SAME.at t48 (by decide) e_planRead)
                    refine get_f (D := D) (ci := 10) (v := .ref h_planRead) (C := RX10) (T := TX10) (N := 67) hx hb hw inAX10 hown hK hP 4 rfl rfl 22 (by decide) (hw _ q_1283) (fun _ h9 => h9) n89 dX10_planLine_470 ?_
                    refine lv_bipush (v := 10) hx hb dX10_planLine_473 (by decide) ?_
                    refine lv_iload_n hx hb dX10_planLine_475 rfl (lv_at hl 0 rfl) ?_
                    obtain ⟨g90, eg90⟩ : ∃ z : Nat → Int32, upd f_planRead 10 r76 = z := ⟨_, rfl⟩
                    have r91 : SG 1 4 0 11 g90 := by rw [← eg90]; exact s_planRead_1.upN (by decide)
                    have r92 : SG 10 10 0 5 g90 := by rw [← eg90]; exact s_planRead_10.upN (by omega)
                    refine iast_n hx hb hK hP hD hS 1 0 rfl rfl 10 rfl (Nat.le_of_ble_eq_true rfl) (Nat.le_of_ble_eq_true rfl) eg90 dX10_planLine_476 (fun H locs hP hD hS => ?_)
                    have hP : va_P D vwCl [(h_s, .inl (cI, 335, .inl f_s)), (h_planRead, .inl (cI, 24, .inl g90)), (h_tape, .inl (cB, 940, .inl f_tape)), (h_reserved, .inl (cJ, 23, .inr (.inl f_reserved))), (h0, .inr (10, vL 67 F38)), (h_names, .inl (cJ, 36, .inr (.inl f_names)))] H := hP
                    have hD : va_D A [(h_s, .inl (cI, 335, .inl f_s)), (h_planRead, .inl (cI, 24, .inl g90)), (h_tape, .inl (cB, 940, .inl f_tape)), (h_reserved, .inl (cJ, 23, .inr (.inl f_reserved))), (h0, .inr (10, vL 67 F38)), (h_names, .inl (cJ, 36, .inr (.inl f_names)))] := hD
                    refine lv_aload_n hx hb dX10_planLine_477 rfl (lv_at hl 1 rfl) ?_
                    have n93 : F38 1 = .ref h_tape := (SAME.at t48 (by decide) e_tape)
                    have n94 : F38 3 = .int x_size := (SAME.at t48 (by decide) e_size)
                    have n95 : F38 5 = .int x_limit := (SAME.at t48 (by decide) e_limit)
                    refine call_Vv (wr := [(h_s, .inl (cI, 335, .inl f_s)), (h_planRead, .inl (cI, 24, .inl g90)), (h_reserved, .inl (cJ, 23, .inr (.inl f_reserved))), (h_names, .inl (cJ, 36, .inr (.inl f_names)))]) (As := []) (rest := []) hx hb hml hown hw (m_X10_next l D cI cJ cB cP cM cZ h0 h_tape F38 x_size y39 x_limit y40 y43 y46 f_tape _ n93 n94 i_x_size t49 t50 n95 i_x_limit t51 t52 t55 t58 (by omega)) wV_X10_208_X10_next dX10_planLine_478 hK hP hD hS hA [4, 2] [0, 1, 3, 5] rfl rfl (by decide) (by decide) (by decide) 0 10 rfl rfl GG.fb hG.at hl.1 rfl (Nat.le_of_ble_eq_true rfl) ⟨(Nat.le_of_ble_eq_true rfl), (Nat.le_of_ble_eq_true rfl)⟩ ⟨(Nat.le_of_ble_eq_true rfl), (Nat.le_of_ble_eq_true rfl)⟩ (fun u H locs hp hP hD hS => ?_)
                    obtain ⟨F97, y98, y99, y100, y101, y102, y103, t104, t105, t106, t107, t108, t109, t110, t111, t112, t113, t114, t115, t116, t117, rfl⟩ := hp
                    have hP : va_P D vwCl [(h_s, .inl (cI, 335, .inl f_s)), (h_planRead, .inl (cI, 24, .inl g90)), (h_reserved, .inl (cJ, 23, .inr (.inl f_reserved))), (h_names, .inl (cJ, 36, .inr (.inl f_names))), (h0, .inr (10, vL 67 F97)), (h_tape, .inl (cB, 940, .inl f_tape))] H := hP
                    have hD : va_D A [(h_s, .inl (cI, 335, .inl f_s)), (h_planRead, .inl (cI, 24, .inl g90)), (h_reserved, .inl (cJ, 23, .inr (.inl f_reserved))), (h_names, .inl (cJ, 36, .inr (.inl f_names))), (h0, .inr (10, vL 67 F97)), (h_tape, .inl (cB, 940, .inl f_tape))] := hD
                    refine W.widen (k := 0) (n := 0) (Nat.le_of_ble_eq_true rfl) (Nat.le_of_ble_eq_true rfl) ?_
                    refine lv_iconst (v := 1) hx hb dX10_planLine_481 (by decide) ?_
                    exact ret_i (v := 1) hx hb hr hlocks hS (hP.sub (ws' := [(h0, .inr (10, vL 67 F97)), (h_tape, .inl (cB, 940, .inl f_tape)), (h_s, .inl (cI, 335, .inl f_s)), (h_names, .inl (cJ, 36, .inr (.inl f_names))), (h_reserved, .inl (cJ, 23, .inr (.inl f_reserved))), (h_planRead, .inl (cI, 24, .inl g90))]) [4, 5, 0, 3, 2, 1] rfl) (hD.sub (ws' := [(h0, .inr (10, vL 67 F97)), (h_tape, .inl (cB, 940, .inl f_tape)), (h_s, .inl (cI, 335, .inl f_s)), (h_names, .inl (cJ, 36, .inr (.inl f_names))), (h_reserved, .inl (cJ, 23, .inr (.inl f_reserved))), (h_planRead, .inl (cI, 24, .inl g90))]) [4, 5, 0, 3, 2, 1] (by decide) rfl) dX10_planLine_482 rfl (Nat.le_of_ble_eq_true rfl) (Nat.le_of_ble_eq_true rfl) ⟨F97, y98, y99, y100, y101, y102, y44, y45, y103, x_got, y47, x_jumped, x_heights, g90, (SAME.tr (SAME.tr SAME.rf t48 (by decide)) t104 (by decide)), t105, t106, t107, t108, t109, t111, t113, (SAME.at t104 (by decide) t56), (SAME.at t104 (by decide) t57), t114, (SAME.at t104 (by decide) (SAME.at t48 (by decide) e_got)), (SAME.at t104 (by decide) t59), (SAME.at t104 (by decide) (SAME.at t48 (by decide) e_jumped)), (SAME.at t104 (by decide) (SAME.at t48 (by decide) e_heights)), r91, r92, (show 0 ≤ (1 : Int32).toInt ∧ (1 : Int32).toInt ≤ 1 by decide), (by have zl1 : (1 : Int32).toInt = 1 := (by decide); omega), (by omega), rfl⟩
                · have dc70 : r67.toInt = 0 := eq_i (a := r67.toInt) (b := 0) rfl rfl c70
                  have k119 : 0 ≤ r67.toInt ∧ r67.toInt ≤ 0 := ⟨t68.1, Int.le_trans (Int.le_of_eq dc70) (Int.le_refl _)⟩
                  refine lv_aload_n hx hb dX10_planLine_439 rfl (lv_at hl 0 rfl) ?_
                  refine lv_iconst (v := 1) hx hb dX10_planLine_440 (by decide) ?_
                  refine call_Vi (wr := [(h_s, .inl (cI, 335, .inl f_s)), (h_names, .inl (cJ, 36, .inr (.inl f_names))), (h_planRead, .inl (cI, 24, .inl f_planRead)), (h_tape, .inl (cB, 940, .inl f_tape)), (h_reserved, .inl (cJ, 23, .inr (.inl f_reserved)))]) (As := [.int 1]) (rest := []) hx hb hml hown hw (m_X10_bad l D cI cJ cB cP cM cZ h0 F38 y41 1 _ t53) wV_X10_205_X10_bad dX10_planLine_441 hK hP hD hS hA [4] [0, 1, 2, 3, 5] rfl rfl (by decide) (by decide) (by decide) 0 10 rfl rfl GG.fb hG.at hl.1 rfl (Nat.le_of_ble_eq_true rfl) ⟨(Nat.le_of_ble_eq_true rfl), (Nat.le_of_ble_eq_true rfl)⟩ ⟨(Nat.le_of_ble_eq_true rfl), (Nat.le_of_ble_eq_true rfl)⟩ (fun r120 u H locs hp hP hD hS => ?_)
                  have zl1 : (1 : Int32).toInt = 1 := by decide
                  obtain ⟨F121, t122, t123, t124, rfl, rfl⟩ := hp
                  have hP : va_P D vwCl [(h_s, .inl (cI, 335, .inl f_s)), (h_names, .inl (cJ, 36, .inr (.inl f_names))), (h_planRead, .inl (cI, 24, .inl f_planRead)), (h_tape, .inl (cB, 940, .inl f_tape)), (h_reserved, .inl (cJ, 23, .inr (.inl f_reserved))), (h0, .inr (10, vL 67 F121))] H := hP
                  have hD : va_D A [(h_s, .inl (cI, 335, .inl f_s)), (h_names, .inl (cJ, 36, .inr (.inl f_names))), (h_planRead, .inl (cI, 24, .inl f_planRead)), (h_tape, .inl (cB, 940, .inl f_tape)), (h_reserved, .inl (cJ, 23, .inr (.inl f_reserved))), (h0, .inr (10, vL 67 F121))] := hD
                  refine W.widen (k := 0) (n := 0) (Nat.le_of_ble_eq_true rfl) (Nat.le_of_ble_eq_true rfl) ?_
                  exact ret_i (v := 0) hx hb hr hlocks hS (hP.sub (ws' := [(h0, .inr (10, vL 67 F121)), (h_tape, .inl (cB, 940, .inl f_tape)), (h_s, .inl (cI, 335, .inl f_s)), (h_names, .inl (cJ, 36, .inr (.inl f_names))), (h_reserved, .inl (cJ, 23, .inr (.inl f_reserved))), (h_planRead, .inl (cI, 24, .inl f_planRead))]) [5, 3, 0, 1, 4, 2] rfl) (hD.sub (ws' := [(h0, .inr (10, vL 67 F121)), (h_tape, .inl (cB, 940, .inl f_tape)), (h_s, .inl (cI, 335, .inl f_s)), (h_names, .inl (cJ, 36, .inr (.inl f_names))), (h_reserved, .inl (cJ, 23, .inr (.inl f_reserved))), (h_planRead, .inl (cI, 24, .inl f_planRead))]) [5, 3, 0, 1, 4, 2] (by decide) rfl) dX10_planLine_444 rfl (Nat.le_of_ble_eq_true rfl) (Nat.le_of_ble_eq_true rfl) ⟨F121, y39, y40, y41, y42, y43, 1, y41, y46, x_got, y47, x_jumped, x_heights, f_planRead, (SAME.tr (SAME.tr SAME.rf t48 (by decide)) t122 (by decide)), (SAME.at t122 (by decide) t49), t50, (SAME.at t122 (by decide) t51), t52, (SAME.at t122 (by decide) t53), (SAME.at t122 (by decide) t54), (SAME.at t122 (by decide) t55), t123, t124, (SAME.at t122 (by decide) t58), (SAME.at t122 (by decide) (SAME.at t48 (by decide) e_got)), (SAME.at t122 (by decide) t59), (SAME.at t122 (by decide) (SAME.at t48 (by decide) e_jumped)), (SAME.at t122 (by decide) (SAME.at t48 (by decide) e_heights)), s_planRead_1, s_planRead_10, (show 0 ≤ (0 : Int32).toInt ∧ (0 : Int32).toInt ≤ 1 by decide), (by have zl0 : (0 : Int32).toInt = 0 := (by decide); omega), (by have zl1 : (1 : Int32).toInt = 1 := (by decide); omega), rfl⟩
              · have dc64 : r37.toInt = 0 := eq_i (a := r37.toInt) (b := 0) rfl rfl c64
                have k126 : 0 ≤ r37.toInt ∧ r37.toInt ≤ 0 := ⟨t60.1, Int.le_trans (Int.le_of_eq dc64) (Int.le_refl _)⟩
                refine lv_iconst (v := 0) hx hb dX10_planLine_430 (by decide) ?_
                exact ret_i (v := 0) hx hb hr hlocks hS (hP.sub (ws' := [(h0, .inr (10, vL 67 F38)), (h_tape, .inl (cB, 940, .inl f_tape)), (h_s, .inl (cI, 335, .inl f_s)), (h_names, .inl (cJ, 36, .inr (.inl f_names))), (h_reserved, .inl (cJ, 23, .inr (.inl f_reserved))), (h_planRead, .inl (cI, 24, .inl f_planRead))]) [4, 5, 0, 1, 2, 3] rfl) (hD.sub (ws' := [(h0, .inr (10, vL 67 F38)), (h_tape, .inl (cB, 940, .inl f_tape)), (h_s, .inl (cI, 335, .inl f_s)), (h_names, .inl (cJ, 36, .inr (.inl f_names))), (h_reserved, .inl (cJ, 23, .inr (.inl f_reserved))), (h_planRead, .inl (cI, 24, .inl f_planRead))]) [4, 5, 0, 1, 2, 3] (by decide) rfl) dX10_planLine_431 rfl (Nat.le_of_ble_eq_true rfl) (Nat.le_of_ble_eq_true rfl) ⟨F38, y39, y40, y41, y42, y43, y44, y45, y46, x_got, y47, x_jumped, x_heights, f_planRead, (SAME.tr SAME.rf t48 (by decide)), t49, t50, t51, t52, t53, t54, t55, t56, t57, t58, (SAME.at t48 (by decide) e_got), t59, (SAME.at t48 (by decide) e_jumped), (SAME.at t48 (by decide) e_heights), s_planRead_1, s_planRead_10, (show 0 ≤ (0 : Int32).toInt ∧ (0 : Int32).toInt ≤ 1 by decide), (by have zl0 : (0 : Int32).toInt = 0 := (by decide); omega), (by omega), rfl⟩
            · have dc35 : r31.toInt = 0 := eq_i (a := r31.toInt) (b := 0) rfl rfl c35
              have k127 : 0 ≤ r31.toInt ∧ r31.toInt ≤ 0 := ⟨t32.1, Int.le_trans (Int.le_of_eq dc35) (Int.le_refl _)⟩
              refine lv_aload_n hx hb dX10_planLine_416 rfl (lv_at hl 0 rfl) ?_
              refine lv_iconst (v := 1) hx hb dX10_planLine_417 (by decide) ?_
              refine call_Vi (wr := [(h_tape, .inl (cB, 940, .inl f_tape)), (h_s, .inl (cI, 335, .inl f_s)), (h_names, .inl (cJ, 36, .inr (.inl f_names))), (h_reserved, .inl (cJ, 23, .inr (.inl f_reserved))), (h_planRead, .inl (cI, 24, .inl f_planRead))]) (As := [.int 1]) (rest := []) hx hb hml hown hw (m_X10_bad l D cI cJ cB cP cM cZ h0 Fh x_at 1 _ e_at) wV_X10_205_X10_bad dX10_planLine_418 hK hP hD hS hA [5] [0, 1, 2, 3, 4] rfl rfl (by decide) (by decide) (by decide) 0 10 rfl rfl GG.fb hG.at hl.1 rfl (Nat.le_of_ble_eq_true rfl) ⟨(Nat.le_of_ble_eq_true rfl), (Nat.le_of_ble_eq_true rfl)⟩ ⟨(Nat.le_of_ble_eq_true rfl), (Nat.le_of_ble_eq_true rfl)⟩ (fun r128 u H locs hp hP hD hS => ?_)
              have zl1 : (1 : Int32).toInt = 1 := by decide
              obtain ⟨F129, t130, t131, t132, rfl, rfl⟩ := hp
              have hP : va_P D vwCl [(h_tape, .inl (cB, 940, .inl f_tape)), (h_s, .inl (cI, 335, .inl f_s)), (h_names, .inl (cJ, 36, .inr (.inl f_names))), (h_reserved, .inl (cJ, 23, .inr (.inl f_reserved))), (h_planRead, .inl (cI, 24, .inl f_planRead)), (h0, .inr (10, vL 67 F129))] H := hP
              have hD : va_D A [(h_tape, .inl (cB, 940, .inl f_tape)), (h_s, .inl (cI, 335, .inl f_s)), (h_names, .inl (cJ, 36, .inr (.inl f_names))), (h_reserved, .inl (cJ, 23, .inr (.inl f_reserved))), (h_planRead, .inl (cI, 24, .inl f_planRead)), (h0, .inr (10, vL 67 F129))] := hD
              refine W.widen (k := 0) (n := 0) (Nat.le_of_ble_eq_true rfl) (Nat.le_of_ble_eq_true rfl) ?_
              exact ret_i (v := 0) hx hb hr hlocks hS (hP.sub (ws' := [(h0, .inr (10, vL 67 F129)), (h_tape, .inl (cB, 940, .inl f_tape)), (h_s, .inl (cI, 335, .inl f_s)), (h_names, .inl (cJ, 36, .inr (.inl f_names))), (h_reserved, .inl (cJ, 23, .inr (.inl f_reserved))), (h_planRead, .inl (cI, 24, .inl f_planRead))]) [5, 0, 1, 2, 3, 4] rfl) (hD.sub (ws' := [(h0, .inr (10, vL 67 F129)), (h_tape, .inl (cB, 940, .inl f_tape)), (h_s, .inl (cI, 335, .inl f_s)), (h_names, .inl (cJ, 36, .inr (.inl f_names))), (h_reserved, .inl (cJ, 23, .inr (.inl f_reserved))), (h_planRead, .inl (cI, 24, .inl f_planRead))]) [5, 0, 1, 2, 3, 4] (by decide) rfl) dX10_planLine_421 rfl (Nat.le_of_ble_eq_true rfl) (Nat.le_of_ble_eq_true rfl) ⟨F129, x_p, x_token, x_at, x_span, x_number, 1, x_at, x_word, x_got, x_onces, x_jumped, x_heights, f_planRead, (SAME.tr SAME.rf t130 (by decide)), (SAME.at t130 (by decide) e_p), i_x_p, (SAME.at t130 (by decide) e_token), i_x_token, (SAME.at t130 (by decide) e_at), (SAME.at t130 (by decide) e_span), (SAME.at t130 (by decide) e_number), t131, t132, (SAME.at t130 (by decide) e_word), (SAME.at t130 (by decide) e_got), (SAME.at t130 (by decide) e_onces), (SAME.at t130 (by decide) e_jumped), (SAME.at t130 (by decide) e_heights), s_planRead_1, s_planRead_10, (show 0 ≤ (0 : Int32).toInt ∧ (0 : Int32).toInt ≤ 1 by decide), (by have zl0 : (0 : Int32).toInt = 0 := (by decide); omega), (by have zl1 : (1 : Int32).toInt = 1 := (by decide); omega), rfl⟩
          · have dc29 : r25.toInt ≠ 0 := ne_i (a := r25.toInt) (b := 0) rfl rfl c29
            have k134 : 1 ≤ r25.toInt ∧ r25.toInt ≤ 1 := ⟨ne_lo dc29 t26.1 ⟨Int.le_refl _, Int.le_refl _⟩ (by decide), t26.2⟩
            refine lv_aload_n hx hb dX10_planLine_373 rfl (lv_at hl 0 rfl) ?_
            refine lv_iconst (v := 2) hx hb dX10_planLine_374 (by decide) ?_
            refine call_Vi (wr := [(h_s, .inl (cI, 335, .inl f_s)), (h_names, .inl (cJ, 36, .inr (.inl f_names))), (h_reserved, .inl (cJ, 23, .inr (.inl f_reserved))), (h_planRead, .inl (cI, 24, .inl f_planRead))]) (As := [.int 2]) (rest := []) hx hb hml hown hw (m_X10_isOnce l D cI cJ cB cP cM cZ h0 h_tape Fh x_size x_p x_limit x_token x_at x_span x_number x_fault x_faultAt x_word x_onces f_tape 2 _ e_tape e_size i_x_size e_p i_x_p e_limit i_x_limit e_token i_x_token e_at e_span e_number e_fault e_faultAt e_word e_onces (by omega)) wV_X10_239_X10_isOnce dX10_planLine_375 hK hP hD hS hA [5, 0] [1, 2, 3, 4] rfl rfl (by decide) (by decide) (by decide) 0 10 rfl rfl GG.fb hG.at hl.1 rfl (Nat.le_of_ble_eq_true rfl) ⟨(Nat.le_of_ble_eq_true rfl), (Nat.le_of_ble_eq_true rfl)⟩ ⟨(Nat.le_of_ble_eq_true rfl), (Nat.le_of_ble_eq_true rfl)⟩ (fun r135 u H locs hp hP hD hS => ?_)
            have zl2 : (2 : Int32).toInt = 2 := by decide
            refine hp.elim (fun F136 h9z => h9z.elim (fun y137 h9z => h9z.elim (fun y138 h9z => h9z.elim (fun y139 h9z => h9z.elim (fun y140 h9z => h9z.elim (fun y141 h9z => h9z.elim (fun y142 h9z => h9z.elim (fun y143 h9z => h9z.elim (fun y144 h9z => h9z.elim (fun y145 h9z => h9z.elim (fun t146 h9z => h9z.elim (fun t147 h9z => h9z.elim (fun t148 h9z => h9z.elim (fun t149 h9z => h9z.elim (fun t150 h9z => h9z.elim (fun t151 h9z => h9z.elim (fun t152 h9z => h9z.elim (fun t153 h9z => h9z.elim (fun t154 h9z => h9z.elim (fun t155 h9z => h9z.elim (fun t156 h9z => h9z.elim (fun t157 h9z => h9z.elim (fun t158 h9z => h9z.elim (fun t159 h9z => h9z.elim (fun t160 h9z => ?_)))))))))))))))))))))))))
            subst h9z
            have hP : va_P D vwCl [(h_s, .inl (cI, 335, .inl f_s)), (h_names, .inl (cJ, 36, .inr (.inl f_names))), (h_reserved, .inl (cJ, 23, .inr (.inl f_reserved))), (h_planRead, .inl (cI, 24, .inl f_planRead)), (h0, .inr (10, vL 67 F136)), (h_tape, .inl (cB, 940, .inl f_tape))] H := hP
            have hD : va_D A [(h_s, .inl (cI, 335, .inl f_s)), (h_names, .inl (cJ, 36, .inr (.inl f_names))), (h_reserved, .inl (cJ, 23, .inr (.inl f_reserved))), (h_planRead, .inl (cI, 24, .inl f_planRead)), (h0, .inr (10, vL 67 F136)), (h_tape, .inl (cB, 940, .inl f_tape))] := hD
            refine W.widen (k := 0) (n := 0) (Nat.le_of_ble_eq_true rfl) (Nat.le_of_ble_eq_true rfl) ?_
            refine lv_if_eq (tgt := 391) hx hb dX10_planLine_378 (by decide) (fun c162 => ?_) (fun c162 => ?_)
            · have dc162 : r135.toInt = 0 := eq_i (a := r135.toInt) (b := 0) rfl rfl c162
              have k163 : 0 ≤ r135.toInt ∧ r135.toInt ≤ 0 := ⟨t158.1, Int.le_trans (Int.le_of_eq dc162) (Int.le_refl _)⟩
              refine lv_iconst (v := 0) hx hb dX10_planLine_391 (by decide) ?_
              exact ret_i (v := 0) hx hb hr hlocks hS (hP.sub (ws' := [(h0, .inr (10, vL 67 F136)), (h_tape, .inl (cB, 940, .inl f_tape)), (h_s, .inl (cI, 335, .inl f_s)), (h_names, .inl (cJ, 36, .inr (.inl f_names))), (h_reserved, .inl (cJ, 23, .inr (.inl f_reserved))), (h_planRead, .inl (cI, 24, .inl f_planRead))]) [4, 5, 0, 1, 2, 3] rfl) (hD.sub (ws' := [(h0, .inr (10, vL 67 F136)), (h_tape, .inl (cB, 940, .inl f_tape)), (h_s, .inl (cI, 335, .inl f_s)), (h_names, .inl (cJ, 36, .inr (.inl f_names))), (h_reserved, .inl (cJ, 23, .inr (.inl f_reserved))), (h_planRead, .inl (cI, 24, .inl f_planRead))]) [4, 5, 0, 1, 2, 3] (by decide) rfl) dX10_planLine_392 rfl (Nat.le_of_ble_eq_true rfl) (Nat.le_of_ble_eq_true rfl) ⟨F136, y137, y138, y139, y140, y141, y142, y143, y144, x_got, y145, x_jumped, x_heights, f_planRead, (SAME.tr SAME.rf t146 (by decide)), t147, t148, t149, t150, t151, t152, t153, t154, t155, t156, (SAME.at t146 (by decide) e_got), t157, (SAME.at t146 (by decide) e_jumped), (SAME.at t146 (by decide) e_heights), s_planRead_1, s_planRead_10, (show 0 ≤ (0 : Int32).toInt ∧ (0 : Int32).toInt ≤ 1 by decide), (by have zl0 : (0 : Int32).toInt = 0 := (by decide); omega), (by omega), rfl⟩
            · have dc162 : r135.toInt ≠ 0 := ne_i (a := r135.toInt) (b := 0) rfl rfl c162
              have k164 : 1 ≤ r135.toInt ∧ r135.toInt ≤ 1 := ⟨ne_lo dc162 t158.1 ⟨Int.le_refl _, Int.le_refl _⟩ (by decide), t158.2⟩
              refine lv_aload_n hx hb dX10_planLine_381 rfl (lv_at hl 0 rfl) ?_
              refine lv_iconst (v := 1) hx hb dX10_planLine_382 (by decide) ?_
              refine lv_bipush (v := 60) hx hb dX10_planLine_383 (by decide) ?_
              have n165 : F136 1 = .ref h_tape := (SAME.at t146 (by decide) e_tape)
              have n166 : F136 3 = .int x_size := (SAME.at t146 (by decide) e_size)
              have n167 : F136 5 = .int x_limit := (SAME.at t146 (by decide) e_limit)
              refine call_Vi (wr := [(h_s, .inl (cI, 335, .inl f_s)), (h_names, .inl (cJ, 36, .inr (.inl f_names))), (h_reserved, .inl (cJ, 23, .inr (.inl f_reserved))), (h_planRead, .inl (cI, 24, .inl f_planRead))]) (As := [.int 1, .int 60]) (rest := []) hx hb hml hown hw (m_X10_takes l D cI cJ cB cP cM cZ h0 h_tape F136 x_size y137 x_limit y138 y139 y141 y144 f_tape 1 60 _ n165 n166 i_x_size t147 t148 n167 i_x_limit t149 t150 t151 t153 t156 (by omega)) wV_X10_242_X10_takes dX10_planLine_385 hK hP hD hS hA [4, 5] [0, 1, 2, 3] rfl rfl (by decide) (by decide) (by decide) 0 10 rfl rfl GG.fb hG.at hl.1 rfl (Nat.le_of_ble_eq_true rfl) ⟨(Nat.le_of_ble_eq_true rfl), (Nat.le_of_ble_eq_true rfl)⟩ ⟨(Nat.le_of_ble_eq_true rfl), (Nat.le_of_ble_eq_true rfl)⟩ (fun r168 u H locs hp hP hD hS => ?_)
              have zl1 : (1 : Int32).toInt = 1 := by decide
              have zl60 : (60 : Int32).toInt = 60 := by decide
              rcases hp with hp | hp
              · obtain ⟨F169, y170, t171, t172, t173, t174, t175, rfl, rfl⟩ := hp
                have hP : va_P D vwCl [(h_s, .inl (cI, 335, .inl f_s)), (h_names, .inl (cJ, 36, .inr (.inl f_names))), (h_reserved, .inl (cJ, 23, .inr (.inl f_reserved))), (h_planRead, .inl (cI, 24, .inl f_planRead)), (h0, .inr (10, vL 67 F169)), (h_tape, .inl (cB, 940, .inl f_tape))] H := hP
                have hD : va_D A [(h_s, .inl (cI, 335, .inl f_s)), (h_names, .inl (cJ, 36, .inr (.inl f_names))), (h_reserved, .inl (cJ, 23, .inr (.inl f_reserved))), (h_planRead, .inl (cI, 24, .inl f_planRead)), (h0, .inr (10, vL 67 F169)), (h_tape, .inl (cB, 940, .inl f_tape))] := hD
                refine W.widen (k := 0) (n := 0) (Nat.le_of_ble_eq_true rfl) (Nat.le_of_ble_eq_true rfl) ?_
                refine lv_if_ne (tgt := 393) hx hb dX10_planLine_388 (by decide) (fun g => absurd (by decide) g) (fun _ => ?_)
                refine lv_iconst (v := 0) hx hb dX10_planLine_391 (by decide) ?_
                exact ret_i (v := 0) hx hb hr hlocks hS (hP.sub (ws' := [(h0, .inr (10, vL 67 F169)), (h_tape, .inl (cB, 940, .inl f_tape)), (h_s, .inl (cI, 335, .inl f_s)), (h_names, .inl (cJ, 36, .inr (.inl f_names))), (h_reserved, .inl (cJ, 23, .inr (.inl f_reserved))), (h_planRead, .inl (cI, 24, .inl f_planRead))]) [4, 5, 0, 1, 2, 3] rfl) (hD.sub (ws' := [(h0, .inr (10, vL 67 F169)), (h_tape, .inl (cB, 940, .inl f_tape)), (h_s, .inl (cI, 335, .inl f_s)), (h_names, .inl (cJ, 36, .inr (.inl f_names))), (h_reserved, .inl (cJ, 23, .inr (.inl f_reserved))), (h_planRead, .inl (cI, 24, .inl f_planRead))]) [4, 5, 0, 1, 2, 3] (by decide) rfl) dX10_planLine_392 rfl (Nat.le_of_ble_eq_true rfl) (Nat.le_of_ble_eq_true rfl) ⟨F169, y137, y138, y139, y140, y141, y170, y139, y144, x_got, y145, x_jumped, x_heights, f_planRead, (SAME.tr (SAME.tr SAME.rf t146 (by decide)) t171 (by decide)), (SAME.at t171 (by decide) t147), t148, (SAME.at t171 (by decide) t149), t150, (SAME.at t171 (by decide) t151), (SAME.at t171 (by decide) t152), (SAME.at t171 (by decide) t153), t172, t174, (SAME.at t171 (by decide) t156), (SAME.at t171 (by decide) (SAME.at t146 (by decide) e_got)), (SAME.at t171 (by decide) t157), (SAME.at t171 (by decide) (SAME.at t146 (by decide) e_jumped)), (SAME.at t171 (by decide) (SAME.at t146 (by decide) e_heights)), s_planRead_1, s_planRead_10, (show 0 ≤ (0 : Int32).toInt ∧ (0 : Int32).toInt ≤ 1 by decide), (by have zl0 : (0 : Int32).toInt = 0 := (by decide); omega), (by omega), rfl⟩
              · refine hp.elim (fun F176 h9z => h9z.elim (fun y177 h9z => h9z.elim (fun y178 h9z => h9z.elim (fun y179 h9z => h9z.elim (fun y180 h9z => h9z.elim (fun y181 h9z => h9z.elim (fun y182 h9z => h9z.elim (fun y183 h9z => h9z.elim (fun t184 h9z => h9z.elim (fun t185 h9z => h9z.elim (fun t186 h9z => h9z.elim (fun t187 h9z => h9z.elim (fun t188 h9z => h9z.elim (fun t189 h9z => h9z.elim (fun t190 h9z => h9z.elim (fun t191 h9z => h9z.elim (fun t192 h9z => h9z.elim (fun t193 h9z => h9z.elim (fun t194 h9z => h9z.elim (fun t195 h9z => h9z.elim (fun t196 h9z => h9z.elim (fun t197 h9z => h9z.elim (fun t198 h9z => h9z.elim (fun t199 h9z => h9z.elim (fun t200 h9z => h9z.elim (fun heq925 h9z => ?_))))))))))))))))))))))))))
                subst heq925
                subst h9z
                have hP : va_P D vwCl [(h_s, .inl (cI, 335, .inl f_s)), (h_names, .inl (cJ, 36, .inr (.inl f_names))), (h_reserved, .inl (cJ, 23, .inr (.inl f_reserved))), (h_planRead, .inl (cI, 24, .inl f_planRead)), (h0, .inr (10, vL 67 F176)), (h_tape, .inl (cB, 940, .inl f_tape))] H := hP
                have hD : va_D A [(h_s, .inl (cI, 335, .inl f_s)), (h_names, .inl (cJ, 36, .inr (.inl f_names))), (h_reserved, .inl (cJ, 23, .inr (.inl f_reserved))), (h_planRead, .inl (cI, 24, .inl f_planRead)), (h0, .inr (10, vL 67 F176)), (h_tape, .inl (cB, 940, .inl f_tape))] := hD
                refine W.widen (k := 0) (n := 0) (Nat.le_of_ble_eq_true rfl) (Nat.le_of_ble_eq_true rfl) ?_
                have k202 : 2 ≤ y138.toInt ∧ y138.toInt ≤ 2 := ⟨Int.le_trans (Int.le_refl _) (Int.le_of_eq t196.symm), Int.le_trans (Int.le_of_eq t196) (Int.le_refl _)⟩
                have k203 : 1 ≤ y141.toInt ∧ y141.toInt ≤ 2147483647 := ⟨Int.le_trans (Int.le_refl _) t197, (ir_any _).2⟩
                have k204 : 1 ≤ y141.toInt ∧ y141.toInt ≤ 60 := ⟨k203.1, Int.le_trans t198 (Int.le_refl _)⟩
                refine lv_if_ne (tgt := 393) hx hb dX10_planLine_388 (by decide) (fun _ => ?_) (fun g => absurd g (by decide))
                refine lv_aload_n hx hb dX10_planLine_393 rfl (lv_at hl 0 rfl) ?_
                have n205 : F136 22 = .ref h_planRead := (SAME.at t146 (by decide) e_planRead)
                have n206 : F176 22 = .ref h_planRead := (SAME.at t184 (by decide) n205)
                refine get_f (D := D) (ci := 10) (v := .ref h_planRead) (C := RX10) (T := TX10) (N := 67) hx hb hw inAX10 hown hK hP 4 rfl rfl 22 (by decide) (hw _ q_1283) (fun _ h9 => h9) n206 dX10_planLine_394 ?_
                refine lv_bipush (v := 11) hx hb dX10_planLine_397 (by decide) ?_
                refine lv_aload_n hx hb dX10_planLine_399 rfl (lv_at hl 0 rfl) ?_
                refine get_f (D := D) (ci := 10) (v := .int y183) (C := RX10) (T := TX10) (N := 67) hx hb hw inAX10 hown hK hP 4 rfl rfl 19 (by decide) (hw _ q_1280) (fun _ h9 => h9) t195 dX10_planLine_400 ?_
                obtain ⟨g207, eg207⟩ : ∃ z : Nat → Int32, upd f_planRead 11 y183 = z := ⟨_, rfl⟩
                have r208 : SG 1 4 0 11 g207 := by rw [← eg207]; exact s_planRead_1.upN (by decide)
                have r209 : SG 10 10 0 5 g207 := by rw [← eg207]; exact s_planRead_10.upN (by decide)
                refine iast_n hx hb hK hP hD hS 3 0 rfl rfl 11 rfl (Nat.le_of_ble_eq_true rfl) (Nat.le_of_ble_eq_true rfl) eg207 dX10_planLine_403 (fun H locs hP hD hS => ?_)
                have hP : va_P D vwCl [(h_s, .inl (cI, 335, .inl f_s)), (h_names, .inl (cJ, 36, .inr (.inl f_names))), (h_reserved, .inl (cJ, 23, .inr (.inl f_reserved))), (h_planRead, .inl (cI, 24, .inl g207)), (h0, .inr (10, vL 67 F176)), (h_tape, .inl (cB, 940, .inl f_tape))] H := hP
                have hD : va_D A [(h_s, .inl (cI, 335, .inl f_s)), (h_names, .inl (cJ, 36, .inr (.inl f_names))), (h_reserved, .inl (cJ, 23, .inr (.inl f_reserved))), (h_planRead, .inl (cI, 24, .inl g207)), (h0, .inr (10, vL 67 F176)), (h_tape, .inl (cB, 940, .inl f_tape))] := hD
                refine lv_iconst (v := 1) hx hb dX10_planLine_404 (by decide) ?_
                exact ret_i (v := 1) hx hb hr hlocks hS (hP.sub (ws' := [(h0, .inr (10, vL 67 F176)), (h_tape, .inl (cB, 940, .inl f_tape)), (h_s, .inl (cI, 335, .inl f_s)), (h_names, .inl (cJ, 36, .inr (.inl f_names))), (h_reserved, .inl (cJ, 23, .inr (.inl f_reserved))), (h_planRead, .inl (cI, 24, .inl g207))]) [4, 5, 0, 1, 2, 3] rfl) (hD.sub (ws' := [(h0, .inr (10, vL 67 F176)), (h_tape, .inl (cB, 940, .inl f_tape)), (h_s, .inl (cI, 335, .inl f_s)), (h_names, .inl (cJ, 36, .inr (.inl f_names))), (h_reserved, .inl (cJ, 23, .inr (.inl f_reserved))), (h_planRead, .inl (cI, 24, .inl g207))]) [4, 5, 0, 1, 2, 3] (by decide) rfl) dX10_planLine_405 rfl (Nat.le_of_ble_eq_true rfl) (Nat.le_of_ble_eq_true rfl) ⟨F176, y177, y178, y179, y180, y181, y142, y143, y182, y183, y145, x_jumped, x_heights, g207, (SAME.tr (SAME.tr SAME.rf t146 (by decide)) t184 (by decide)), t185, t186, t187, t188, t189, t191, t193, (SAME.at t184 (by decide) t154), (SAME.at t184 (by decide) t155), t194, t195, (SAME.at t184 (by decide) t157), (SAME.at t184 (by decide) (SAME.at t146 (by decide) e_jumped)), (SAME.at t184 (by decide) (SAME.at t146 (by decide) e_heights)), r208, r209, (show 0 ≤ (1 : Int32).toInt ∧ (1 : Int32).toInt ≤ 1 by decide), (by have zl1 : (1 : Int32).toInt = 1 := (by decide); omega), (by omega), rfl⟩
        · have dc23 : r19.toInt ≠ 0 := ne_i (a := r19.toInt) (b := 0) rfl rfl c23
          have k210 : 1 ≤ r19.toInt ∧ r19.toInt ≤ 1 := ⟨ne_lo dc23 t20.1 ⟨Int.le_refl _, Int.le_refl _⟩ (by decide), t20.2⟩
          refine lv_aload_n hx hb dX10_planLine_330 rfl (lv_at hl 0 rfl) ?_
          refine lv_iconst (v := 1) hx hb dX10_planLine_331 (by decide) ?_
          refine call_Vi (wr := [(h_s, .inl (cI, 335, .inl f_s)), (h_names, .inl (cJ, 36, .inr (.inl f_names))), (h_reserved, .inl (cJ, 23, .inr (.inl f_reserved))), (h_planRead, .inl (cI, 24, .inl f_planRead))]) (As := [.int 1]) (rest := []) hx hb hml hown hw (m_X10_isOnce l D cI cJ cB cP cM cZ h0 h_tape Fh x_size x_p x_limit x_token x_at x_span x_number x_fault x_faultAt x_word x_onces f_tape 1 _ e_tape e_size i_x_size e_p i_x_p e_limit i_x_limit e_token i_x_token e_at e_span e_number e_fault e_faultAt e_word e_onces (by omega)) wV_X10_239_X10_isOnce dX10_planLine_332 hK hP hD hS hA [5, 0] [1, 2, 3, 4] rfl rfl (by decide) (by decide) (by decide) 0 10 rfl rfl GG.fb hG.at hl.1 rfl (Nat.le_of_ble_eq_true rfl) ⟨(Nat.le_of_ble_eq_true rfl), (Nat.le_of_ble_eq_true rfl)⟩ ⟨(Nat.le_of_ble_eq_true rfl), (Nat.le_of_ble_eq_true rfl)⟩ (fun r211 u H locs hp hP hD hS => ?_)
          have zl1 : (1 : Int32).toInt = 1 := by decide
          refine hp.elim (fun F212 h9z => h9z.elim (fun y213 h9z => h9z.elim (fun y214 h9z => h9z.elim (fun y215 h9z => h9z.elim (fun y216 h9z => h9z.elim (fun y217 h9z => h9z.elim (fun y218 h9z => h9z.elim (fun y219 h9z => h9z.elim (fun y220 h9z => h9z.elim (fun y221 h9z => h9z.elim (fun t222 h9z => h9z.elim (fun t223 h9z => h9z.elim (fun t224 h9z => h9z.elim (fun t225 h9z => h9z.elim (fun t226 h9z => h9z.elim (fun t227 h9z => h9z.elim (fun t228 h9z => h9z.elim (fun t229 h9z => h9z.elim (fun t230 h9z => h9z.elim (fun t231 h9z => h9z.elim (fun t232 h9z => h9z.elim (fun t233 h9z => h9z.elim (fun t234 h9z => h9z.elim (fun t235 h9z => h9z.elim (fun t236 h9z => ?_)))))))))))))))))))))))))
          subst h9z
          have hP : va_P D vwCl [(h_s, .inl (cI, 335, .inl f_s)), (h_names, .inl (cJ, 36, .inr (.inl f_names))), (h_reserved, .inl (cJ, 23, .inr (.inl f_reserved))), (h_planRead, .inl (cI, 24, .inl f_planRead)), (h0, .inr (10, vL 67 F212)), (h_tape, .inl (cB, 940, .inl f_tape))] H := hP
          have hD : va_D A [(h_s, .inl (cI, 335, .inl f_s)), (h_names, .inl (cJ, 36, .inr (.inl f_names))), (h_reserved, .inl (cJ, 23, .inr (.inl f_reserved))), (h_planRead, .inl (cI, 24, .inl f_planRead)), (h0, .inr (10, vL 67 F212)), (h_tape, .inl (cB, 940, .inl f_tape))] := hD
          refine W.widen (k := 0) (n := 0) (Nat.le_of_ble_eq_true rfl) (Nat.le_of_ble_eq_true rfl) ?_
          refine lv_if_eq (tgt := 348) hx hb dX10_planLine_335 (by decide) (fun c238 => ?_) (fun c238 => ?_)
          · have dc238 : r211.toInt = 0 := eq_i (a := r211.toInt) (b := 0) rfl rfl c238
            have k239 : 0 ≤ r211.toInt ∧ r211.toInt ≤ 0 := ⟨t234.1, Int.le_trans (Int.le_of_eq dc238) (Int.le_refl _)⟩
            refine lv_iconst (v := 0) hx hb dX10_planLine_348 (by decide) ?_
            exact ret_i (v := 0) hx hb hr hlocks hS (hP.sub (ws' := [(h0, .inr (10, vL 67 F212)), (h_tape, .inl (cB, 940, .inl f_tape)), (h_s, .inl (cI, 335, .inl f_s)), (h_names, .inl (cJ, 36, .inr (.inl f_names))), (h_reserved, .inl (cJ, 23, .inr (.inl f_reserved))), (h_planRead, .inl (cI, 24, .inl f_planRead))]) [4, 5, 0, 1, 2, 3] rfl) (hD.sub (ws' := [(h0, .inr (10, vL 67 F212)), (h_tape, .inl (cB, 940, .inl f_tape)), (h_s, .inl (cI, 335, .inl f_s)), (h_names, .inl (cJ, 36, .inr (.inl f_names))), (h_reserved, .inl (cJ, 23, .inr (.inl f_reserved))), (h_planRead, .inl (cI, 24, .inl f_planRead))]) [4, 5, 0, 1, 2, 3] (by decide) rfl) dX10_planLine_349 rfl (Nat.le_of_ble_eq_true rfl) (Nat.le_of_ble_eq_true rfl) ⟨F212, y213, y214, y215, y216, y217, y218, y219, y220, x_got, y221, x_jumped, x_heights, f_planRead, (SAME.tr SAME.rf t222 (by decide)), t223, t224, t225, t226, t227, t228, t229, t230, t231, t232, (SAME.at t222 (by decide) e_got), t233, (SAME.at t222 (by decide) e_jumped), (SAME.at t222 (by decide) e_heights), s_planRead_1, s_planRead_10, (show 0 ≤ (0 : Int32).toInt ∧ (0 : Int32).toInt ≤ 1 by decide), (by have zl0 : (0 : Int32).toInt = 0 := (by decide); omega), (by omega), rfl⟩
          · have dc238 : r211.toInt ≠ 0 := ne_i (a := r211.toInt) (b := 0) rfl rfl c238
            have k240 : 1 ≤ r211.toInt ∧ r211.toInt ≤ 1 := ⟨ne_lo dc238 t234.1 ⟨Int.le_refl _, Int.le_refl _⟩ (by decide), t234.2⟩
            refine lv_aload_n hx hb dX10_planLine_338 rfl (lv_at hl 0 rfl) ?_
            refine lv_iconst (v := 0) hx hb dX10_planLine_339 (by decide) ?_
            refine lv_bipush (v := 99) hx hb dX10_planLine_340 (by decide) ?_
            have n241 : F212 1 = .ref h_tape := (SAME.at t222 (by decide) e_tape)
            have n242 : F212 3 = .int x_size := (SAME.at t222 (by decide) e_size)
            have n243 : F212 5 = .int x_limit := (SAME.at t222 (by decide) e_limit)
            refine call_Vi (wr := [(h_s, .inl (cI, 335, .inl f_s)), (h_names, .inl (cJ, 36, .inr (.inl f_names))), (h_reserved, .inl (cJ, 23, .inr (.inl f_reserved))), (h_planRead, .inl (cI, 24, .inl f_planRead))]) (As := [.int 0, .int 99]) (rest := []) hx hb hml hown hw (m_X10_takes l D cI cJ cB cP cM cZ h0 h_tape F212 x_size y213 x_limit y214 y215 y217 y220 f_tape 0 99 _ n241 n242 i_x_size t223 t224 n243 i_x_limit t225 t226 t227 t229 t232 (by omega)) wV_X10_242_X10_takes dX10_planLine_342 hK hP hD hS hA [4, 5] [0, 1, 2, 3] rfl rfl (by decide) (by decide) (by decide) 0 10 rfl rfl GG.fb hG.at hl.1 rfl (Nat.le_of_ble_eq_true rfl) ⟨(Nat.le_of_ble_eq_true rfl), (Nat.le_of_ble_eq_true rfl)⟩ ⟨(Nat.le_of_ble_eq_true rfl), (Nat.le_of_ble_eq_true rfl)⟩ (fun r244 u H locs hp hP hD hS => ?_)
            have zl0 : (0 : Int32).toInt = 0 := by decide
            have zl99 : (99 : Int32).toInt = 99 := by decide
            rcases hp with hp | hp
            · obtain ⟨F245, y246, t247, t248, t249, t250, t251, rfl, rfl⟩ := hp
              have hP : va_P D vwCl [(h_s, .inl (cI, 335, .inl f_s)), (h_names, .inl (cJ, 36, .inr (.inl f_names))), (h_reserved, .inl (cJ, 23, .inr (.inl f_reserved))), (h_planRead, .inl (cI, 24, .inl f_planRead)), (h0, .inr (10, vL 67 F245)), (h_tape, .inl (cB, 940, .inl f_tape))] H := hP
              have hD : va_D A [(h_s, .inl (cI, 335, .inl f_s)), (h_names, .inl (cJ, 36, .inr (.inl f_names))), (h_reserved, .inl (cJ, 23, .inr (.inl f_reserved))), (h_planRead, .inl (cI, 24, .inl f_planRead)), (h0, .inr (10, vL 67 F245)), (h_tape, .inl (cB, 940, .inl f_tape))] := hD
              refine W.widen (k := 0) (n := 0) (Nat.le_of_ble_eq_true rfl) (Nat.le_of_ble_eq_true rfl) ?_
              refine lv_if_ne (tgt := 350) hx hb dX10_planLine_345 (by decide) (fun g => absurd (by decide) g) (fun _ => ?_)
              refine lv_iconst (v := 0) hx hb dX10_planLine_348 (by decide) ?_
              exact ret_i (v := 0) hx hb hr hlocks hS (hP.sub (ws' := [(h0, .inr (10, vL 67 F245)), (h_tape, .inl (cB, 940, .inl f_tape)), (h_s, .inl (cI, 335, .inl f_s)), (h_names, .inl (cJ, 36, .inr (.inl f_names))), (h_reserved, .inl (cJ, 23, .inr (.inl f_reserved))), (h_planRead, .inl (cI, 24, .inl f_planRead))]) [4, 5, 0, 1, 2, 3] rfl) (hD.sub (ws' := [(h0, .inr (10, vL 67 F245)), (h_tape, .inl (cB, 940, .inl f_tape)), (h_s, .inl (cI, 335, .inl f_s)), (h_names, .inl (cJ, 36, .inr (.inl f_names))), (h_reserved, .inl (cJ, 23, .inr (.inl f_reserved))), (h_planRead, .inl (cI, 24, .inl f_planRead))]) [4, 5, 0, 1, 2, 3] (by decide) rfl) dX10_planLine_349 rfl (Nat.le_of_ble_eq_true rfl) (Nat.le_of_ble_eq_true rfl) ⟨F245, y213, y214, y215, y216, y217, y246, y215, y220, x_got, y221, x_jumped, x_heights, f_planRead, (SAME.tr (SAME.tr SAME.rf t222 (by decide)) t247 (by decide)), (SAME.at t247 (by decide) t223), t224, (SAME.at t247 (by decide) t225), t226, (SAME.at t247 (by decide) t227), (SAME.at t247 (by decide) t228), (SAME.at t247 (by decide) t229), t248, t250, (SAME.at t247 (by decide) t232), (SAME.at t247 (by decide) (SAME.at t222 (by decide) e_got)), (SAME.at t247 (by decide) t233), (SAME.at t247 (by decide) (SAME.at t222 (by decide) e_jumped)), (SAME.at t247 (by decide) (SAME.at t222 (by decide) e_heights)), s_planRead_1, s_planRead_10, (show 0 ≤ (0 : Int32).toInt ∧ (0 : Int32).toInt ≤ 1 by decide), (by have zl0 : (0 : Int32).toInt = 0 := (by decide); omega), (by omega), rfl⟩
            · refine hp.elim (fun F252 h9z => h9z.elim (fun y253 h9z => h9z.elim (fun y254 h9z => h9z.elim (fun y255 h9z => h9z.elim (fun y256 h9z => h9z.elim (fun y257 h9z => h9z.elim (fun y258 h9z => h9z.elim (fun y259 h9z => h9z.elim (fun t260 h9z => h9z.elim (fun t261 h9z => h9z.elim (fun t262 h9z => h9z.elim (fun t263 h9z => h9z.elim (fun t264 h9z => h9z.elim (fun t265 h9z => h9z.elim (fun t266 h9z => h9z.elim (fun t267 h9z => h9z.elim (fun t268 h9z => h9z.elim (fun t269 h9z => h9z.elim (fun t270 h9z => h9z.elim (fun t271 h9z => h9z.elim (fun t272 h9z => h9z.elim (fun t273 h9z => h9z.elim (fun t274 h9z => h9z.elim (fun t275 h9z => h9z.elim (fun t276 h9z => h9z.elim (fun heq925 h9z => ?_))))))))))))))))))))))))))
              subst heq925
              subst h9z
              have hP : va_P D vwCl [(h_s, .inl (cI, 335, .inl f_s)), (h_names, .inl (cJ, 36, .inr (.inl f_names))), (h_reserved, .inl (cJ, 23, .inr (.inl f_reserved))), (h_planRead, .inl (cI, 24, .inl f_planRead)), (h0, .inr (10, vL 67 F252)), (h_tape, .inl (cB, 940, .inl f_tape))] H := hP
              have hD : va_D A [(h_s, .inl (cI, 335, .inl f_s)), (h_names, .inl (cJ, 36, .inr (.inl f_names))), (h_reserved, .inl (cJ, 23, .inr (.inl f_reserved))), (h_planRead, .inl (cI, 24, .inl f_planRead)), (h0, .inr (10, vL 67 F252)), (h_tape, .inl (cB, 940, .inl f_tape))] := hD
              refine W.widen (k := 0) (n := 0) (Nat.le_of_ble_eq_true rfl) (Nat.le_of_ble_eq_true rfl) ?_
              have k278 : 2 ≤ y214.toInt ∧ y214.toInt ≤ 2 := ⟨Int.le_trans (Int.le_refl _) (Int.le_of_eq t272.symm), Int.le_trans (Int.le_of_eq t272) (Int.le_refl _)⟩
              have k279 : 0 ≤ y217.toInt ∧ y217.toInt ≤ 2147483647 := ⟨Int.le_trans (Int.le_refl _) t273, (ir_any _).2⟩
              have k280 : 0 ≤ y217.toInt ∧ y217.toInt ≤ 99 := ⟨k279.1, Int.le_trans t274 (Int.le_refl _)⟩
              refine lv_if_ne (tgt := 350) hx hb dX10_planLine_345 (by decide) (fun _ => ?_) (fun g => absurd g (by decide))
              refine lv_aload_n hx hb dX10_planLine_350 rfl (lv_at hl 0 rfl) ?_
              have n281 : F212 22 = .ref h_planRead := (SAME.at t222 (by decide) e_planRead)
              have n282 : F252 22 = .ref h_planRead := (SAME.at t260 (by decide) n281)
              refine get_f (D := D) (ci := 10) (v := .ref h_planRead) (C := RX10) (T := TX10) (N := 67) hx hb hw inAX10 hown hK hP 4 rfl rfl 22 (by decide) (hw _ q_1283) (fun _ h9 => h9) n282 dX10_planLine_351 ?_
              refine lv_bipush (v := 9) hx hb dX10_planLine_354 (by decide) ?_
              refine lv_aload_n hx hb dX10_planLine_356 rfl (lv_at hl 0 rfl) ?_
              refine get_f (D := D) (ci := 10) (v := .int y259) (C := RX10) (T := TX10) (N := 67) hx hb hw inAX10 hown hK hP 4 rfl rfl 19 (by decide) (hw _ q_1280) (fun _ h9 => h9) t271 dX10_planLine_357 ?_
              obtain ⟨g283, eg283⟩ : ∃ z : Nat → Int32, upd f_planRead 9 y259 = z := ⟨_, rfl⟩
              have r284 : SG 1 4 0 11 g283 := by rw [← eg283]; exact s_planRead_1.upN (by decide)
              have r285 : SG 10 10 0 5 g283 := by rw [← eg283]; exact s_planRead_10.upN (by decide)
              refine iast_n hx hb hK hP hD hS 3 0 rfl rfl 9 rfl (Nat.le_of_ble_eq_true rfl) (Nat.le_of_ble_eq_true rfl) eg283 dX10_planLine_360 (fun H locs hP hD hS => ?_)
              have hP : va_P D vwCl [(h_s, .inl (cI, 335, .inl f_s)), (h_names, .inl (cJ, 36, .inr (.inl f_names))), (h_reserved, .inl (cJ, 23, .inr (.inl f_reserved))), (h_planRead, .inl (cI, 24, .inl g283)), (h0, .inr (10, vL 67 F252)), (h_tape, .inl (cB, 940, .inl f_tape))] H := hP
              have hD : va_D A [(h_s, .inl (cI, 335, .inl f_s)), (h_names, .inl (cJ, 36, .inr (.inl f_names))), (h_reserved, .inl (cJ, 23, .inr (.inl f_reserved))), (h_planRead, .inl (cI, 24, .inl g283)), (h0, .inr (10, vL 67 F252)), (h_tape, .inl (cB, 940, .inl f_tape))] := hD
              refine lv_iconst (v := 1) hx hb dX10_planLine_361 (by decide) ?_
              exact ret_i (v := 1) hx hb hr hlocks hS (hP.sub (ws' := [(h0, .inr (10, vL 67 F252)), (h_tape, .inl (cB, 940, .inl f_tape)), (h_s, .inl (cI, 335, .inl f_s)), (h_names, .inl (cJ, 36, .inr (.inl f_names))), (h_reserved, .inl (cJ, 23, .inr (.inl f_reserved))), (h_planRead, .inl (cI, 24, .inl g283))]) [4, 5, 0, 1, 2, 3] rfl) (hD.sub (ws' := [(h0, .inr (10, vL 67 F252)), (h_tape, .inl (cB, 940, .inl f_tape)), (h_s, .inl (cI, 335, .inl f_s)), (h_names, .inl (cJ, 36, .inr (.inl f_names))), (h_reserved, .inl (cJ, 23, .inr (.inl f_reserved))), (h_planRead, .inl (cI, 24, .inl g283))]) [4, 5, 0, 1, 2, 3] (by decide) rfl) dX10_planLine_362 rfl (Nat.le_of_ble_eq_true rfl) (Nat.le_of_ble_eq_true rfl) ⟨F252, y253, y254, y255, y256, y257, y218, y219, y258, y259, y221, x_jumped, x_heights, g283, (SAME.tr (SAME.tr SAME.rf t222 (by decide)) t260 (by decide)), t261, t262, t263, t264, t265, t267, t269, (SAME.at t260 (by decide) t230), (SAME.at t260 (by decide) t231), t270, t271, (SAME.at t260 (by decide) t233), (SAME.at t260 (by decide) (SAME.at t222 (by decide) e_jumped)), (SAME.at t260 (by decide) (SAME.at t222 (by decide) e_heights)), r284, r285, (show 0 ≤ (1 : Int32).toInt ∧ (1 : Int32).toInt ≤ 1 by decide), (by have zl1 : (1 : Int32).toInt = 1 := (by decide); omega), (by omega), rfl⟩
      · have dc17 : r13.toInt ≠ 0 := ne_i (a := r13.toInt) (b := 0) rfl rfl c17
        have k286 : 1 ≤ r13.toInt ∧ r13.toInt ≤ 1 := ⟨ne_lo dc17 t14.1 ⟨Int.le_refl _, Int.le_refl _⟩ (by decide), t14.2⟩
        refine lv_aload_n hx hb dX10_planLine_211 rfl (lv_at hl 0 rfl) ?_
        refine call_Vv (wr := [(h_s, .inl (cI, 335, .inl f_s)), (h_names, .inl (cJ, 36, .inr (.inl f_names))), (h_reserved, .inl (cJ, 23, .inr (.inl f_reserved))), (h_planRead, .inl (cI, 24, .inl f_planRead))]) (As := []) (rest := []) hx hb hml hown hw (m_X10_next l D cI cJ cB cP cM cZ h0 h_tape Fh x_size x_p x_limit x_token x_number x_word f_tape _ e_tape e_size i_x_size e_p i_x_p e_limit i_x_limit e_token i_x_token e_number e_word (by omega)) wV_X10_208_X10_next dX10_planLine_212 hK hP hD hS hA [5, 0] [1, 2, 3, 4] rfl rfl (by decide) (by decide) (by decide) 0 10 rfl rfl GG.fb hG.at hl.1 rfl (Nat.le_of_ble_eq_true rfl) ⟨(Nat.le_of_ble_eq_true rfl), (Nat.le_of_ble_eq_true rfl)⟩ ⟨(Nat.le_of_ble_eq_true rfl), (Nat.le_of_ble_eq_true rfl)⟩ (fun u H locs hp hP hD hS => ?_)
        obtain ⟨F288, y289, y290, y291, y292, y293, y294, t295, t296, t297, t298, t299, t300, t301, t302, t303, t304, t305, t306, t307, t308, rfl⟩ := hp
        have hP : va_P D vwCl [(h_s, .inl (cI, 335, .inl f_s)), (h_names, .inl (cJ, 36, .inr (.inl f_names))), (h_reserved, .inl (cJ, 23, .inr (.inl f_reserved))), (h_planRead, .inl (cI, 24, .inl f_planRead)), (h0, .inr (10, vL 67 F288)), (h_tape, .inl (cB, 940, .inl f_tape))] H := hP
        have hD : va_D A [(h_s, .inl (cI, 335, .inl f_s)), (h_names, .inl (cJ, 36, .inr (.inl f_names))), (h_reserved, .inl (cJ, 23, .inr (.inl f_reserved))), (h_planRead, .inl (cI, 24, .inl f_planRead)), (h0, .inr (10, vL 67 F288)), (h_tape, .inl (cB, 940, .inl f_tape))] := hD
        refine W.widen (k := 0) (n := 0) (Nat.le_of_ble_eq_true rfl) (Nat.le_of_ble_eq_true rfl) ?_
        refine lv_aload_n hx hb dX10_planLine_215 rfl (lv_at hl 0 rfl) ?_
        refine get_f (D := D) (ci := 10) (v := .int y290) (C := RX10) (T := TX10) (N := 67) hx hb hw inAX10 hown hK hP 4 rfl rfl 11 (by decide) (hw _ q_1272) (fun _ h9 => h9) t298 dX10_planLine_216 ?_
        refine lv_iconst (v := 2) hx hb dX10_planLine_219 (by decide) ?_
        refine lv_icmp_eq (tgt := 229) hx hb dX10_planLine_220 (by decide) (fun c310 => ?_) (fun c310 => ?_)
        · have dc310 : y290.toInt = 2 := eq_i (a := y290.toInt) (b := 2) rfl rfl c310
          have k311 : 2 ≤ y290.toInt ∧ y290.toInt ≤ 2 := ⟨Int.le_trans (Int.le_refl _) (Int.le_of_eq dc310.symm), Int.le_trans (Int.le_of_eq dc310) (Int.le_refl _)⟩
          refine lv_aload_n hx hb dX10_planLine_229 rfl (lv_at hl 0 rfl) ?_
          refine get_f (D := D) (ci := 10) (v := .int y293) (C := RX10) (T := TX10) (N := 67) hx hb hw inAX10 hown hK hP 4 rfl rfl 14 (by decide) (hw _ q_1275) (fun _ h9 => h9) t304 dX10_planLine_230 ?_
          refine lv_aload_n hx hb dX10_planLine_233 rfl (lv_at hl 0 rfl) ?_
          have n312 : F288 6 = .ref h_s := (SAME.at t295 (by decide) e_s)
          refine get_f (D := D) (ci := 10) (v := .ref h_s) (C := RX10) (T := TX10) (N := 67) hx hb hw inAX10 hown hK hP 4 rfl rfl 6 (by decide) (hw _ q_1267) (fun _ h9 => h9) n312 dX10_planLine_234 ?_
          refine lv_bipush (v := 6) hx hb dX10_planLine_237 (by decide) ?_
          refine iald_n hx hb hK hP 0 0 rfl rfl 6 rfl (Nat.le_of_ble_eq_true rfl) (Nat.le_of_ble_eq_true rfl) rfl dX10_planLine_239 ?_
          refine lv_topi (fun v313 ev313 => ?_)
          have k314 : 0 ≤ v313.toInt ∧ v313.toInt ≤ 12 := by rw [ev313]; exact s_s_6.atN 6 (by decide) (by decide)
          refine lv_icmp_lt (tgt := 249) hx hb dX10_planLine_240 (by decide) (fun c315 => ?_) (fun c315 => ?_)
          · have dc315 : y293.toInt < v313.toInt := lt_i (a := y293.toInt) (b := v313.toInt) rfl rfl c315
            have k316 : (-2147483648) ≤ y293.toInt ∧ y293.toInt ≤ 11 := ⟨(ir_any _).1, up_lt dc315 k314.2 (by decide)⟩
            refine lv_aload_n hx hb dX10_planLine_249 rfl (lv_at hl 0 rfl) ?_
            have n317 : F288 24 = .int x_heights := (SAME.at t295 (by decide) e_heights)
            refine get_f (D := D) (ci := 10) (v := .int x_heights) (C := RX10) (T := TX10) (N := 67) hx hb hw inAX10 hown hK hP 4 rfl rfl 24 (by decide) (hw _ q_1285) (fun _ h9 => h9) n317 dX10_planLine_250 ?_
            refine lv_aload_n hx hb dX10_planLine_253 rfl (lv_at hl 0 rfl) ?_
            refine get_f (D := D) (ci := 10) (v := .int y293) (C := RX10) (T := TX10) (N := 67) hx hb hw inAX10 hown hK hP 4 rfl rfl 14 (by decide) (hw _ q_1275) (fun _ h9 => h9) t304 dX10_planLine_254 ?_
            refine call_Si (wr := [(h_s, .inl (cI, 335, .inl f_s)), (h_names, .inl (cJ, 36, .inr (.inl f_names))), (h_reserved, .inl (cJ, 23, .inr (.inl f_reserved))), (h_planRead, .inl (cI, 24, .inl f_planRead)), (h0, .inr (10, vL 67 F288)), (h_tape, .inl (cB, 940, .inl f_tape))]) (As := [.int x_heights, .int y293]) (rest := []) hx hb hml hown hw (m_X10_bitOf l D cI cJ cB cP cM cZ x_heights y293 _ ) wS_X10_232_X10_bitOf dX10_planLine_257 hP hD hS hA [] [0, 1, 2, 3, 4, 5] rfl rfl (by decide) (by decide) (by decide) GG.fb hG.at hl.1 rfl (Nat.le_of_ble_eq_true rfl) ⟨(Nat.le_of_ble_eq_true rfl), (Nat.le_of_ble_eq_true rfl)⟩ ⟨(Nat.le_of_ble_eq_true rfl), (Nat.le_of_ble_eq_true rfl)⟩ (fun r318 u H locs hp hP hD hS => ?_)
            rcases hp with ⟨rfl, rfl⟩ | ⟨rfl, rfl⟩
            · have hP : va_P D vwCl [(h_s, .inl (cI, 335, .inl f_s)), (h_names, .inl (cJ, 36, .inr (.inl f_names))), (h_reserved, .inl (cJ, 23, .inr (.inl f_reserved))), (h_planRead, .inl (cI, 24, .inl f_planRead)), (h0, .inr (10, vL 67 F288)), (h_tape, .inl (cB, 940, .inl f_tape))] H := hP
              have hD : va_D A [(h_s, .inl (cI, 335, .inl f_s)), (h_names, .inl (cJ, 36, .inr (.inl f_names))), (h_reserved, .inl (cJ, 23, .inr (.inl f_reserved))), (h_planRead, .inl (cI, 24, .inl f_planRead)), (h0, .inr (10, vL 67 F288)), (h_tape, .inl (cB, 940, .inl f_tape))] := hD
              refine W.widen (k := 0) (n := 0) (Nat.le_of_ble_eq_true rfl) (Nat.le_of_ble_eq_true rfl) ?_
              refine lv_if_eq (tgt := 269) hx hb dX10_planLine_260 (by decide) (fun _ => ?_) (fun g => absurd (by decide) g)
              refine lv_aload_n hx hb dX10_planLine_269 rfl (lv_at hl 0 rfl) ?_
              refine lv_dup hx hb dX10_planLine_270 rfl ?_
              refine get_f (D := D) (ci := 10) (v := .int x_heights) (C := RX10) (T := TX10) (N := 67) hx hb hw inAX10 hown hK hP 4 rfl rfl 24 (by decide) (hw _ q_1285) (fun _ h9 => h9) n317 dX10_planLine_271 ?_
              refine lv_iconst (v := 1) hx hb dX10_planLine_274 (by decide) ?_
              refine lv_aload_n hx hb dX10_planLine_275 rfl (lv_at hl 0 rfl) ?_
              refine get_f (D := D) (ci := 10) (v := .int y293) (C := RX10) (T := TX10) (N := 67) hx hb hw inAX10 hown hK hP 4 rfl rfl 14 (by decide) (hw _ q_1275) (fun _ h9 => h9) t304 dX10_planLine_276 ?_
              refine lv_ishl hx hb dX10_planLine_279 ?_
              refine lv_topi (fun v320 ev320 => ?_)
              refine lv_ior hx hb dX10_planLine_280 ?_
              refine lv_topi (fun v321 ev321 => ?_)
              refine put_f (D := D) (ci := 10) (v := .int v321) (ty := .int) (C := RX10) (T := TX10) (N := 67) hx hb hw inAX10 tyX10 tyX10_ok nmX10 hown hK hP hD hS 4 rfl rfl 24 (by decide) (hw _ q_1285) (fun _ h9 => h9) rfl (by decide +kernel) rfl rfl dX10_planLine_281 (fun H locs F322 eF322 hP hD hS => ?_)
              have hP : va_P D vwCl [(h_s, .inl (cI, 335, .inl f_s)), (h_names, .inl (cJ, 36, .inr (.inl f_names))), (h_reserved, .inl (cJ, 23, .inr (.inl f_reserved))), (h_planRead, .inl (cI, 24, .inl f_planRead)), (h0, .inr (10, vL 67 F322)), (h_tape, .inl (cB, 940, .inl f_tape))] H := hP
              have hD : va_D A [(h_s, .inl (cI, 335, .inl f_s)), (h_names, .inl (cJ, 36, .inr (.inl f_names))), (h_reserved, .inl (cJ, 23, .inr (.inl f_reserved))), (h_planRead, .inl (cI, 24, .inl f_planRead)), (h0, .inr (10, vL 67 F322)), (h_tape, .inl (cB, 940, .inl f_tape))] := hD
              refine lv_aload_n hx hb dX10_planLine_284 rfl (lv_at hl 0 rfl) ?_
              have n323 : F322 14 = .int y293 := (get_ne eF322 (by decide) t304)
              refine get_f (D := D) (ci := 10) (v := .int y293) (C := RX10) (T := TX10) (N := 67) hx hb hw inAX10 hown hK hP 4 rfl rfl 14 (by decide) (hw _ q_1275) (fun _ h9 => h9) n323 dX10_planLine_285 ?_
              refine lv_istore_n (lv' := [(1, .int y293), (0, .ref h0)]) hx hb dX10_planLine_288 rfl hl (by decide) rfl (fun ls hl => ?_)
              refine lv_aload_n hx hb dX10_planLine_289 rfl (lv_at hl 1 rfl) ?_
              have n324 : F288 1 = .ref h_tape := (SAME.at t295 (by decide) e_tape)
              have n325 : F322 1 = .ref h_tape := (get_ne eF322 (by decide) n324)
              have n326 : F288 3 = .int x_size := (SAME.at t295 (by decide) e_size)
              have n327 : F322 3 = .int x_size := (get_ne eF322 (by decide) n326)
              have n328 : F322 4 = .int y289 := (get_ne eF322 (by decide) t296)
              have n329 : F288 5 = .int x_limit := (SAME.at t295 (by decide) e_limit)
              have n330 : F322 5 = .int x_limit := (get_ne eF322 (by decide) n329)
              have n331 : F322 11 = .int y290 := (get_ne eF322 (by decide) t298)
              have n332 : F322 18 = .long y294 := (get_ne eF322 (by decide) t305)
              refine call_Vv (wr := [(h_s, .inl (cI, 335, .inl f_s)), (h_names, .inl (cJ, 36, .inr (.inl f_names))), (h_reserved, .inl (cJ, 23, .inr (.inl f_reserved))), (h_planRead, .inl (cI, 24, .inl f_planRead))]) (As := []) (rest := []) hx hb hml hown hw (m_X10_next l D cI cJ cB cP cM cZ h0 h_tape F322 x_size y289 x_limit y290 y293 y294 f_tape _ n325 n327 i_x_size n328 t297 n330 i_x_limit n331 (ir_wk k311 (by decide) (by decide)) n323 n332 (by omega)) wV_X10_208_X10_next dX10_planLine_290 hK hP hD hS hA [4, 5] [0, 1, 2, 3] rfl rfl (by decide) (by decide) (by decide) 0 10 rfl rfl GG.fb hG.at hl.1 rfl (Nat.le_of_ble_eq_true rfl) ⟨(Nat.le_of_ble_eq_true rfl), (Nat.le_of_ble_eq_true rfl)⟩ ⟨(Nat.le_of_ble_eq_true rfl), (Nat.le_of_ble_eq_true rfl)⟩ (fun u H locs hp hP hD hS => ?_)
              obtain ⟨F334, y335, y336, y337, y338, y339, y340, t341, t342, t343, t344, t345, t346, t347, t348, t349, t350, t351, t352, t353, t354, rfl⟩ := hp
              have hP : va_P D vwCl [(h_s, .inl (cI, 335, .inl f_s)), (h_names, .inl (cJ, 36, .inr (.inl f_names))), (h_reserved, .inl (cJ, 23, .inr (.inl f_reserved))), (h_planRead, .inl (cI, 24, .inl f_planRead)), (h0, .inr (10, vL 67 F334)), (h_tape, .inl (cB, 940, .inl f_tape))] H := hP
              have hD : va_D A [(h_s, .inl (cI, 335, .inl f_s)), (h_names, .inl (cJ, 36, .inr (.inl f_names))), (h_reserved, .inl (cJ, 23, .inr (.inl f_reserved))), (h_planRead, .inl (cI, 24, .inl f_planRead)), (h0, .inr (10, vL 67 F334)), (h_tape, .inl (cB, 940, .inl f_tape))] := hD
              refine W.widen (k := 0) (n := 0) (Nat.le_of_ble_eq_true rfl) (Nat.le_of_ble_eq_true rfl) ?_
              refine lv_aload_n hx hb dX10_planLine_293 rfl (lv_at hl 1 rfl) ?_
              refine lv_iconst (v := 0) hx hb dX10_planLine_294 (by decide) ?_
              refine lv_bipush (v := 9) hx hb dX10_planLine_295 (by decide) ?_
              have n356 : F334 1 = .ref h_tape := (SAME.at t341 (by decide) n325)
              have n357 : F334 3 = .int x_size := (SAME.at t341 (by decide) n327)
              have n358 : F334 5 = .int x_limit := (SAME.at t341 (by decide) n330)
              refine call_Vi (wr := [(h_s, .inl (cI, 335, .inl f_s)), (h_names, .inl (cJ, 36, .inr (.inl f_names))), (h_reserved, .inl (cJ, 23, .inr (.inl f_reserved))), (h_planRead, .inl (cI, 24, .inl f_planRead))]) (As := [.int 0, .int 9]) (rest := []) hx hb hml hown hw (m_X10_takes l D cI cJ cB cP cM cZ h0 h_tape F334 x_size y335 x_limit y336 y337 y339 y340 f_tape 0 9 _ n356 n357 i_x_size t342 t343 n358 i_x_limit t344 t345 t346 t350 t351 (by omega)) wV_X10_242_X10_takes dX10_planLine_297 hK hP hD hS hA [4, 5] [0, 1, 2, 3] rfl rfl (by decide) (by decide) (by decide) 0 10 rfl rfl GG.fb hG.at hl.1 rfl (Nat.le_of_ble_eq_true rfl) ⟨(Nat.le_of_ble_eq_true rfl), (Nat.le_of_ble_eq_true rfl)⟩ ⟨(Nat.le_of_ble_eq_true rfl), (Nat.le_of_ble_eq_true rfl)⟩ (fun r359 u H locs hp hP hD hS => ?_)
              have zl0 : (0 : Int32).toInt = 0 := by decide
              have zl9 : (9 : Int32).toInt = 9 := by decide
              rcases hp with hp | hp
              · obtain ⟨F360, y361, t362, t363, t364, t365, t366, rfl, rfl⟩ := hp
                have hP : va_P D vwCl [(h_s, .inl (cI, 335, .inl f_s)), (h_names, .inl (cJ, 36, .inr (.inl f_names))), (h_reserved, .inl (cJ, 23, .inr (.inl f_reserved))), (h_planRead, .inl (cI, 24, .inl f_planRead)), (h0, .inr (10, vL 67 F360)), (h_tape, .inl (cB, 940, .inl f_tape))] H := hP
                have hD : va_D A [(h_s, .inl (cI, 335, .inl f_s)), (h_names, .inl (cJ, 36, .inr (.inl f_names))), (h_reserved, .inl (cJ, 23, .inr (.inl f_reserved))), (h_planRead, .inl (cI, 24, .inl f_planRead)), (h0, .inr (10, vL 67 F360)), (h_tape, .inl (cB, 940, .inl f_tape))] := hD
                refine W.widen (k := 0) (n := 0) (Nat.le_of_ble_eq_true rfl) (Nat.le_of_ble_eq_true rfl) ?_
                refine lv_if_ne (tgt := 305) hx hb dX10_planLine_300 (by decide) (fun g => absurd (by decide) g) (fun _ => ?_)
                refine lv_iconst (v := 0) hx hb dX10_planLine_303 (by decide) ?_
                exact ret_i (v := 0) hx hb hr hlocks hS (hP.sub (ws' := [(h0, .inr (10, vL 67 F360)), (h_tape, .inl (cB, 940, .inl f_tape)), (h_s, .inl (cI, 335, .inl f_s)), (h_names, .inl (cJ, 36, .inr (.inl f_names))), (h_reserved, .inl (cJ, 23, .inr (.inl f_reserved))), (h_planRead, .inl (cI, 24, .inl f_planRead))]) [4, 5, 0, 1, 2, 3] rfl) (hD.sub (ws' := [(h0, .inr (10, vL 67 F360)), (h_tape, .inl (cB, 940, .inl f_tape)), (h_s, .inl (cI, 335, .inl f_s)), (h_names, .inl (cJ, 36, .inr (.inl f_names))), (h_reserved, .inl (cJ, 23, .inr (.inl f_reserved))), (h_planRead, .inl (cI, 24, .inl f_planRead))]) [4, 5, 0, 1, 2, 3] (by decide) rfl) dX10_planLine_304 rfl (Nat.le_of_ble_eq_true rfl) (Nat.le_of_ble_eq_true rfl) ⟨F360, y335, y336, y337, y338, y339, y361, y337, y340, x_got, x_onces, x_jumped, v321, f_planRead, (SAME.tr (SAME.tr (SAME.up eF322 (SAME.tr SAME.rf t295 (by decide)) (by decide)) t341 (by decide)) t362 (by decide)), (SAME.at t362 (by decide) t342), t343, (SAME.at t362 (by decide) t344), t345, (SAME.at t362 (by decide) t346), (SAME.at t362 (by decide) t348), (SAME.at t362 (by decide) t350), t363, t365, (SAME.at t362 (by decide) t351), (SAME.at t362 (by decide) (SAME.at t341 (by decide) (get_ne eF322 (by decide) (SAME.at t295 (by decide) e_got)))), (SAME.at t362 (by decide) (SAME.at t341 (by decide) (get_ne eF322 (by decide) (SAME.at t295 (by decide) e_onces)))), (SAME.at t362 (by decide) (SAME.at t341 (by decide) (get_ne eF322 (by decide) (SAME.at t295 (by decide) e_jumped)))), (SAME.at t362 (by decide) (SAME.at t341 (by decide) (get_eq eF322))), s_planRead_1, s_planRead_10, (show 0 ≤ (0 : Int32).toInt ∧ (0 : Int32).toInt ≤ 1 by decide), (by have zl0 : (0 : Int32).toInt = 0 := (by decide); omega), (by omega), rfl⟩
              · refine hp.elim (fun F367 h9z => h9z.elim (fun y368 h9z => h9z.elim (fun y369 h9z => h9z.elim (fun y370 h9z => h9z.elim (fun y371 h9z => h9z.elim (fun y372 h9z => h9z.elim (fun y373 h9z => h9z.elim (fun y374 h9z => h9z.elim (fun t375 h9z => h9z.elim (fun t376 h9z => h9z.elim (fun t377 h9z => h9z.elim (fun t378 h9z => h9z.elim (fun t379 h9z => h9z.elim (fun t380 h9z => h9z.elim (fun t381 h9z => h9z.elim (fun t382 h9z => h9z.elim (fun t383 h9z => h9z.elim (fun t384 h9z => h9z.elim (fun t385 h9z => h9z.elim (fun t386 h9z => h9z.elim (fun t387 h9z => h9z.elim (fun t388 h9z => h9z.elim (fun t389 h9z => h9z.elim (fun t390 h9z => h9z.elim (fun t391 h9z => h9z.elim (fun heq925 h9z => ?_))))))))))))))))))))))))))
                subst heq925
                subst h9z
                have hP : va_P D vwCl [(h_s, .inl (cI, 335, .inl f_s)), (h_names, .inl (cJ, 36, .inr (.inl f_names))), (h_reserved, .inl (cJ, 23, .inr (.inl f_reserved))), (h_planRead, .inl (cI, 24, .inl f_planRead)), (h0, .inr (10, vL 67 F367)), (h_tape, .inl (cB, 940, .inl f_tape))] H := hP
                have hD : va_D A [(h_s, .inl (cI, 335, .inl f_s)), (h_names, .inl (cJ, 36, .inr (.inl f_names))), (h_reserved, .inl (cJ, 23, .inr (.inl f_reserved))), (h_planRead, .inl (cI, 24, .inl f_planRead)), (h0, .inr (10, vL 67 F367)), (h_tape, .inl (cB, 940, .inl f_tape))] := hD
                refine W.widen (k := 0) (n := 0) (Nat.le_of_ble_eq_true rfl) (Nat.le_of_ble_eq_true rfl) ?_
                have k393 : 2 ≤ y336.toInt ∧ y336.toInt ≤ 2 := ⟨Int.le_trans (Int.le_refl _) (Int.le_of_eq t387.symm), Int.le_trans (Int.le_of_eq t387) (Int.le_refl _)⟩
                have k394 : 0 ≤ y339.toInt ∧ y339.toInt ≤ 2147483647 := ⟨Int.le_trans (Int.le_refl _) t388, (ir_any _).2⟩
                have k395 : 0 ≤ y339.toInt ∧ y339.toInt ≤ 9 := ⟨k394.1, Int.le_trans t389 (Int.le_refl _)⟩
                refine lv_if_ne (tgt := 305) hx hb dX10_planLine_300 (by decide) (fun _ => ?_) (fun g => absurd g (by decide))
                refine lv_aload_n hx hb dX10_planLine_305 rfl (lv_at hl 1 rfl) ?_
                have n396 : F288 22 = .ref h_planRead := (SAME.at t295 (by decide) e_planRead)
                have n397 : F322 22 = .ref h_planRead := (get_ne eF322 (by decide) n396)
                have n398 : F334 22 = .ref h_planRead := (SAME.at t341 (by decide) n397)
                have n399 : F367 22 = .ref h_planRead := (SAME.at t375 (by decide) n398)
                refine get_f (D := D) (ci := 10) (v := .ref h_planRead) (C := RX10) (T := TX10) (N := 67) hx hb hw inAX10 hown hK hP 4 rfl rfl 22 (by decide) (hw _ q_1283) (fun _ h9 => h9) n399 dX10_planLine_306 ?_
                refine lv_bipush (v := 12) hx hb dX10_planLine_309 (by decide) ?_
                refine lv_iload_n hx hb dX10_planLine_311 rfl (lv_at hl 0 rfl) ?_
                refine lv_iadd hx hb dX10_planLine_312 ?_
                refine lv_topi (fun v400 ev400 => ?_)
                have bv400 : v400.toInt = 12 + y293.toInt := by rw [ev400]; exact add_k rfl rfl ⟨Int.le_refl _, Int.le_refl _⟩ k316 (by decide)
                have k401 : (-2147483636) ≤ v400.toInt ∧ v400.toInt ≤ 23 := add_r bv400 ⟨Int.le_refl _, Int.le_refl _⟩ k316 (by decide)
                refine lv_aload_n hx hb dX10_planLine_313 rfl (lv_at hl 1 rfl) ?_
                refine get_f (D := D) (ci := 10) (v := .int y374) (C := RX10) (T := TX10) (N := 67) hx hb hw inAX10 hown hK hP 4 rfl rfl 19 (by decide) (hw _ q_1280) (fun _ h9 => h9) t386 dX10_planLine_314 ?_
                obtain ⟨g402, eg402⟩ : ∃ z : Nat → Int32, upd f_planRead v400.toNatClampNeg y374 = z := ⟨_, rfl⟩
                have r403 : SG 1 4 0 11 g402 := by rw [← eg402]; exact s_planRead_1.up (by omega) (by omega)
                have r404 : SG 10 10 0 5 g402 := by rw [← eg402]; exact s_planRead_10.up (by omega) (by omega)
                refine iast_g hx hb hK hP hD hS 3 0 rfl rfl (ix_i (by omega) (by omega)) eg402 dX10_planLine_317 (fun H locs hP hD hS => ?_)
                have hP : va_P D vwCl [(h_s, .inl (cI, 335, .inl f_s)), (h_names, .inl (cJ, 36, .inr (.inl f_names))), (h_reserved, .inl (cJ, 23, .inr (.inl f_reserved))), (h_planRead, .inl (cI, 24, .inl g402)), (h0, .inr (10, vL 67 F367)), (h_tape, .inl (cB, 940, .inl f_tape))] H := hP
                have hD : va_D A [(h_s, .inl (cI, 335, .inl f_s)), (h_names, .inl (cJ, 36, .inr (.inl f_names))), (h_reserved, .inl (cJ, 23, .inr (.inl f_reserved))), (h_planRead, .inl (cI, 24, .inl g402)), (h0, .inr (10, vL 67 F367)), (h_tape, .inl (cB, 940, .inl f_tape))] := hD
                refine lv_iconst (v := 1) hx hb dX10_planLine_318 (by decide) ?_
                exact ret_i (v := 1) hx hb hr hlocks hS (hP.sub (ws' := [(h0, .inr (10, vL 67 F367)), (h_tape, .inl (cB, 940, .inl f_tape)), (h_s, .inl (cI, 335, .inl f_s)), (h_names, .inl (cJ, 36, .inr (.inl f_names))), (h_reserved, .inl (cJ, 23, .inr (.inl f_reserved))), (h_planRead, .inl (cI, 24, .inl g402))]) [4, 5, 0, 1, 2, 3] rfl) (hD.sub (ws' := [(h0, .inr (10, vL 67 F367)), (h_tape, .inl (cB, 940, .inl f_tape)), (h_s, .inl (cI, 335, .inl f_s)), (h_names, .inl (cJ, 36, .inr (.inl f_names))), (h_reserved, .inl (cJ, 23, .inr (.inl f_reserved))), (h_planRead, .inl (cI, 24, .inl g402))]) [4, 5, 0, 1, 2, 3] (by decide) rfl) dX10_planLine_319 rfl (Nat.le_of_ble_eq_true rfl) (Nat.le_of_ble_eq_true rfl) ⟨F367, y368, y369, y370, y371, y372, x_fault, x_faultAt, y373, y374, x_onces, x_jumped, v321, g402, (SAME.tr (SAME.tr (SAME.up eF322 (SAME.tr SAME.rf t295 (by decide)) (by decide)) t341 (by decide)) t375 (by decide)), t376, t377, t378, t379, t380, t382, t384, (SAME.at t375 (by decide) (SAME.at t341 (by decide) (get_ne eF322 (by decide) (SAME.at t295 (by decide) e_fault)))), (SAME.at t375 (by decide) (SAME.at t341 (by decide) (get_ne eF322 (by decide) (SAME.at t295 (by decide) e_faultAt)))), t385, t386, (SAME.at t375 (by decide) (SAME.at t341 (by decide) (get_ne eF322 (by decide) (SAME.at t295 (by decide) e_onces)))), (SAME.at t375 (by decide) (SAME.at t341 (by decide) (get_ne eF322 (by decide) (SAME.at t295 (by decide) e_jumped)))), (SAME.at t375 (by decide) (SAME.at t341 (by decide) (get_eq eF322))), r403, r404, (show 0 ≤ (1 : Int32).toInt ∧ (1 : Int32).toInt ≤ 1 by decide), (by have zl1 : (1 : Int32).toInt = 1 := (by decide); omega), (by omega), rfl⟩
            · have hP : va_P D vwCl [(h_s, .inl (cI, 335, .inl f_s)), (h_names, .inl (cJ, 36, .inr (.inl f_names))), (h_reserved, .inl (cJ, 23, .inr (.inl f_reserved))), (h_planRead, .inl (cI, 24, .inl f_planRead)), (h0, .inr (10, vL 67 F288)), (h_tape, .inl (cB, 940, .inl f_tape))] H := hP
              have hD : va_D A [(h_s, .inl (cI, 335, .inl f_s)), (h_names, .inl (cJ, 36, .inr (.inl f_names))), (h_reserved, .inl (cJ, 23, .inr (.inl f_reserved))), (h_planRead, .inl (cI, 24, .inl f_planRead)), (h0, .inr (10, vL 67 F288)), (h_tape, .inl (cB, 940, .inl f_tape))] := hD
              refine W.widen (k := 0) (n := 0) (Nat.le_of_ble_eq_true rfl) (Nat.le_of_ble_eq_true rfl) ?_
              refine lv_if_eq (tgt := 269) hx hb dX10_planLine_260 (by decide) (fun g => absurd g (by decide)) (fun _ => ?_)
              refine lv_aload_n hx hb dX10_planLine_263 rfl (lv_at hl 0 rfl) ?_
              refine lv_iconst (v := 3) hx hb dX10_planLine_264 (by decide) ?_
              refine call_Vi (wr := [(h_s, .inl (cI, 335, .inl f_s)), (h_names, .inl (cJ, 36, .inr (.inl f_names))), (h_reserved, .inl (cJ, 23, .inr (.inl f_reserved))), (h_planRead, .inl (cI, 24, .inl f_planRead)), (h_tape, .inl (cB, 940, .inl f_tape))]) (As := [.int 3]) (rest := []) hx hb hml hown hw (m_X10_bad l D cI cJ cB cP cM cZ h0 F288 y291 3 _ t300) wV_X10_205_X10_bad dX10_planLine_265 hK hP hD hS hA [4] [0, 1, 2, 3, 5] rfl rfl (by decide) (by decide) (by decide) 0 10 rfl rfl GG.fb hG.at hl.1 rfl (Nat.le_of_ble_eq_true rfl) ⟨(Nat.le_of_ble_eq_true rfl), (Nat.le_of_ble_eq_true rfl)⟩ ⟨(Nat.le_of_ble_eq_true rfl), (Nat.le_of_ble_eq_true rfl)⟩ (fun r405 u H locs hp hP hD hS => ?_)
              have zl3 : (3 : Int32).toInt = 3 := by decide
              obtain ⟨F406, t407, t408, t409, rfl, rfl⟩ := hp
              have hP : va_P D vwCl [(h_s, .inl (cI, 335, .inl f_s)), (h_names, .inl (cJ, 36, .inr (.inl f_names))), (h_reserved, .inl (cJ, 23, .inr (.inl f_reserved))), (h_planRead, .inl (cI, 24, .inl f_planRead)), (h_tape, .inl (cB, 940, .inl f_tape)), (h0, .inr (10, vL 67 F406))] H := hP
              have hD : va_D A [(h_s, .inl (cI, 335, .inl f_s)), (h_names, .inl (cJ, 36, .inr (.inl f_names))), (h_reserved, .inl (cJ, 23, .inr (.inl f_reserved))), (h_planRead, .inl (cI, 24, .inl f_planRead)), (h_tape, .inl (cB, 940, .inl f_tape)), (h0, .inr (10, vL 67 F406))] := hD
              refine W.widen (k := 0) (n := 0) (Nat.le_of_ble_eq_true rfl) (Nat.le_of_ble_eq_true rfl) ?_
              exact ret_i (v := 0) hx hb hr hlocks hS (hP.sub (ws' := [(h0, .inr (10, vL 67 F406)), (h_tape, .inl (cB, 940, .inl f_tape)), (h_s, .inl (cI, 335, .inl f_s)), (h_names, .inl (cJ, 36, .inr (.inl f_names))), (h_reserved, .inl (cJ, 23, .inr (.inl f_reserved))), (h_planRead, .inl (cI, 24, .inl f_planRead))]) [5, 4, 0, 1, 2, 3] rfl) (hD.sub (ws' := [(h0, .inr (10, vL 67 F406)), (h_tape, .inl (cB, 940, .inl f_tape)), (h_s, .inl (cI, 335, .inl f_s)), (h_names, .inl (cJ, 36, .inr (.inl f_names))), (h_reserved, .inl (cJ, 23, .inr (.inl f_reserved))), (h_planRead, .inl (cI, 24, .inl f_planRead))]) [5, 4, 0, 1, 2, 3] (by decide) rfl) dX10_planLine_268 rfl (Nat.le_of_ble_eq_true rfl) (Nat.le_of_ble_eq_true rfl) ⟨F406, y289, y290, y291, y292, y293, 3, y291, y294, x_got, x_onces, x_jumped, x_heights, f_planRead, (SAME.tr (SAME.tr SAME.rf t295 (by decide)) t407 (by decide)), (SAME.at t407 (by decide) t296), t297, (SAME.at t407 (by decide) t298), (ir_wk k311 (by decide) (by decide)), (SAME.at t407 (by decide) t300), (SAME.at t407 (by decide) t302), (SAME.at t407 (by decide) t304), t408, t409, (SAME.at t407 (by decide) t305), (SAME.at t407 (by decide) (SAME.at t295 (by decide) e_got)), (SAME.at t407 (by decide) (SAME.at t295 (by decide) e_onces)), (SAME.at t407 (by decide) (SAME.at t295 (by decide) e_jumped)), (SAME.at t407 (by decide) n317), s_planRead_1, s_planRead_10, (show 0 ≤ (0 : Int32).toInt ∧ (0 : Int32).toInt ≤ 1 by decide), (by have zl0 : (0 : Int32).toInt = 0 := (by decide); omega), (by have zl3 : (3 : Int32).toInt = 3 := (by decide); omega), rfl⟩
          · have dc315 : v313.toInt ≤ y293.toInt := nlt_i (a := y293.toInt) (b := v313.toInt) rfl rfl c315
            have k411 : 0 ≤ y293.toInt ∧ y293.toInt ≤ 2147483647 := ⟨Int.le_trans k314.1 dc315, (ir_any _).2⟩
            refine lv_aload_n hx hb dX10_planLine_243 rfl (lv_at hl 0 rfl) ?_
            refine lv_iconst (v := 2) hx hb dX10_planLine_244 (by decide) ?_
            refine call_Vi (wr := [(h_s, .inl (cI, 335, .inl f_s)), (h_names, .inl (cJ, 36, .inr (.inl f_names))), (h_reserved, .inl (cJ, 23, .inr (.inl f_reserved))), (h_planRead, .inl (cI, 24, .inl f_planRead)), (h_tape, .inl (cB, 940, .inl f_tape))]) (As := [.int 2]) (rest := []) hx hb hml hown hw (m_X10_bad l D cI cJ cB cP cM cZ h0 F288 y291 2 _ t300) wV_X10_205_X10_bad dX10_planLine_245 hK hP hD hS hA [4] [0, 1, 2, 3, 5] rfl rfl (by decide) (by decide) (by decide) 0 10 rfl rfl GG.fb hG.at hl.1 rfl (Nat.le_of_ble_eq_true rfl) ⟨(Nat.le_of_ble_eq_true rfl), (Nat.le_of_ble_eq_true rfl)⟩ ⟨(Nat.le_of_ble_eq_true rfl), (Nat.le_of_ble_eq_true rfl)⟩ (fun r412 u H locs hp hP hD hS => ?_)
            have zl2 : (2 : Int32).toInt = 2 := by decide
            obtain ⟨F413, t414, t415, t416, rfl, rfl⟩ := hp
            have hP : va_P D vwCl [(h_s, .inl (cI, 335, .inl f_s)), (h_names, .inl (cJ, 36, .inr (.inl f_names))), (h_reserved, .inl (cJ, 23, .inr (.inl f_reserved))), (h_planRead, .inl (cI, 24, .inl f_planRead)), (h_tape, .inl (cB, 940, .inl f_tape)), (h0, .inr (10, vL 67 F413))] H := hP
            have hD : va_D A [(h_s, .inl (cI, 335, .inl f_s)), (h_names, .inl (cJ, 36, .inr (.inl f_names))), (h_reserved, .inl (cJ, 23, .inr (.inl f_reserved))), (h_planRead, .inl (cI, 24, .inl f_planRead)), (h_tape, .inl (cB, 940, .inl f_tape)), (h0, .inr (10, vL 67 F413))] := hD
            refine W.widen (k := 0) (n := 0) (Nat.le_of_ble_eq_true rfl) (Nat.le_of_ble_eq_true rfl) ?_
            exact ret_i (v := 0) hx hb hr hlocks hS (hP.sub (ws' := [(h0, .inr (10, vL 67 F413)), (h_tape, .inl (cB, 940, .inl f_tape)), (h_s, .inl (cI, 335, .inl f_s)), (h_names, .inl (cJ, 36, .inr (.inl f_names))), (h_reserved, .inl (cJ, 23, .inr (.inl f_reserved))), (h_planRead, .inl (cI, 24, .inl f_planRead))]) [5, 4, 0, 1, 2, 3] rfl) (hD.sub (ws' := [(h0, .inr (10, vL 67 F413)), (h_tape, .inl (cB, 940, .inl f_tape)), (h_s, .inl (cI, 335, .inl f_s)), (h_names, .inl (cJ, 36, .inr (.inl f_names))), (h_reserved, .inl (cJ, 23, .inr (.inl f_reserved))), (h_planRead, .inl (cI, 24, .inl f_planRead))]) [5, 4, 0, 1, 2, 3] (by decide) rfl) dX10_planLine_248 rfl (Nat.le_of_ble_eq_true rfl) (Nat.le_of_ble_eq_true rfl) ⟨F413, y289, y290, y291, y292, y293, 2, y291, y294, x_got, x_onces, x_jumped, x_heights, f_planRead, (SAME.tr (SAME.tr SAME.rf t295 (by decide)) t414 (by decide)), (SAME.at t414 (by decide) t296), t297, (SAME.at t414 (by decide) t298), (ir_wk k311 (by decide) (by decide)), (SAME.at t414 (by decide) t300), (SAME.at t414 (by decide) t302), (SAME.at t414 (by decide) t304), t415, t416, (SAME.at t414 (by decide) t305), (SAME.at t414 (by decide) (SAME.at t295 (by decide) e_got)), (SAME.at t414 (by decide) (SAME.at t295 (by decide) e_onces)), (SAME.at t414 (by decide) (SAME.at t295 (by decide) e_jumped)), (SAME.at t414 (by decide) (SAME.at t295 (by decide) e_heights)), s_planRead_1, s_planRead_10, (show 0 ≤ (0 : Int32).toInt ∧ (0 : Int32).toInt ≤ 1 by decide), (by have zl0 : (0 : Int32).toInt = 0 := (by decide); omega), (by have zl2 : (2 : Int32).toInt = 2 := (by decide); omega), rfl⟩
        · have dc310 : y290.toInt ≠ 2 := ne_i (a := y290.toInt) (b := 2) rfl rfl c310
          refine lv_aload_n hx hb dX10_planLine_223 rfl (lv_at hl 0 rfl) ?_
          refine lv_iconst (v := 1) hx hb dX10_planLine_224 (by decide) ?_
          refine call_Vi (wr := [(h_s, .inl (cI, 335, .inl f_s)), (h_names, .inl (cJ, 36, .inr (.inl f_names))), (h_reserved, .inl (cJ, 23, .inr (.inl f_reserved))), (h_planRead, .inl (cI, 24, .inl f_planRead)), (h_tape, .inl (cB, 940, .inl f_tape))]) (As := [.int 1]) (rest := []) hx hb hml hown hw (m_X10_bad l D cI cJ cB cP cM cZ h0 F288 y291 1 _ t300) wV_X10_205_X10_bad dX10_planLine_225 hK hP hD hS hA [4] [0, 1, 2, 3, 5] rfl rfl (by decide) (by decide) (by decide) 0 10 rfl rfl GG.fb hG.at hl.1 rfl (Nat.le_of_ble_eq_true rfl) ⟨(Nat.le_of_ble_eq_true rfl), (Nat.le_of_ble_eq_true rfl)⟩ ⟨(Nat.le_of_ble_eq_true rfl), (Nat.le_of_ble_eq_true rfl)⟩ (fun r418 u H locs hp hP hD hS => ?_)
          have zl1 : (1 : Int32).toInt = 1 := by decide
          obtain ⟨F419, t420, t421, t422, rfl, rfl⟩ := hp
          have hP : va_P D vwCl [(h_s, .inl (cI, 335, .inl f_s)), (h_names, .inl (cJ, 36, .inr (.inl f_names))), (h_reserved, .inl (cJ, 23, .inr (.inl f_reserved))), (h_planRead, .inl (cI, 24, .inl f_planRead)), (h_tape, .inl (cB, 940, .inl f_tape)), (h0, .inr (10, vL 67 F419))] H := hP
          have hD : va_D A [(h_s, .inl (cI, 335, .inl f_s)), (h_names, .inl (cJ, 36, .inr (.inl f_names))), (h_reserved, .inl (cJ, 23, .inr (.inl f_reserved))), (h_planRead, .inl (cI, 24, .inl f_planRead)), (h_tape, .inl (cB, 940, .inl f_tape)), (h0, .inr (10, vL 67 F419))] := hD
          refine W.widen (k := 0) (n := 0) (Nat.le_of_ble_eq_true rfl) (Nat.le_of_ble_eq_true rfl) ?_
          exact ret_i (v := 0) hx hb hr hlocks hS (hP.sub (ws' := [(h0, .inr (10, vL 67 F419)), (h_tape, .inl (cB, 940, .inl f_tape)), (h_s, .inl (cI, 335, .inl f_s)), (h_names, .inl (cJ, 36, .inr (.inl f_names))), (h_reserved, .inl (cJ, 23, .inr (.inl f_reserved))), (h_planRead, .inl (cI, 24, .inl f_planRead))]) [5, 4, 0, 1, 2, 3] rfl) (hD.sub (ws' := [(h0, .inr (10, vL 67 F419)), (h_tape, .inl (cB, 940, .inl f_tape)), (h_s, .inl (cI, 335, .inl f_s)), (h_names, .inl (cJ, 36, .inr (.inl f_names))), (h_reserved, .inl (cJ, 23, .inr (.inl f_reserved))), (h_planRead, .inl (cI, 24, .inl f_planRead))]) [5, 4, 0, 1, 2, 3] (by decide) rfl) dX10_planLine_228 rfl (Nat.le_of_ble_eq_true rfl) (Nat.le_of_ble_eq_true rfl) ⟨F419, y289, y290, y291, y292, y293, 1, y291, y294, x_got, x_onces, x_jumped, x_heights, f_planRead, (SAME.tr (SAME.tr SAME.rf t295 (by decide)) t420 (by decide)), (SAME.at t420 (by decide) t296), t297, (SAME.at t420 (by decide) t298), t299, (SAME.at t420 (by decide) t300), (SAME.at t420 (by decide) t302), (SAME.at t420 (by decide) t304), t421, t422, (SAME.at t420 (by decide) t305), (SAME.at t420 (by decide) (SAME.at t295 (by decide) e_got)), (SAME.at t420 (by decide) (SAME.at t295 (by decide) e_onces)), (SAME.at t420 (by decide) (SAME.at t295 (by decide) e_jumped)), (SAME.at t420 (by decide) (SAME.at t295 (by decide) e_heights)), s_planRead_1, s_planRead_10, (show 0 ≤ (0 : Int32).toInt ∧ (0 : Int32).toInt ≤ 1 by decide), (by have zl0 : (0 : Int32).toInt = 0 := (by decide); omega), (by have zl1 : (1 : Int32).toInt = 1 := (by decide); omega), rfl⟩
    · have dc11 : r7.toInt ≠ 0 := ne_i (a := r7.toInt) (b := 0) rfl rfl c11
      have k424 : 1 ≤ r7.toInt ∧ r7.toInt ≤ 1 := ⟨ne_lo dc11 t8.1 ⟨Int.le_refl _, Int.le_refl _⟩ (by decide), t8.2⟩
      refine lv_aload_n hx hb dX10_planLine_95 rfl (lv_at hl 0 rfl) ?_
      refine call_Vv (wr := [(h_s, .inl (cI, 335, .inl f_s)), (h_names, .inl (cJ, 36, .inr (.inl f_names))), (h_reserved, .inl (cJ, 23, .inr (.inl f_reserved))), (h_planRead, .inl (cI, 24, .inl f_planRead))]) (As := []) (rest := []) hx hb hml hown hw (m_X10_next l D cI cJ cB cP cM cZ h0 h_tape Fh x_size x_p x_limit x_token x_number x_word f_tape _ e_tape e_size i_x_size e_p i_x_p e_limit i_x_limit e_token i_x_token e_number e_word (by omega)) wV_X10_208_X10_next dX10_planLine_96 hK hP hD hS hA [5, 0] [1, 2, 3, 4] rfl rfl (by decide) (by decide) (by decide) 0 10 rfl rfl GG.fb hG.at hl.1 rfl (Nat.le_of_ble_eq_true rfl) ⟨(Nat.le_of_ble_eq_true rfl), (Nat.le_of_ble_eq_true rfl)⟩ ⟨(Nat.le_of_ble_eq_true rfl), (Nat.le_of_ble_eq_true rfl)⟩ (fun u H locs hp hP hD hS => ?_)
      obtain ⟨F426, y427, y428, y429, y430, y431, y432, t433, t434, t435, t436, t437, t438, t439, t440, t441, t442, t443, t444, t445, t446, rfl⟩ := hp
      have hP : va_P D vwCl [(h_s, .inl (cI, 335, .inl f_s)), (h_names, .inl (cJ, 36, .inr (.inl f_names))), (h_reserved, .inl (cJ, 23, .inr (.inl f_reserved))), (h_planRead, .inl (cI, 24, .inl f_planRead)), (h0, .inr (10, vL 67 F426)), (h_tape, .inl (cB, 940, .inl f_tape))] H := hP
      have hD : va_D A [(h_s, .inl (cI, 335, .inl f_s)), (h_names, .inl (cJ, 36, .inr (.inl f_names))), (h_reserved, .inl (cJ, 23, .inr (.inl f_reserved))), (h_planRead, .inl (cI, 24, .inl f_planRead)), (h0, .inr (10, vL 67 F426)), (h_tape, .inl (cB, 940, .inl f_tape))] := hD
      refine W.widen (k := 0) (n := 0) (Nat.le_of_ble_eq_true rfl) (Nat.le_of_ble_eq_true rfl) ?_
      refine lv_aload_n hx hb dX10_planLine_99 rfl (lv_at hl 0 rfl) ?_
      have n448 : F426 6 = .ref h_s := (SAME.at t433 (by decide) e_s)
      have n449 : F426 9 = .ref h_names := (SAME.at t433 (by decide) e_names)
      have n450 : F426 10 = .ref h_reserved := (SAME.at t433 (by decide) e_reserved)
      have n451 : F426 15 = .int x_fault := (SAME.at t433 (by decide) e_fault)
      have n452 : F426 16 = .int x_faultAt := (SAME.at t433 (by decide) e_faultAt)
      have n453 : F426 19 = .int x_got := (SAME.at t433 (by decide) e_got)
      refine call_Vi (wr := [(h_planRead, .inl (cI, 24, .inl f_planRead)), (h_tape, .inl (cB, 940, .inl f_tape))]) (As := []) (rest := []) hx hb hml hown hw (m_X10_looksAtMan l D cI cJ cB cP cM cZ h0 h_s h_names h_reserved F426 y428 y429 y431 x_fault x_faultAt y432 x_got f_s f_names f_reserved _ n448 n449 n450 t436 t437 t438 t442 n451 n452 t443 n453 s_s_K0 s_s_0 s_s_105 s_s_114 s_s_130 s_s_139 s_s_153 s_s_44 s_s_5 s_s_6 s_s_7 (by omega)) wV_X10_266_X10_looksAtMan dX10_planLine_100 hK hP hD hS hA [4, 0, 1, 2] [3, 5] rfl rfl (by decide) (by decide) (by decide) 0 10 rfl rfl GG.fb hG.at hl.1 rfl (Nat.le_of_ble_eq_true rfl) ⟨(Nat.le_of_ble_eq_true rfl), (Nat.le_of_ble_eq_true rfl)⟩ ⟨(Nat.le_of_ble_eq_true rfl), (Nat.le_of_ble_eq_true rfl)⟩ (fun r454 u H locs hp hP hD hS => ?_)
      obtain ⟨F455, y456, y457, y458, t459, t460, t461, t462, t463, rfl⟩ := hp
      have hP : va_P D vwCl [(h_planRead, .inl (cI, 24, .inl f_planRead)), (h_tape, .inl (cB, 940, .inl f_tape)), (h0, .inr (10, vL 67 F455)), (h_s, .inl (cI, 335, .inl f_s)), (h_names, .inl (cJ, 36, .inr (.inl f_names))), (h_reserved, .inl (cJ, 23, .inr (.inl f_reserved)))] H := hP
      have hD : va_D A [(h_planRead, .inl (cI, 24, .inl f_planRead)), (h_tape, .inl (cB, 940, .inl f_tape)), (h0, .inr (10, vL 67 F455)), (h_s, .inl (cI, 335, .inl f_s)), (h_names, .inl (cJ, 36, .inr (.inl f_names))), (h_reserved, .inl (cJ, 23, .inr (.inl f_reserved)))] := hD
      refine W.widen (k := 0) (n := 0) (Nat.le_of_ble_eq_true rfl) (Nat.le_of_ble_eq_true rfl) ?_
      refine lv_if_ne (tgt := 108) hx hb dX10_planLine_103 (by decide) (fun c465 => ?_) (fun c465 => ?_)
      · have dc465 : r454.toInt ≠ 0 := ne_i (a := r454.toInt) (b := 0) rfl rfl c465
        have k466 : 1 ≤ r454.toInt ∧ r454.toInt ≤ 1 := ⟨ne_lo dc465 t463.1 ⟨Int.le_refl _, Int.le_refl _⟩ (by decide), t463.2⟩
        refine lv_aload_n hx hb dX10_planLine_108 rfl (lv_at hl 0 rfl) ?_
        have n467 : F426 22 = .ref h_planRead := (SAME.at t433 (by decide) e_planRead)
        have n468 : F455 22 = .ref h_planRead := (SAME.at t459 (by decide) n467)
        refine get_f (D := D) (ci := 10) (v := .ref h_planRead) (C := RX10) (T := TX10) (N := 67) hx hb hw inAX10 hown hK hP 2 rfl rfl 22 (by decide) (hw _ q_1283) (fun _ h9 => h9) n468 dX10_planLine_109 ?_
        refine lv_iconst (v := 0) hx hb dX10_planLine_112 (by decide) ?_
        refine iald_n hx hb hK hP 0 0 rfl rfl 0 rfl (Nat.le_of_ble_eq_true rfl) (Nat.le_of_ble_eq_true rfl) rfl dX10_planLine_113 ?_
        refine lv_topi (fun v469 ev469 => ?_)
        refine lv_iconst (v := 1) hx hb dX10_planLine_114 (by decide) ?_
        refine lv_icmp_ne (tgt := 130) hx hb dX10_planLine_115 (by decide) (fun c470 => ?_) (fun c470 => ?_)
        · have dc470 : v469.toInt ≠ 1 := ne_i (a := v469.toInt) (b := 1) rfl rfl c470
          refine lv_iconst (v := (-1)) hx hb dX10_planLine_130 (by decide) ?_
          refine lv_istore_n (lv' := [(1, .int (-1)), (0, .ref h0)]) hx hb dX10_planLine_131 rfl hl (by decide) rfl (fun ls hl => ?_)
          refine lv_iload_n hx hb dX10_planLine_132 rfl (lv_at hl 0 rfl) ?_
          refine lv_if_lt (tgt := 147) hx hb dX10_planLine_133 (by decide) (fun _ => ?_) (fun g => absurd (by decide) g)
          refine lv_aload_n hx hb dX10_planLine_147 rfl (lv_at hl 1 rfl) ?_
          refine lv_iconst (v := 3) hx hb dX10_planLine_148 (by decide) ?_
          have n471 : F455 12 = .int y429 := (SAME.at t459 (by decide) t438)
          refine call_Vi (wr := [(h_planRead, .inl (cI, 24, .inl f_planRead)), (h_tape, .inl (cB, 940, .inl f_tape)), (h_s, .inl (cI, 335, .inl f_s)), (h_names, .inl (cJ, 36, .inr (.inl f_names))), (h_reserved, .inl (cJ, 23, .inr (.inl f_reserved)))]) (As := [.int 3]) (rest := []) hx hb hml hown hw (m_X10_bad l D cI cJ cB cP cM cZ h0 F455 y429 3 _ n471) wV_X10_205_X10_bad dX10_planLine_149 hK hP hD hS hA [2] [0, 1, 3, 4, 5] rfl rfl (by decide) (by decide) (by decide) 0 10 rfl rfl GG.fb hG.at hl.1 rfl (Nat.le_of_ble_eq_true rfl) ⟨(Nat.le_of_ble_eq_true rfl), (Nat.le_of_ble_eq_true rfl)⟩ ⟨(Nat.le_of_ble_eq_true rfl), (Nat.le_of_ble_eq_true rfl)⟩ (fun r472 u H locs hp hP hD hS => ?_)
          have zl3 : (3 : Int32).toInt = 3 := by decide
          obtain ⟨F473, t474, t475, t476, rfl, rfl⟩ := hp
          have hP : va_P D vwCl [(h_planRead, .inl (cI, 24, .inl f_planRead)), (h_tape, .inl (cB, 940, .inl f_tape)), (h_s, .inl (cI, 335, .inl f_s)), (h_names, .inl (cJ, 36, .inr (.inl f_names))), (h_reserved, .inl (cJ, 23, .inr (.inl f_reserved))), (h0, .inr (10, vL 67 F473))] H := hP
          have hD : va_D A [(h_planRead, .inl (cI, 24, .inl f_planRead)), (h_tape, .inl (cB, 940, .inl f_tape)), (h_s, .inl (cI, 335, .inl f_s)), (h_names, .inl (cJ, 36, .inr (.inl f_names))), (h_reserved, .inl (cJ, 23, .inr (.inl f_reserved))), (h0, .inr (10, vL 67 F473))] := hD
          refine W.widen (k := 0) (n := 0) (Nat.le_of_ble_eq_true rfl) (Nat.le_of_ble_eq_true rfl) ?_
          exact ret_i (v := 0) hx hb hr hlocks hS (hP.sub (ws' := [(h0, .inr (10, vL 67 F473)), (h_tape, .inl (cB, 940, .inl f_tape)), (h_s, .inl (cI, 335, .inl f_s)), (h_names, .inl (cJ, 36, .inr (.inl f_names))), (h_reserved, .inl (cJ, 23, .inr (.inl f_reserved))), (h_planRead, .inl (cI, 24, .inl f_planRead))]) [5, 1, 2, 3, 4, 0] rfl) (hD.sub (ws' := [(h0, .inr (10, vL 67 F473)), (h_tape, .inl (cB, 940, .inl f_tape)), (h_s, .inl (cI, 335, .inl f_s)), (h_names, .inl (cJ, 36, .inr (.inl f_names))), (h_reserved, .inl (cJ, 23, .inr (.inl f_reserved))), (h_planRead, .inl (cI, 24, .inl f_planRead))]) [5, 1, 2, 3, 4, 0] (by decide) rfl) dX10_planLine_152 rfl (Nat.le_of_ble_eq_true rfl) (Nat.le_of_ble_eq_true rfl) ⟨F473, y427, y428, y429, y430, y431, 3, y429, y432, y458, x_onces, x_jumped, x_heights, f_planRead, (SAME.tr (SAME.tr (SAME.tr SAME.rf t433 (by decide)) t459 (by decide)) t474 (by decide)), (SAME.at t474 (by decide) (SAME.at t459 (by decide) t434)), t435, (SAME.at t474 (by decide) (SAME.at t459 (by decide) t436)), t437, (SAME.at t474 (by decide) n471), (SAME.at t474 (by decide) (SAME.at t459 (by decide) t440)), (SAME.at t474 (by decide) (SAME.at t459 (by decide) t442)), t475, t476, (SAME.at t474 (by decide) (SAME.at t459 (by decide) t443)), (SAME.at t474 (by decide) t462), (SAME.at t474 (by decide) (SAME.at t459 (by decide) (SAME.at t433 (by decide) e_onces))), (SAME.at t474 (by decide) (SAME.at t459 (by decide) (SAME.at t433 (by decide) e_jumped))), (SAME.at t474 (by decide) (SAME.at t459 (by decide) (SAME.at t433 (by decide) e_heights))), s_planRead_1, s_planRead_10, (show 0 ≤ (0 : Int32).toInt ∧ (0 : Int32).toInt ≤ 1 by decide), (by have zl0 : (0 : Int32).toInt = 0 := (by decide); omega), (by have zl3 : (3 : Int32).toInt = 3 := (by decide); omega), rfl⟩
        · have dc470 : v469.toInt = 1 := eq_i (a := v469.toInt) (b := 1) rfl rfl c470
          have k478 : 1 ≤ v469.toInt ∧ v469.toInt ≤ 1 := ⟨Int.le_trans (Int.le_refl _) (Int.le_of_eq dc470.symm), Int.le_trans (Int.le_of_eq dc470) (Int.le_refl _)⟩
          refine lv_aload_n hx hb dX10_planLine_118 rfl (lv_at hl 0 rfl) ?_
          refine lv_aload_n hx hb dX10_planLine_119 rfl (lv_at hl 0 rfl) ?_
          refine get_f (D := D) (ci := 10) (v := .int y458) (C := RX10) (T := TX10) (N := 67) hx hb hw inAX10 hown hK hP 2 rfl rfl 19 (by decide) (hw _ q_1280) (fun _ h9 => h9) t462 dX10_planLine_120 ?_
          refine lv_iconst (v := 4) hx hb dX10_planLine_123 (by decide) ?_
          refine call_Vi (wr := [(h_tape, .inl (cB, 940, .inl f_tape)), (h_s, .inl (cI, 335, .inl f_s)), (h_names, .inl (cJ, 36, .inr (.inl f_names))), (h_reserved, .inl (cJ, 23, .inr (.inl f_reserved)))]) (As := [.int y458, .int 4]) (rest := []) hx hb hml hown hw (m_X10_placeIn l D cI cJ cB cP cM cZ h0 h_planRead F455 f_planRead y458 4 _ n468 s_planRead_1 s_planRead_10 (show 0 ≤ (4 : Int32).toInt ∧ (4 : Int32).toInt ≤ 4 by decide)) wV_X10_269_X10_placeIn dX10_planLine_124 hK hP hD hS hA [2, 0] [1, 3, 4, 5] rfl rfl (by decide) (by decide) (by decide) 0 10 rfl rfl GG.fb hG.at hl.1 rfl (Nat.le_of_ble_eq_true rfl) ⟨(Nat.le_of_ble_eq_true rfl), (Nat.le_of_ble_eq_true rfl)⟩ ⟨(Nat.le_of_ble_eq_true rfl), (Nat.le_of_ble_eq_true rfl)⟩ (fun r479 u H locs hp hP hD hS => ?_)
          have zl4 : (4 : Int32).toInt = 4 := by decide
          obtain ⟨t480, rfl⟩ := hp
          have hP : va_P D vwCl [(h_tape, .inl (cB, 940, .inl f_tape)), (h_s, .inl (cI, 335, .inl f_s)), (h_names, .inl (cJ, 36, .inr (.inl f_names))), (h_reserved, .inl (cJ, 23, .inr (.inl f_reserved))), (h0, .inr (10, vL 67 F455)), (h_planRead, .inl (cI, 24, .inl f_planRead))] H := hP
          have hD : va_D A [(h_tape, .inl (cB, 940, .inl f_tape)), (h_s, .inl (cI, 335, .inl f_s)), (h_names, .inl (cJ, 36, .inr (.inl f_names))), (h_reserved, .inl (cJ, 23, .inr (.inl f_reserved))), (h0, .inr (10, vL 67 F455)), (h_planRead, .inl (cI, 24, .inl f_planRead))] := hD
          refine W.widen (k := 0) (n := 0) (Nat.le_of_ble_eq_true rfl) (Nat.le_of_ble_eq_true rfl) ?_
          refine lv_goto (tgt := 131) hx hb dX10_planLine_127 (by decide) ?_
          refine lv_istore_n (lv' := [(1, .int r479), (0, .ref h0)]) hx hb dX10_planLine_131 rfl hl (by decide) rfl (fun ls hl => ?_)
          refine lv_iload_n hx hb dX10_planLine_132 rfl (lv_at hl 0 rfl) ?_
          refine lv_if_lt (tgt := 147) hx hb dX10_planLine_133 (by decide) (fun c482 => ?_) (fun c482 => ?_)
          · have dc482 : r479.toInt < 0 := lt_i (a := r479.toInt) (b := 0) rfl rfl c482
            have k483 : (-1) ≤ r479.toInt ∧ r479.toInt ≤ (-1) := ⟨t480.1, up_lt dc482 (Int.le_refl _) (by decide)⟩
            refine lv_aload_n hx hb dX10_planLine_147 rfl (lv_at hl 1 rfl) ?_
            refine lv_iconst (v := 3) hx hb dX10_planLine_148 (by decide) ?_
            have n484 : F455 12 = .int y429 := (SAME.at t459 (by decide) t438)
            refine call_Vi (wr := [(h_tape, .inl (cB, 940, .inl f_tape)), (h_s, .inl (cI, 335, .inl f_s)), (h_names, .inl (cJ, 36, .inr (.inl f_names))), (h_reserved, .inl (cJ, 23, .inr (.inl f_reserved))), (h_planRead, .inl (cI, 24, .inl f_planRead))]) (As := [.int 3]) (rest := []) hx hb hml hown hw (m_X10_bad l D cI cJ cB cP cM cZ h0 F455 y429 3 _ n484) wV_X10_205_X10_bad dX10_planLine_149 hK hP hD hS hA [4] [0, 1, 2, 3, 5] rfl rfl (by decide) (by decide) (by decide) 0 10 rfl rfl GG.fb hG.at hl.1 rfl (Nat.le_of_ble_eq_true rfl) ⟨(Nat.le_of_ble_eq_true rfl), (Nat.le_of_ble_eq_true rfl)⟩ ⟨(Nat.le_of_ble_eq_true rfl), (Nat.le_of_ble_eq_true rfl)⟩ (fun r485 u H locs hp hP hD hS => ?_)
            have zl3 : (3 : Int32).toInt = 3 := by decide
            obtain ⟨F486, t487, t488, t489, rfl, rfl⟩ := hp
            have hP : va_P D vwCl [(h_tape, .inl (cB, 940, .inl f_tape)), (h_s, .inl (cI, 335, .inl f_s)), (h_names, .inl (cJ, 36, .inr (.inl f_names))), (h_reserved, .inl (cJ, 23, .inr (.inl f_reserved))), (h_planRead, .inl (cI, 24, .inl f_planRead)), (h0, .inr (10, vL 67 F486))] H := hP
            have hD : va_D A [(h_tape, .inl (cB, 940, .inl f_tape)), (h_s, .inl (cI, 335, .inl f_s)), (h_names, .inl (cJ, 36, .inr (.inl f_names))), (h_reserved, .inl (cJ, 23, .inr (.inl f_reserved))), (h_planRead, .inl (cI, 24, .inl f_planRead)), (h0, .inr (10, vL 67 F486))] := hD
            refine W.widen (k := 0) (n := 0) (Nat.le_of_ble_eq_true rfl) (Nat.le_of_ble_eq_true rfl) ?_
            exact ret_i (v := 0) hx hb hr hlocks hS (hP.sub (ws' := [(h0, .inr (10, vL 67 F486)), (h_tape, .inl (cB, 940, .inl f_tape)), (h_s, .inl (cI, 335, .inl f_s)), (h_names, .inl (cJ, 36, .inr (.inl f_names))), (h_reserved, .inl (cJ, 23, .inr (.inl f_reserved))), (h_planRead, .inl (cI, 24, .inl f_planRead))]) [5, 0, 1, 2, 3, 4] rfl) (hD.sub (ws' := [(h0, .inr (10, vL 67 F486)), (h_tape, .inl (cB, 940, .inl f_tape)), (h_s, .inl (cI, 335, .inl f_s)), (h_names, .inl (cJ, 36, .inr (.inl f_names))), (h_reserved, .inl (cJ, 23, .inr (.inl f_reserved))), (h_planRead, .inl (cI, 24, .inl f_planRead))]) [5, 0, 1, 2, 3, 4] (by decide) rfl) dX10_planLine_152 rfl (Nat.le_of_ble_eq_true rfl) (Nat.le_of_ble_eq_true rfl) ⟨F486, y427, y428, y429, y430, y431, 3, y429, y432, y458, x_onces, x_jumped, x_heights, f_planRead, (SAME.tr (SAME.tr (SAME.tr SAME.rf t433 (by decide)) t459 (by decide)) t487 (by decide)), (SAME.at t487 (by decide) (SAME.at t459 (by decide) t434)), t435, (SAME.at t487 (by decide) (SAME.at t459 (by decide) t436)), t437, (SAME.at t487 (by decide) n484), (SAME.at t487 (by decide) (SAME.at t459 (by decide) t440)), (SAME.at t487 (by decide) (SAME.at t459 (by decide) t442)), t488, t489, (SAME.at t487 (by decide) (SAME.at t459 (by decide) t443)), (SAME.at t487 (by decide) t462), (SAME.at t487 (by decide) (SAME.at t459 (by decide) (SAME.at t433 (by decide) e_onces))), (SAME.at t487 (by decide) (SAME.at t459 (by decide) (SAME.at t433 (by decide) e_jumped))), (SAME.at t487 (by decide) (SAME.at t459 (by decide) (SAME.at t433 (by decide) e_heights))), s_planRead_1, s_planRead_10, (show 0 ≤ (0 : Int32).toInt ∧ (0 : Int32).toInt ≤ 1 by decide), (by have zl0 : (0 : Int32).toInt = 0 := (by decide); omega), (by have zl3 : (3 : Int32).toInt = 3 := (by decide); omega), rfl⟩
          · have dc482 : 0 ≤ r479.toInt := nlt_i (a := r479.toInt) (b := 0) rfl rfl c482
            have k491 : 0 ≤ r479.toInt ∧ r479.toInt ≤ 3 := ⟨Int.le_trans (Int.le_refl _) dc482, t480.2⟩
            refine lv_aload_n hx hb dX10_planLine_136 rfl (lv_at hl 1 rfl) ?_
            have n492 : F426 23 = .int x_jumped := (SAME.at t433 (by decide) e_jumped)
            have n493 : F455 23 = .int x_jumped := (SAME.at t459 (by decide) n492)
            refine get_f (D := D) (ci := 10) (v := .int x_jumped) (C := RX10) (T := TX10) (N := 67) hx hb hw inAX10 hown hK hP 4 rfl rfl 23 (by decide) (hw _ q_1284) (fun _ h9 => h9) n493 dX10_planLine_137 ?_
            refine lv_iload_n hx hb dX10_planLine_140 rfl (lv_at hl 0 rfl) ?_
            refine call_Si (wr := [(h_tape, .inl (cB, 940, .inl f_tape)), (h_s, .inl (cI, 335, .inl f_s)), (h_names, .inl (cJ, 36, .inr (.inl f_names))), (h_reserved, .inl (cJ, 23, .inr (.inl f_reserved))), (h0, .inr (10, vL 67 F455)), (h_planRead, .inl (cI, 24, .inl f_planRead))]) (As := [.int x_jumped, .int r479]) (rest := []) hx hb hml hown hw (m_X10_bitOf l D cI cJ cB cP cM cZ x_jumped r479 _ ) wS_X10_232_X10_bitOf dX10_planLine_141 hP hD hS hA [] [0, 1, 2, 3, 4, 5] rfl rfl (by decide) (by decide) (by decide) GG.fb hG.at hl.1 rfl (Nat.le_of_ble_eq_true rfl) ⟨(Nat.le_of_ble_eq_true rfl), (Nat.le_of_ble_eq_true rfl)⟩ ⟨(Nat.le_of_ble_eq_true rfl), (Nat.le_of_ble_eq_true rfl)⟩ (fun r494 u H locs hp hP hD hS => ?_)
            rcases hp with ⟨rfl, rfl⟩ | ⟨rfl, rfl⟩
            · have hP : va_P D vwCl [(h_tape, .inl (cB, 940, .inl f_tape)), (h_s, .inl (cI, 335, .inl f_s)), (h_names, .inl (cJ, 36, .inr (.inl f_names))), (h_reserved, .inl (cJ, 23, .inr (.inl f_reserved))), (h0, .inr (10, vL 67 F455)), (h_planRead, .inl (cI, 24, .inl f_planRead))] H := hP
              have hD : va_D A [(h_tape, .inl (cB, 940, .inl f_tape)), (h_s, .inl (cI, 335, .inl f_s)), (h_names, .inl (cJ, 36, .inr (.inl f_names))), (h_reserved, .inl (cJ, 23, .inr (.inl f_reserved))), (h0, .inr (10, vL 67 F455)), (h_planRead, .inl (cI, 24, .inl f_planRead))] := hD
              refine W.widen (k := 0) (n := 0) (Nat.le_of_ble_eq_true rfl) (Nat.le_of_ble_eq_true rfl) ?_
              refine lv_if_eq (tgt := 153) hx hb dX10_planLine_144 (by decide) (fun _ => ?_) (fun g => absurd (by decide) g)
              refine lv_aload_n hx hb dX10_planLine_153 rfl (lv_at hl 1 rfl) ?_
              refine lv_dup hx hb dX10_planLine_154 rfl ?_
              refine get_f (D := D) (ci := 10) (v := .int x_jumped) (C := RX10) (T := TX10) (N := 67) hx hb hw inAX10 hown hK hP 4 rfl rfl 23 (by decide) (hw _ q_1284) (fun _ h9 => h9) n493 dX10_planLine_155 ?_
              refine lv_iconst (v := 1) hx hb dX10_planLine_158 (by decide) ?_
              refine lv_iload_n hx hb dX10_planLine_159 rfl (lv_at hl 0 rfl) ?_
              refine lv_ishl hx hb dX10_planLine_160 ?_
              refine lv_topi (fun v496 ev496 => ?_)
              have k497 : 1 ≤ v496.toInt ∧ v496.toInt ≤ 8 := by rw [ev496]; exact shl1_i (Int.le_trans (by decide) k491.1) (Int.le_trans k491.2 (by decide))
              refine lv_ior hx hb dX10_planLine_161 ?_
              refine lv_topi (fun v498 ev498 => ?_)
              refine put_f (D := D) (ci := 10) (v := .int v498) (ty := .int) (C := RX10) (T := TX10) (N := 67) hx hb hw inAX10 tyX10 tyX10_ok nmX10 hown hK hP hD hS 4 rfl rfl 23 (by decide) (hw _ q_1284) (fun _ h9 => h9) rfl (by decide +kernel) rfl rfl dX10_planLine_162 (fun H locs F499 eF499 hP hD hS => ?_)
              have hP : va_P D vwCl [(h_tape, .inl (cB, 940, .inl f_tape)), (h_s, .inl (cI, 335, .inl f_s)), (h_names, .inl (cJ, 36, .inr (.inl f_names))), (h_reserved, .inl (cJ, 23, .inr (.inl f_reserved))), (h0, .inr (10, vL 67 F499)), (h_planRead, .inl (cI, 24, .inl f_planRead))] H := hP
              have hD : va_D A [(h_tape, .inl (cB, 940, .inl f_tape)), (h_s, .inl (cI, 335, .inl f_s)), (h_names, .inl (cJ, 36, .inr (.inl f_names))), (h_reserved, .inl (cJ, 23, .inr (.inl f_reserved))), (h0, .inr (10, vL 67 F499)), (h_planRead, .inl (cI, 24, .inl f_planRead))] := hD
              refine lv_aload_n hx hb dX10_planLine_165 rfl (lv_at hl 1 rfl) ?_
              have n500 : F426 1 = .ref h_tape := (SAME.at t433 (by decide) e_tape)
              have n501 : F455 1 = .ref h_tape := (SAME.at t459 (by decide) n500)
              have n502 : F499 1 = .ref h_tape := (get_ne eF499 (by decide) n501)
              have n503 : F426 3 = .int x_size := (SAME.at t433 (by decide) e_size)
              have n504 : F455 3 = .int x_size := (SAME.at t459 (by decide) n503)
              have n505 : F499 3 = .int x_size := (get_ne eF499 (by decide) n504)
              have n506 : F455 4 = .int y427 := (SAME.at t459 (by decide) t434)
              have n507 : F499 4 = .int y427 := (get_ne eF499 (by decide) n506)
              have n508 : F426 5 = .int x_limit := (SAME.at t433 (by decide) e_limit)
              have n509 : F455 5 = .int x_limit := (SAME.at t459 (by decide) n508)
              have n510 : F499 5 = .int x_limit := (get_ne eF499 (by decide) n509)
              have n511 : F455 11 = .int y428 := (SAME.at t459 (by decide) t436)
              have n512 : F499 11 = .int y428 := (get_ne eF499 (by decide) n511)
              have n513 : F455 14 = .int y431 := (SAME.at t459 (by decide) t442)
              have n514 : F499 14 = .int y431 := (get_ne eF499 (by decide) n513)
              have n515 : F455 18 = .long y432 := (SAME.at t459 (by decide) t443)
              have n516 : F499 18 = .long y432 := (get_ne eF499 (by decide) n515)
              refine call_Vv (wr := [(h_s, .inl (cI, 335, .inl f_s)), (h_names, .inl (cJ, 36, .inr (.inl f_names))), (h_reserved, .inl (cJ, 23, .inr (.inl f_reserved))), (h_planRead, .inl (cI, 24, .inl f_planRead))]) (As := []) (rest := []) hx hb hml hown hw (m_X10_next l D cI cJ cB cP cM cZ h0 h_tape F499 x_size y427 x_limit y428 y431 y432 f_tape _ n502 n505 i_x_size n507 t435 n510 i_x_limit n512 t437 n514 n516 (by omega)) wV_X10_208_X10_next dX10_planLine_166 hK hP hD hS hA [4, 0] [1, 2, 3, 5] rfl rfl (by decide) (by decide) (by decide) 0 10 rfl rfl GG.fb hG.at hl.1 rfl (Nat.le_of_ble_eq_true rfl) ⟨(Nat.le_of_ble_eq_true rfl), (Nat.le_of_ble_eq_true rfl)⟩ ⟨(Nat.le_of_ble_eq_true rfl), (Nat.le_of_ble_eq_true rfl)⟩ (fun u H locs hp hP hD hS => ?_)
              obtain ⟨F518, y519, y520, y521, y522, y523, y524, t525, t526, t527, t528, t529, t530, t531, t532, t533, t534, t535, t536, t537, t538, rfl⟩ := hp
              have hP : va_P D vwCl [(h_s, .inl (cI, 335, .inl f_s)), (h_names, .inl (cJ, 36, .inr (.inl f_names))), (h_reserved, .inl (cJ, 23, .inr (.inl f_reserved))), (h_planRead, .inl (cI, 24, .inl f_planRead)), (h0, .inr (10, vL 67 F518)), (h_tape, .inl (cB, 940, .inl f_tape))] H := hP
              have hD : va_D A [(h_s, .inl (cI, 335, .inl f_s)), (h_names, .inl (cJ, 36, .inr (.inl f_names))), (h_reserved, .inl (cJ, 23, .inr (.inl f_reserved))), (h_planRead, .inl (cI, 24, .inl f_planRead)), (h0, .inr (10, vL 67 F518)), (h_tape, .inl (cB, 940, .inl f_tape))] := hD
              refine W.widen (k := 0) (n := 0) (Nat.le_of_ble_eq_true rfl) (Nat.le_of_ble_eq_true rfl) ?_
              refine lv_aload_n hx hb dX10_planLine_169 rfl (lv_at hl 1 rfl) ?_
              refine lv_iconst (v := 0) hx hb dX10_planLine_170 (by decide) ?_
              refine lv_aload_n hx hb dX10_planLine_171 rfl (lv_at hl 1 rfl) ?_
              have n540 : F455 6 = .ref h_s := (SAME.at t459 (by decide) n448)
              have n541 : F499 6 = .ref h_s := (get_ne eF499 (by decide) n540)
              have n542 : F518 6 = .ref h_s := (SAME.at t525 (by decide) n541)
              refine get_f (D := D) (ci := 10) (v := .ref h_s) (C := RX10) (T := TX10) (N := 67) hx hb hw inAX10 hown hK hP 4 rfl rfl 6 (by decide) (hw _ q_1267) (fun _ h9 => h9) n542 dX10_planLine_172 ?_
              refine lv_iconst (v := 0) hx hb dX10_planLine_175 (by decide) ?_
              refine iald_n hx hb hK hP 0 0 rfl rfl 0 rfl (Nat.le_of_ble_eq_true rfl) (Nat.le_of_ble_eq_true rfl) rfl dX10_planLine_176 ?_
              refine lv_topi (fun v543 ev543 => ?_)
              have k544 : 0 ≤ v543.toInt ∧ v543.toInt ≤ 40 := by rw [ev543]; exact s_s_0.atN 0 (by decide) (by decide)
              refine lv_iconst (v := 1) hx hb dX10_planLine_177 (by decide) ?_
              refine lv_isub hx hb dX10_planLine_178 ?_
              refine lv_topi (fun v545 ev545 => ?_)
              have bv545 : v545.toInt = v543.toInt - 1 := by rw [ev545]; exact sub_k rfl rfl k544 ⟨Int.le_refl _, Int.le_refl _⟩ (by decide)
              have k546 : (-1) ≤ v545.toInt ∧ v545.toInt ≤ 39 := sub_r bv545 k544 ⟨Int.le_refl _, Int.le_refl _⟩ (by decide)
              have n547 : F518 1 = .ref h_tape := (SAME.at t525 (by decide) n502)
              have n548 : F518 3 = .int x_size := (SAME.at t525 (by decide) n505)
              have n549 : F518 5 = .int x_limit := (SAME.at t525 (by decide) n510)
              refine call_Vi (wr := [(h_s, .inl (cI, 335, .inl f_s)), (h_names, .inl (cJ, 36, .inr (.inl f_names))), (h_reserved, .inl (cJ, 23, .inr (.inl f_reserved))), (h_planRead, .inl (cI, 24, .inl f_planRead))]) (As := [.int 0, .int v545]) (rest := []) hx hb hml hown hw (m_X10_takes l D cI cJ cB cP cM cZ h0 h_tape F518 x_size y519 x_limit y520 y521 y523 y524 f_tape 0 v545 _ n547 n548 i_x_size t526 t527 n549 i_x_limit t528 t529 t530 t534 t535 (by omega)) wV_X10_242_X10_takes dX10_planLine_179 hK hP hD hS hA [4, 5] [0, 1, 2, 3] rfl rfl (by decide) (by decide) (by decide) 0 10 rfl rfl GG.fb hG.at hl.1 rfl (Nat.le_of_ble_eq_true rfl) ⟨(Nat.le_of_ble_eq_true rfl), (Nat.le_of_ble_eq_true rfl)⟩ ⟨(Nat.le_of_ble_eq_true rfl), (Nat.le_of_ble_eq_true rfl)⟩ (fun r550 u H locs hp hP hD hS => ?_)
              have zl0 : (0 : Int32).toInt = 0 := by decide
              rcases hp with hp | hp
              · obtain ⟨F551, y552, t553, t554, t555, t556, t557, rfl, rfl⟩ := hp
                have hP : va_P D vwCl [(h_s, .inl (cI, 335, .inl f_s)), (h_names, .inl (cJ, 36, .inr (.inl f_names))), (h_reserved, .inl (cJ, 23, .inr (.inl f_reserved))), (h_planRead, .inl (cI, 24, .inl f_planRead)), (h0, .inr (10, vL 67 F551)), (h_tape, .inl (cB, 940, .inl f_tape))] H := hP
                have hD : va_D A [(h_s, .inl (cI, 335, .inl f_s)), (h_names, .inl (cJ, 36, .inr (.inl f_names))), (h_reserved, .inl (cJ, 23, .inr (.inl f_reserved))), (h_planRead, .inl (cI, 24, .inl f_planRead)), (h0, .inr (10, vL 67 F551)), (h_tape, .inl (cB, 940, .inl f_tape))] := hD
                refine W.widen (k := 0) (n := 0) (Nat.le_of_ble_eq_true rfl) (Nat.le_of_ble_eq_true rfl) ?_
                refine lv_if_ne (tgt := 187) hx hb dX10_planLine_182 (by decide) (fun g => absurd (by decide) g) (fun _ => ?_)
                refine lv_iconst (v := 0) hx hb dX10_planLine_185 (by decide) ?_
                exact ret_i (v := 0) hx hb hr hlocks hS (hP.sub (ws' := [(h0, .inr (10, vL 67 F551)), (h_tape, .inl (cB, 940, .inl f_tape)), (h_s, .inl (cI, 335, .inl f_s)), (h_names, .inl (cJ, 36, .inr (.inl f_names))), (h_reserved, .inl (cJ, 23, .inr (.inl f_reserved))), (h_planRead, .inl (cI, 24, .inl f_planRead))]) [4, 5, 0, 1, 2, 3] rfl) (hD.sub (ws' := [(h0, .inr (10, vL 67 F551)), (h_tape, .inl (cB, 940, .inl f_tape)), (h_s, .inl (cI, 335, .inl f_s)), (h_names, .inl (cJ, 36, .inr (.inl f_names))), (h_reserved, .inl (cJ, 23, .inr (.inl f_reserved))), (h_planRead, .inl (cI, 24, .inl f_planRead))]) [4, 5, 0, 1, 2, 3] (by decide) rfl) dX10_planLine_186 rfl (Nat.le_of_ble_eq_true rfl) (Nat.le_of_ble_eq_true rfl) ⟨F551, y519, y520, y521, y522, y523, y552, y521, y524, y458, x_onces, v498, x_heights, f_planRead, (SAME.tr (SAME.tr (SAME.up eF499 (SAME.tr (SAME.tr SAME.rf t433 (by decide)) t459 (by decide)) (by decide)) t525 (by decide)) t553 (by decide)), (SAME.at t553 (by decide) t526), t527, (SAME.at t553 (by decide) t528), t529, (SAME.at t553 (by decide) t530), (SAME.at t553 (by decide) t532), (SAME.at t553 (by decide) t534), t554, t556, (SAME.at t553 (by decide) t535), (SAME.at t553 (by decide) (SAME.at t525 (by decide) (get_ne eF499 (by decide) t462))), (SAME.at t553 (by decide) (SAME.at t525 (by decide) (get_ne eF499 (by decide) (SAME.at t459 (by decide) (SAME.at t433 (by decide) e_onces))))), (SAME.at t553 (by decide) (SAME.at t525 (by decide) (get_eq eF499))), (SAME.at t553 (by decide) (SAME.at t525 (by decide) (get_ne eF499 (by decide) (SAME.at t459 (by decide) (SAME.at t433 (by decide) e_heights))))), s_planRead_1, s_planRead_10, (show 0 ≤ (0 : Int32).toInt ∧ (0 : Int32).toInt ≤ 1 by decide), (by have zl0 : (0 : Int32).toInt = 0 := (by decide); omega), (by omega), rfl⟩
              · refine hp.elim (fun F558 h9z => h9z.elim (fun y559 h9z => h9z.elim (fun y560 h9z => h9z.elim (fun y561 h9z => h9z.elim (fun y562 h9z => h9z.elim (fun y563 h9z => h9z.elim (fun y564 h9z => h9z.elim (fun y565 h9z => h9z.elim (fun t566 h9z => h9z.elim (fun t567 h9z => h9z.elim (fun t568 h9z => h9z.elim (fun t569 h9z => h9z.elim (fun t570 h9z => h9z.elim (fun t571 h9z => h9z.elim (fun t572 h9z => h9z.elim (fun t573 h9z => h9z.elim (fun t574 h9z => h9z.elim (fun t575 h9z => h9z.elim (fun t576 h9z => h9z.elim (fun t577 h9z => h9z.elim (fun t578 h9z => h9z.elim (fun t579 h9z => h9z.elim (fun t580 h9z => h9z.elim (fun t581 h9z => h9z.elim (fun t582 h9z => h9z.elim (fun heq925 h9z => ?_))))))))))))))))))))))))))
                subst heq925
                subst h9z
                have hP : va_P D vwCl [(h_s, .inl (cI, 335, .inl f_s)), (h_names, .inl (cJ, 36, .inr (.inl f_names))), (h_reserved, .inl (cJ, 23, .inr (.inl f_reserved))), (h_planRead, .inl (cI, 24, .inl f_planRead)), (h0, .inr (10, vL 67 F558)), (h_tape, .inl (cB, 940, .inl f_tape))] H := hP
                have hD : va_D A [(h_s, .inl (cI, 335, .inl f_s)), (h_names, .inl (cJ, 36, .inr (.inl f_names))), (h_reserved, .inl (cJ, 23, .inr (.inl f_reserved))), (h_planRead, .inl (cI, 24, .inl f_planRead)), (h0, .inr (10, vL 67 F558)), (h_tape, .inl (cB, 940, .inl f_tape))] := hD
                refine W.widen (k := 0) (n := 0) (Nat.le_of_ble_eq_true rfl) (Nat.le_of_ble_eq_true rfl) ?_
                have k584 : 2 ≤ y520.toInt ∧ y520.toInt ≤ 2 := ⟨Int.le_trans (Int.le_refl _) (Int.le_of_eq t578.symm), Int.le_trans (Int.le_of_eq t578) (Int.le_refl _)⟩
                have k585 : 0 ≤ y523.toInt ∧ y523.toInt ≤ 2147483647 := ⟨Int.le_trans (Int.le_refl _) t579, (ir_any _).2⟩
                have k586 : 0 ≤ y523.toInt ∧ y523.toInt ≤ 39 := ⟨k585.1, Int.le_trans t580 k546.2⟩
                have k587 : 0 ≤ v545.toInt ∧ v545.toInt ≤ 39 := ⟨Int.le_trans k585.1 t580, k546.2⟩
                have k588 : 1 ≤ v543.toInt ∧ v543.toInt ≤ 40 := ⟨lin_lo (lin_m bv545) k587.1 (by decide), k544.2⟩
                refine lv_if_ne (tgt := 187) hx hb dX10_planLine_182 (by decide) (fun _ => ?_) (fun g => absurd g (by decide))
                refine lv_aload_n hx hb dX10_planLine_187 rfl (lv_at hl 1 rfl) ?_
                have n589 : F499 22 = .ref h_planRead := (get_ne eF499 (by decide) n468)
                have n590 : F518 22 = .ref h_planRead := (SAME.at t525 (by decide) n589)
                have n591 : F558 22 = .ref h_planRead := (SAME.at t566 (by decide) n590)
                refine get_f (D := D) (ci := 10) (v := .ref h_planRead) (C := RX10) (T := TX10) (N := 67) hx hb hw inAX10 hown hK hP 4 rfl rfl 22 (by decide) (hw _ q_1283) (fun _ h9 => h9) n591 dX10_planLine_188 ?_
                refine lv_iconst (v := 5) hx hb dX10_planLine_191 (by decide) ?_
                refine lv_iload_n hx hb dX10_planLine_192 rfl (lv_at hl 0 rfl) ?_
                refine lv_iadd hx hb dX10_planLine_193 ?_
                refine lv_topi (fun v592 ev592 => ?_)
                have bv592 : v592.toInt = 5 + r479.toInt := by rw [ev592]; exact add_k rfl rfl ⟨Int.le_refl _, Int.le_refl _⟩ k491 (by decide)
                have k593 : 5 ≤ v592.toInt ∧ v592.toInt ≤ 8 := add_r bv592 ⟨Int.le_refl _, Int.le_refl _⟩ k491 (by decide)
                refine lv_aload_n hx hb dX10_planLine_194 rfl (lv_at hl 1 rfl) ?_
                refine get_f (D := D) (ci := 10) (v := .int y565) (C := RX10) (T := TX10) (N := 67) hx hb hw inAX10 hown hK hP 4 rfl rfl 19 (by decide) (hw _ q_1280) (fun _ h9 => h9) t577 dX10_planLine_195 ?_
                obtain ⟨g594, eg594⟩ : ∃ z : Nat → Int32, upd f_planRead v592.toNatClampNeg y565 = z := ⟨_, rfl⟩
                have r595 : SG 1 4 0 11 g594 := by rw [← eg594]; exact s_planRead_1.up (Int.le_trans (by decide) k593.1) (Or.inr (Or.inl (dec_lt k593.1 (by decide))))
                have r596 : SG 10 10 0 5 g594 := by rw [← eg594]; exact s_planRead_10.up (Int.le_trans (by decide) k593.1) (Or.inl (lt_dec k593.2 (by decide)))
                refine iast_g hx hb hK hP hD hS 3 0 rfl rfl (ix_k k593 (by decide) (by decide)) eg594 dX10_planLine_198 (fun H locs hP hD hS => ?_)
                have hP : va_P D vwCl [(h_s, .inl (cI, 335, .inl f_s)), (h_names, .inl (cJ, 36, .inr (.inl f_names))), (h_reserved, .inl (cJ, 23, .inr (.inl f_reserved))), (h_planRead, .inl (cI, 24, .inl g594)), (h0, .inr (10, vL 67 F558)), (h_tape, .inl (cB, 940, .inl f_tape))] H := hP
                have hD : va_D A [(h_s, .inl (cI, 335, .inl f_s)), (h_names, .inl (cJ, 36, .inr (.inl f_names))), (h_reserved, .inl (cJ, 23, .inr (.inl f_reserved))), (h_planRead, .inl (cI, 24, .inl g594)), (h0, .inr (10, vL 67 F558)), (h_tape, .inl (cB, 940, .inl f_tape))] := hD
                refine lv_iconst (v := 1) hx hb dX10_planLine_199 (by decide) ?_
                exact ret_i (v := 1) hx hb hr hlocks hS (hP.sub (ws' := [(h0, .inr (10, vL 67 F558)), (h_tape, .inl (cB, 940, .inl f_tape)), (h_s, .inl (cI, 335, .inl f_s)), (h_names, .inl (cJ, 36, .inr (.inl f_names))), (h_reserved, .inl (cJ, 23, .inr (.inl f_reserved))), (h_planRead, .inl (cI, 24, .inl g594))]) [4, 5, 0, 1, 2, 3] rfl) (hD.sub (ws' := [(h0, .inr (10, vL 67 F558)), (h_tape, .inl (cB, 940, .inl f_tape)), (h_s, .inl (cI, 335, .inl f_s)), (h_names, .inl (cJ, 36, .inr (.inl f_names))), (h_reserved, .inl (cJ, 23, .inr (.inl f_reserved))), (h_planRead, .inl (cI, 24, .inl g594))]) [4, 5, 0, 1, 2, 3] (by decide) rfl) dX10_planLine_200 rfl (Nat.le_of_ble_eq_true rfl) (Nat.le_of_ble_eq_true rfl) ⟨F558, y559, y560, y561, y562, y563, y456, y457, y564, y565, x_onces, v498, x_heights, g594, (SAME.tr (SAME.tr (SAME.up eF499 (SAME.tr (SAME.tr SAME.rf t433 (by decide)) t459 (by decide)) (by decide)) t525 (by decide)) t566 (by decide)), t567, t568, t569, t570, t571, t573, t575, (SAME.at t566 (by decide) (SAME.at t525 (by decide) (get_ne eF499 (by decide) t460))), (SAME.at t566 (by decide) (SAME.at t525 (by decide) (get_ne eF499 (by decide) t461))), t576, t577, (SAME.at t566 (by decide) (SAME.at t525 (by decide) (get_ne eF499 (by decide) (SAME.at t459 (by decide) (SAME.at t433 (by decide) e_onces))))), (SAME.at t566 (by decide) (SAME.at t525 (by decide) (get_eq eF499))), (SAME.at t566 (by decide) (SAME.at t525 (by decide) (get_ne eF499 (by decide) (SAME.at t459 (by decide) (SAME.at t433 (by decide) e_heights))))), r595, r596, (show 0 ≤ (1 : Int32).toInt ∧ (1 : Int32).toInt ≤ 1 by decide), (by have zl1 : (1 : Int32).toInt = 1 := (by decide); omega), (by omega), rfl⟩
            · have hP : va_P D vwCl [(h_tape, .inl (cB, 940, .inl f_tape)), (h_s, .inl (cI, 335, .inl f_s)), (h_names, .inl (cJ, 36, .inr (.inl f_names))), (h_reserved, .inl (cJ, 23, .inr (.inl f_reserved))), (h0, .inr (10, vL 67 F455)), (h_planRead, .inl (cI, 24, .inl f_planRead))] H := hP
              have hD : va_D A [(h_tape, .inl (cB, 940, .inl f_tape)), (h_s, .inl (cI, 335, .inl f_s)), (h_names, .inl (cJ, 36, .inr (.inl f_names))), (h_reserved, .inl (cJ, 23, .inr (.inl f_reserved))), (h0, .inr (10, vL 67 F455)), (h_planRead, .inl (cI, 24, .inl f_planRead))] := hD
              refine W.widen (k := 0) (n := 0) (Nat.le_of_ble_eq_true rfl) (Nat.le_of_ble_eq_true rfl) ?_
              refine lv_if_eq (tgt := 153) hx hb dX10_planLine_144 (by decide) (fun g => absurd g (by decide)) (fun _ => ?_)
              refine lv_aload_n hx hb dX10_planLine_147 rfl (lv_at hl 1 rfl) ?_
              refine lv_iconst (v := 3) hx hb dX10_planLine_148 (by decide) ?_
              have n597 : F455 12 = .int y429 := (SAME.at t459 (by decide) t438)
              refine call_Vi (wr := [(h_tape, .inl (cB, 940, .inl f_tape)), (h_s, .inl (cI, 335, .inl f_s)), (h_names, .inl (cJ, 36, .inr (.inl f_names))), (h_reserved, .inl (cJ, 23, .inr (.inl f_reserved))), (h_planRead, .inl (cI, 24, .inl f_planRead))]) (As := [.int 3]) (rest := []) hx hb hml hown hw (m_X10_bad l D cI cJ cB cP cM cZ h0 F455 y429 3 _ n597) wV_X10_205_X10_bad dX10_planLine_149 hK hP hD hS hA [4] [0, 1, 2, 3, 5] rfl rfl (by decide) (by decide) (by decide) 0 10 rfl rfl GG.fb hG.at hl.1 rfl (Nat.le_of_ble_eq_true rfl) ⟨(Nat.le_of_ble_eq_true rfl), (Nat.le_of_ble_eq_true rfl)⟩ ⟨(Nat.le_of_ble_eq_true rfl), (Nat.le_of_ble_eq_true rfl)⟩ (fun r598 u H locs hp hP hD hS => ?_)
              have zl3 : (3 : Int32).toInt = 3 := by decide
              obtain ⟨F599, t600, t601, t602, rfl, rfl⟩ := hp
              have hP : va_P D vwCl [(h_tape, .inl (cB, 940, .inl f_tape)), (h_s, .inl (cI, 335, .inl f_s)), (h_names, .inl (cJ, 36, .inr (.inl f_names))), (h_reserved, .inl (cJ, 23, .inr (.inl f_reserved))), (h_planRead, .inl (cI, 24, .inl f_planRead)), (h0, .inr (10, vL 67 F599))] H := hP
              have hD : va_D A [(h_tape, .inl (cB, 940, .inl f_tape)), (h_s, .inl (cI, 335, .inl f_s)), (h_names, .inl (cJ, 36, .inr (.inl f_names))), (h_reserved, .inl (cJ, 23, .inr (.inl f_reserved))), (h_planRead, .inl (cI, 24, .inl f_planRead)), (h0, .inr (10, vL 67 F599))] := hD
              refine W.widen (k := 0) (n := 0) (Nat.le_of_ble_eq_true rfl) (Nat.le_of_ble_eq_true rfl) ?_
              exact ret_i (v := 0) hx hb hr hlocks hS (hP.sub (ws' := [(h0, .inr (10, vL 67 F599)), (h_tape, .inl (cB, 940, .inl f_tape)), (h_s, .inl (cI, 335, .inl f_s)), (h_names, .inl (cJ, 36, .inr (.inl f_names))), (h_reserved, .inl (cJ, 23, .inr (.inl f_reserved))), (h_planRead, .inl (cI, 24, .inl f_planRead))]) [5, 0, 1, 2, 3, 4] rfl) (hD.sub (ws' := [(h0, .inr (10, vL 67 F599)), (h_tape, .inl (cB, 940, .inl f_tape)), (h_s, .inl (cI, 335, .inl f_s)), (h_names, .inl (cJ, 36, .inr (.inl f_names))), (h_reserved, .inl (cJ, 23, .inr (.inl f_reserved))), (h_planRead, .inl (cI, 24, .inl f_planRead))]) [5, 0, 1, 2, 3, 4] (by decide) rfl) dX10_planLine_152 rfl (Nat.le_of_ble_eq_true rfl) (Nat.le_of_ble_eq_true rfl) ⟨F599, y427, y428, y429, y430, y431, 3, y429, y432, y458, x_onces, x_jumped, x_heights, f_planRead, (SAME.tr (SAME.tr (SAME.tr SAME.rf t433 (by decide)) t459 (by decide)) t600 (by decide)), (SAME.at t600 (by decide) (SAME.at t459 (by decide) t434)), t435, (SAME.at t600 (by decide) (SAME.at t459 (by decide) t436)), t437, (SAME.at t600 (by decide) n597), (SAME.at t600 (by decide) (SAME.at t459 (by decide) t440)), (SAME.at t600 (by decide) (SAME.at t459 (by decide) t442)), t601, t602, (SAME.at t600 (by decide) (SAME.at t459 (by decide) t443)), (SAME.at t600 (by decide) t462), (SAME.at t600 (by decide) (SAME.at t459 (by decide) (SAME.at t433 (by decide) e_onces))), (SAME.at t600 (by decide) n493), (SAME.at t600 (by decide) (SAME.at t459 (by decide) (SAME.at t433 (by decide) e_heights))), s_planRead_1, s_planRead_10, (show 0 ≤ (0 : Int32).toInt ∧ (0 : Int32).toInt ≤ 1 by decide), (by have zl0 : (0 : Int32).toInt = 0 := (by decide); omega), (by have zl3 : (3 : Int32).toInt = 3 := (by decide); omega), rfl⟩
      · have dc465 : r454.toInt = 0 := eq_i (a := r454.toInt) (b := 0) rfl rfl c465
        have k604 : 0 ≤ r454.toInt ∧ r454.toInt ≤ 0 := ⟨t463.1, Int.le_trans (Int.le_of_eq dc465) (Int.le_refl _)⟩
        refine lv_iconst (v := 0) hx hb dX10_planLine_106 (by decide) ?_
        exact ret_i (v := 0) hx hb hr hlocks hS (hP.sub (ws' := [(h0, .inr (10, vL 67 F455)), (h_tape, .inl (cB, 940, .inl f_tape)), (h_s, .inl (cI, 335, .inl f_s)), (h_names, .inl (cJ, 36, .inr (.inl f_names))), (h_reserved, .inl (cJ, 23, .inr (.inl f_reserved))), (h_planRead, .inl (cI, 24, .inl f_planRead))]) [2, 1, 3, 4, 5, 0] rfl) (hD.sub (ws' := [(h0, .inr (10, vL 67 F455)), (h_tape, .inl (cB, 940, .inl f_tape)), (h_s, .inl (cI, 335, .inl f_s)), (h_names, .inl (cJ, 36, .inr (.inl f_names))), (h_reserved, .inl (cJ, 23, .inr (.inl f_reserved))), (h_planRead, .inl (cI, 24, .inl f_planRead))]) [2, 1, 3, 4, 5, 0] (by decide) rfl) dX10_planLine_107 rfl (Nat.le_of_ble_eq_true rfl) (Nat.le_of_ble_eq_true rfl) ⟨F455, y427, y428, y429, y430, y431, y456, y457, y432, y458, x_onces, x_jumped, x_heights, f_planRead, (SAME.tr (SAME.tr SAME.rf t433 (by decide)) t459 (by decide)), (SAME.at t459 (by decide) t434), t435, (SAME.at t459 (by decide) t436), t437, (SAME.at t459 (by decide) t438), (SAME.at t459 (by decide) t440), (SAME.at t459 (by decide) t442), t460, t461, (SAME.at t459 (by decide) t443), t462, (SAME.at t459 (by decide) (SAME.at t433 (by decide) e_onces)), (SAME.at t459 (by decide) (SAME.at t433 (by decide) e_jumped)), (SAME.at t459 (by decide) (SAME.at t433 (by decide) e_heights)), s_planRead_1, s_planRead_10, (show 0 ≤ (0 : Int32).toInt ∧ (0 : Int32).toInt ≤ 1 by decide), (by have zl0 : (0 : Int32).toInt = 0 := (by decide); omega), (by omega), rfl⟩
  · have dc5 : r1.toInt ≠ 0 := ne_i (a := r1.toInt) (b := 0) rfl rfl c5
    have k605 : 1 ≤ r1.toInt ∧ r1.toInt ≤ 1 := ⟨ne_lo dc5 t2.1 ⟨Int.le_refl _, Int.le_refl _⟩ (by decide), t2.2⟩
    refine lv_aload_n hx hb dX10_planLine_10 rfl (lv_at hl 0 rfl) ?_
    refine lv_iconst (v := 0) hx hb dX10_planLine_11 (by decide) ?_
    refine call_Vi (wr := [(h_s, .inl (cI, 335, .inl f_s)), (h_names, .inl (cJ, 36, .inr (.inl f_names))), (h_reserved, .inl (cJ, 23, .inr (.inl f_reserved))), (h_planRead, .inl (cI, 24, .inl f_planRead))]) (As := [.int 0]) (rest := []) hx hb hml hown hw (m_X10_isOnce l D cI cJ cB cP cM cZ h0 h_tape Fh x_size x_p x_limit x_token x_at x_span x_number x_fault x_faultAt x_word x_onces f_tape 0 _ e_tape e_size i_x_size e_p i_x_p e_limit i_x_limit e_token i_x_token e_at e_span e_number e_fault e_faultAt e_word e_onces (by omega)) wV_X10_239_X10_isOnce dX10_planLine_12 hK hP hD hS hA [5, 0] [1, 2, 3, 4] rfl rfl (by decide) (by decide) (by decide) 0 10 rfl rfl GG.fb hG.at hl.1 rfl (Nat.le_of_ble_eq_true rfl) ⟨(Nat.le_of_ble_eq_true rfl), (Nat.le_of_ble_eq_true rfl)⟩ ⟨(Nat.le_of_ble_eq_true rfl), (Nat.le_of_ble_eq_true rfl)⟩ (fun r606 u H locs hp hP hD hS => ?_)
    have zl0 : (0 : Int32).toInt = 0 := by decide
    refine hp.elim (fun F607 h9z => h9z.elim (fun y608 h9z => h9z.elim (fun y609 h9z => h9z.elim (fun y610 h9z => h9z.elim (fun y611 h9z => h9z.elim (fun y612 h9z => h9z.elim (fun y613 h9z => h9z.elim (fun y614 h9z => h9z.elim (fun y615 h9z => h9z.elim (fun y616 h9z => h9z.elim (fun t617 h9z => h9z.elim (fun t618 h9z => h9z.elim (fun t619 h9z => h9z.elim (fun t620 h9z => h9z.elim (fun t621 h9z => h9z.elim (fun t622 h9z => h9z.elim (fun t623 h9z => h9z.elim (fun t624 h9z => h9z.elim (fun t625 h9z => h9z.elim (fun t626 h9z => h9z.elim (fun t627 h9z => h9z.elim (fun t628 h9z => h9z.elim (fun t629 h9z => h9z.elim (fun t630 h9z => h9z.elim (fun t631 h9z => ?_)))))))))))))))))))))))))
    subst h9z
    have hP : va_P D vwCl [(h_s, .inl (cI, 335, .inl f_s)), (h_names, .inl (cJ, 36, .inr (.inl f_names))), (h_reserved, .inl (cJ, 23, .inr (.inl f_reserved))), (h_planRead, .inl (cI, 24, .inl f_planRead)), (h0, .inr (10, vL 67 F607)), (h_tape, .inl (cB, 940, .inl f_tape))] H := hP
    have hD : va_D A [(h_s, .inl (cI, 335, .inl f_s)), (h_names, .inl (cJ, 36, .inr (.inl f_names))), (h_reserved, .inl (cJ, 23, .inr (.inl f_reserved))), (h_planRead, .inl (cI, 24, .inl f_planRead)), (h0, .inr (10, vL 67 F607)), (h_tape, .inl (cB, 940, .inl f_tape))] := hD
    refine W.widen (k := 0) (n := 0) (Nat.le_of_ble_eq_true rfl) (Nat.le_of_ble_eq_true rfl) ?_
    refine lv_if_ne (tgt := 20) hx hb dX10_planLine_15 (by decide) (fun c633 => ?_) (fun c633 => ?_)
    · have dc633 : r606.toInt ≠ 0 := ne_i (a := r606.toInt) (b := 0) rfl rfl c633
      have k634 : 1 ≤ r606.toInt ∧ r606.toInt ≤ 1 := ⟨ne_lo dc633 t629.1 ⟨Int.le_refl _, Int.le_refl _⟩ (by decide), t629.2⟩
      refine lv_iconst (v := 0) hx hb dX10_planLine_20 (by decide) ?_
      refine lv_istore_n (lv' := [(1, .int 0), (0, .ref h0)]) hx hb dX10_planLine_21 rfl hl (by decide) rfl (fun ls hl => ?_)
      have n647 : F607 19 = .int x_got := (SAME.at t617 (by decide) e_got)
      refine mloop (α := (Int32) × (Nat → Int32) × (Nat → Value) × (Int32) × (Int32) × (Int32) × (Int32) × (Int32) × (Int32) × (Int32) × (Int64) × (Int32)) (nL := 2) (D := D) (A := A) (H0 := s.heap) (fun a => (4 - a.1.toInt).toNat) (fun a => IR 0 4 a.1 ∧ SG 1 4 0 11 a.2.1 ∧ SG 10 10 0 5 a.2.1 ∧ SAME [4, 11, 12, 13, 14, 15, 16, 18, 19] F607 a.2.2.1 ∧ a.2.2.1 4 = .int a.2.2.2.1 ∧ a.2.2.1 11 = .int a.2.2.2.2.1 ∧ a.2.2.1 12 = .int a.2.2.2.2.2.1 ∧ a.2.2.1 13 = .int a.2.2.2.2.2.2.1 ∧ a.2.2.1 14 = .int a.2.2.2.2.2.2.2.1 ∧ a.2.2.1 15 = .int a.2.2.2.2.2.2.2.2.1 ∧ a.2.2.1 16 = .int a.2.2.2.2.2.2.2.2.2.1 ∧ a.2.2.1 18 = .long a.2.2.2.2.2.2.2.2.2.2.1 ∧ a.2.2.1 19 = .int a.2.2.2.2.2.2.2.2.2.2.2 ∧ IR 0 940 a.2.2.2.1 ∧ IR 0 4 a.2.2.2.2.1 ∧ ((a.2.2.2.2.1.toInt = 2 → 0 ≤ a.2.2.2.2.2.2.2.1.toInt ∧ a.2.2.2.2.2.2.2.1.toInt ≤ 999))) (fun a => [(h_s, .inl (cI, 335, .inl f_s)), (h_names, .inl (cJ, 36, .inr (.inl f_names))), (h_reserved, .inl (cJ, 23, .inr (.inl f_reserved))), (h_planRead, .inl (cI, 24, .inl a.2.1)), (h0, .inr (10, vL 67 a.2.2.1)), (h_tape, .inl (cB, 940, .inl f_tape))]) (fun a => [(1, .int a.1), (0, .ref h0)]) (fun H locs ls => W p l e ({ frames := 3, cells := 0, slots := 0, locals := 65 } : Room) s m [.ref h0].toArray below meth c H locs 0 0 (MQ below (va_Qi (fun (r : Int32) (u : va_W) => ∃ (Gh : Nat → Value) (y_p : Int32) (y_token : Int32) (y_at : Int32) (y_span : Int32) (y_number : Int32) (y_fault : Int32) (y_faultAt : Int32) (y_word : Int64) (y_got : Int32) (y_onces : Int32) (y_jumped : Int32) (y_heights : Int32) (g_planRead : Nat → Int32), SAME [4, 11, 12, 13, 14, 15, 16, 18, 19, 21, 23, 24] Fh Gh ∧ Gh 4 = .int y_p ∧ IR 0 940 y_p ∧ Gh 11 = .int y_token ∧ IR 0 4 y_token ∧ Gh 12 = .int y_at ∧ Gh 13 = .int y_span ∧ Gh 14 = .int y_number ∧ Gh 15 = .int y_fault ∧ Gh 16 = .int y_faultAt ∧ Gh 18 = .long y_word ∧ Gh 19 = .int y_got ∧ Gh 21 = .int y_onces ∧ Gh 23 = .int y_jumped ∧ Gh 24 = .int y_heights ∧ SG 1 4 0 11 g_planRead ∧ SG 10 10 0 5 g_planRead ∧ IR 0 1 r ∧ ((r.toInt = 1 → (x_p.toInt ≤ y_p.toInt ∧ (y_token.toInt = 3 → x_p.toInt < y_p.toInt)))) ∧ ((y_token.toInt = 2 → 0 ≤ y_number.toInt ∧ y_number.toInt ≤ 999)) ∧ u = [(h0, .inr (10, vL 67 Gh)), (h_tape, .inl (cB, 940, .inl f_tape)), (h_s, .inl (cI, 335, .inl f_s)), (h_names, .inl (cJ, 36, .inr (.inl f_names))), (h_reserved, .inl (cJ, 23, .inr (.inl f_reserved))), (h_planRead, .inl (cI, 24, .inl g_planRead))]) (PO D A) A) [.ref h0].toArray s 0 0 A) (F0 m 22 ls [])) ?_ (0, f_planRead, F607, y608, y609, y610, y611, y612, y613, y614, y615, x_got) ⟨(show 0 ≤ (0 : Int32).toInt ∧ (0 : Int32).toInt ≤ 4 by decide), s_planRead_1, s_planRead_10, SAME.rf, t618, t620, t622, t623, t624, t625, t626, t627, n647, t619, t621, (by show (y609.toInt = 2 → 0 ≤ y612.toInt ∧ y612.toInt ≤ 999); omega)⟩ _ _ _ hP hD hS hl
      rintro ⟨u635, w636, G637, u638, u639, u640, u641, u642, u643, u644, u645, u646⟩ ⟨i648, i649, i650, i651, i652, i653, i654, i655, i656, i657, i658, i659, i660, i661, i662, i663⟩ ih H locs ls hP hD hS hl
      have i648 : 0 ≤ u635.toInt ∧ u635.toInt ≤ 4 := i648
      have i661 : 0 ≤ u638.toInt ∧ u638.toInt ≤ 940 := i661
      have i662 : 0 ≤ u639.toInt ∧ u639.toInt ≤ 4 := i662
      have i663 : (u639.toInt = 2 → 0 ≤ u642.toInt ∧ u642.toInt ≤ 999) := i663
      have hP : va_P D vwCl [(h_s, .inl (cI, 335, .inl f_s)), (h_names, .inl (cJ, 36, .inr (.inl f_names))), (h_reserved, .inl (cJ, 23, .inr (.inl f_reserved))), (h_planRead, .inl (cI, 24, .inl w636)), (h0, .inr (10, vL 67 G637)), (h_tape, .inl (cB, 940, .inl f_tape))] H := hP
      have hD : va_D A [(h_s, .inl (cI, 335, .inl f_s)), (h_names, .inl (cJ, 36, .inr (.inl f_names))), (h_reserved, .inl (cJ, 23, .inr (.inl f_reserved))), (h_planRead, .inl (cI, 24, .inl w636)), (h0, .inr (10, vL 67 G637)), (h_tape, .inl (cB, 940, .inl f_tape))] := hD
      have hl : lv_has ls 2 [(1, .int u635), (0, .ref h0)] := hl
      refine lv_iload_n hx hb dX10_planLine_22 rfl (lv_at hl 0 rfl) ?_
      refine lv_iconst (v := 4) hx hb dX10_planLine_23 (by decide) ?_
      refine lv_icmp_ge (tgt := 76) hx hb dX10_planLine_24 (by decide) (fun c664 => ?_) (fun c664 => ?_)
      · have dc664 : 4 ≤ u635.toInt := le_i (a := 4) (b := u635.toInt) rfl rfl c664
        have k665 : 4 ≤ u635.toInt ∧ u635.toInt ≤ 4 := ⟨Int.le_trans (Int.le_refl _) dc664, i648.2⟩
        refine lv_aload_n hx hb dX10_planLine_76 rfl (lv_at hl 1 rfl) ?_
        have n666 : F607 22 = .ref h_planRead := (SAME.at t617 (by decide) e_planRead)
        have n667 : G637 22 = .ref h_planRead := (SAME.at i651 (by decide) n666)
        refine get_f (D := D) (ci := 10) (v := .ref h_planRead) (C := RX10) (T := TX10) (N := 67) hx hb hw inAX10 hown hK hP 4 rfl rfl 22 (by decide) (hw _ q_1283) (fun _ h9 => h9) n667 dX10_planLine_77 ?_
        refine lv_iconst (v := 0) hx hb dX10_planLine_80 (by decide) ?_
        refine lv_iconst (v := 1) hx hb dX10_planLine_81 (by decide) ?_
        obtain ⟨g668, eg668⟩ : ∃ z : Nat → Int32, upd w636 0 1 = z := ⟨_, rfl⟩
        have r669 : SG 1 4 0 11 g668 := by rw [← eg668]; exact i649.upN (by decide)
        have r670 : SG 10 10 0 5 g668 := by rw [← eg668]; exact i650.upN (by decide)
        refine iast_n hx hb hK hP hD hS 3 0 rfl rfl 0 rfl (Nat.le_of_ble_eq_true rfl) (Nat.le_of_ble_eq_true rfl) eg668 dX10_planLine_82 (fun H locs hP hD hS => ?_)
        have hP : va_P D vwCl [(h_s, .inl (cI, 335, .inl f_s)), (h_names, .inl (cJ, 36, .inr (.inl f_names))), (h_reserved, .inl (cJ, 23, .inr (.inl f_reserved))), (h_planRead, .inl (cI, 24, .inl g668)), (h0, .inr (10, vL 67 G637)), (h_tape, .inl (cB, 940, .inl f_tape))] H := hP
        have hD : va_D A [(h_s, .inl (cI, 335, .inl f_s)), (h_names, .inl (cJ, 36, .inr (.inl f_names))), (h_reserved, .inl (cJ, 23, .inr (.inl f_reserved))), (h_planRead, .inl (cI, 24, .inl g668)), (h0, .inr (10, vL 67 G637)), (h_tape, .inl (cB, 940, .inl f_tape))] := hD
        refine lv_iconst (v := 1) hx hb dX10_planLine_83 (by decide) ?_
        exact ret_i (v := 1) hx hb hr hlocks hS (hP.sub (ws' := [(h0, .inr (10, vL 67 G637)), (h_tape, .inl (cB, 940, .inl f_tape)), (h_s, .inl (cI, 335, .inl f_s)), (h_names, .inl (cJ, 36, .inr (.inl f_names))), (h_reserved, .inl (cJ, 23, .inr (.inl f_reserved))), (h_planRead, .inl (cI, 24, .inl g668))]) [4, 5, 0, 1, 2, 3] rfl) (hD.sub (ws' := [(h0, .inr (10, vL 67 G637)), (h_tape, .inl (cB, 940, .inl f_tape)), (h_s, .inl (cI, 335, .inl f_s)), (h_names, .inl (cJ, 36, .inr (.inl f_names))), (h_reserved, .inl (cJ, 23, .inr (.inl f_reserved))), (h_planRead, .inl (cI, 24, .inl g668))]) [4, 5, 0, 1, 2, 3] (by decide) rfl) dX10_planLine_84 rfl (Nat.le_of_ble_eq_true rfl) (Nat.le_of_ble_eq_true rfl) ⟨G637, u638, u639, u640, u641, u642, u643, u644, u645, u646, y616, x_jumped, x_heights, g668, (SAME.tr (SAME.tr SAME.rf t617 (by decide)) i651 (by decide)), i652, i661, i653, i662, i654, i655, i656, i657, i658, i659, i660, (SAME.at i651 (by decide) t628), (SAME.at i651 (by decide) (SAME.at t617 (by decide) e_jumped)), (SAME.at i651 (by decide) (SAME.at t617 (by decide) e_heights)), r669, r670, (show 0 ≤ (1 : Int32).toInt ∧ (1 : Int32).toInt ≤ 1 by decide), (by have zl1 : (1 : Int32).toInt = 1 := (by decide); omega), (by omega), rfl⟩
      · have dc664 : u635.toInt < 4 := nle_i (a := 4) (b := u635.toInt) rfl rfl c664
        have k671 : 0 ≤ u635.toInt ∧ u635.toInt ≤ 3 := ⟨i648.1, up_lt dc664 (Int.le_refl _) (by decide)⟩
        refine lv_aload_n hx hb dX10_planLine_27 rfl (lv_at hl 1 rfl) ?_
        have n672 : F607 6 = .ref h_s := (SAME.at t617 (by decide) e_s)
        have n673 : G637 6 = .ref h_s := (SAME.at i651 (by decide) n672)
        have n674 : F607 9 = .ref h_names := (SAME.at t617 (by decide) e_names)
        have n675 : G637 9 = .ref h_names := (SAME.at i651 (by decide) n674)
        have n676 : F607 10 = .ref h_reserved := (SAME.at t617 (by decide) e_reserved)
        have n677 : G637 10 = .ref h_reserved := (SAME.at i651 (by decide) n676)
        refine call_Vi (wr := [(h_planRead, .inl (cI, 24, .inl w636)), (h_tape, .inl (cB, 940, .inl f_tape))]) (As := []) (rest := []) hx hb hml hown hw (m_X10_looksAtMan l D cI cJ cB cP cM cZ h0 h_s h_names h_reserved G637 u639 u640 u642 u643 u644 u645 u646 f_s f_names f_reserved _ n673 n675 n677 i653 i662 i654 i656 i657 i658 i659 i660 s_s_K0 s_s_0 s_s_105 s_s_114 s_s_130 s_s_139 s_s_153 s_s_44 s_s_5 s_s_6 s_s_7 (by omega)) wV_X10_266_X10_looksAtMan dX10_planLine_28 hK hP hD hS hA [4, 0, 1, 2] [3, 5] rfl rfl (by decide) (by decide) (by decide) 0 10 rfl rfl GG.fb hG.at hl.1 rfl (Nat.le_of_ble_eq_true rfl) ⟨(Nat.le_of_ble_eq_true rfl), (Nat.le_of_ble_eq_true rfl)⟩ ⟨(Nat.le_of_ble_eq_true rfl), (Nat.le_of_ble_eq_true rfl)⟩ (fun r678 u H locs hp hP hD hS => ?_)
        obtain ⟨F679, y680, y681, y682, t683, t684, t685, t686, t687, rfl⟩ := hp
        have hP : va_P D vwCl [(h_planRead, .inl (cI, 24, .inl w636)), (h_tape, .inl (cB, 940, .inl f_tape)), (h0, .inr (10, vL 67 F679)), (h_s, .inl (cI, 335, .inl f_s)), (h_names, .inl (cJ, 36, .inr (.inl f_names))), (h_reserved, .inl (cJ, 23, .inr (.inl f_reserved)))] H := hP
        have hD : va_D A [(h_planRead, .inl (cI, 24, .inl w636)), (h_tape, .inl (cB, 940, .inl f_tape)), (h0, .inr (10, vL 67 F679)), (h_s, .inl (cI, 335, .inl f_s)), (h_names, .inl (cJ, 36, .inr (.inl f_names))), (h_reserved, .inl (cJ, 23, .inr (.inl f_reserved)))] := hD
        refine W.widen (k := 0) (n := 0) (Nat.le_of_ble_eq_true rfl) (Nat.le_of_ble_eq_true rfl) ?_
        refine lv_if_ne (tgt := 36) hx hb dX10_planLine_31 (by decide) (fun c689 => ?_) (fun c689 => ?_)
        · have dc689 : r678.toInt ≠ 0 := ne_i (a := r678.toInt) (b := 0) rfl rfl c689
          have k690 : 1 ≤ r678.toInt ∧ r678.toInt ≤ 1 := ⟨ne_lo dc689 t687.1 ⟨Int.le_refl _, Int.le_refl _⟩ (by decide), t687.2⟩
          refine lv_aload_n hx hb dX10_planLine_36 rfl (lv_at hl 1 rfl) ?_
          refine lv_aload_n hx hb dX10_planLine_37 rfl (lv_at hl 1 rfl) ?_
          refine get_f (D := D) (ci := 10) (v := .int y682) (C := RX10) (T := TX10) (N := 67) hx hb hw inAX10 hown hK hP 2 rfl rfl 19 (by decide) (hw _ q_1280) (fun _ h9 => h9) t686 dX10_planLine_38 ?_
          refine lv_iload_n hx hb dX10_planLine_41 rfl (lv_at hl 0 rfl) ?_
          have n691 : F607 22 = .ref h_planRead := (SAME.at t617 (by decide) e_planRead)
          have n692 : G637 22 = .ref h_planRead := (SAME.at i651 (by decide) n691)
          have n693 : F679 22 = .ref h_planRead := (SAME.at t683 (by decide) n692)
          refine call_Vi (wr := [(h_tape, .inl (cB, 940, .inl f_tape)), (h_s, .inl (cI, 335, .inl f_s)), (h_names, .inl (cJ, 36, .inr (.inl f_names))), (h_reserved, .inl (cJ, 23, .inr (.inl f_reserved)))]) (As := [.int y682, .int u635]) (rest := []) hx hb hml hown hw (m_X10_placeIn l D cI cJ cB cP cM cZ h0 h_planRead F679 w636 y682 u635 _ n693 i649 i650 (ir_wk k671 (by decide) (by decide))) wV_X10_269_X10_placeIn dX10_planLine_42 hK hP hD hS hA [2, 0] [1, 3, 4, 5] rfl rfl (by decide) (by decide) (by decide) 0 10 rfl rfl GG.fb hG.at hl.1 rfl (Nat.le_of_ble_eq_true rfl) ⟨(Nat.le_of_ble_eq_true rfl), (Nat.le_of_ble_eq_true rfl)⟩ ⟨(Nat.le_of_ble_eq_true rfl), (Nat.le_of_ble_eq_true rfl)⟩ (fun r694 u H locs hp hP hD hS => ?_)
          obtain ⟨t695, rfl⟩ := hp
          have hP : va_P D vwCl [(h_tape, .inl (cB, 940, .inl f_tape)), (h_s, .inl (cI, 335, .inl f_s)), (h_names, .inl (cJ, 36, .inr (.inl f_names))), (h_reserved, .inl (cJ, 23, .inr (.inl f_reserved))), (h0, .inr (10, vL 67 F679)), (h_planRead, .inl (cI, 24, .inl w636))] H := hP
          have hD : va_D A [(h_tape, .inl (cB, 940, .inl f_tape)), (h_s, .inl (cI, 335, .inl f_s)), (h_names, .inl (cJ, 36, .inr (.inl f_names))), (h_reserved, .inl (cJ, 23, .inr (.inl f_reserved))), (h0, .inr (10, vL 67 F679)), (h_planRead, .inl (cI, 24, .inl w636))] := hD
          refine W.widen (k := 0) (n := 0) (Nat.le_of_ble_eq_true rfl) (Nat.le_of_ble_eq_true rfl) ?_
          refine lv_if_lt (tgt := 54) hx hb dX10_planLine_45 (by decide) (fun c697 => ?_) (fun c697 => ?_)
          · have dc697 : r694.toInt < 0 := lt_i (a := r694.toInt) (b := 0) rfl rfl c697
            have k698 : (-1) ≤ r694.toInt ∧ r694.toInt ≤ (-1) := ⟨t695.1, up_lt dc697 (Int.le_refl _) (by decide)⟩
            refine lv_aload_n hx hb dX10_planLine_54 rfl (lv_at hl 1 rfl) ?_
            refine get_f (D := D) (ci := 10) (v := .ref h_planRead) (C := RX10) (T := TX10) (N := 67) hx hb hw inAX10 hown hK hP 4 rfl rfl 22 (by decide) (hw _ q_1283) (fun _ h9 => h9) n693 dX10_planLine_55 ?_
            refine lv_iconst (v := 1) hx hb dX10_planLine_58 (by decide) ?_
            refine lv_iload_n hx hb dX10_planLine_59 rfl (lv_at hl 0 rfl) ?_
            refine lv_iadd hx hb dX10_planLine_60 ?_
            refine lv_topi (fun v699 ev699 => ?_)
            have bv699 : v699.toInt = 1 + u635.toInt := by rw [ev699]; exact add_k rfl rfl ⟨Int.le_refl _, Int.le_refl _⟩ k671 (by decide)
            have k700 : 1 ≤ v699.toInt ∧ v699.toInt ≤ 4 := add_r bv699 ⟨Int.le_refl _, Int.le_refl _⟩ k671 (by decide)
            refine lv_aload_n hx hb dX10_planLine_61 rfl (lv_at hl 1 rfl) ?_
            refine get_f (D := D) (ci := 10) (v := .int y682) (C := RX10) (T := TX10) (N := 67) hx hb hw inAX10 hown hK hP 4 rfl rfl 19 (by decide) (hw _ q_1280) (fun _ h9 => h9) t686 dX10_planLine_62 ?_
            obtain ⟨g701, eg701⟩ : ∃ z : Nat → Int32, upd w636 v699.toNatClampNeg y682 = z := ⟨_, rfl⟩
            have r702 : SG 1 4 0 11 g701 := by rw [← eg701]; exact i649.up (Int.le_trans (by decide) k700.1) (by omega)
            have r703 : SG 10 10 0 5 g701 := by rw [← eg701]; exact i650.up (Int.le_trans (by decide) k700.1) (Or.inl (lt_dec k700.2 (by decide)))
            refine iast_g hx hb hK hP hD hS 5 0 rfl rfl (ix_k k700 (by decide) (by decide)) eg701 dX10_planLine_65 (fun H locs hP hD hS => ?_)
            have hP : va_P D vwCl [(h_tape, .inl (cB, 940, .inl f_tape)), (h_s, .inl (cI, 335, .inl f_s)), (h_names, .inl (cJ, 36, .inr (.inl f_names))), (h_reserved, .inl (cJ, 23, .inr (.inl f_reserved))), (h0, .inr (10, vL 67 F679)), (h_planRead, .inl (cI, 24, .inl g701))] H := hP
            have hD : va_D A [(h_tape, .inl (cB, 940, .inl f_tape)), (h_s, .inl (cI, 335, .inl f_s)), (h_names, .inl (cJ, 36, .inr (.inl f_names))), (h_reserved, .inl (cJ, 23, .inr (.inl f_reserved))), (h0, .inr (10, vL 67 F679)), (h_planRead, .inl (cI, 24, .inl g701))] := hD
            refine lv_aload_n hx hb dX10_planLine_66 rfl (lv_at hl 1 rfl) ?_
            have n704 : F607 1 = .ref h_tape := (SAME.at t617 (by decide) e_tape)
            have n705 : G637 1 = .ref h_tape := (SAME.at i651 (by decide) n704)
            have n706 : F679 1 = .ref h_tape := (SAME.at t683 (by decide) n705)
            have n707 : F607 3 = .int x_size := (SAME.at t617 (by decide) e_size)
            have n708 : G637 3 = .int x_size := (SAME.at i651 (by decide) n707)
            have n709 : F679 3 = .int x_size := (SAME.at t683 (by decide) n708)
            have n710 : F679 4 = .int u638 := (SAME.at t683 (by decide) i652)
            have n711 : F607 5 = .int x_limit := (SAME.at t617 (by decide) e_limit)
            have n712 : G637 5 = .int x_limit := (SAME.at i651 (by decide) n711)
            have n713 : F679 5 = .int x_limit := (SAME.at t683 (by decide) n712)
            have n714 : F679 11 = .int u639 := (SAME.at t683 (by decide) i653)
            have n715 : F679 14 = .int u642 := (SAME.at t683 (by decide) i656)
            have n716 : F679 18 = .long u645 := (SAME.at t683 (by decide) i659)
            refine call_Vv (wr := [(h_s, .inl (cI, 335, .inl f_s)), (h_names, .inl (cJ, 36, .inr (.inl f_names))), (h_reserved, .inl (cJ, 23, .inr (.inl f_reserved))), (h_planRead, .inl (cI, 24, .inl g701))]) (As := []) (rest := []) hx hb hml hown hw (m_X10_next l D cI cJ cB cP cM cZ h0 h_tape F679 x_size u638 x_limit u639 u642 u645 f_tape _ n706 n709 i_x_size n710 i661 n713 i_x_limit n714 i662 n715 n716 (by omega)) wV_X10_208_X10_next dX10_planLine_67 hK hP hD hS hA [4, 0] [1, 2, 3, 5] rfl rfl (by decide) (by decide) (by decide) 0 10 rfl rfl GG.fb hG.at hl.1 rfl (Nat.le_of_ble_eq_true rfl) ⟨(Nat.le_of_ble_eq_true rfl), (Nat.le_of_ble_eq_true rfl)⟩ ⟨(Nat.le_of_ble_eq_true rfl), (Nat.le_of_ble_eq_true rfl)⟩ (fun u H locs hp hP hD hS => ?_)
            obtain ⟨F718, y719, y720, y721, y722, y723, y724, t725, t726, t727, t728, t729, t730, t731, t732, t733, t734, t735, t736, t737, t738, rfl⟩ := hp
            have hP : va_P D vwCl [(h_s, .inl (cI, 335, .inl f_s)), (h_names, .inl (cJ, 36, .inr (.inl f_names))), (h_reserved, .inl (cJ, 23, .inr (.inl f_reserved))), (h_planRead, .inl (cI, 24, .inl g701)), (h0, .inr (10, vL 67 F718)), (h_tape, .inl (cB, 940, .inl f_tape))] H := hP
            have hD : va_D A [(h_s, .inl (cI, 335, .inl f_s)), (h_names, .inl (cJ, 36, .inr (.inl f_names))), (h_reserved, .inl (cJ, 23, .inr (.inl f_reserved))), (h_planRead, .inl (cI, 24, .inl g701)), (h0, .inr (10, vL 67 F718)), (h_tape, .inl (cB, 940, .inl f_tape))] := hD
            refine W.widen (k := 0) (n := 0) (Nat.le_of_ble_eq_true rfl) (Nat.le_of_ble_eq_true rfl) ?_
            obtain ⟨v740, ev740⟩ : ∃ z : Int32, z = u635 + 1 := ⟨_, rfl⟩
            have bv740 : v740.toInt = u635.toInt + 1 := by rw [ev740]; exact add_k rfl rfl k671 ⟨Int.le_refl _, Int.le_refl _⟩ (by decide)
            have k741 : 1 ≤ v740.toInt ∧ v740.toInt ≤ 4 := add_r bv740 k671 ⟨Int.le_refl _, Int.le_refl _⟩ (by decide)
            refine lv_iinc (v := v740) (lv' := [(1, .int v740), (0, .ref h0)]) hx hb dX10_planLine_70 hl (k := 0) rfl (by rw [ev740]; rfl) (by decide) rfl (fun ls hl => ?_)
            refine lv_goto (tgt := 22) hx hb dX10_planLine_73 (by decide) ?_
            have n742 : F718 15 = .int y680 := (SAME.at t725 (by decide) t684)
            have n743 : F718 16 = .int y681 := (SAME.at t725 (by decide) t685)
            have n744 : F718 19 = .int y682 := (SAME.at t725 (by decide) t686)
            exact ih (v740, g701, F718, y719, y720, y721, y722, y723, y680, y681, y724, y682) ⟨(ir_wk k741 (by decide) (by decide)), r702, r703, (SAME.tr (SAME.tr (SAME.tr SAME.rf i651 (by decide)) t683 (by decide)) t725 (by decide)), t726, t728, t730, t732, t734, n742, n743, t735, n744, t727, t729, (by show (y720.toInt = 2 → 0 ≤ y723.toInt ∧ y723.toInt ≤ 999); omega)⟩ (by show (4 - v740.toInt).toNat < (4 - u635.toInt).toNat; omega) _ _ _ hP hD hS (lv_sub hl [0, 1] rfl)
          · have dc697 : 0 ≤ r694.toInt := nlt_i (a := r694.toInt) (b := 0) rfl rfl c697
            have k745 : 0 ≤ r694.toInt ∧ r694.toInt ≤ 3 := ⟨Int.le_trans (Int.le_refl _) dc697, t695.2⟩
            refine lv_aload_n hx hb dX10_planLine_48 rfl (lv_at hl 1 rfl) ?_
            refine lv_iconst (v := 3) hx hb dX10_planLine_49 (by decide) ?_
            have n746 : F679 12 = .int u640 := (SAME.at t683 (by decide) i654)
            refine call_Vi (wr := [(h_tape, .inl (cB, 940, .inl f_tape)), (h_s, .inl (cI, 335, .inl f_s)), (h_names, .inl (cJ, 36, .inr (.inl f_names))), (h_reserved, .inl (cJ, 23, .inr (.inl f_reserved))), (h_planRead, .inl (cI, 24, .inl w636))]) (As := [.int 3]) (rest := []) hx hb hml hown hw (m_X10_bad l D cI cJ cB cP cM cZ h0 F679 u640 3 _ n746) wV_X10_205_X10_bad dX10_planLine_50 hK hP hD hS hA [4] [0, 1, 2, 3, 5] rfl rfl (by decide) (by decide) (by decide) 0 10 rfl rfl GG.fb hG.at hl.1 rfl (Nat.le_of_ble_eq_true rfl) ⟨(Nat.le_of_ble_eq_true rfl), (Nat.le_of_ble_eq_true rfl)⟩ ⟨(Nat.le_of_ble_eq_true rfl), (Nat.le_of_ble_eq_true rfl)⟩ (fun r747 u H locs hp hP hD hS => ?_)
            have zl3 : (3 : Int32).toInt = 3 := by decide
            obtain ⟨F748, t749, t750, t751, rfl, rfl⟩ := hp
            have hP : va_P D vwCl [(h_tape, .inl (cB, 940, .inl f_tape)), (h_s, .inl (cI, 335, .inl f_s)), (h_names, .inl (cJ, 36, .inr (.inl f_names))), (h_reserved, .inl (cJ, 23, .inr (.inl f_reserved))), (h_planRead, .inl (cI, 24, .inl w636)), (h0, .inr (10, vL 67 F748))] H := hP
            have hD : va_D A [(h_tape, .inl (cB, 940, .inl f_tape)), (h_s, .inl (cI, 335, .inl f_s)), (h_names, .inl (cJ, 36, .inr (.inl f_names))), (h_reserved, .inl (cJ, 23, .inr (.inl f_reserved))), (h_planRead, .inl (cI, 24, .inl w636)), (h0, .inr (10, vL 67 F748))] := hD
            refine W.widen (k := 0) (n := 0) (Nat.le_of_ble_eq_true rfl) (Nat.le_of_ble_eq_true rfl) ?_
            exact ret_i (v := 0) hx hb hr hlocks hS (hP.sub (ws' := [(h0, .inr (10, vL 67 F748)), (h_tape, .inl (cB, 940, .inl f_tape)), (h_s, .inl (cI, 335, .inl f_s)), (h_names, .inl (cJ, 36, .inr (.inl f_names))), (h_reserved, .inl (cJ, 23, .inr (.inl f_reserved))), (h_planRead, .inl (cI, 24, .inl w636))]) [5, 0, 1, 2, 3, 4] rfl) (hD.sub (ws' := [(h0, .inr (10, vL 67 F748)), (h_tape, .inl (cB, 940, .inl f_tape)), (h_s, .inl (cI, 335, .inl f_s)), (h_names, .inl (cJ, 36, .inr (.inl f_names))), (h_reserved, .inl (cJ, 23, .inr (.inl f_reserved))), (h_planRead, .inl (cI, 24, .inl w636))]) [5, 0, 1, 2, 3, 4] (by decide) rfl) dX10_planLine_53 rfl (Nat.le_of_ble_eq_true rfl) (Nat.le_of_ble_eq_true rfl) ⟨F748, u638, u639, u640, u641, u642, 3, u640, u645, y682, y616, x_jumped, x_heights, w636, (SAME.tr (SAME.tr (SAME.tr (SAME.tr SAME.rf t617 (by decide)) i651 (by decide)) t683 (by decide)) t749 (by decide)), (SAME.at t749 (by decide) (SAME.at t683 (by decide) i652)), i661, (SAME.at t749 (by decide) (SAME.at t683 (by decide) i653)), i662, (SAME.at t749 (by decide) n746), (SAME.at t749 (by decide) (SAME.at t683 (by decide) i655)), (SAME.at t749 (by decide) (SAME.at t683 (by decide) i656)), t750, t751, (SAME.at t749 (by decide) (SAME.at t683 (by decide) i659)), (SAME.at t749 (by decide) t686), (SAME.at t749 (by decide) (SAME.at t683 (by decide) (SAME.at i651 (by decide) t628))), (SAME.at t749 (by decide) (SAME.at t683 (by decide) (SAME.at i651 (by decide) (SAME.at t617 (by decide) e_jumped)))), (SAME.at t749 (by decide) (SAME.at t683 (by decide) (SAME.at i651 (by decide) (SAME.at t617 (by decide) e_heights)))), i649, i650, (show 0 ≤ (0 : Int32).toInt ∧ (0 : Int32).toInt ≤ 1 by decide), (by have zl0 : (0 : Int32).toInt = 0 := (by decide); omega), (by have zl3 : (3 : Int32).toInt = 3 := (by decide); omega), rfl⟩
        · have dc689 : r678.toInt = 0 := eq_i (a := r678.toInt) (b := 0) rfl rfl c689
          have k753 : 0 ≤ r678.toInt ∧ r678.toInt ≤ 0 := ⟨t687.1, Int.le_trans (Int.le_of_eq dc689) (Int.le_refl _)⟩
          refine lv_iconst (v := 0) hx hb dX10_planLine_34 (by decide) ?_
          exact ret_i (v := 0) hx hb hr hlocks hS (hP.sub (ws' := [(h0, .inr (10, vL 67 F679)), (h_tape, .inl (cB, 940, .inl f_tape)), (h_s, .inl (cI, 335, .inl f_s)), (h_names, .inl (cJ, 36, .inr (.inl f_names))), (h_reserved, .inl (cJ, 23, .inr (.inl f_reserved))), (h_planRead, .inl (cI, 24, .inl w636))]) [2, 1, 3, 4, 5, 0] rfl) (hD.sub (ws' := [(h0, .inr (10, vL 67 F679)), (h_tape, .inl (cB, 940, .inl f_tape)), (h_s, .inl (cI, 335, .inl f_s)), (h_names, .inl (cJ, 36, .inr (.inl f_names))), (h_reserved, .inl (cJ, 23, .inr (.inl f_reserved))), (h_planRead, .inl (cI, 24, .inl w636))]) [2, 1, 3, 4, 5, 0] (by decide) rfl) dX10_planLine_35 rfl (Nat.le_of_ble_eq_true rfl) (Nat.le_of_ble_eq_true rfl) ⟨F679, u638, u639, u640, u641, u642, y680, y681, u645, y682, y616, x_jumped, x_heights, w636, (SAME.tr (SAME.tr (SAME.tr SAME.rf t617 (by decide)) i651 (by decide)) t683 (by decide)), (SAME.at t683 (by decide) i652), i661, (SAME.at t683 (by decide) i653), i662, (SAME.at t683 (by decide) i654), (SAME.at t683 (by decide) i655), (SAME.at t683 (by decide) i656), t684, t685, (SAME.at t683 (by decide) i659), t686, (SAME.at t683 (by decide) (SAME.at i651 (by decide) t628)), (SAME.at t683 (by decide) (SAME.at i651 (by decide) (SAME.at t617 (by decide) e_jumped))), (SAME.at t683 (by decide) (SAME.at i651 (by decide) (SAME.at t617 (by decide) e_heights))), i649, i650, (show 0 ≤ (0 : Int32).toInt ∧ (0 : Int32).toInt ≤ 1 by decide), (by have zl0 : (0 : Int32).toInt = 0 := (by decide); omega), (by omega), rfl⟩
    · have dc633 : r606.toInt = 0 := eq_i (a := r606.toInt) (b := 0) rfl rfl c633
      have k754 : 0 ≤ r606.toInt ∧ r606.toInt ≤ 0 := ⟨t629.1, Int.le_trans (Int.le_of_eq dc633) (Int.le_refl _)⟩
      refine lv_iconst (v := 0) hx hb dX10_planLine_18 (by decide) ?_
      exact ret_i (v := 0) hx hb hr hlocks hS (hP.sub (ws' := [(h0, .inr (10, vL 67 F607)), (h_tape, .inl (cB, 940, .inl f_tape)), (h_s, .inl (cI, 335, .inl f_s)), (h_names, .inl (cJ, 36, .inr (.inl f_names))), (h_reserved, .inl (cJ, 23, .inr (.inl f_reserved))), (h_planRead, .inl (cI, 24, .inl f_planRead))]) [4, 5, 0, 1, 2, 3] rfl) (hD.sub (ws' := [(h0, .inr (10, vL 67 F607)), (h_tape, .inl (cB, 940, .inl f_tape)), (h_s, .inl (cI, 335, .inl f_s)), (h_names, .inl (cJ, 36, .inr (.inl f_names))), (h_reserved, .inl (cJ, 23, .inr (.inl f_reserved))), (h_planRead, .inl (cI, 24, .inl f_planRead))]) [4, 5, 0, 1, 2, 3] (by decide) rfl) dX10_planLine_19 rfl (Nat.le_of_ble_eq_true rfl) (Nat.le_of_ble_eq_true rfl) ⟨F607, y608, y609, y610, y611, y612, y613, y614, y615, x_got, y616, x_jumped, x_heights, f_planRead, (SAME.tr SAME.rf t617 (by decide)), t618, t619, t620, t621, t622, t623, t624, t625, t626, t627, (SAME.at t617 (by decide) e_got), t628, (SAME.at t617 (by decide) e_jumped), (SAME.at t617 (by decide) e_heights), s_planRead_1, s_planRead_10, (show 0 ≤ (0 : Int32).toInt ∧ (0 : Int32).toInt ≤ 1 by decide), (by have zl0 : (0 : Int32).toInt = 0 := (by decide); omega), (by omega), rfl⟩
