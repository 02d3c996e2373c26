set_option maxHeartbeats 4000000 in
set_option maxRecDepth 100000 in
theorem m_X10_plan (l : Launch) (D : va_G) (cI cJ cB cP cM cZ : ClassId) (h0 : Nat) (h_tape : Nat) (h_s : Nat) (h_names : Nat) (h_reserved : Nat) (h_planRead : Nat) (Fh : Nat → Value) (x_length : Int32) (x_token : Int32) (x_number : Int32) (x_faultAt : Int32) (x_word : Int64) (x_got : Int32) (x_undoMany : Int32) (f_tape : Nat → Int32) (f_s : Nat → Int32) (f_names : Nat → Int64) (f_reserved : Nat → Int64) (f_planRead : Nat → Int32) (sz : Nat) (e_tape : Fh 1 = .ref h_tape) (e_length : Fh 2 = .int x_length) (i_x_length : IR 0 940 x_length) (e_s : Fh 6 = .ref h_s) (e_names : Fh 9 = .ref h_names) (e_reserved : Fh 10 = .ref h_reserved) (e_token : Fh 11 = .int x_token) (i_x_token : IR 0 4 x_token) (e_number : Fh 14 = .int x_number) (e_faultAt : Fh 16 = .int x_faultAt) (e_word : Fh 18 = .long x_word) (e_got : Fh 19 = .int x_got) (e_planRead : Fh 22 = .ref h_planRead) (e_undoMany : Fh 41 = .int x_undoMany) (i_x_undoMany : IR 0 8 x_undoMany) (s_s_K0 : KW 0 f_s) (s_s_0 : SG 0 0 0 40 f_s) (s_s_105 : SG 105 108 0 11 f_s) (s_s_114 : SG 114 114 0 5 f_s) (s_s_130 : SG 130 133 0 11 f_s) (s_s_139 : SG 139 139 0 5 f_s) (s_s_153 : SG 153 153 0 44 f_s) (s_s_44 : SG 44 55 0 9 f_s) (s_s_5 : SG 5 5 0 12 f_s) (s_s_6 : SG 6 6 0 12 f_s) (s_s_7 : SG 7 7 0 6 f_s) (s_planRead_1 : SG 1 4 0 11 f_planRead) (s_planRead_10 : SG 10 10 0 5 f_planRead) (o_0 : (x_token.toInt = 2 → 0 ≤ x_number.toInt ∧ x_number.toInt ≤ 999)) : CI l yX10_plan cX10_plan 3 (some .int) { frames := 4, cells := 0, slots := 0, locals := 86 } (GG D cI cJ cB cP cM cZ) D [(h0, .inr (10, vL 67 Fh)), (h_tape, .inl (cB, 940, .inl f_tape)), (h_s, .inl (cI, 335, .inl f_s)), (h_names, .inl (cJ, 36, .inr (.inl f_names))), (h_reserved, .inl (cJ, 23, .inr (.inl f_reserved))), (h_planRead, .inl (cI, 24, .inl f_planRead))] sz [.ref h0] (fun (r : Int32) (u : va_W) => ∃ (Gh : Nat → Value) (y_p : Int32) (y_token : Int32) (y_at : Int32) (y_span : Int32) (y_number : Int32) (y_fault : Int32) (y_faultAt : Int32) (y_word : Int64) (y_got : Int32) (y_onces : Int32) (y_jumped : Int32) (y_heights : Int32) (y_undoMany : Int32) (g_s : Nat → Int32) (g_planRead : Nat → Int32), SAME [0, 2, 3, 4, 5, 11, 12, 13, 14, 15, 16, 18, 19, 21, 23, 24, 41] Fh Gh ∧ Gh 0 = .int 0 ∧ Gh 2 = .int 0 ∧ Gh 3 = .int x_length ∧ Gh 4 = .int y_p ∧ IR 0 940 y_p ∧ Gh 5 = .int 400 ∧ Gh 11 = .int y_token ∧ IR 0 4 y_token ∧ Gh 12 = .int y_at ∧ Gh 13 = .int y_span ∧ Gh 14 = .int y_number ∧ Gh 15 = .int y_fault ∧ Gh 16 = .int y_faultAt ∧ Gh 18 = .long y_word ∧ Gh 19 = .int y_got ∧ Gh 21 = .int y_onces ∧ Gh 23 = .int y_jumped ∧ Gh 24 = .int y_heights ∧ Gh 41 = .int y_undoMany ∧ IR 0 8 y_undoMany ∧ SG 153 153 0 44 g_s ∧ SG 0 0 0 40 g_s ∧ SG 5 5 0 12 g_s ∧ SG 6 6 0 12 g_s ∧ SG 7 7 0 6 g_s ∧ SG 44 55 0 9 g_s ∧ KW 0 g_s ∧ SG 105 108 0 11 g_s ∧ SG 114 114 0 5 g_s ∧ SG 130 133 0 11 g_s ∧ SG 139 139 0 5 g_s ∧ SG 1 4 0 11 g_planRead ∧ SG 10 10 0 5 g_planRead ∧ ((y_token.toInt = 2 → 0 ≤ y_number.toInt ∧ y_number.toInt ≤ 999)) ∧ u = [(h0, .inr (10, vL 67 Gh)), (h_tape, .inl (cB, 940, .inl f_tape)), (h_s, .inl (cI, 335, .inl g_s)), (h_names, .inl (cJ, 36, .inr (.inl f_names))), (h_reserved, .inl (cJ, 23, .inr (.inl f_reserved))), (h_planRead, .inl (cI, 24, .inl g_planRead))]) := by
  refine CI_mk (by decide) (Nat.le_of_ble_eq_true rfl) ?_
  intro p e s m below meth c A ls E hAe hG hsz hP hD hA hS hl
  obtain ⟨hx, hb, hr, hw, hown, hlocks, hml, hnm⟩ := E
  have hK := hG.1
  have i_x_length : 0 ≤ x_length.toInt ∧ x_length.toInt ≤ 940 := i_x_length
  have i_x_token : 0 ≤ x_token.toInt ∧ x_token.toInt ≤ 4 := i_x_token
  have i_x_undoMany : 0 ≤ x_undoMany.toInt ∧ x_undoMany.toInt ≤ 8 := i_x_undoMany
  have hl : lv_has ls 3 [(0, .ref h0)] := hl
  refine lv_aload_n hx hb dX10_plan_0 rfl (lv_at hl 0 rfl) ?_
  refine lv_iconst (v := 0) hx hb dX10_plan_1 (by decide) ?_
  refine put_f (D := D) (ci := 10) (v := .int 0) (ty := .int) (C := RX10) (T := TX10) (N := 67) hx hb hw inAX10 tyX10 tyX10_ok nmX10 hown hK hP hD hS 0 rfl rfl 0 (by decide) (hw _ q_1261) (fun _ h9 => h9) rfl (by decide +kernel) rfl rfl dX10_plan_2 (fun H locs F1 eF1 hP hD hS => ?_)
  have hP : va_P D vwCl [(h0, .inr (10, vL 67 F1)), (h_tape, .inl (cB, 940, .inl f_tape)), (h_s, .inl (cI, 335, .inl f_s)), (h_names, .inl (cJ, 36, .inr (.inl f_names))), (h_reserved, .inl (cJ, 23, .inr (.inl f_reserved))), (h_planRead, .inl (cI, 24, .inl f_planRead))] H := hP
  have hD : va_D A [(h0, .inr (10, vL 67 F1)), (h_tape, .inl (cB, 940, .inl f_tape)), (h_s, .inl (cI, 335, .inl f_s)), (h_names, .inl (cJ, 36, .inr (.inl f_names))), (h_reserved, .inl (cJ, 23, .inr (.inl f_reserved))), (h_planRead, .inl (cI, 24, .inl f_planRead))] := hD
  refine lv_aload_n hx hb dX10_plan_5 rfl (lv_at hl 0 rfl) ?_
  refine lv_sipush (v := 400) hx hb dX10_plan_6 (by decide) ?_
  have n2 : F1 2 = .int x_length := (get_ne eF1 (by decide) e_length)
  refine call_Vv (wr := [(h_tape, .inl (cB, 940, .inl f_tape)), (h_s, .inl (cI, 335, .inl f_s)), (h_names, .inl (cJ, 36, .inr (.inl f_names))), (h_reserved, .inl (cJ, 23, .inr (.inl f_reserved))), (h_planRead, .inl (cI, 24, .inl f_planRead))]) (As := [.int 400]) (rest := []) hx hb hml hown hw (m_X10_taken l D cI cJ cB cP cM cZ h0 F1 x_length 400 _ n2 i_x_length (show 200 ≤ (400 : Int32).toInt ∧ (400 : Int32).toInt ≤ 940 by decide)) wV_X10_248_X10_taken dX10_plan_9 hK hP hD hS hA [0] [1, 2, 3, 4, 5] rfl rfl (by decide) (by decide) (by decide) 0 10 rfl rfl GG.fb hG.at hl.1 rfl (Nat.le_of_ble_eq_true rfl) ⟨(Nat.le_of_ble_eq_true rfl), (Nat.le_of_ble_eq_true rfl)⟩ ⟨(Nat.le_of_ble_eq_true rfl), (Nat.le_of_ble_eq_true rfl)⟩ (fun u H locs hp hP hD hS => ?_)
  have zl400 : (400 : Int32).toInt = 400 := by decide
  obtain ⟨F4, t5, t6, t7, t8, t9, rfl⟩ := hp
  have hP : va_P D vwCl [(h_tape, .inl (cB, 940, .inl f_tape)), (h_s, .inl (cI, 335, .inl f_s)), (h_names, .inl (cJ, 36, .inr (.inl f_names))), (h_reserved, .inl (cJ, 23, .inr (.inl f_reserved))), (h_planRead, .inl (cI, 24, .inl f_planRead)), (h0, .inr (10, vL 67 F4))] H := hP
  have hD : va_D A [(h_tape, .inl (cB, 940, .inl f_tape)), (h_s, .inl (cI, 335, .inl f_s)), (h_names, .inl (cJ, 36, .inr (.inl f_names))), (h_reserved, .inl (cJ, 23, .inr (.inl f_reserved))), (h_planRead, .inl (cI, 24, .inl f_planRead)), (h0, .inr (10, vL 67 F4))] := hD
  refine W.widen (k := 0) (n := 0) (Nat.le_of_ble_eq_true rfl) (Nat.le_of_ble_eq_true rfl) ?_
  refine lv_aload_n hx hb dX10_plan_12 rfl (lv_at hl 0 rfl) ?_
  refine lv_iconst (v := 0) hx hb dX10_plan_13 (by decide) ?_
  refine put_f (D := D) (ci := 10) (v := .int 0) (ty := .int) (C := RX10) (T := TX10) (N := 67) hx hb hw inAX10 tyX10 tyX10_ok nmX10 hown hK hP hD hS 5 rfl rfl 15 (by decide) (hw _ q_1276) (fun _ h9 => h9) rfl (by decide +kernel) rfl rfl dX10_plan_14 (fun H locs F11 eF11 hP hD hS => ?_)
  have hP : va_P D vwCl [(h_tape, .inl (cB, 940, .inl f_tape)), (h_s, .inl (cI, 335, .inl f_s)), (h_names, .inl (cJ, 36, .inr (.inl f_names))), (h_reserved, .inl (cJ, 23, .inr (.inl f_reserved))), (h_planRead, .inl (cI, 24, .inl f_planRead)), (h0, .inr (10, vL 67 F11))] H := hP
  have hD : va_D A [(h_tape, .inl (cB, 940, .inl f_tape)), (h_s, .inl (cI, 335, .inl f_s)), (h_names, .inl (cJ, 36, .inr (.inl f_names))), (h_reserved, .inl (cJ, 23, .inr (.inl f_reserved))), (h_planRead, .inl (cI, 24, .inl f_planRead)), (h0, .inr (10, vL 67 F11))] := hD
  refine lv_aload_n hx hb dX10_plan_17 rfl (lv_at hl 0 rfl) ?_
  refine lv_iconst (v := 0) hx hb dX10_plan_18 (by decide) ?_
  refine put_f (D := D) (ci := 10) (v := .int 0) (ty := .int) (C := RX10) (T := TX10) (N := 67) hx hb hw inAX10 tyX10 tyX10_ok nmX10 hown hK hP hD hS 5 rfl rfl 21 (by decide) (hw _ q_1282) (fun _ h9 => h9) rfl (by decide +kernel) rfl rfl dX10_plan_19 (fun H locs F12 eF12 hP hD hS => ?_)
  have hP : va_P D vwCl [(h_tape, .inl (cB, 940, .inl f_tape)), (h_s, .inl (cI, 335, .inl f_s)), (h_names, .inl (cJ, 36, .inr (.inl f_names))), (h_reserved, .inl (cJ, 23, .inr (.inl f_reserved))), (h_planRead, .inl (cI, 24, .inl f_planRead)), (h0, .inr (10, vL 67 F12))] H := hP
  have hD : va_D A [(h_tape, .inl (cB, 940, .inl f_tape)), (h_s, .inl (cI, 335, .inl f_s)), (h_names, .inl (cJ, 36, .inr (.inl f_names))), (h_reserved, .inl (cJ, 23, .inr (.inl f_reserved))), (h_planRead, .inl (cI, 24, .inl f_planRead)), (h0, .inr (10, vL 67 F12))] := hD
  refine lv_aload_n hx hb dX10_plan_22 rfl (lv_at hl 0 rfl) ?_
  refine lv_iconst (v := 0) hx hb dX10_plan_23 (by decide) ?_
  refine put_f (D := D) (ci := 10) (v := .int 0) (ty := .int) (C := RX10) (T := TX10) (N := 67) hx hb hw inAX10 tyX10 tyX10_ok nmX10 hown hK hP hD hS 5 rfl rfl 23 (by decide) (hw _ q_1284) (fun _ h9 => h9) rfl (by decide +kernel) rfl rfl dX10_plan_24 (fun H locs F13 eF13 hP hD hS => ?_)
  have hP : va_P D vwCl [(h_tape, .inl (cB, 940, .inl f_tape)), (h_s, .inl (cI, 335, .inl f_s)), (h_names, .inl (cJ, 36, .inr (.inl f_names))), (h_reserved, .inl (cJ, 23, .inr (.inl f_reserved))), (h_planRead, .inl (cI, 24, .inl f_planRead)), (h0, .inr (10, vL 67 F13))] H := hP
  have hD : va_D A [(h_tape, .inl (cB, 940, .inl f_tape)), (h_s, .inl (cI, 335, .inl f_s)), (h_names, .inl (cJ, 36, .inr (.inl f_names))), (h_reserved, .inl (cJ, 23, .inr (.inl f_reserved))), (h_planRead, .inl (cI, 24, .inl f_planRead)), (h0, .inr (10, vL 67 F13))] := hD
  refine lv_aload_n hx hb dX10_plan_27 rfl (lv_at hl 0 rfl) ?_
  refine lv_iconst (v := 0) hx hb dX10_plan_28 (by decide) ?_
  refine put_f (D := D) (ci := 10) (v := .int 0) (ty := .int) (C := RX10) (T := TX10) (N := 67) hx hb hw inAX10 tyX10 tyX10_ok nmX10 hown hK hP hD hS 5 rfl rfl 24 (by decide) (hw _ q_1285) (fun _ h9 => h9) rfl (by decide +kernel) rfl rfl dX10_plan_29 (fun H locs F14 eF14 hP hD hS => ?_)
  have hP : va_P D vwCl [(h_tape, .inl (cB, 940, .inl f_tape)), (h_s, .inl (cI, 335, .inl f_s)), (h_names, .inl (cJ, 36, .inr (.inl f_names))), (h_reserved, .inl (cJ, 23, .inr (.inl f_reserved))), (h_planRead, .inl (cI, 24, .inl f_planRead)), (h0, .inr (10, vL 67 F14))] H := hP
  have hD : va_D A [(h_tape, .inl (cB, 940, .inl f_tape)), (h_s, .inl (cI, 335, .inl f_s)), (h_names, .inl (cJ, 36, .inr (.inl f_names))), (h_reserved, .inl (cJ, 23, .inr (.inl f_reserved))), (h_planRead, .inl (cI, 24, .inl f_planRead)), (h0, .inr (10, vL 67 F14))] := hD
  refine lv_iconst (v := 0) hx hb dX10_plan_32 (by decide) ?_
  refine lv_istore_n (lv' := [(1, .int 0), (0, .ref h0)]) hx hb dX10_plan_33 rfl hl (by decide) rfl (fun ls hl => ?_)
  refine mloop (α := (Int32) × (Nat → Int32)) (nL := 3) (D := D) (A := A) (H0 := s.heap) (fun a => (24 - a.1.toInt).toNat) (fun a => IR 0 24 a.1 ∧ SG 1 4 0 11 a.2 ∧ SG 10 10 0 5 a.2) (fun a => [(h_tape, .inl (cB, 940, .inl f_tape)), (h_s, .inl (cI, 335, .inl f_s)), (h_names, .inl (cJ, 36, .inr (.inl f_names))), (h_reserved, .inl (cJ, 23, .inr (.inl f_reserved))), (h_planRead, .inl (cI, 24, .inl a.2)), (h0, .inr (10, vL 67 F14))]) (fun a => [(1, .int a.1), (0, .ref h0)]) (fun H locs ls => W p l e ({ frames := 4, cells := 0, slots := 0, locals := 86 } : Room) s m [.ref h0].toArray below meth c H locs 0 0 (MQ below (va_Qi (fun (r : Int32) (u : va_W) => ∃ (Gh : Nat → Value) (y_p : Int32) (y_token : Int32) (y_at : Int32) (y_span : Int32) (y_number : Int32) (y_fault : Int32) (y_faultAt : Int32) (y_word : Int64) (y_got : Int32) (y_onces : Int32) (y_jumped : Int32) (y_heights : Int32) (y_undoMany : Int32) (g_s : Nat → Int32) (g_planRead : Nat → Int32), SAME [0, 2, 3, 4, 5, 11, 12, 13, 14, 15, 16, 18, 19, 21, 23, 24, 41] Fh Gh ∧ Gh 0 = .int 0 ∧ Gh 2 = .int 0 ∧ Gh 3 = .int x_length ∧ Gh 4 = .int y_p ∧ IR 0 940 y_p ∧ Gh 5 = .int 400 ∧ Gh 11 = .int y_token ∧ IR 0 4 y_token ∧ Gh 12 = .int y_at ∧ Gh 13 = .int y_span ∧ Gh 14 = .int y_number ∧ Gh 15 = .int y_fault ∧ Gh 16 = .int y_faultAt ∧ Gh 18 = .long y_word ∧ Gh 19 = .int y_got ∧ Gh 21 = .int y_onces ∧ Gh 23 = .int y_jumped ∧ Gh 24 = .int y_heights ∧ Gh 41 = .int y_undoMany ∧ IR 0 8 y_undoMany ∧ SG 153 153 0 44 g_s ∧ SG 0 0 0 40 g_s ∧ SG 5 5 0 12 g_s ∧ SG 6 6 0 12 g_s ∧ SG 7 7 0 6 g_s ∧ SG 44 55 0 9 g_s ∧ KW 0 g_s ∧ SG 105 108 0 11 g_s ∧ SG 114 114 0 5 g_s ∧ SG 130 133 0 11 g_s ∧ SG 139 139 0 5 g_s ∧ SG 1 4 0 11 g_planRead ∧ SG 10 10 0 5 g_planRead ∧ ((y_token.toInt = 2 → 0 ≤ y_number.toInt ∧ y_number.toInt ≤ 999)) ∧ u = [(h0, .inr (10, vL 67 Gh)), (h_tape, .inl (cB, 940, .inl f_tape)), (h_s, .inl (cI, 335, .inl g_s)), (h_names, .inl (cJ, 36, .inr (.inl f_names))), (h_reserved, .inl (cJ, 23, .inr (.inl f_reserved))), (h_planRead, .inl (cI, 24, .inl g_planRead))]) (PO D A) A) [.ref h0].toArray s 0 0 A) (F0 m 34 ls [])) ?_ (0, f_planRead) ⟨(show 0 ≤ (0 : Int32).toInt ∧ (0 : Int32).toInt ≤ 24 by decide), s_planRead_1, s_planRead_10⟩ _ _ _ hP hD hS hl
  rintro ⟨u15, w16⟩ ⟨i17, i18, i19⟩ ih H locs ls hP hD hS hl
  have i17 : 0 ≤ u15.toInt ∧ u15.toInt ≤ 24 := i17
  have hP : va_P D vwCl [(h_tape, .inl (cB, 940, .inl f_tape)), (h_s, .inl (cI, 335, .inl f_s)), (h_names, .inl (cJ, 36, .inr (.inl f_names))), (h_reserved, .inl (cJ, 23, .inr (.inl f_reserved))), (h_planRead, .inl (cI, 24, .inl w16)), (h0, .inr (10, vL 67 F14))] H := hP
  have hD : va_D A [(h_tape, .inl (cB, 940, .inl f_tape)), (h_s, .inl (cI, 335, .inl f_s)), (h_names, .inl (cJ, 36, .inr (.inl f_names))), (h_reserved, .inl (cJ, 23, .inr (.inl f_reserved))), (h_planRead, .inl (cI, 24, .inl w16)), (h0, .inr (10, vL 67 F14))] := hD
  have hl : lv_has ls 3 [(1, .int u15), (0, .ref h0)] := hl
  refine lv_iload_n hx hb dX10_plan_34 rfl (lv_at hl 0 rfl) ?_
  refine lv_bipush (v := 24) hx hb dX10_plan_35 (by decide) ?_
  refine lv_icmp_ge (tgt := 53) hx hb dX10_plan_37 (by decide) (fun c20 => ?_) (fun c20 => ?_)
  · have dc20 : 24 ≤ u15.toInt := le_i (a := 24) (b := u15.toInt) rfl rfl c20
    have k21 : 24 ≤ u15.toInt ∧ u15.toInt ≤ 24 := ⟨Int.le_trans (Int.le_refl _) dc20, i17.2⟩
    refine lv_iconst (v := 0) hx hb dX10_plan_53 (by decide) ?_
    refine lv_istore_n (lv' := [(1, .int 0), (0, .ref h0)]) hx hb dX10_plan_54 rfl hl (by decide) rfl (fun ls hl => ?_)
    refine mloop (α := (Int32) × (Nat → Int32)) (nL := 3) (D := D) (A := A) (H0 := s.heap) (fun a => (4 - a.1.toInt).toNat) (fun a => IR 0 4 a.1 ∧ SG 1 4 0 11 a.2 ∧ SG 10 10 0 5 a.2) (fun a => [(h_tape, .inl (cB, 940, .inl f_tape)), (h_s, .inl (cI, 335, .inl f_s)), (h_names, .inl (cJ, 36, .inr (.inl f_names))), (h_reserved, .inl (cJ, 23, .inr (.inl f_reserved))), (h_planRead, .inl (cI, 24, .inl a.2)), (h0, .inr (10, vL 67 F14))]) (fun a => [(1, .int a.1), (0, .ref h0)]) (fun H locs ls => W p l e ({ frames := 4, cells := 0, slots := 0, locals := 86 } : Room) s m [.ref h0].toArray below meth c H locs 0 0 (MQ below (va_Qi (fun (r : Int32) (u : va_W) => ∃ (Gh : Nat → Value) (y_p : Int32) (y_token : Int32) (y_at : Int32) (y_span : Int32) (y_number : Int32) (y_fault : Int32) (y_faultAt : Int32) (y_word : Int64) (y_got : Int32) (y_onces : Int32) (y_jumped : Int32) (y_heights : Int32) (y_undoMany : Int32) (g_s : Nat → Int32) (g_planRead : Nat → Int32), SAME [0, 2, 3, 4, 5, 11, 12, 13, 14, 15, 16, 18, 19, 21, 23, 24, 41] Fh Gh ∧ Gh 0 = .int 0 ∧ Gh 2 = .int 0 ∧ Gh 3 = .int x_length ∧ Gh 4 = .int y_p ∧ IR 0 940 y_p ∧ Gh 5 = .int 400 ∧ Gh 11 = .int y_token ∧ IR 0 4 y_token ∧ Gh 12 = .int y_at ∧ Gh 13 = .int y_span ∧ Gh 14 = .int y_number ∧ Gh 15 = .int y_fault ∧ Gh 16 = .int y_faultAt ∧ Gh 18 = .long y_word ∧ Gh 19 = .int y_got ∧ Gh 21 = .int y_onces ∧ Gh 23 = .int y_jumped ∧ Gh 24 = .int y_heights ∧ Gh 41 = .int y_undoMany ∧ IR 0 8 y_undoMany ∧ SG 153 153 0 44 g_s ∧ SG 0 0 0 40 g_s ∧ SG 5 5 0 12 g_s ∧ SG 6 6 0 12 g_s ∧ SG 7 7 0 6 g_s ∧ SG 44 55 0 9 g_s ∧ KW 0 g_s ∧ SG 105 108 0 11 g_s ∧ SG 114 114 0 5 g_s ∧ SG 130 133 0 11 g_s ∧ SG 139 139 0 5 g_s ∧ SG 1 4 0 11 g_planRead ∧ SG 10 10 0 5 g_planRead ∧ ((y_token.toInt = 2 → 0 ≤ y_number.toInt ∧ y_number.toInt ≤ 999)) ∧ u = [(h0, .inr (10, vL 67 Gh)), (h_tape, .inl (cB, 940, .inl f_tape)), (h_s, .inl (cI, 335, .inl g_s)), (h_names, .inl (cJ, 36, .inr (.inl f_names))), (h_reserved, .inl (cJ, 23, .inr (.inl f_reserved))), (h_planRead, .inl (cI, 24, .inl g_planRead))]) (PO D A) A) [.ref h0].toArray s 0 0 A) (F0 m 55 ls [])) ?_ (0, w16) ⟨(show 0 ≤ (0 : Int32).toInt ∧ (0 : Int32).toInt ≤ 4 by decide), i18, i19⟩ _ _ _ hP hD hS hl
    rintro ⟨u22, w23⟩ ⟨i24, i25, i26⟩ ih_55 H locs ls hP hD hS hl
    have i24 : 0 ≤ u22.toInt ∧ u22.toInt ≤ 4 := i24
    have hP : va_P D vwCl [(h_tape, .inl (cB, 940, .inl f_tape)), (h_s, .inl (cI, 335, .inl f_s)), (h_names, .inl (cJ, 36, .inr (.inl f_names))), (h_reserved, .inl (cJ, 23, .inr (.inl f_reserved))), (h_planRead, .inl (cI, 24, .inl w23)), (h0, .inr (10, vL 67 F14))] H := hP
    have hD : va_D A [(h_tape, .inl (cB, 940, .inl f_tape)), (h_s, .inl (cI, 335, .inl f_s)), (h_names, .inl (cJ, 36, .inr (.inl f_names))), (h_reserved, .inl (cJ, 23, .inr (.inl f_reserved))), (h_planRead, .inl (cI, 24, .inl w23)), (h0, .inr (10, vL 67 F14))] := hD
    have hl : lv_has ls 3 [(1, .int u22), (0, .ref h0)] := hl
    refine lv_iload_n hx hb dX10_plan_55 rfl (lv_at hl 0 rfl) ?_
    refine lv_iconst (v := 4) hx hb dX10_plan_56 (by decide) ?_
    refine lv_icmp_ge (tgt := 82) hx hb dX10_plan_57 (by decide) (fun c27 => ?_) (fun c27 => ?_)
    · have dc27 : 4 ≤ u22.toInt := le_i (a := 4) (b := u22.toInt) rfl rfl c27
      have k28 : 4 ≤ u22.toInt ∧ u22.toInt ≤ 4 := ⟨Int.le_trans (Int.le_refl _) dc27, i24.2⟩
      refine lv_iconst (v := 0) hx hb dX10_plan_82 (by decide) ?_
      refine lv_istore_n (lv' := [(1, .int 0), (0, .ref h0)]) hx hb dX10_plan_83 rfl hl (by decide) rfl (fun ls hl => ?_)
      refine mloop (α := (Int32) × (Nat → Int32)) (nL := 3) (D := D) (A := A) (H0 := s.heap) (fun a => (12 - a.1.toInt).toNat) (fun a => IR 0 12 a.1 ∧ SG 1 4 0 11 a.2 ∧ SG 10 10 0 5 a.2) (fun a => [(h_tape, .inl (cB, 940, .inl f_tape)), (h_s, .inl (cI, 335, .inl f_s)), (h_names, .inl (cJ, 36, .inr (.inl f_names))), (h_reserved, .inl (cJ, 23, .inr (.inl f_reserved))), (h_planRead, .inl (cI, 24, .inl a.2)), (h0, .inr (10, vL 67 F14))]) (fun a => [(1, .int a.1), (0, .ref h0)]) (fun H locs ls => W p l e ({ frames := 4, cells := 0, slots := 0, locals := 86 } : Room) s m [.ref h0].toArray below meth c H locs 0 0 (MQ below (va_Qi (fun (r : Int32) (u : va_W) => ∃ (Gh : Nat → Value) (y_p : Int32) (y_token : Int32) (y_at : Int32) (y_span : Int32) (y_number : Int32) (y_fault : Int32) (y_faultAt : Int32) (y_word : Int64) (y_got : Int32) (y_onces : Int32) (y_jumped : Int32) (y_heights : Int32) (y_undoMany : Int32) (g_s : Nat → Int32) (g_planRead : Nat → Int32), SAME [0, 2, 3, 4, 5, 11, 12, 13, 14, 15, 16, 18, 19, 21, 23, 24, 41] Fh Gh ∧ Gh 0 = .int 0 ∧ Gh 2 = .int 0 ∧ Gh 3 = .int x_length ∧ Gh 4 = .int y_p ∧ IR 0 940 y_p ∧ Gh 5 = .int 400 ∧ Gh 11 = .int y_token ∧ IR 0 4 y_token ∧ Gh 12 = .int y_at ∧ Gh 13 = .int y_span ∧ Gh 14 = .int y_number ∧ Gh 15 = .int y_fault ∧ Gh 16 = .int y_faultAt ∧ Gh 18 = .long y_word ∧ Gh 19 = .int y_got ∧ Gh 21 = .int y_onces ∧ Gh 23 = .int y_jumped ∧ Gh 24 = .int y_heights ∧ Gh 41 = .int y_undoMany ∧ IR 0 8 y_undoMany ∧ SG 153 153 0 44 g_s ∧ SG 0 0 0 40 g_s ∧ SG 5 5 0 12 g_s ∧ SG 6 6 0 12 g_s ∧ SG 7 7 0 6 g_s ∧ SG 44 55 0 9 g_s ∧ KW 0 g_s ∧ SG 105 108 0 11 g_s ∧ SG 114 114 0 5 g_s ∧ SG 130 133 0 11 g_s ∧ SG 139 139 0 5 g_s ∧ SG 1 4 0 11 g_planRead ∧ SG 10 10 0 5 g_planRead ∧ ((y_token.toInt = 2 → 0 ≤ y_number.toInt ∧ y_number.toInt ≤ 999)) ∧ u = [(h0, .inr (10, vL 67 Gh)), (h_tape, .inl (cB, 940, .inl f_tape)), (h_s, .inl (cI, 335, .inl g_s)), (h_names, .inl (cJ, 36, .inr (.inl f_names))), (h_reserved, .inl (cJ, 23, .inr (.inl f_reserved))), (h_planRead, .inl (cI, 24, .inl g_planRead))]) (PO D A) A) [.ref h0].toArray s 0 0 A) (F0 m 84 ls [])) ?_ (0, w23) ⟨(show 0 ≤ (0 : Int32).toInt ∧ (0 : Int32).toInt ≤ 12 by decide), i25, i26⟩ _ _ _ hP hD hS hl
      rintro ⟨u29, w30⟩ ⟨i31, i32, i33⟩ ih_84 H locs ls hP hD hS hl
      have i31 : 0 ≤ u29.toInt ∧ u29.toInt ≤ 12 := i31
      have hP : va_P D vwCl [(h_tape, .inl (cB, 940, .inl f_tape)), (h_s, .inl (cI, 335, .inl f_s)), (h_names, .inl (cJ, 36, .inr (.inl f_names))), (h_reserved, .inl (cJ, 23, .inr (.inl f_reserved))), (h_planRead, .inl (cI, 24, .inl w30)), (h0, .inr (10, vL 67 F14))] H := hP
      have hD : va_D A [(h_tape, .inl (cB, 940, .inl f_tape)), (h_s, .inl (cI, 335, .inl f_s)), (h_names, .inl (cJ, 36, .inr (.inl f_names))), (h_reserved, .inl (cJ, 23, .inr (.inl f_reserved))), (h_planRead, .inl (cI, 24, .inl w30)), (h0, .inr (10, vL 67 F14))] := hD
      have hl : lv_has ls 3 [(1, .int u29), (0, .ref h0)] := hl
      refine lv_iload_n hx hb dX10_plan_84 rfl (lv_at hl 0 rfl) ?_
      refine lv_aload_n hx hb dX10_plan_85 rfl (lv_at hl 1 rfl) ?_
      have n34 : F1 6 = .ref h_s := (get_ne eF1 (by decide) e_s)
      have n35 : F4 6 = .ref h_s := (SAME.at t5 (by decide) n34)
      have n36 : F11 6 = .ref h_s := (get_ne eF11 (by decide) n35)
      have n37 : F12 6 = .ref h_s := (get_ne eF12 (by decide) n36)
      have n38 : F13 6 = .ref h_s := (get_ne eF13 (by decide) n37)
      have n39 : F14 6 = .ref h_s := (get_ne eF14 (by decide) n38)
      refine get_f (D := D) (ci := 10) (v := .ref h_s) (C := RX10) (T := TX10) (N := 67) hx hb hw inAX10 hown hK hP 5 rfl rfl 6 (by decide) (hw _ q_1267) (fun _ h9 => h9) n39 dX10_plan_86 ?_
      refine lv_bipush (v := 6) hx hb dX10_plan_89 (by decide) ?_
      refine iald_n hx hb hK hP 1 0 rfl rfl 6 rfl (Nat.le_of_ble_eq_true rfl) (Nat.le_of_ble_eq_true rfl) rfl dX10_plan_91 ?_
      refine lv_topi (fun v40 ev40 => ?_)
      have k41 : 0 ≤ v40.toInt ∧ v40.toInt ≤ 12 := by rw [ev40]; exact s_s_6.atN 6 (by decide) (by decide)
      refine lv_icmp_ge (tgt := 119) hx hb dX10_plan_92 (by decide) (fun c42 => ?_) (fun c42 => ?_)
      · have dc42 : v40.toInt ≤ u29.toInt := le_i (a := v40.toInt) (b := u29.toInt) rfl rfl c42
        refine lv_aload_n hx hb dX10_plan_119 rfl (lv_at hl 1 rfl) ?_
        have n43 : F1 22 = .ref h_planRead := (get_ne eF1 (by decide) e_planRead)
        have n44 : F4 22 = .ref h_planRead := (SAME.at t5 (by decide) n43)
        have n45 : F11 22 = .ref h_planRead := (get_ne eF11 (by decide) n44)
        have n46 : F12 22 = .ref h_planRead := (get_ne eF12 (by decide) n45)
        have n47 : F13 22 = .ref h_planRead := (get_ne eF13 (by decide) n46)
        have n48 : F14 22 = .ref h_planRead := (get_ne eF14 (by decide) n47)
        refine get_f (D := D) (ci := 10) (v := .ref h_planRead) (C := RX10) (T := TX10) (N := 67) hx hb hw inAX10 hown hK hP 5 rfl rfl 22 (by decide) (hw _ q_1283) (fun _ h9 => h9) n48 dX10_plan_120 ?_
        refine lv_bipush (v := 11) hx hb dX10_plan_123 (by decide) ?_
        refine lv_iconst (v := 1) hx hb dX10_plan_125 (by decide) ?_
        obtain ⟨g49, eg49⟩ : ∃ z : Nat → Int32, upd w30 11 1 = z := ⟨_, rfl⟩
        have r50 : SG 1 4 0 11 g49 := by rw [← eg49]; exact i32.upN (Or.inr (Or.inl (by decide)))
        have r51 : SG 10 10 0 5 g49 := by rw [← eg49]; exact i33.upN (Or.inr (Or.inl (by decide)))
        refine iast_n hx hb hK hP hD hS 4 0 rfl rfl 11 rfl (Nat.le_of_ble_eq_true rfl) (Nat.le_of_ble_eq_true rfl) eg49 dX10_plan_126 (fun H locs hP hD hS => ?_)
        have hP : va_P D vwCl [(h_tape, .inl (cB, 940, .inl f_tape)), (h_s, .inl (cI, 335, .inl f_s)), (h_names, .inl (cJ, 36, .inr (.inl f_names))), (h_reserved, .inl (cJ, 23, .inr (.inl f_reserved))), (h_planRead, .inl (cI, 24, .inl g49)), (h0, .inr (10, vL 67 F14))] H := hP
        have hD : va_D A [(h_tape, .inl (cB, 940, .inl f_tape)), (h_s, .inl (cI, 335, .inl f_s)), (h_names, .inl (cJ, 36, .inr (.inl f_names))), (h_reserved, .inl (cJ, 23, .inr (.inl f_reserved))), (h_planRead, .inl (cI, 24, .inl g49)), (h0, .inr (10, vL 67 F14))] := hD
        refine lv_iconst (v := 0) hx hb dX10_plan_127 (by decide) ?_
        refine lv_istore_n (lv' := [(1, .int 0), (0, .ref h0)]) hx hb dX10_plan_128 rfl hl (by decide) rfl (fun ls hl => ?_)
        refine lv_aload_n hx hb dX10_plan_129 rfl (lv_at hl 1 rfl) ?_
        have n52 : F1 1 = .ref h_tape := (get_ne eF1 (by decide) e_tape)
        have n53 : F4 1 = .ref h_tape := (SAME.at t5 (by decide) n52)
        have n54 : F11 1 = .ref h_tape := (get_ne eF11 (by decide) n53)
        have n55 : F12 1 = .ref h_tape := (get_ne eF12 (by decide) n54)
        have n56 : F13 1 = .ref h_tape := (get_ne eF13 (by decide) n55)
        have n57 : F14 1 = .ref h_tape := (get_ne eF14 (by decide) n56)
        have n58 : F11 3 = .int x_length := (get_ne eF11 (by decide) t7)
        have n59 : F12 3 = .int x_length := (get_ne eF12 (by decide) n58)
        have n60 : F13 3 = .int x_length := (get_ne eF13 (by decide) n59)
        have n61 : F14 3 = .int x_length := (get_ne eF14 (by decide) n60)
        have n62 : F11 4 = .int 0 := (get_ne eF11 (by decide) t8)
        have n63 : F12 4 = .int 0 := (get_ne eF12 (by decide) n62)
        have n64 : F13 4 = .int 0 := (get_ne eF13 (by decide) n63)
        have n65 : F14 4 = .int 0 := (get_ne eF14 (by decide) n64)
        have n66 : F11 5 = .int 400 := (get_ne eF11 (by decide) t9)
        have n67 : F12 5 = .int 400 := (get_ne eF12 (by decide) n66)
        have n68 : F13 5 = .int 400 := (get_ne eF13 (by decide) n67)
        have n69 : F14 5 = .int 400 := (get_ne eF14 (by decide) n68)
        have n70 : F1 11 = .int x_token := (get_ne eF1 (by decide) e_token)
        have n71 : F4 11 = .int x_token := (SAME.at t5 (by decide) n70)
        have n72 : F11 11 = .int x_token := (get_ne eF11 (by decide) n71)
        have n73 : F12 11 = .int x_token := (get_ne eF12 (by decide) n72)
        have n74 : F13 11 = .int x_token := (get_ne eF13 (by decide) n73)
        have n75 : F14 11 = .int x_token := (get_ne eF14 (by decide) n74)
        have n76 : F1 14 = .int x_number := (get_ne eF1 (by decide) e_number)
        have n77 : F4 14 = .int x_number := (SAME.at t5 (by decide) n76)
        have n78 : F11 14 = .int x_number := (get_ne eF11 (by decide) n77)
        have n79 : F12 14 = .int x_number := (get_ne eF12 (by decide) n78)
        have n80 : F13 14 = .int x_number := (get_ne eF13 (by decide) n79)
        have n81 : F14 14 = .int x_number := (get_ne eF14 (by decide) n80)
        have n82 : F1 18 = .long x_word := (get_ne eF1 (by decide) e_word)
        have n83 : F4 18 = .long x_word := (SAME.at t5 (by decide) n82)
        have n84 : F11 18 = .long x_word := (get_ne eF11 (by decide) n83)
        have n85 : F12 18 = .long x_word := (get_ne eF12 (by decide) n84)
        have n86 : F13 18 = .long x_word := (get_ne eF13 (by decide) n85)
        have n87 : F14 18 = .long x_word := (get_ne eF14 (by decide) n86)
        refine call_Vv (wr := [(h_s, .inl (cI, 335, .inl f_s)), (h_names, .inl (cJ, 36, .inr (.inl f_names))), (h_reserved, .inl (cJ, 23, .inr (.inl f_reserved))), (h_planRead, .inl (cI, 24, .inl g49))]) (As := []) (rest := []) hx hb hml hown hw (m_X10_next l D cI cJ cB cP cM cZ h0 h_tape F14 x_length 0 400 x_token x_number x_word f_tape _ n57 n61 i_x_length n65 (show 0 ≤ (0 : Int32).toInt ∧ (0 : Int32).toInt ≤ 940 by decide) n69 (show 200 ≤ (400 : Int32).toInt ∧ (400 : Int32).toInt ≤ 940 by decide) n75 i_x_token n81 n87 (by omega)) wV_X10_208_X10_next dX10_plan_130 hK hP hD hS hA [5, 0] [1, 2, 3, 4] rfl rfl (by decide) (by decide) (by decide) 0 10 rfl rfl GG.fb hG.at hl.1 rfl (Nat.le_of_ble_eq_true rfl) ⟨(Nat.le_of_ble_eq_true rfl), (Nat.le_of_ble_eq_true rfl)⟩ ⟨(Nat.le_of_ble_eq_true rfl), (Nat.le_of_ble_eq_true rfl)⟩ (fun u H locs hp hP hD hS => ?_)
        have zl0 : (0 : Int32).toInt = 0 := by decide
        obtain ⟨F89, y90, y91, y92, y93, y94, y95, t96, t97, t98, t99, t100, t101, t102, t103, t104, t105, t106, t107, t108, t109, rfl⟩ := hp
        have hP : va_P D vwCl [(h_s, .inl (cI, 335, .inl f_s)), (h_names, .inl (cJ, 36, .inr (.inl f_names))), (h_reserved, .inl (cJ, 23, .inr (.inl f_reserved))), (h_planRead, .inl (cI, 24, .inl g49)), (h0, .inr (10, vL 67 F89)), (h_tape, .inl (cB, 940, .inl f_tape))] H := hP
        have hD : va_D A [(h_s, .inl (cI, 335, .inl f_s)), (h_names, .inl (cJ, 36, .inr (.inl f_names))), (h_reserved, .inl (cJ, 23, .inr (.inl f_reserved))), (h_planRead, .inl (cI, 24, .inl g49)), (h0, .inr (10, vL 67 F89)), (h_tape, .inl (cB, 940, .inl f_tape))] := hD
        refine W.widen (k := 0) (n := 0) (Nat.le_of_ble_eq_true rfl) (Nat.le_of_ble_eq_true rfl) ?_
        have cut126 : ∀ (u111 : Int32) (w112 : Nat → Int32) (G113 : Nat → Value) (u114 : Int32) (u115 : Int32) (u116 : Int32) (u117 : Int32) (u118 : Int32) (u119 : Int32) (u120 : Int32) (u121 : Int64) (u122 : Int32) (u123 : Int32) (u124 : Int32) (u125 : Int32) (_ : SG 1 4 0 11 w112) (_ : SG 10 10 0 5 w112) (_ : SAME [4, 11, 12, 13, 14, 15, 16, 18, 19, 21, 23, 24] F89 G113) (_ : G113 4 = .int u114) (_ : G113 11 = .int u115) (_ : G113 12 = .int u116) (_ : G113 13 = .int u117) (_ : G113 14 = .int u118) (_ : G113 15 = .int u119) (_ : G113 16 = .int u120) (_ : G113 18 = .long u121) (_ : G113 19 = .int u122) (_ : G113 21 = .int u123) (_ : G113 23 = .int u124) (_ : G113 24 = .int u125) (_ : IR 0 940 u114) (_ : IR 0 4 u115) (_ : IR 0 940 u116) (_ : IR 0 940 u117) (_ : ((u115.toInt = 2 → 0 ≤ u118.toInt ∧ u118.toInt ≤ 999))) (H : Heap) (locs : List Loc) (ls : Array Slot), va_P D vwCl [(h_s, .inl (cI, 335, .inl f_s)), (h_names, .inl (cJ, 36, .inr (.inl f_names))), (h_reserved, .inl (cJ, 23, .inr (.inl f_reserved))), (h_planRead, .inl (cI, 24, .inl w112)), (h0, .inr (10, vL 67 G113)), (h_tape, .inl (cB, 940, .inl f_tape))] H → va_D A [(h_s, .inl (cI, 335, .inl f_s)), (h_names, .inl (cJ, 36, .inr (.inl f_names))), (h_reserved, .inl (cJ, 23, .inr (.inl f_reserved))), (h_planRead, .inl (cI, 24, .inl w112)), (h0, .inr (10, vL 67 G113)), (h_tape, .inl (cB, 940, .inl f_tape))] → va_S A s.heap H locs → lv_has ls 3 [(1, .int u111), (0, .ref h0)] → W p l e ({ frames := 4, cells := 0, slots := 0, locals := 86 } : Room) s m [.ref h0].toArray below meth c H locs 0 0 (MQ below (va_Qi (fun (r : Int32) (u : va_W) => ∃ (Gh : Nat → Value) (y_p : Int32) (y_token : Int32) (y_at : Int32) (y_span : Int32) (y_number : Int32) (y_fault : Int32) (y_faultAt : Int32) (y_word : Int64) (y_got : Int32) (y_onces : Int32) (y_jumped : Int32) (y_heights : Int32) (y_undoMany : Int32) (g_s : Nat → Int32) (g_planRead : Nat → Int32), SAME [0, 2, 3, 4, 5, 11, 12, 13, 14, 15, 16, 18, 19, 21, 23, 24, 41] Fh Gh ∧ Gh 0 = .int 0 ∧ Gh 2 = .int 0 ∧ Gh 3 = .int x_length ∧ Gh 4 = .int y_p ∧ IR 0 940 y_p ∧ Gh 5 = .int 400 ∧ Gh 11 = .int y_token ∧ IR 0 4 y_token ∧ Gh 12 = .int y_at ∧ Gh 13 = .int y_span ∧ Gh 14 = .int y_number ∧ Gh 15 = .int y_fault ∧ Gh 16 = .int y_faultAt ∧ Gh 18 = .long y_word ∧ Gh 19 = .int y_got ∧ Gh 21 = .int y_onces ∧ Gh 23 = .int y_jumped ∧ Gh 24 = .int y_heights ∧ Gh 41 = .int y_undoMany ∧ IR 0 8 y_undoMany ∧ SG 153 153 0 44 g_s ∧ SG 0 0 0 40 g_s ∧ SG 5 5 0 12 g_s ∧ SG 6 6 0 12 g_s ∧ SG 7 7 0 6 g_s ∧ SG 44 55 0 9 g_s ∧ KW 0 g_s ∧ SG 105 108 0 11 g_s ∧ SG 114 114 0 5 g_s ∧ SG 130 133 0 11 g_s ∧ SG 139 139 0 5 g_s ∧ SG 1 4 0 11 g_planRead ∧ SG 10 10 0 5 g_planRead ∧ ((y_token.toInt = 2 → 0 ≤ y_number.toInt ∧ y_number.toInt ≤ 999)) ∧ u = [(h0, .inr (10, vL 67 Gh)), (h_tape, .inl (cB, 940, .inl f_tape)), (h_s, .inl (cI, 335, .inl g_s)), (h_names, .inl (cJ, 36, .inr (.inl f_names))), (h_reserved, .inl (cJ, 23, .inr (.inl f_reserved))), (h_planRead, .inl (cI, 24, .inl g_planRead))]) (PO D A) A) [.ref h0].toArray s 0 0 A) (F0 m 169 ls []) := by
          intro u111 w112 G113 u114 u115 u116 u117 u118 u119 u120 u121 u122 u123 u124 u125 i127 i128 i129 i130 i131 i132 i133 i134 i135 i136 i137 i138 i139 i140 i141 i142 i143 i144 i145 i146 H locs ls hP hD hS hl
          have i142 : 0 ≤ u114.toInt ∧ u114.toInt ≤ 940 := i142
          have i143 : 0 ≤ u115.toInt ∧ u115.toInt ≤ 4 := i143
          have i144 : 0 ≤ u116.toInt ∧ u116.toInt ≤ 940 := i144
          have i145 : 0 ≤ u117.toInt ∧ u117.toInt ≤ 940 := i145
          have i146 : (u115.toInt = 2 → 0 ≤ u118.toInt ∧ u118.toInt ≤ 999) := i146
          refine lv_iconst (v := 0) hx hb dX10_plan_169 (by decide) ?_
          refine lv_istore_n (lv' := [(2, .int 0), (1, .int u111), (0, .ref h0)]) hx hb dX10_plan_170 rfl hl (by decide) rfl (fun ls hl => ?_)
          refine mloop (α := (Int32) × (Nat → Int32)) (nL := 3) (D := D) (A := A) (H0 := s.heap) (fun a => (24 - a.1.toInt).toNat) (fun a => IR 0 24 a.1 ∧ KW 0 a.2 ∧ SG 0 0 0 40 a.2 ∧ SG 105 108 0 11 a.2 ∧ SG 114 114 0 5 a.2 ∧ SG 130 133 0 11 a.2 ∧ SG 139 139 0 5 a.2 ∧ SG 153 153 0 44 a.2 ∧ SG 44 55 0 9 a.2 ∧ SG 5 5 0 12 a.2 ∧ SG 6 6 0 12 a.2 ∧ SG 7 7 0 6 a.2) (fun a => [(h_s, .inl (cI, 335, .inl a.2)), (h_names, .inl (cJ, 36, .inr (.inl f_names))), (h_reserved, .inl (cJ, 23, .inr (.inl f_reserved))), (h_planRead, .inl (cI, 24, .inl w112)), (h0, .inr (10, vL 67 G113)), (h_tape, .inl (cB, 940, .inl f_tape))]) (fun a => [(2, .int a.1), (1, .int u111), (0, .ref h0)]) (fun H locs ls => W p l e ({ frames := 4, cells := 0, slots := 0, locals := 86 } : Room) s m [.ref h0].toArray below meth c H locs 0 0 (MQ below (va_Qi (fun (r : Int32) (u : va_W) => ∃ (Gh : Nat → Value) (y_p : Int32) (y_token : Int32) (y_at : Int32) (y_span : Int32) (y_number : Int32) (y_fault : Int32) (y_faultAt : Int32) (y_word : Int64) (y_got : Int32) (y_onces : Int32) (y_jumped : Int32) (y_heights : Int32) (y_undoMany : Int32) (g_s : Nat → Int32) (g_planRead : Nat → Int32), SAME [0, 2, 3, 4, 5, 11, 12, 13, 14, 15, 16, 18, 19, 21, 23, 24, 41] Fh Gh ∧ Gh 0 = .int 0 ∧ Gh 2 = .int 0 ∧ Gh 3 = .int x_length ∧ Gh 4 = .int y_p ∧ IR 0 940 y_p ∧ Gh 5 = .int 400 ∧ Gh 11 = .int y_token ∧ IR 0 4 y_token ∧ Gh 12 = .int y_at ∧ Gh 13 = .int y_span ∧ Gh 14 = .int y_number ∧ Gh 15 = .int y_fault ∧ Gh 16 = .int y_faultAt ∧ Gh 18 = .long y_word ∧ Gh 19 = .int y_got ∧ Gh 21 = .int y_onces ∧ Gh 23 = .int y_jumped ∧ Gh 24 = .int y_heights ∧ Gh 41 = .int y_undoMany ∧ IR 0 8 y_undoMany ∧ SG 153 153 0 44 g_s ∧ SG 0 0 0 40 g_s ∧ SG 5 5 0 12 g_s ∧ SG 6 6 0 12 g_s ∧ SG 7 7 0 6 g_s ∧ SG 44 55 0 9 g_s ∧ KW 0 g_s ∧ SG 105 108 0 11 g_s ∧ SG 114 114 0 5 g_s ∧ SG 130 133 0 11 g_s ∧ SG 139 139 0 5 g_s ∧ SG 1 4 0 11 g_planRead ∧ SG 10 10 0 5 g_planRead ∧ ((y_token.toInt = 2 → 0 ≤ y_number.toInt ∧ y_number.toInt ≤ 999)) ∧ u = [(h0, .inr (10, vL 67 Gh)), (h_tape, .inl (cB, 940, .inl f_tape)), (h_s, .inl (cI, 335, .inl g_s)), (h_names, .inl (cJ, 36, .inr (.inl f_names))), (h_reserved, .inl (cJ, 23, .inr (.inl f_reserved))), (h_planRead, .inl (cI, 24, .inl g_planRead))]) (PO D A) A) [.ref h0].toArray s 0 0 A) (F0 m 171 ls [])) ?_ (0, f_s) ⟨(show 0 ≤ (0 : Int32).toInt ∧ (0 : Int32).toInt ≤ 24 by decide), s_s_K0, s_s_0, s_s_105, s_s_114, s_s_130, s_s_139, s_s_153, s_s_44, s_s_5, s_s_6, s_s_7⟩ _ _ _ hP hD hS hl
          rintro ⟨u147, w148⟩ ⟨i149, i150, i151, i152, i153, i154, i155, i156, i157, i158, i159, i160⟩ ih_171 H locs ls hP hD hS hl
          have i149 : 0 ≤ u147.toInt ∧ u147.toInt ≤ 24 := i149
          have hP : va_P D vwCl [(h_s, .inl (cI, 335, .inl w148)), (h_names, .inl (cJ, 36, .inr (.inl f_names))), (h_reserved, .inl (cJ, 23, .inr (.inl f_reserved))), (h_planRead, .inl (cI, 24, .inl w112)), (h0, .inr (10, vL 67 G113)), (h_tape, .inl (cB, 940, .inl f_tape))] H := hP
          have hD : va_D A [(h_s, .inl (cI, 335, .inl w148)), (h_names, .inl (cJ, 36, .inr (.inl f_names))), (h_reserved, .inl (cJ, 23, .inr (.inl f_reserved))), (h_planRead, .inl (cI, 24, .inl w112)), (h0, .inr (10, vL 67 G113)), (h_tape, .inl (cB, 940, .inl f_tape))] := hD
          have hl : lv_has ls 3 [(2, .int u147), (1, .int u111), (0, .ref h0)] := hl
          refine lv_iload_n hx hb dX10_plan_171 rfl (lv_at hl 0 rfl) ?_
          refine lv_bipush (v := 24) hx hb dX10_plan_172 (by decide) ?_
          refine lv_icmp_ge (tgt := 198) hx hb dX10_plan_174 (by decide) (fun c161 => ?_) (fun c161 => ?_)
          · have dc161 : 24 ≤ u147.toInt := le_i (a := 24) (b := u147.toInt) rfl rfl c161
            have k162 : 24 ≤ u147.toInt ∧ u147.toInt ≤ 24 := ⟨Int.le_trans (Int.le_refl _) dc161, i149.2⟩
            refine lv_aload_n hx hb dX10_plan_198 rfl (lv_at hl 2 rfl) ?_
            refine lv_iconst (v := 0) hx hb dX10_plan_199 (by decide) ?_
            refine put_f (D := D) (ci := 10) (v := .int 0) (ty := .int) (C := RX10) (T := TX10) (N := 67) hx hb hw inAX10 tyX10 tyX10_ok nmX10 hown hK hP hD hS 4 rfl rfl 41 (by decide) (hw _ q_1302) (fun _ h9 => h9) rfl (by decide +kernel) rfl rfl dX10_plan_200 (fun H locs F163 eF163 hP hD hS => ?_)
            have hP : va_P D vwCl [(h_s, .inl (cI, 335, .inl w148)), (h_names, .inl (cJ, 36, .inr (.inl f_names))), (h_reserved, .inl (cJ, 23, .inr (.inl f_reserved))), (h_planRead, .inl (cI, 24, .inl w112)), (h0, .inr (10, vL 67 F163)), (h_tape, .inl (cB, 940, .inl f_tape))] H := hP
            have hD : va_D A [(h_s, .inl (cI, 335, .inl w148)), (h_names, .inl (cJ, 36, .inr (.inl f_names))), (h_reserved, .inl (cJ, 23, .inr (.inl f_reserved))), (h_planRead, .inl (cI, 24, .inl w112)), (h0, .inr (10, vL 67 F163)), (h_tape, .inl (cB, 940, .inl f_tape))] := hD
            refine lv_iload_n hx hb dX10_plan_203 rfl (lv_at hl 1 rfl) ?_
            exact ret_i (v := u111) hx hb hr hlocks hS (hP.sub (ws' := [(h0, .inr (10, vL 67 F163)), (h_tape, .inl (cB, 940, .inl f_tape)), (h_s, .inl (cI, 335, .inl w148)), (h_names, .inl (cJ, 36, .inr (.inl f_names))), (h_reserved, .inl (cJ, 23, .inr (.inl f_reserved))), (h_planRead, .inl (cI, 24, .inl w112))]) [4, 5, 0, 1, 2, 3] rfl) (hD.sub (ws' := [(h0, .inr (10, vL 67 F163)), (h_tape, .inl (cB, 940, .inl f_tape)), (h_s, .inl (cI, 335, .inl w148)), (h_names, .inl (cJ, 36, .inr (.inl f_names))), (h_reserved, .inl (cJ, 23, .inr (.inl f_reserved))), (h_planRead, .inl (cI, 24, .inl w112))]) [4, 5, 0, 1, 2, 3] (by decide) rfl) dX10_plan_204 rfl (Nat.le_of_ble_eq_true rfl) (Nat.le_of_ble_eq_true rfl) ⟨F163, u114, u115, u116, u117, u118, u119, u120, u121, u122, u123, u124, u125, 0, w148, w112, (SAME.up eF163 (SAME.tr (SAME.tr (SAME.up eF14 (SAME.up eF13 (SAME.up eF12 (SAME.up eF11 (SAME.tr (SAME.up eF1 SAME.rf (by decide)) t5 (by decide)) (by decide)) (by decide)) (by decide)) (by decide)) t96 (by decide)) i129 (by decide)) (by decide)), (get_ne eF163 (by decide) (SAME.at i129 (by decide) (SAME.at t96 (by decide) (get_ne eF14 (by decide) (get_ne eF13 (by decide) (get_ne eF12 (by decide) (get_ne eF11 (by decide) (SAME.at t5 (by decide) (get_eq eF1))))))))), (get_ne eF163 (by decide) (SAME.at i129 (by decide) (SAME.at t96 (by decide) (get_ne eF14 (by decide) (get_ne eF13 (by decide) (get_ne eF12 (by decide) (get_ne eF11 (by decide) t6))))))), (get_ne eF163 (by decide) (SAME.at i129 (by decide) (SAME.at t96 (by decide) n61))), (get_ne eF163 (by decide) i130), i142, (get_ne eF163 (by decide) (SAME.at i129 (by decide) (SAME.at t96 (by decide) n69))), (get_ne eF163 (by decide) i131), i143, (get_ne eF163 (by decide) i132), (get_ne eF163 (by decide) i133), (get_ne eF163 (by decide) i134), (get_ne eF163 (by decide) i135), (get_ne eF163 (by decide) i136), (get_ne eF163 (by decide) i137), (get_ne eF163 (by decide) i138), (get_ne eF163 (by decide) i139), (get_ne eF163 (by decide) i140), (get_ne eF163 (by decide) i141), (get_eq eF163), (show 0 ≤ (0 : Int32).toInt ∧ (0 : Int32).toInt ≤ 8 by decide), i156, i151, i158, i159, i160, i157, i150, i152, i153, i154, i155, i127, i128, (by have zl0 : (0 : Int32).toInt = 0 := (by decide); omega), rfl⟩
          · have dc161 : u147.toInt < 24 := nle_i (a := 24) (b := u147.toInt) rfl rfl c161
            have k164 : 0 ≤ u147.toInt ∧ u147.toInt ≤ 23 := ⟨i149.1, up_lt dc161 (Int.le_refl _) (by decide)⟩
            refine lv_aload_n hx hb dX10_plan_177 rfl (lv_at hl 2 rfl) ?_
            have n165 : F89 6 = .ref h_s := (SAME.at t96 (by decide) n39)
            have n166 : G113 6 = .ref h_s := (SAME.at i129 (by decide) n165)
            refine get_f (D := D) (ci := 10) (v := .ref h_s) (C := RX10) (T := TX10) (N := 67) hx hb hw inAX10 hown hK hP 4 rfl rfl 6 (by decide) (hw _ q_1267) (fun _ h9 => h9) n166 dX10_plan_178 ?_
            refine lv_bipush (v := 104) hx hb dX10_plan_181 (by decide) ?_
            refine lv_iload_n hx hb dX10_plan_183 rfl (lv_at hl 0 rfl) ?_
            refine lv_iadd hx hb dX10_plan_184 ?_
            refine lv_topi (fun v167 ev167 => ?_)
            have bv167 : v167.toInt = 104 + u147.toInt := by rw [ev167]; exact add_k rfl rfl ⟨Int.le_refl _, Int.le_refl _⟩ k164 (by decide)
            have k168 : 104 ≤ v167.toInt ∧ v167.toInt ≤ 127 := add_r bv167 ⟨Int.le_refl _, Int.le_refl _⟩ k164 (by decide)
            refine lv_aload_n hx hb dX10_plan_185 rfl (lv_at hl 2 rfl) ?_
            have n169 : F89 22 = .ref h_planRead := (SAME.at t96 (by decide) n48)
            have n170 : G113 22 = .ref h_planRead := (SAME.at i129 (by decide) n169)
            refine get_f (D := D) (ci := 10) (v := .ref h_planRead) (C := RX10) (T := TX10) (N := 67) hx hb hw inAX10 hown hK hP 4 rfl rfl 22 (by decide) (hw _ q_1283) (fun _ h9 => h9) n170 dX10_plan_186 ?_
            refine lv_iload_n hx hb dX10_plan_189 rfl (lv_at hl 0 rfl) ?_
            refine va_iald hx hb hK hP 3 0 rfl rfl (ix_k k164 (by decide) (by decide)) dX10_plan_190 ?_
            refine lv_topi (fun v171 ev171 => ?_)
            have r172 : IMP (1 ≤ u147.toInt → u147.toInt ≤ 4 → 0 ≤ v171.toInt ∧ v171.toInt ≤ 11) := IMP.mk (fun q1 q2 => by rw [ev171]; exact i127.at _ q1 q2)
            have r173 : IMP (10 ≤ u147.toInt → u147.toInt ≤ 10 → 0 ≤ v171.toInt ∧ v171.toInt ≤ 5) := IMP.mk (fun q1 q2 => by rw [ev171]; exact i128.at _ q1 q2)
            obtain ⟨g174, eg174⟩ : ∃ z : Nat → Int32, upd w148 v167.toNatClampNeg v171 = z := ⟨_, rfl⟩
            have r175 : KW 0 g174 := by rw [← eg174]; exact i150.up (Int.le_trans (by decide) k168.1) (Or.inl (lt_dec k168.2 (by decide)))
            have r176 : SG 0 0 0 40 g174 := by rw [← eg174]; exact i151.up (Int.le_trans (by decide) k168.1) (Or.inr (Or.inl (dec_lt k168.1 (by decide))))
            have r177 : SG 105 108 0 11 g174 := by rw [← eg174]; exact i152.upI (Int.le_trans (by decide) k168.1) (fun q1 q2 => ⟨Int.le_trans (by decide) (r172.h (by omega) (by omega)).1, Int.le_trans (r172.h (by omega) (by omega)).2 (by decide)⟩)
            have r178 : SG 114 114 0 5 g174 := by rw [← eg174]; exact i153.upI (Int.le_trans (by decide) k168.1) (fun q1 q2 => ⟨Int.le_trans (by decide) (r173.h (by omega) (by omega)).1, Int.le_trans (r173.h (by omega) (by omega)).2 (by decide)⟩)
            have r179 : SG 130 133 0 11 g174 := by rw [← eg174]; exact i154.up (Int.le_trans (by decide) k168.1) (Or.inl (lt_dec k168.2 (by decide)))
            have r180 : SG 139 139 0 5 g174 := by rw [← eg174]; exact i155.up (Int.le_trans (by decide) k168.1) (Or.inl (lt_dec k168.2 (by decide)))
            have r181 : SG 153 153 0 44 g174 := by rw [← eg174]; exact i156.up (Int.le_trans (by decide) k168.1) (Or.inl (lt_dec k168.2 (by decide)))
            have r182 : SG 44 55 0 9 g174 := by rw [← eg174]; exact i157.up (Int.le_trans (by decide) k168.1) (Or.inr (Or.inl (dec_lt k168.1 (by decide))))
            have r183 : SG 5 5 0 12 g174 := by rw [← eg174]; exact i158.up (Int.le_trans (by decide) k168.1) (Or.inr (Or.inl (dec_lt k168.1 (by decide))))
            have r184 : SG 6 6 0 12 g174 := by rw [← eg174]; exact i159.up (Int.le_trans (by decide) k168.1) (Or.inr (Or.inl (dec_lt k168.1 (by decide))))
            have r185 : SG 7 7 0 6 g174 := by rw [← eg174]; exact i160.up (Int.le_trans (by decide) k168.1) (Or.inr (Or.inl (dec_lt k168.1 (by decide))))
            refine iast_g hx hb hK hP hD hS 0 0 rfl rfl (ix_k k168 (by decide) (by decide)) eg174 dX10_plan_191 (fun H locs hP hD hS => ?_)
            have hP : va_P D vwCl [(h_s, .inl (cI, 335, .inl g174)), (h_names, .inl (cJ, 36, .inr (.inl f_names))), (h_reserved, .inl (cJ, 23, .inr (.inl f_reserved))), (h_planRead, .inl (cI, 24, .inl w112)), (h0, .inr (10, vL 67 G113)), (h_tape, .inl (cB, 940, .inl f_tape))] H := hP
            have hD : va_D A [(h_s, .inl (cI, 335, .inl g174)), (h_names, .inl (cJ, 36, .inr (.inl f_names))), (h_reserved, .inl (cJ, 23, .inr (.inl f_reserved))), (h_planRead, .inl (cI, 24, .inl w112)), (h0, .inr (10, vL 67 G113)), (h_tape, .inl (cB, 940, .inl f_tape))] := hD
            obtain ⟨v186, ev186⟩ : ∃ z : Int32, z = u147 + 1 := ⟨_, rfl⟩
            have bv186 : v186.toInt = u147.toInt + 1 := by rw [ev186]; exact add_k rfl rfl k164 ⟨Int.le_refl _, Int.le_refl _⟩ (by decide)
            have k187 : 1 ≤ v186.toInt ∧ v186.toInt ≤ 24 := add_r bv186 k164 ⟨Int.le_refl _, Int.le_refl _⟩ (by decide)
            refine lv_iinc (v := v186) (lv' := [(2, .int v186), (1, .int u111), (0, .ref h0)]) hx hb dX10_plan_192 hl (k := 0) rfl (by rw [ev186]; rfl) (by decide) rfl (fun ls hl => ?_)
            refine lv_goto (tgt := 171) hx hb dX10_plan_195 (by decide) ?_
            exact ih_171 (v186, g174) ⟨(ir_wk k187 (by decide) (by decide)), r175, r176, r177, r178, r179, r180, r181, r182, r183, r184, r185⟩ (by show (24 - v186.toInt).toNat < (24 - u147.toInt).toNat; omega) _ _ _ hP hD hS (lv_sub hl [0, 1, 2] rfl)
        have n188 : F12 15 = .int 0 := (get_ne eF12 (by decide) (get_eq eF11))
        have n189 : F13 15 = .int 0 := (get_ne eF13 (by decide) n188)
        have n190 : F14 15 = .int 0 := (get_ne eF14 (by decide) n189)
        have n191 : F89 15 = .int 0 := (SAME.at t96 (by decide) n190)
        have n192 : F1 16 = .int x_faultAt := (get_ne eF1 (by decide) e_faultAt)
        have n193 : F4 16 = .int x_faultAt := (SAME.at t5 (by decide) n192)
        have n194 : F11 16 = .int x_faultAt := (get_ne eF11 (by decide) n193)
        have n195 : F12 16 = .int x_faultAt := (get_ne eF12 (by decide) n194)
        have n196 : F13 16 = .int x_faultAt := (get_ne eF13 (by decide) n195)
        have n197 : F14 16 = .int x_faultAt := (get_ne eF14 (by decide) n196)
        have n198 : F89 16 = .int x_faultAt := (SAME.at t96 (by decide) n197)
        have n199 : F1 19 = .int x_got := (get_ne eF1 (by decide) e_got)
        have n200 : F4 19 = .int x_got := (SAME.at t5 (by decide) n199)
        have n201 : F11 19 = .int x_got := (get_ne eF11 (by decide) n200)
        have n202 : F12 19 = .int x_got := (get_ne eF12 (by decide) n201)
        have n203 : F13 19 = .int x_got := (get_ne eF13 (by decide) n202)
        have n204 : F14 19 = .int x_got := (get_ne eF14 (by decide) n203)
        have n205 : F89 19 = .int x_got := (SAME.at t96 (by decide) n204)
        have n206 : F13 21 = .int 0 := (get_ne eF13 (by decide) (get_eq eF12))
        have n207 : F14 21 = .int 0 := (get_ne eF14 (by decide) n206)
        have n208 : F89 21 = .int 0 := (SAME.at t96 (by decide) n207)
        have n209 : F14 23 = .int 0 := (get_ne eF14 (by decide) (get_eq eF13))
        have n210 : F89 23 = .int 0 := (SAME.at t96 (by decide) n209)
        have n211 : F89 24 = .int 0 := (SAME.at t96 (by decide) (get_eq eF14))
        refine mloop (α := (Int32) × (Nat → Int32) × (Nat → Value) × (Int32) × (Int32) × (Int32) × (Int32) × (Int32) × (Int32) × (Int32) × (Int64) × (Int32) × (Int32) × (Int32) × (Int32)) (nL := 3) (D := D) (A := A) (H0 := s.heap) (fun a => (940 - a.2.2.2.1.toInt).toNat) (fun a => SG 1 4 0 11 a.2.1 ∧ SG 10 10 0 5 a.2.1 ∧ SAME [4, 11, 12, 13, 14, 15, 16, 18, 19, 21, 23, 24] F89 a.2.2.1 ∧ a.2.2.1 4 = .int a.2.2.2.1 ∧ a.2.2.1 11 = .int a.2.2.2.2.1 ∧ a.2.2.1 12 = .int a.2.2.2.2.2.1 ∧ a.2.2.1 13 = .int a.2.2.2.2.2.2.1 ∧ a.2.2.1 14 = .int a.2.2.2.2.2.2.2.1 ∧ a.2.2.1 15 = .int a.2.2.2.2.2.2.2.2.1 ∧ a.2.2.1 16 = .int a.2.2.2.2.2.2.2.2.2.1 ∧ a.2.2.1 18 = .long a.2.2.2.2.2.2.2.2.2.2.1 ∧ a.2.2.1 19 = .int a.2.2.2.2.2.2.2.2.2.2.2.1 ∧ a.2.2.1 21 = .int a.2.2.2.2.2.2.2.2.2.2.2.2.1 ∧ a.2.2.1 23 = .int a.2.2.2.2.2.2.2.2.2.2.2.2.2.1 ∧ a.2.2.1 24 = .int a.2.2.2.2.2.2.2.2.2.2.2.2.2.2 ∧ IR 0 940 a.2.2.2.1 ∧ IR 0 4 a.2.2.2.2.1 ∧ IR 0 940 a.2.2.2.2.2.1 ∧ IR 0 940 a.2.2.2.2.2.2.1 ∧ ((a.2.2.2.2.1.toInt = 2 → 0 ≤ a.2.2.2.2.2.2.2.1.toInt ∧ a.2.2.2.2.2.2.2.1.toInt ≤ 999))) (fun a => [(h_s, .inl (cI, 335, .inl f_s)), (h_names, .inl (cJ, 36, .inr (.inl f_names))), (h_reserved, .inl (cJ, 23, .inr (.inl f_reserved))), (h_planRead, .inl (cI, 24, .inl a.2.1)), (h0, .inr (10, vL 67 a.2.2.1)), (h_tape, .inl (cB, 940, .inl f_tape))]) (fun a => [(1, .int a.1), (0, .ref h0)]) (fun H locs ls => W p l e ({ frames := 4, cells := 0, slots := 0, locals := 86 } : Room) s m [.ref h0].toArray below meth c H locs 0 0 (MQ below (va_Qi (fun (r : Int32) (u : va_W) => ∃ (Gh : Nat → Value) (y_p : Int32) (y_token : Int32) (y_at : Int32) (y_span : Int32) (y_number : Int32) (y_fault : Int32) (y_faultAt : Int32) (y_word : Int64) (y_got : Int32) (y_onces : Int32) (y_jumped : Int32) (y_heights : Int32) (y_undoMany : Int32) (g_s : Nat → Int32) (g_planRead : Nat → Int32), SAME [0, 2, 3, 4, 5, 11, 12, 13, 14, 15, 16, 18, 19, 21, 23, 24, 41] Fh Gh ∧ Gh 0 = .int 0 ∧ Gh 2 = .int 0 ∧ Gh 3 = .int x_length ∧ Gh 4 = .int y_p ∧ IR 0 940 y_p ∧ Gh 5 = .int 400 ∧ Gh 11 = .int y_token ∧ IR 0 4 y_token ∧ Gh 12 = .int y_at ∧ Gh 13 = .int y_span ∧ Gh 14 = .int y_number ∧ Gh 15 = .int y_fault ∧ Gh 16 = .int y_faultAt ∧ Gh 18 = .long y_word ∧ Gh 19 = .int y_got ∧ Gh 21 = .int y_onces ∧ Gh 23 = .int y_jumped ∧ Gh 24 = .int y_heights ∧ Gh 41 = .int y_undoMany ∧ IR 0 8 y_undoMany ∧ SG 153 153 0 44 g_s ∧ SG 0 0 0 40 g_s ∧ SG 5 5 0 12 g_s ∧ SG 6 6 0 12 g_s ∧ SG 7 7 0 6 g_s ∧ SG 44 55 0 9 g_s ∧ KW 0 g_s ∧ SG 105 108 0 11 g_s ∧ SG 114 114 0 5 g_s ∧ SG 130 133 0 11 g_s ∧ SG 139 139 0 5 g_s ∧ SG 1 4 0 11 g_planRead ∧ SG 10 10 0 5 g_planRead ∧ ((y_token.toInt = 2 → 0 ≤ y_number.toInt ∧ y_number.toInt ≤ 999)) ∧ u = [(h0, .inr (10, vL 67 Gh)), (h_tape, .inl (cB, 940, .inl f_tape)), (h_s, .inl (cI, 335, .inl g_s)), (h_names, .inl (cJ, 36, .inr (.inl f_names))), (h_reserved, .inl (cJ, 23, .inr (.inl f_reserved))), (h_planRead, .inl (cI, 24, .inl g_planRead))]) (PO D A) A) [.ref h0].toArray s 0 0 A) (F0 m 133 ls [])) ?_ (0, g49, F89, y90, y91, y92, y93, y94, 0, x_faultAt, y95, x_got, 0, 0, 0) ⟨r50, r51, SAME.rf, t97, t99, t101, t103, t105, n191, n198, t106, n205, n208, n210, n211, t98, t100, t102, t104, (by show (y91.toInt = 2 → 0 ≤ y94.toInt ∧ y94.toInt ≤ 999); omega)⟩ _ _ _ hP hD hS hl
        rintro ⟨u111, w112, G113, u114, u115, u116, u117, u118, u119, u120, u121, u122, u123, u124, u125⟩ ⟨i212, i213, i214, i215, i216, i217, i218, i219, i220, i221, i222, i223, i224, i225, i226, i227, i228, i229, i230, i231⟩ ih_133 H locs ls hP hD hS hl
        have i227 : 0 ≤ u114.toInt ∧ u114.toInt ≤ 940 := i227
        have i228 : 0 ≤ u115.toInt ∧ u115.toInt ≤ 4 := i228
        have i229 : 0 ≤ u116.toInt ∧ u116.toInt ≤ 940 := i229
        have i230 : 0 ≤ u117.toInt ∧ u117.toInt ≤ 940 := i230
        have i231 : (u115.toInt = 2 → 0 ≤ u118.toInt ∧ u118.toInt ≤ 999) := i231
        have hP : va_P D vwCl [(h_s, .inl (cI, 335, .inl f_s)), (h_names, .inl (cJ, 36, .inr (.inl f_names))), (h_reserved, .inl (cJ, 23, .inr (.inl f_reserved))), (h_planRead, .inl (cI, 24, .inl w112)), (h0, .inr (10, vL 67 G113)), (h_tape, .inl (cB, 940, .inl f_tape))] H := hP
        have hD : va_D A [(h_s, .inl (cI, 335, .inl f_s)), (h_names, .inl (cJ, 36, .inr (.inl f_names))), (h_reserved, .inl (cJ, 23, .inr (.inl f_reserved))), (h_planRead, .inl (cI, 24, .inl w112)), (h0, .inr (10, vL 67 G113)), (h_tape, .inl (cB, 940, .inl f_tape))] := hD
        have hl : lv_has ls 3 [(1, .int u111), (0, .ref h0)] := hl
        refine lv_aload_n hx hb dX10_plan_133 rfl (lv_at hl 1 rfl) ?_
        refine get_f (D := D) (ci := 10) (v := .int u115) (C := RX10) (T := TX10) (N := 67) hx hb hw inAX10 hown hK hP 4 rfl rfl 11 (by decide) (hw _ q_1272) (fun _ h9 => h9) i216 dX10_plan_134 ?_
        refine lv_if_eq (tgt := 169) hx hb dX10_plan_137 (by decide) (fun c232 => ?_) (fun c232 => ?_)
        · have dc232 : u115.toInt = 0 := eq_i (a := u115.toInt) (b := 0) rfl rfl c232
          have k233 : 0 ≤ u115.toInt ∧ u115.toInt ≤ 0 := ⟨i228.1, Int.le_trans (Int.le_of_eq dc232) (Int.le_refl _)⟩
          exact cut126 u111 w112 G113 u114 u115 u116 u117 u118 u119 u120 u121 u122 u123 u124 u125 i212 i213 (SAME.tr SAME.rf i214 (by decide)) i215 i216 i217 i218 i219 i220 i221 i222 i223 i224 i225 i226 i227 (ir_wk k233 (by decide) (by decide)) i229 i230 (by show (u115.toInt = 2 → 0 ≤ u118.toInt ∧ u118.toInt ≤ 999); omega) _ _ _ hP hD hS (lv_sub hl [0, 1] rfl)
        · have dc232 : u115.toInt ≠ 0 := ne_i (a := u115.toInt) (b := 0) rfl rfl c232
          have k234 : 1 ≤ u115.toInt ∧ u115.toInt ≤ 4 := ⟨ne_lo dc232 i228.1 ⟨Int.le_refl _, Int.le_refl _⟩ (by decide), i228.2⟩
          refine lv_aload_n hx hb dX10_plan_140 rfl (lv_at hl 1 rfl) ?_
          have n235 : F89 1 = .ref h_tape := (SAME.at t96 (by decide) n57)
          have n236 : G113 1 = .ref h_tape := (SAME.at i214 (by decide) n235)
          have n237 : F89 3 = .int x_length := (SAME.at t96 (by decide) n61)
          have n238 : G113 3 = .int x_length := (SAME.at i214 (by decide) n237)
          have n239 : F89 5 = .int 400 := (SAME.at t96 (by decide) n69)
          have n240 : G113 5 = .int 400 := (SAME.at i214 (by decide) n239)
          have n241 : F89 6 = .ref h_s := (SAME.at t96 (by decide) n39)
          have n242 : G113 6 = .ref h_s := (SAME.at i214 (by decide) n241)
          have n243 : F1 9 = .ref h_names := (get_ne eF1 (by decide) e_names)
          have n244 : F4 9 = .ref h_names := (SAME.at t5 (by decide) n243)
          have n245 : F11 9 = .ref h_names := (get_ne eF11 (by decide) n244)
          have n246 : F12 9 = .ref h_names := (get_ne eF12 (by decide) n245)
          have n247 : F13 9 = .ref h_names := (get_ne eF13 (by decide) n246)
          have n248 : F14 9 = .ref h_names := (get_ne eF14 (by decide) n247)
          have n249 : F89 9 = .ref h_names := (SAME.at t96 (by decide) n248)
          have n250 : G113 9 = .ref h_names := (SAME.at i214 (by decide) n249)
          have n251 : F1 10 = .ref h_reserved := (get_ne eF1 (by decide) e_reserved)
          have n252 : F4 10 = .ref h_reserved := (SAME.at t5 (by decide) n251)
          have n253 : F11 10 = .ref h_reserved := (get_ne eF11 (by decide) n252)
          have n254 : F12 10 = .ref h_reserved := (get_ne eF12 (by decide) n253)
          have n255 : F13 10 = .ref h_reserved := (get_ne eF13 (by decide) n254)
          have n256 : F14 10 = .ref h_reserved := (get_ne eF14 (by decide) n255)
          have n257 : F89 10 = .ref h_reserved := (SAME.at t96 (by decide) n256)
          have n258 : G113 10 = .ref h_reserved := (SAME.at i214 (by decide) n257)
          have n259 : F89 22 = .ref h_planRead := (SAME.at t96 (by decide) n48)
          have n260 : G113 22 = .ref h_planRead := (SAME.at i214 (by decide) n259)
          refine call_Vi (wr := []) (As := []) (rest := []) hx hb hml hown hw (m_X10_planLine l D cI cJ cB cP cM cZ h0 h_tape h_s h_names h_reserved h_planRead G113 x_length u114 400 u115 u116 u117 u118 u119 u120 u121 u122 u123 u124 u125 f_tape f_s f_names f_reserved w112 _ n236 n238 i_x_length i215 i227 n240 (show 200 ≤ (400 : Int32).toInt ∧ (400 : Int32).toInt ≤ 940 by decide) n242 n250 n258 i216 (ir_wk k234 (by decide) (by decide)) i217 i218 i219 i220 i221 i222 i223 i224 n260 i225 i226 s_s_K0 s_s_0 s_s_105 s_s_114 s_s_130 s_s_139 s_s_153 s_s_44 s_s_5 s_s_6 s_s_7 i212 i213 (by omega)) wV_X10_278_X10_planLine dX10_plan_141 hK hP hD hS hA [4, 5, 0, 1, 2, 3] [] rfl rfl (by decide) (by decide) (by decide) 0 10 rfl rfl GG.fb hG.at hl.1 rfl (Nat.le_of_ble_eq_true rfl) ⟨(Nat.le_of_ble_eq_true rfl), (Nat.le_of_ble_eq_true rfl)⟩ ⟨(Nat.le_of_ble_eq_true rfl), (Nat.le_of_ble_eq_true rfl)⟩ (fun r261 u H locs hp hP hD hS => ?_)
          rcases hp with hp | hp
          · refine hp.elim (fun F262 h9z0 => h9z0.elim (fun y263 h9z1 => h9z1.elim (fun y264 h9z2 => h9z2.elim (fun y265 h9z3 => h9z3.elim (fun y266 h9z4 => h9z4.elim (fun y267 h9z5 => h9z5.elim (fun y268 h9z6 => h9z6.elim (fun y269 h9z7 => h9z7.elim (fun y270 h9z8 => h9z8.elim (fun y271 h9z9 => h9z9.elim (fun y272 h9z10 => h9z10.elim (fun y273 h9z11 => h9z11.elim (fun y274 h9z12 => h9z12.elim (fun g275 h9z13 => h9z13.elim (fun t276 h9z14 => h9z14.elim (fun t277 h9z15 => h9z15.elim (fun t278 h9z16 => h9z16.elim (fun t279 h9z17 => h9z17.elim (fun t280 h9z18 => h9z18.elim (fun t281 h9z19 => h9z19.elim (fun t282 h9z20 => h9z20.elim (fun t283 h9z21 => h9z21.elim (fun t284 h9z22 => h9z22.elim (fun t285 h9z23 => h9z23.elim (fun t286 h9z24 => h9z24.elim (fun t287 h9z25 => h9z25.elim (fun t288 h9z26 => h9z26.elim (fun t289 h9z27 => h9z27.elim (fun t290 h9z28 => h9z28.elim (fun t291 h9z29 => h9z29.elim (fun t292 h9z30 => h9z30.elim (fun t293 h9z31 => h9z31.elim (fun t294 h9z32 => h9z32.elim (fun heq933 h9z33 => ?_))))))))))))))))))))))))))))))))))
            clear h9z0 h9z1 h9z2 h9z3 h9z4 h9z5 h9z6 h9z7 h9z8 h9z9 h9z10 h9z11 h9z12 h9z13 h9z14 h9z15 h9z16 h9z17 h9z18 h9z19 h9z20 h9z21 h9z22 h9z23 h9z24 h9z25 h9z26 h9z27 h9z28 h9z29 h9z30 h9z31 h9z32
            subst heq933
            subst h9z33
            clear t109
            have hP : va_P D vwCl [(h0, .inr (10, vL 67 F262)), (h_tape, .inl (cB, 940, .inl f_tape)), (h_s, .inl (cI, 335, .inl f_s)), (h_names, .inl (cJ, 36, .inr (.inl f_names))), (h_reserved, .inl (cJ, 23, .inr (.inl f_reserved))), (h_planRead, .inl (cI, 24, .inl g275))] H := hP
            have hD : va_D A [(h0, .inr (10, vL 67 F262)), (h_tape, .inl (cB, 940, .inl f_tape)), (h_s, .inl (cI, 335, .inl f_s)), (h_names, .inl (cJ, 36, .inr (.inl f_names))), (h_reserved, .inl (cJ, 23, .inr (.inl f_reserved))), (h_planRead, .inl (cI, 24, .inl g275))] := hD
            refine W.widen (k := 0) (n := 0) (Nat.le_of_ble_eq_true rfl) (Nat.le_of_ble_eq_true rfl) ?_
            refine lv_if_eq (tgt := 156) hx hb dX10_plan_144 (by decide) (fun _ => ?_) (fun g => absurd (by decide) g)
            refine lv_iconst (v := (-1)) hx hb dX10_plan_156 (by decide) ?_
            refine lv_aload_n hx hb dX10_plan_157 rfl (lv_at hl 1 rfl) ?_
            refine get_f (D := D) (ci := 10) (v := .int y269) (C := RX10) (T := TX10) (N := 67) hx hb hw inAX10 hown hK hP 0 rfl rfl 16 (by decide) (hw _ q_1277) (fun _ h9 => h9) t286 dX10_plan_158 ?_
            refine lv_isub hx hb dX10_plan_161 ?_
            refine lv_topi (fun v332 ev332 => ?_)
            have bv332 : v332.toInt = (-1) - y269.toInt := by rw [ev332]; exact sub_k rfl rfl ⟨Int.le_refl _, Int.le_refl _⟩ (ir_any _) (by decide)
            have k333 : (-2147483648) ≤ v332.toInt ∧ v332.toInt ≤ 2147483647 := sub_r bv332 ⟨Int.le_refl _, Int.le_refl _⟩ (ir_any _) (by decide)
            exact ret_i (v := v332) hx hb hr hlocks hS hP hD dX10_plan_162 rfl (Nat.le_of_ble_eq_true rfl) (Nat.le_of_ble_eq_true rfl) ⟨F262, y263, y264, y265, y266, y267, y268, y269, y270, y271, y272, y273, y274, x_undoMany, f_s, g275, (SAME.tr (SAME.tr (SAME.tr (SAME.up eF14 (SAME.up eF13 (SAME.up eF12 (SAME.up eF11 (SAME.tr (SAME.up eF1 SAME.rf (by decide)) t5 (by decide)) (by decide)) (by decide)) (by decide)) (by decide)) t96 (by decide)) i214 (by decide)) t276 (by decide)), (SAME.at t276 (by decide) (SAME.at i214 (by decide) (SAME.at t96 (by decide) (get_ne eF14 (by decide) (get_ne eF13 (by decide) (get_ne eF12 (by decide) (get_ne eF11 (by decide) (SAME.at t5 (by decide) (get_eq eF1))))))))), (SAME.at t276 (by decide) (SAME.at i214 (by decide) (SAME.at t96 (by decide) (get_ne eF14 (by decide) (get_ne eF13 (by decide) (get_ne eF12 (by decide) (get_ne eF11 (by decide) t6))))))), (SAME.at t276 (by decide) n238), t277, t278, (SAME.at t276 (by decide) n240), t279, t280, t281, t282, t283, t284, t286, t287, t288, t289, t290, t291, (SAME.at t276 (by decide) (SAME.at i214 (by decide) (SAME.at t96 (by decide) (get_ne eF14 (by decide) (get_ne eF13 (by decide) (get_ne eF12 (by decide) (get_ne eF11 (by decide) (SAME.at t5 (by decide) (get_ne eF1 (by decide) e_undoMany))))))))), i_x_undoMany, s_s_153, s_s_0, s_s_5, s_s_6, s_s_7, s_s_44, s_s_K0, s_s_105, s_s_114, s_s_130, s_s_139, t292, t293, (by omega), rfl⟩
          · refine hp.elim (fun F295 h9z0 => h9z0.elim (fun y296 h9z1 => h9z1.elim (fun y297 h9z2 => h9z2.elim (fun y298 h9z3 => h9z3.elim (fun y299 h9z4 => h9z4.elim (fun y300 h9z5 => h9z5.elim (fun y301 h9z6 => h9z6.elim (fun y302 h9z7 => h9z7.elim (fun y303 h9z8 => h9z8.elim (fun y304 h9z9 => h9z9.elim (fun y305 h9z10 => h9z10.elim (fun y306 h9z11 => h9z11.elim (fun y307 h9z12 => h9z12.elim (fun g308 h9z13 => h9z13.elim (fun t309 h9z14 => h9z14.elim (fun t310 h9z15 => h9z15.elim (fun t311 h9z16 => h9z16.elim (fun t312 h9z17 => h9z17.elim (fun t313 h9z18 => h9z18.elim (fun t314 h9z19 => h9z19.elim (fun t315 h9z20 => h9z20.elim (fun t316 h9z21 => h9z21.elim (fun t317 h9z22 => h9z22.elim (fun t318 h9z23 => h9z23.elim (fun t319 h9z24 => h9z24.elim (fun t320 h9z25 => h9z25.elim (fun t321 h9z26 => h9z26.elim (fun t322 h9z27 => h9z27.elim (fun t323 h9z28 => h9z28.elim (fun t324 h9z29 => h9z29.elim (fun t325 h9z30 => h9z30.elim (fun t326 h9z31 => h9z31.elim (fun t327 h9z32 => h9z32.elim (fun t328 h9z33 => h9z33.elim (fun t329 h9z34 => h9z34.elim (fun t330 h9z35 => h9z35.elim (fun heq936 h9z36 => ?_)))))))))))))))))))))))))))))))))))))
            clear h9z0 h9z1 h9z2 h9z3 h9z4 h9z5 h9z6 h9z7 h9z8 h9z9 h9z10 h9z11 h9z12 h9z13 h9z14 h9z15 h9z16 h9z17 h9z18 h9z19 h9z20 h9z21 h9z22 h9z23 h9z24 h9z25 h9z26 h9z27 h9z28 h9z29 h9z30 h9z31 h9z32 h9z33 h9z34 h9z35
            subst heq936
            subst h9z36
            clear t108 t109
            have hP : va_P D vwCl [(h0, .inr (10, vL 67 F295)), (h_tape, .inl (cB, 940, .inl f_tape)), (h_s, .inl (cI, 335, .inl f_s)), (h_names, .inl (cJ, 36, .inr (.inl f_names))), (h_reserved, .inl (cJ, 23, .inr (.inl f_reserved))), (h_planRead, .inl (cI, 24, .inl g308))] H := hP
            have hD : va_D A [(h0, .inr (10, vL 67 F295)), (h_tape, .inl (cB, 940, .inl f_tape)), (h_s, .inl (cI, 335, .inl f_s)), (h_names, .inl (cJ, 36, .inr (.inl f_names))), (h_reserved, .inl (cJ, 23, .inr (.inl f_reserved))), (h_planRead, .inl (cI, 24, .inl g308))] := hD
            refine W.widen (k := 0) (n := 0) (Nat.le_of_ble_eq_true rfl) (Nat.le_of_ble_eq_true rfl) ?_
            refine lv_if_eq (tgt := 156) hx hb dX10_plan_144 (by decide) (fun g => absurd g (by decide)) (fun _ => ?_)
            refine lv_aload_n hx hb dX10_plan_147 rfl (lv_at hl 1 rfl) ?_
            refine lv_bipush (v := 59) hx hb dX10_plan_148 (by decide) ?_
            have n334 : F295 1 = .ref h_tape := (SAME.at t309 (by decide) n236)
            have n335 : F295 3 = .int x_length := (SAME.at t309 (by decide) n238)
            have n336 : F295 5 = .int 400 := (SAME.at t309 (by decide) n240)
            refine call_Vi (wr := [(h_s, .inl (cI, 335, .inl f_s)), (h_names, .inl (cJ, 36, .inr (.inl f_names))), (h_reserved, .inl (cJ, 23, .inr (.inl f_reserved))), (h_planRead, .inl (cI, 24, .inl g308))]) (As := [.int 59]) (rest := []) hx hb hml hown hw (m_X10_sign l D cI cJ cB cP cM cZ h0 h_tape F295 x_length y296 400 y297 y298 y300 y303 f_tape 59 _ n334 n335 i_x_length t310 t311 n336 (show 200 ≤ (400 : Int32).toInt ∧ (400 : Int32).toInt ≤ 940 by decide) t312 t313 t314 t318 t321 (by omega)) wV_X10_257_X10_sign dX10_plan_150 hK hP hD hS hA [0, 1] [2, 3, 4, 5] rfl rfl (by decide) (by decide) (by decide) 0 10 rfl rfl GG.fb hG.at hl.1 rfl (Nat.le_of_ble_eq_true rfl) ⟨(Nat.le_of_ble_eq_true rfl), (Nat.le_of_ble_eq_true rfl)⟩ ⟨(Nat.le_of_ble_eq_true rfl), (Nat.le_of_ble_eq_true rfl)⟩ (fun r337 u H locs hp hP hD hS => ?_)
            have zl59 : (59 : Int32).toInt = 59 := by decide
            rcases hp with ⟨F338, y339, y340, y341, y342, y343, y344, t345, t346, t347, t348, t349, t350, t351, t352, t353, t354, t355, t356, t357, rfl, rfl⟩ | ⟨F358, t359, t360, t361, t362, rfl, rfl⟩
            · clear t330
              have hP : va_P D vwCl [(h_s, .inl (cI, 335, .inl f_s)), (h_names, .inl (cJ, 36, .inr (.inl f_names))), (h_reserved, .inl (cJ, 23, .inr (.inl f_reserved))), (h_planRead, .inl (cI, 24, .inl g308)), (h0, .inr (10, vL 67 F338)), (h_tape, .inl (cB, 940, .inl f_tape))] H := hP
              have hD : va_D A [(h_s, .inl (cI, 335, .inl f_s)), (h_names, .inl (cJ, 36, .inr (.inl f_names))), (h_reserved, .inl (cJ, 23, .inr (.inl f_reserved))), (h_planRead, .inl (cI, 24, .inl g308)), (h0, .inr (10, vL 67 F338)), (h_tape, .inl (cB, 940, .inl f_tape))] := hD
              refine W.widen (k := 0) (n := 0) (Nat.le_of_ble_eq_true rfl) (Nat.le_of_ble_eq_true rfl) ?_
              refine lv_if_ne (tgt := 163) hx hb dX10_plan_153 (by decide) (fun _ => ?_) (fun g => absurd g (by decide))
              obtain ⟨v364, ev364⟩ : ∃ z : Int32, z = u111 + 1 := ⟨_, rfl⟩
              refine lv_iinc (v := v364) (lv' := [(1, .int v364), (0, .ref h0)]) hx hb dX10_plan_163 hl (k := 0) rfl (by rw [ev364]; rfl) (by decide) rfl (fun ls hl => ?_)
              refine lv_goto (tgt := 133) hx hb dX10_plan_166 (by decide) ?_
              have n365 : F338 15 = .int y301 := (SAME.at t345 (by decide) t319)
              have n366 : F338 16 = .int y302 := (SAME.at t345 (by decide) t320)
              have n367 : F338 19 = .int y304 := (SAME.at t345 (by decide) t322)
              have n368 : F338 21 = .int y305 := (SAME.at t345 (by decide) t323)
              have n369 : F338 23 = .int y306 := (SAME.at t345 (by decide) t324)
              have n370 : F338 24 = .int y307 := (SAME.at t345 (by decide) t325)
              exact ih_133 (v364, g308, F338, y339, y340, y341, y342, y343, y301, y302, y344, y304, y305, y306, y307) ⟨t326, t327, (SAME.tr (SAME.tr (SAME.tr SAME.rf i214 (by decide)) t309 (by decide)) t345 (by decide)), t346, t348, t350, t352, t354, n365, n366, t355, n367, n368, n369, n370, t347, t349, t351, t353, (by show (y340.toInt = 2 → 0 ≤ y343.toInt ∧ y343.toInt ≤ 999); omega)⟩ (by show (940 - y339.toInt).toNat < (940 - u114.toInt).toNat; omega) _ _ _ hP hD hS (lv_sub hl [0, 1] rfl)
            · have hP : va_P D vwCl [(h_s, .inl (cI, 335, .inl f_s)), (h_names, .inl (cJ, 36, .inr (.inl f_names))), (h_reserved, .inl (cJ, 23, .inr (.inl f_reserved))), (h_planRead, .inl (cI, 24, .inl g308)), (h0, .inr (10, vL 67 F358)), (h_tape, .inl (cB, 940, .inl f_tape))] H := hP
              have hD : va_D A [(h_s, .inl (cI, 335, .inl f_s)), (h_names, .inl (cJ, 36, .inr (.inl f_names))), (h_reserved, .inl (cJ, 23, .inr (.inl f_reserved))), (h_planRead, .inl (cI, 24, .inl g308)), (h0, .inr (10, vL 67 F358)), (h_tape, .inl (cB, 940, .inl f_tape))] := hD
              refine W.widen (k := 0) (n := 0) (Nat.le_of_ble_eq_true rfl) (Nat.le_of_ble_eq_true rfl) ?_
              refine lv_if_ne (tgt := 163) hx hb dX10_plan_153 (by decide) (fun g => absurd (by decide) g) (fun _ => ?_)
              refine lv_iconst (v := (-1)) hx hb dX10_plan_156 (by decide) ?_
              refine lv_aload_n hx hb dX10_plan_157 rfl (lv_at hl 1 rfl) ?_
              refine get_f (D := D) (ci := 10) (v := .int y298) (C := RX10) (T := TX10) (N := 67) hx hb hw inAX10 hown hK hP 4 rfl rfl 16 (by decide) (hw _ q_1277) (fun _ h9 => h9) t361 dX10_plan_158 ?_
              refine lv_isub hx hb dX10_plan_161 ?_
              refine lv_topi (fun v371 ev371 => ?_)
              have bv371 : v371.toInt = (-1) - y298.toInt := by rw [ev371]; exact sub_k rfl rfl ⟨Int.le_refl _, Int.le_refl _⟩ t315 (by decide)
              have k372 : (-941) ≤ v371.toInt ∧ v371.toInt ≤ (-1) := sub_r bv371 ⟨Int.le_refl _, Int.le_refl _⟩ t315 (by decide)
              exact ret_i (v := v371) hx hb hr hlocks hS (hP.sub (ws' := [(h0, .inr (10, vL 67 F358)), (h_tape, .inl (cB, 940, .inl f_tape)), (h_s, .inl (cI, 335, .inl f_s)), (h_names, .inl (cJ, 36, .inr (.inl f_names))), (h_reserved, .inl (cJ, 23, .inr (.inl f_reserved))), (h_planRead, .inl (cI, 24, .inl g308))]) [4, 5, 0, 1, 2, 3] rfl) (hD.sub (ws' := [(h0, .inr (10, vL 67 F358)), (h_tape, .inl (cB, 940, .inl f_tape)), (h_s, .inl (cI, 335, .inl f_s)), (h_names, .inl (cJ, 36, .inr (.inl f_names))), (h_reserved, .inl (cJ, 23, .inr (.inl f_reserved))), (h_planRead, .inl (cI, 24, .inl g308))]) [4, 5, 0, 1, 2, 3] (by decide) rfl) dX10_plan_162 rfl (Nat.le_of_ble_eq_true rfl) (Nat.le_of_ble_eq_true rfl) ⟨F358, y296, y297, y298, y299, y300, 1, y298, y303, y304, y305, y306, y307, x_undoMany, f_s, g308, (SAME.tr (SAME.tr (SAME.tr (SAME.tr (SAME.up eF14 (SAME.up eF13 (SAME.up eF12 (SAME.up eF11 (SAME.tr (SAME.up eF1 SAME.rf (by decide)) t5 (by decide)) (by decide)) (by decide)) (by decide)) (by decide)) t96 (by decide)) i214 (by decide)) t309 (by decide)) t359 (by decide)), (SAME.at t359 (by decide) (SAME.at t309 (by decide) (SAME.at i214 (by decide) (SAME.at t96 (by decide) (get_ne eF14 (by decide) (get_ne eF13 (by decide) (get_ne eF12 (by decide) (get_ne eF11 (by decide) (SAME.at t5 (by decide) (get_eq eF1)))))))))), (SAME.at t359 (by decide) (SAME.at t309 (by decide) (SAME.at i214 (by decide) (SAME.at t96 (by decide) (get_ne eF14 (by decide) (get_ne eF13 (by decide) (get_ne eF12 (by decide) (get_ne eF11 (by decide) t6)))))))), (SAME.at t359 (by decide) n335), (SAME.at t359 (by decide) t310), t311, (SAME.at t359 (by decide) n336), (SAME.at t359 (by decide) t312), t313, (SAME.at t359 (by decide) t314), (SAME.at t359 (by decide) t316), (SAME.at t359 (by decide) t318), t360, t361, (SAME.at t359 (by decide) t321), (SAME.at t359 (by decide) t322), (SAME.at t359 (by decide) t323), (SAME.at t359 (by decide) t324), (SAME.at t359 (by decide) t325), (SAME.at t359 (by decide) (SAME.at t309 (by decide) (SAME.at i214 (by decide) (SAME.at t96 (by decide) (get_ne eF14 (by decide) (get_ne eF13 (by decide) (get_ne eF12 (by decide) (get_ne eF11 (by decide) (SAME.at t5 (by decide) (get_ne eF1 (by decide) e_undoMany)))))))))), i_x_undoMany, s_s_153, s_s_0, s_s_5, s_s_6, s_s_7, s_s_44, s_s_K0, s_s_105, s_s_114, s_s_130, s_s_139, t326, t327, (by have zl1 : (1 : Int32).toInt = 1 := (by decide); omega), rfl⟩
      · have dc42 : u29.toInt < v40.toInt := nle_i (a := v40.toInt) (b := u29.toInt) rfl rfl c42
        have k373 : 0 ≤ u29.toInt ∧ u29.toInt ≤ 11 := ⟨i31.1, up_lt dc42 k41.2 (by decide)⟩
        have k374 : 1 ≤ v40.toInt ∧ v40.toInt ≤ 12 := ⟨lo_lt dc42 i31.1 (by decide), k41.2⟩
        refine lv_aload_n hx hb dX10_plan_95 rfl (lv_at hl 1 rfl) ?_
        have n375 : F1 22 = .ref h_planRead := (get_ne eF1 (by decide) e_planRead)
        have n376 : F4 22 = .ref h_planRead := (SAME.at t5 (by decide) n375)
        have n377 : F11 22 = .ref h_planRead := (get_ne eF11 (by decide) n376)
        have n378 : F12 22 = .ref h_planRead := (get_ne eF12 (by decide) n377)
        have n379 : F13 22 = .ref h_planRead := (get_ne eF13 (by decide) n378)
        have n380 : F14 22 = .ref h_planRead := (get_ne eF14 (by decide) n379)
        refine get_f (D := D) (ci := 10) (v := .ref h_planRead) (C := RX10) (T := TX10) (N := 67) hx hb hw inAX10 hown hK hP 5 rfl rfl 22 (by decide) (hw _ q_1283) (fun _ h9 => h9) n380 dX10_plan_96 ?_
        refine lv_bipush (v := 12) hx hb dX10_plan_99 (by decide) ?_
        refine lv_iload_n hx hb dX10_plan_101 rfl (lv_at hl 0 rfl) ?_
        refine lv_iadd hx hb dX10_plan_102 ?_
        refine lv_topi (fun v381 ev381 => ?_)
        have bv381 : v381.toInt = 12 + u29.toInt := by rw [ev381]; exact add_k rfl rfl ⟨Int.le_refl _, Int.le_refl _⟩ k373 (by decide)
        have k382 : 12 ≤ v381.toInt ∧ v381.toInt ≤ 23 := add_r bv381 ⟨Int.le_refl _, Int.le_refl _⟩ k373 (by decide)
        refine lv_aload_n hx hb dX10_plan_103 rfl (lv_at hl 1 rfl) ?_
        refine get_f (D := D) (ci := 10) (v := .ref h_s) (C := RX10) (T := TX10) (N := 67) hx hb hw inAX10 hown hK hP 5 rfl rfl 6 (by decide) (hw _ q_1267) (fun _ h9 => h9) n39 dX10_plan_104 ?_
        refine lv_bipush (v := 68) hx hb dX10_plan_107 (by decide) ?_
        refine lv_iload_n hx hb dX10_plan_109 rfl (lv_at hl 0 rfl) ?_
        refine lv_iadd hx hb dX10_plan_110 ?_
        refine lv_topi (fun v383 ev383 => ?_)
        have bv383 : v383.toInt = 68 + u29.toInt := by rw [ev383]; exact add_k rfl rfl ⟨Int.le_refl _, Int.le_refl _⟩ k373 (by decide)
        have k384 : 68 ≤ v383.toInt ∧ v383.toInt ≤ 79 := add_r bv383 ⟨Int.le_refl _, Int.le_refl _⟩ k373 (by decide)
        refine va_iald hx hb hK hP 1 0 rfl rfl (ix_k k384 (by decide) (by decide)) dX10_plan_111 ?_
        refine lv_topi (fun v385 ev385 => ?_)
        obtain ⟨g386, eg386⟩ : ∃ z : Nat → Int32, upd w30 v381.toNatClampNeg v385 = z := ⟨_, rfl⟩
        have r387 : SG 1 4 0 11 g386 := by rw [← eg386]; exact i32.up (Int.le_trans (by decide) k382.1) (Or.inr (Or.inl (dec_lt k382.1 (by decide))))
        have r388 : SG 10 10 0 5 g386 := by rw [← eg386]; exact i33.up (Int.le_trans (by decide) k382.1) (Or.inr (Or.inl (dec_lt k382.1 (by decide))))
        refine iast_g hx hb hK hP hD hS 4 0 rfl rfl (ix_k k382 (by decide) (by decide)) eg386 dX10_plan_112 (fun H locs hP hD hS => ?_)
        have hP : va_P D vwCl [(h_tape, .inl (cB, 940, .inl f_tape)), (h_s, .inl (cI, 335, .inl f_s)), (h_names, .inl (cJ, 36, .inr (.inl f_names))), (h_reserved, .inl (cJ, 23, .inr (.inl f_reserved))), (h_planRead, .inl (cI, 24, .inl g386)), (h0, .inr (10, vL 67 F14))] H := hP
        have hD : va_D A [(h_tape, .inl (cB, 940, .inl f_tape)), (h_s, .inl (cI, 335, .inl f_s)), (h_names, .inl (cJ, 36, .inr (.inl f_names))), (h_reserved, .inl (cJ, 23, .inr (.inl f_reserved))), (h_planRead, .inl (cI, 24, .inl g386)), (h0, .inr (10, vL 67 F14))] := hD
        obtain ⟨v389, ev389⟩ : ∃ z : Int32, z = u29 + 1 := ⟨_, rfl⟩
        have bv389 : v389.toInt = u29.toInt + 1 := by rw [ev389]; exact add_k rfl rfl k373 ⟨Int.le_refl _, Int.le_refl _⟩ (by decide)
        have k390 : 1 ≤ v389.toInt ∧ v389.toInt ≤ 12 := add_r bv389 k373 ⟨Int.le_refl _, Int.le_refl _⟩ (by decide)
        refine lv_iinc (v := v389) (lv' := [(1, .int v389), (0, .ref h0)]) hx hb dX10_plan_113 hl (k := 0) rfl (by rw [ev389]; rfl) (by decide) rfl (fun ls hl => ?_)
        refine lv_goto (tgt := 84) hx hb dX10_plan_116 (by decide) ?_
        exact ih_84 (v389, g386) ⟨(ir_wk k390 (by decide) (by decide)), r387, r388⟩ (by show (12 - v389.toInt).toNat < (12 - u29.toInt).toNat; omega) _ _ _ hP hD hS (lv_sub hl [0, 1] rfl)
    · have dc27 : u22.toInt < 4 := nle_i (a := 4) (b := u22.toInt) rfl rfl c27
      have k391 : 0 ≤ u22.toInt ∧ u22.toInt ≤ 3 := ⟨i24.1, up_lt dc27 (Int.le_refl _) (by decide)⟩
      refine lv_aload_n hx hb dX10_plan_60 rfl (lv_at hl 1 rfl) ?_
      have n392 : F1 22 = .ref h_planRead := (get_ne eF1 (by decide) e_planRead)
      have n393 : F4 22 = .ref h_planRead := (SAME.at t5 (by decide) n392)
      have n394 : F11 22 = .ref h_planRead := (get_ne eF11 (by decide) n393)
      have n395 : F12 22 = .ref h_planRead := (get_ne eF12 (by decide) n394)
      have n396 : F13 22 = .ref h_planRead := (get_ne eF13 (by decide) n395)
      have n397 : F14 22 = .ref h_planRead := (get_ne eF14 (by decide) n396)
      refine get_f (D := D) (ci := 10) (v := .ref h_planRead) (C := RX10) (T := TX10) (N := 67) hx hb hw inAX10 hown hK hP 5 rfl rfl 22 (by decide) (hw _ q_1283) (fun _ h9 => h9) n397 dX10_plan_61 ?_
      refine lv_iconst (v := 5) hx hb dX10_plan_64 (by decide) ?_
      refine lv_iload_n hx hb dX10_plan_65 rfl (lv_at hl 0 rfl) ?_
      refine lv_iadd hx hb dX10_plan_66 ?_
      refine lv_topi (fun v398 ev398 => ?_)
      have bv398 : v398.toInt = 5 + u22.toInt := by rw [ev398]; exact add_k rfl rfl ⟨Int.le_refl _, Int.le_refl _⟩ k391 (by decide)
      have k399 : 5 ≤ v398.toInt ∧ v398.toInt ≤ 8 := add_r bv398 ⟨Int.le_refl _, Int.le_refl _⟩ k391 (by decide)
      refine lv_aload_n hx hb dX10_plan_67 rfl (lv_at hl 1 rfl) ?_
      have n400 : F1 6 = .ref h_s := (get_ne eF1 (by decide) e_s)
      have n401 : F4 6 = .ref h_s := (SAME.at t5 (by decide) n400)
      have n402 : F11 6 = .ref h_s := (get_ne eF11 (by decide) n401)
      have n403 : F12 6 = .ref h_s := (get_ne eF12 (by decide) n402)
      have n404 : F13 6 = .ref h_s := (get_ne eF13 (by decide) n403)
      have n405 : F14 6 = .ref h_s := (get_ne eF14 (by decide) n404)
      refine get_f (D := D) (ci := 10) (v := .ref h_s) (C := RX10) (T := TX10) (N := 67) hx hb hw inAX10 hown hK hP 5 rfl rfl 6 (by decide) (hw _ q_1267) (fun _ h9 => h9) n405 dX10_plan_68 ?_
      refine lv_iconst (v := 0) hx hb dX10_plan_71 (by decide) ?_
      refine iald_n hx hb hK hP 1 0 rfl rfl 0 rfl (Nat.le_of_ble_eq_true rfl) (Nat.le_of_ble_eq_true rfl) rfl dX10_plan_72 ?_
      refine lv_topi (fun v406 ev406 => ?_)
      have k407 : 0 ≤ v406.toInt ∧ v406.toInt ≤ 40 := by rw [ev406]; exact s_s_0.atN 0 (by decide) (by decide)
      refine lv_iconst (v := 1) hx hb dX10_plan_73 (by decide) ?_
      refine lv_isub hx hb dX10_plan_74 ?_
      refine lv_topi (fun v408 ev408 => ?_)
      have bv408 : v408.toInt = v406.toInt - 1 := by rw [ev408]; exact sub_k rfl rfl k407 ⟨Int.le_refl _, Int.le_refl _⟩ (by decide)
      have k409 : (-1) ≤ v408.toInt ∧ v408.toInt ≤ 39 := sub_r bv408 k407 ⟨Int.le_refl _, Int.le_refl _⟩ (by decide)
      obtain ⟨g410, eg410⟩ : ∃ z : Nat → Int32, upd w23 v398.toNatClampNeg v408 = z := ⟨_, rfl⟩
      have r411 : SG 1 4 0 11 g410 := by rw [← eg410]; exact i25.up (Int.le_trans (by decide) k399.1) (Or.inr (Or.inl (dec_lt k399.1 (by decide))))
      have r412 : SG 10 10 0 5 g410 := by rw [← eg410]; exact i26.up (Int.le_trans (by decide) k399.1) (Or.inl (lt_dec k399.2 (by decide)))
      refine iast_g hx hb hK hP hD hS 4 0 rfl rfl (ix_k k399 (by decide) (by decide)) eg410 dX10_plan_75 (fun H locs hP hD hS => ?_)
      have hP : va_P D vwCl [(h_tape, .inl (cB, 940, .inl f_tape)), (h_s, .inl (cI, 335, .inl f_s)), (h_names, .inl (cJ, 36, .inr (.inl f_names))), (h_reserved, .inl (cJ, 23, .inr (.inl f_reserved))), (h_planRead, .inl (cI, 24, .inl g410)), (h0, .inr (10, vL 67 F14))] H := hP
      have hD : va_D A [(h_tape, .inl (cB, 940, .inl f_tape)), (h_s, .inl (cI, 335, .inl f_s)), (h_names, .inl (cJ, 36, .inr (.inl f_names))), (h_reserved, .inl (cJ, 23, .inr (.inl f_reserved))), (h_planRead, .inl (cI, 24, .inl g410)), (h0, .inr (10, vL 67 F14))] := hD
      obtain ⟨v413, ev413⟩ : ∃ z : Int32, z = u22 + 1 := ⟨_, rfl⟩
      have bv413 : v413.toInt = u22.toInt + 1 := by rw [ev413]; exact add_k rfl rfl k391 ⟨Int.le_refl _, Int.le_refl _⟩ (by decide)
      have k414 : 1 ≤ v413.toInt ∧ v413.toInt ≤ 4 := add_r bv413 k391 ⟨Int.le_refl _, Int.le_refl _⟩ (by decide)
      refine lv_iinc (v := v413) (lv' := [(1, .int v413), (0, .ref h0)]) hx hb dX10_plan_76 hl (k := 0) rfl (by rw [ev413]; rfl) (by decide) rfl (fun ls hl => ?_)
      refine lv_goto (tgt := 55) hx hb dX10_plan_79 (by decide) ?_
      exact ih_55 (v413, g410) ⟨(ir_wk k414 (by decide) (by decide)), r411, r412⟩ (by show (4 - v413.toInt).toNat < (4 - u22.toInt).toNat; omega) _ _ _ hP hD hS (lv_sub hl [0, 1] rfl)
  · have dc20 : u15.toInt < 24 := nle_i (a := 24) (b := u15.toInt) rfl rfl c20
    have k415 : 0 ≤ u15.toInt ∧ u15.toInt ≤ 23 := ⟨i17.1, up_lt dc20 (Int.le_refl _) (by decide)⟩
    refine lv_aload_n hx hb dX10_plan_40 rfl (lv_at hl 1 rfl) ?_
    have n416 : F1 22 = .ref h_planRead := (get_ne eF1 (by decide) e_planRead)
    have n417 : F4 22 = .ref h_planRead := (SAME.at t5 (by decide) n416)
    have n418 : F11 22 = .ref h_planRead := (get_ne eF11 (by decide) n417)
    have n419 : F12 22 = .ref h_planRead := (get_ne eF12 (by decide) n418)
    have n420 : F13 22 = .ref h_planRead := (get_ne eF13 (by decide) n419)
    have n421 : F14 22 = .ref h_planRead := (get_ne eF14 (by decide) n420)
    refine get_f (D := D) (ci := 10) (v := .ref h_planRead) (C := RX10) (T := TX10) (N := 67) hx hb hw inAX10 hown hK hP 5 rfl rfl 22 (by decide) (hw _ q_1283) (fun _ h9 => h9) n421 dX10_plan_41 ?_
    refine lv_iload_n hx hb dX10_plan_44 rfl (lv_at hl 0 rfl) ?_
    refine lv_iconst (v := 0) hx hb dX10_plan_45 (by decide) ?_
    obtain ⟨g422, eg422⟩ : ∃ z : Nat → Int32, upd w16 u15.toNatClampNeg 0 = z := ⟨_, rfl⟩
    have r423 : SG 1 4 0 11 g422 := by rw [← eg422]; exact i18.up (Int.le_trans (by decide) k415.1) (Or.inr (Or.inr ⟨by decide, by decide⟩))
    have r424 : SG 10 10 0 5 g422 := by rw [← eg422]; exact i19.up (Int.le_trans (by decide) k415.1) (Or.inr (Or.inr ⟨by decide, by decide⟩))
    refine iast_g hx hb hK hP hD hS 4 0 rfl rfl (ix_k k415 (by decide) (by decide)) eg422 dX10_plan_46 (fun H locs hP hD hS => ?_)
    have hP : va_P D vwCl [(h_tape, .inl (cB, 940, .inl f_tape)), (h_s, .inl (cI, 335, .inl f_s)), (h_names, .inl (cJ, 36, .inr (.inl f_names))), (h_reserved, .inl (cJ, 23, .inr (.inl f_reserved))), (h_planRead, .inl (cI, 24, .inl g422)), (h0, .inr (10, vL 67 F14))] H := hP
    have hD : va_D A [(h_tape, .inl (cB, 940, .inl f_tape)), (h_s, .inl (cI, 335, .inl f_s)), (h_names, .inl (cJ, 36, .inr (.inl f_names))), (h_reserved, .inl (cJ, 23, .inr (.inl f_reserved))), (h_planRead, .inl (cI, 24, .inl g422)), (h0, .inr (10, vL 67 F14))] := hD
    obtain ⟨v425, ev425⟩ : ∃ z : Int32, z = u15 + 1 := ⟨_, rfl⟩
    have bv425 : v425.toInt = u15.toInt + 1 := by rw [ev425]; exact add_k rfl rfl k415 ⟨Int.le_refl _, Int.le_refl _⟩ (by decide)
    have k426 : 1 ≤ v425.toInt ∧ v425.toInt ≤ 24 := add_r bv425 k415 ⟨Int.le_refl _, Int.le_refl _⟩ (by decide)
    refine lv_iinc (v := v425) (lv' := [(1, .int v425), (0, .ref h0)]) hx hb dX10_plan_47 hl (k := 0) rfl (by rw [ev425]; rfl) (by decide) rfl (fun ls hl => ?_)
    refine lv_goto (tgt := 34) hx hb dX10_plan_50 (by decide) ?_
    exact ih (v425, g422) ⟨(ir_wk k426 (by decide) (by decide)), r423, r424⟩ (by show (24 - v425.toInt).toNat < (24 - u15.toInt).toNat; omega) _ _ _ hP hD hS (lv_sub hl [0, 1] rfl)
set_option maxHeartbeats 4000000 in
set_option maxRecDepth 100000 in
theorem m_X10_hasCrew (l : Launch) (D : va_G) (cI cJ cB cP cM cZ : ClassId) (h0 : Nat) (h_s : Nat) (Fh : Nat → Value) (f_s : Nat → Int32) (sz : Nat) (e_s : Fh 6 = .ref h_s) (s_s_K0 : KW 0 f_s) (s_s_0 : SG 0 0 0 40 f_s) (s_s_105 : SG 105 108 0 11 f_s) (s_s_114 : SG 114 114 0 5 f_s) (s_s_130 : SG 130 133 0 11 f_s) (s_s_139 : SG 139 139 0 5 f_s) (s_s_153 : SG 153 153 0 44 f_s) (s_s_44 : SG 44 55 0 9 f_s) (s_s_5 : SG 5 5 0 12 f_s) (s_s_6 : SG 6 6 0 12 f_s) (s_s_7 : SG 7 7 0 6 f_s) : CI l yX10_hasCrew cX10_hasCrew 1 (some .boolean) { frames := 0, cells := 0, slots := 0, locals := 0 } (GG D cI cJ cB cP cM cZ) D [(h0, .inr (10, vL 67 Fh)), (h_s, .inl (cI, 335, .inl f_s))] sz [.ref h0] (fun (r : Int32) (u : va_W) => (r = 0 ∧ u = [(h0, .inr (10, vL 67 Fh)), (h_s, .inl (cI, 335, .inl f_s))]) ∨ (r = 1 ∧ u = [(h0, .inr (10, vL 67 Fh)), (h_s, .inl (cI, 335, .inl f_s))])) := by
  refine CI_mk (by decide) (Nat.le_of_ble_eq_true rfl) ?_
  intro p e s m below meth c A ls E hAe hG hsz hP hD hA hS hl
  obtain ⟨hx, hb, hr, hw, hown, hlocks, hml, hnm⟩ := E
  have hK := hG.1
  have hl : lv_has ls 1 [(0, .ref h0)] := hl
  refine lv_aload_n hx hb dX10_hasCrew_0 rfl (lv_at hl 0 rfl) ?_
  refine get_f (D := D) (ci := 10) (v := .ref h_s) (C := RX10) (T := TX10) (N := 67) hx hb hw inAX10 hown hK hP 0 rfl rfl 6 (by decide) (hw _ q_1267) (fun _ h9 => h9) e_s dX10_hasCrew_1 ?_
  refine lv_bipush (v := 104) hx hb dX10_hasCrew_4 (by decide) ?_
  refine iald_n hx hb hK hP 1 0 rfl rfl 104 rfl (Nat.le_of_ble_eq_true rfl) (Nat.le_of_ble_eq_true rfl) rfl dX10_hasCrew_6 ?_
  refine lv_topi (fun v1 ev1 => ?_)
  refine lv_iconst (v := 1) hx hb dX10_hasCrew_7 (by decide) ?_
  refine lv_icmp_ne (tgt := 15) hx hb dX10_hasCrew_8 (by decide) (fun c2 => ?_) (fun c2 => ?_)
  · have dc2 : v1.toInt ≠ 1 := ne_i (a := v1.toInt) (b := 1) rfl rfl c2
    refine lv_iconst (v := 0) hx hb dX10_hasCrew_15 (by decide) ?_
    exact ret_i (v := 0) hx hb hr hlocks hS hP hD dX10_hasCrew_16 rfl (Nat.le_of_ble_eq_true rfl) (Nat.le_of_ble_eq_true rfl) (Or.inl ⟨rfl, rfl⟩)
  · have dc2 : v1.toInt = 1 := eq_i (a := v1.toInt) (b := 1) rfl rfl c2
    have k3 : 1 ≤ v1.toInt ∧ v1.toInt ≤ 1 := ⟨Int.le_trans (Int.le_refl _) (Int.le_of_eq dc2.symm), Int.le_trans (Int.le_of_eq dc2) (Int.le_refl _)⟩
    refine lv_iconst (v := 1) hx hb dX10_hasCrew_11 (by decide) ?_
    refine lv_goto (tgt := 16) hx hb dX10_hasCrew_12 (by decide) ?_
    exact ret_i (v := 1) hx hb hr hlocks hS hP hD dX10_hasCrew_16 rfl (Nat.le_of_ble_eq_true rfl) (Nat.le_of_ble_eq_true rfl) (Or.inr ⟨rfl, rfl⟩)
set_option maxHeartbeats 4000000 in
set_option maxRecDepth 100000 in
theorem m_X10_placeOf (l : Launch) (D : va_G) (cI cJ cB cP cM cZ : ClassId) (h0 : Nat) (h_s : Nat) (Fh : Nat → Value) (f_s : Nat → Int32) (p0 : Int32) (sz : Nat) (e_s : Fh 6 = .ref h_s) (s_s_K0 : KW 0 f_s) (s_s_0 : SG 0 0 0 40 f_s) (s_s_105 : SG 105 108 0 11 f_s) (s_s_114 : SG 114 114 0 5 f_s) (s_s_130 : SG 130 133 0 11 f_s) (s_s_139 : SG 139 139 0 5 f_s) (s_s_153 : SG 153 153 0 44 f_s) (s_s_44 : SG 44 55 0 9 f_s) (s_s_5 : SG 5 5 0 12 f_s) (s_s_6 : SG 6 6 0 12 f_s) (s_s_7 : SG 7 7 0 6 f_s) : CI l yX10_placeOf cX10_placeOf 3 (some .int) { frames := 1, cells := 0, slots := 0, locals := 20 } (GG D cI cJ cB cP cM cZ) D [(h0, .inr (10, vL 67 Fh)), (h_s, .inl (cI, 335, .inl f_s))] sz [.ref h0, .int p0] (fun (r : Int32) (u : va_W) => IR (-1) 3 r ∧ u = [(h0, .inr (10, vL 67 Fh)), (h_s, .inl (cI, 335, .inl f_s))]) := by
  refine CI_mk (by decide) (Nat.le_of_ble_eq_true rfl) ?_
  intro p e s m below meth c A ls E hAe hG hsz hP hD hA hS hl
  obtain ⟨hx, hb, hr, hw, hown, hlocks, hml, hnm⟩ := E
  have hK := hG.1
  have hl : lv_has ls 3 [(0, .ref h0), (1, .int p0)] := hl
  refine lv_iconst (v := 0) hx hb dX10_placeOf_0 (by decide) ?_
  refine lv_istore_n (lv' := [(2, .int 0), (0, .ref h0), (1, .int p0)]) hx hb dX10_placeOf_1 rfl hl (by decide) rfl (fun ls hl => ?_)
  refine mloop (α := (Int32)) (nL := 3) (D := D) (A := A) (H0 := s.heap) (fun a => (4 - a.toInt).toNat) (fun a => IR 0 4 a) (fun a => [(h0, .inr (10, vL 67 Fh)), (h_s, .inl (cI, 335, .inl f_s))]) (fun a => [(2, .int a), (0, .ref h0), (1, .int p0)]) (fun H locs ls => W p l e ({ frames := 1, cells := 0, slots := 0, locals := 20 } : Room) s m [.ref h0, .int p0].toArray below meth c H locs 0 0 (MQ below (va_Qi (fun (r : Int32) (u : va_W) => IR (-1) 3 r ∧ u = [(h0, .inr (10, vL 67 Fh)), (h_s, .inl (cI, 335, .inl f_s))]) (PO D A) A) [.ref h0, .int p0].toArray s 0 0 A) (F0 m 2 ls [])) ?_ (0) (show 0 ≤ (0 : Int32).toInt ∧ (0 : Int32).toInt ≤ 4 by decide) _ _ _ hP hD hS hl
  rintro u1 i2 ih H locs ls hP hD hS hl
  have i2 : 0 ≤ u1.toInt ∧ u1.toInt ≤ 4 := i2
  have hP : va_P D vwCl [(h0, .inr (10, vL 67 Fh)), (h_s, .inl (cI, 335, .inl f_s))] H := hP
  have hD : va_D A [(h0, .inr (10, vL 67 Fh)), (h_s, .inl (cI, 335, .inl f_s))] := hD
  have hl : lv_has ls 3 [(2, .int u1), (0, .ref h0), (1, .int p0)] := hl
  refine lv_iload_n hx hb dX10_placeOf_2 rfl (lv_at hl 0 rfl) ?_
  refine lv_iconst (v := 4) hx hb dX10_placeOf_3 (by decide) ?_
  refine lv_icmp_ge (tgt := 35) hx hb dX10_placeOf_4 (by decide) (fun c3 => ?_) (fun c3 => ?_)
  · have dc3 : 4 ≤ u1.toInt := le_i (a := 4) (b := u1.toInt) rfl rfl c3
    have k4 : 4 ≤ u1.toInt ∧ u1.toInt ≤ 4 := ⟨Int.le_trans (Int.le_refl _) dc3, i2.2⟩
    refine lv_iconst (v := (-1)) hx hb dX10_placeOf_35 (by decide) ?_
    exact ret_i (v := (-1)) hx hb hr hlocks hS hP hD dX10_placeOf_36 rfl (Nat.le_of_ble_eq_true rfl) (Nat.le_of_ble_eq_true rfl) ⟨(show (-1) ≤ ((-1) : Int32).toInt ∧ ((-1) : Int32).toInt ≤ 3 by decide), rfl⟩
  · have dc3 : u1.toInt < 4 := nle_i (a := 4) (b := u1.toInt) rfl rfl c3
    have k5 : 0 ≤ u1.toInt ∧ u1.toInt ≤ 3 := ⟨i2.1, up_lt dc3 (Int.le_refl _) (by decide)⟩
    refine lv_aload_n hx hb dX10_placeOf_7 rfl (lv_at hl 1 rfl) ?_
    refine call_Vi (wr := []) (As := []) (rest := []) hx hb hml hown hw (m_X10_hasCrew l D cI cJ cB cP cM cZ h0 h_s Fh f_s _ e_s s_s_K0 s_s_0 s_s_105 s_s_114 s_s_130 s_s_139 s_s_153 s_s_44 s_s_5 s_s_6 s_s_7) wV_X10_281_X10_hasCrew dX10_placeOf_8 hK hP hD hS hA [0, 1] [] rfl rfl (by decide) (by decide) (by decide) 0 10 rfl rfl GG.fb hG.at hl.1 rfl (Nat.le_of_ble_eq_true rfl) ⟨(Nat.le_of_ble_eq_true rfl), (Nat.le_of_ble_eq_true rfl)⟩ ⟨(Nat.le_of_ble_eq_true rfl), (Nat.le_of_ble_eq_true rfl)⟩ (fun r6 u H locs hp hP hD hS => ?_)
    rcases hp with ⟨rfl, rfl⟩ | ⟨rfl, rfl⟩
    · have hP : va_P D vwCl [(h0, .inr (10, vL 67 Fh)), (h_s, .inl (cI, 335, .inl f_s))] H := hP
      have hD : va_D A [(h0, .inr (10, vL 67 Fh)), (h_s, .inl (cI, 335, .inl f_s))] := hD
      refine W.widen (k := 0) (n := 0) (Nat.le_of_ble_eq_true rfl) (Nat.le_of_ble_eq_true rfl) ?_
      refine lv_if_eq (tgt := 35) hx hb dX10_placeOf_11 (by decide) (fun _ => ?_) (fun g => absurd (by decide) g)
      refine lv_iconst (v := (-1)) hx hb dX10_placeOf_35 (by decide) ?_
      exact ret_i (v := (-1)) hx hb hr hlocks hS hP hD dX10_placeOf_36 rfl (Nat.le_of_ble_eq_true rfl) (Nat.le_of_ble_eq_true rfl) ⟨(show (-1) ≤ ((-1) : Int32).toInt ∧ ((-1) : Int32).toInt ≤ 3 by decide), rfl⟩
    · have hP : va_P D vwCl [(h0, .inr (10, vL 67 Fh)), (h_s, .inl (cI, 335, .inl f_s))] H := hP
      have hD : va_D A [(h0, .inr (10, vL 67 Fh)), (h_s, .inl (cI, 335, .inl f_s))] := hD
      refine W.widen (k := 0) (n := 0) (Nat.le_of_ble_eq_true rfl) (Nat.le_of_ble_eq_true rfl) ?_
      refine lv_if_eq (tgt := 35) hx hb dX10_placeOf_11 (by decide) (fun g => absurd g (by decide)) (fun _ => ?_)
      refine lv_aload_n hx hb dX10_placeOf_14 rfl (lv_at hl 1 rfl) ?_
      refine get_f (D := D) (ci := 10) (v := .ref h_s) (C := RX10) (T := TX10) (N := 67) hx hb hw inAX10 hown hK hP 0 rfl rfl 6 (by decide) (hw _ q_1267) (fun _ h9 => h9) e_s dX10_placeOf_15 ?_
      refine lv_bipush (v := 105) hx hb dX10_placeOf_18 (by decide) ?_
      refine lv_iload_n hx hb dX10_placeOf_20 rfl (lv_at hl 0 rfl) ?_
      refine lv_iadd hx hb dX10_placeOf_21 ?_
      refine lv_topi (fun v8 ev8 => ?_)
      have bv8 : v8.toInt = 105 + u1.toInt := by rw [ev8]; exact add_k rfl rfl ⟨Int.le_refl _, Int.le_refl _⟩ k5 (by decide)
      have k9 : 105 ≤ v8.toInt ∧ v8.toInt ≤ 108 := add_r bv8 ⟨Int.le_refl _, Int.le_refl _⟩ k5 (by decide)
      refine va_iald hx hb hK hP 1 0 rfl rfl (ix_k k9 (by decide) (by decide)) dX10_placeOf_22 ?_
      refine lv_topi (fun v10 ev10 => ?_)
      have k11 : 0 ≤ v10.toInt ∧ v10.toInt ≤ 11 := by rw [ev10]; exact s_s_105.at _ (Int.le_trans (by decide) k9.1) (Int.le_trans k9.2 (by decide))
      refine lv_iload_n hx hb dX10_placeOf_23 rfl (lv_at hl 2 rfl) ?_
      refine lv_icmp_ne (tgt := 29) hx hb dX10_placeOf_24 (by decide) (fun c12 => ?_) (fun c12 => ?_)
      · have dc12 : v10.toInt ≠ p0.toInt := ne_i (a := v10.toInt) (b := p0.toInt) rfl rfl c12
        obtain ⟨v13, ev13⟩ : ∃ z : Int32, z = u1 + 1 := ⟨_, rfl⟩
        have bv13 : v13.toInt = u1.toInt + 1 := by rw [ev13]; exact add_k rfl rfl k5 ⟨Int.le_refl _, Int.le_refl _⟩ (by decide)
        have k14 : 1 ≤ v13.toInt ∧ v13.toInt ≤ 4 := add_r bv13 k5 ⟨Int.le_refl _, Int.le_refl _⟩ (by decide)
        refine lv_iinc (v := v13) (lv' := [(2, .int v13), (0, .ref h0), (1, .int p0)]) hx hb dX10_placeOf_29 hl (k := 0) rfl (by rw [ev13]; rfl) (by decide) rfl (fun ls hl => ?_)
        refine lv_goto (tgt := 2) hx hb dX10_placeOf_32 (by decide) ?_
        exact ih (v13) (ir_wk k14 (by decide) (by decide)) (by show (4 - v13.toInt).toNat < (4 - u1.toInt).toNat; omega) _ _ _ hP hD hS (lv_sub hl [0, 1, 2] rfl)
      · have dc12 : v10.toInt = p0.toInt := eq_i (a := v10.toInt) (b := p0.toInt) rfl rfl c12
        have k15 : 0 ≤ p0.toInt ∧ p0.toInt ≤ 11 := ⟨Int.le_trans k11.1 (Int.le_of_eq dc12), Int.le_trans (Int.le_of_eq dc12.symm) k11.2⟩
        refine lv_iload_n hx hb dX10_placeOf_27 rfl (lv_at hl 0 rfl) ?_
        exact ret_i (v := u1) hx hb hr hlocks hS hP hD dX10_placeOf_28 rfl (Nat.le_of_ble_eq_true rfl) (Nat.le_of_ble_eq_true rfl) ⟨(ir_wk k5 (by decide) (by decide)), rfl⟩
set_option maxHeartbeats 4000000 in
set_option maxRecDepth 100000 in
theorem m_X10_man (l : Launch) (D : va_G) (cI cJ cB cP cM cZ : ClassId) (h0 : Nat) (h_s : Nat) (Fh : Nat → Value) (f_s : Nat → Int32) (p0 : Int32) (p1 : Int32) (sz : Nat) (e_s : Fh 6 = .ref h_s) (s_s_K0 : KW 0 f_s) (s_s_0 : SG 0 0 0 40 f_s) (s_s_105 : SG 105 108 0 11 f_s) (s_s_114 : SG 114 114 0 5 f_s) (s_s_130 : SG 130 133 0 11 f_s) (s_s_139 : SG 139 139 0 5 f_s) (s_s_153 : SG 153 153 0 44 f_s) (s_s_44 : SG 44 55 0 9 f_s) (s_s_5 : SG 5 5 0 12 f_s) (s_s_6 : SG 6 6 0 12 f_s) (s_s_7 : SG 7 7 0 6 f_s) : CI l yX10_man cX10_man 4 (some .int) { frames := 2, cells := 0, slots := 0, locals := 42 } (GG D cI cJ cB cP cM cZ) D [(h0, .inr (10, vL 67 Fh)), (h_s, .inl (cI, 335, .inl f_s))] sz [.ref h0, .int p0, .int p1] (fun (r : Int32) (u : va_W) => ∃ (Gh : Nat → Value) (y_thrown : Int32), SAME [0] Fh Gh ∧ Gh 0 = .int y_thrown ∧ IR 0 1 y_thrown ∧ u = [(h0, .inr (10, vL 67 Gh)), (h_s, .inl (cI, 335, .inl f_s))]) := by
  refine CI_mk (by decide) (Nat.le_of_ble_eq_true rfl) ?_
  intro p e s m below meth c A ls E hAe hG hsz hP hD hA hS hl
  obtain ⟨hx, hb, hr, hw, hown, hlocks, hml, hnm⟩ := E
  have hK := hG.1
  have hl : lv_has ls 4 [(0, .ref h0), (1, .int p0), (2, .int p1)] := hl
  refine lv_aload_n hx hb dX10_man_0 rfl (lv_at hl 0 rfl) ?_
  refine lv_iload_n hx hb dX10_man_1 rfl (lv_at hl 1 rfl) ?_
  refine lv_iconst (v := 0) hx hb dX10_man_2 (by decide) ?_
  refine lv_aload_n hx hb dX10_man_3 rfl (lv_at hl 0 rfl) ?_
  refine get_f (D := D) (ci := 10) (v := .ref h_s) (C := RX10) (T := TX10) (N := 67) hx hb hw inAX10 hown hK hP 0 rfl rfl 6 (by decide) (hw _ q_1267) (fun _ h9 => h9) e_s dX10_man_4 ?_
  refine lv_iconst (v := 5) hx hb dX10_man_7 (by decide) ?_
  refine iald_n hx hb hK hP 1 0 rfl rfl 5 rfl (Nat.le_of_ble_eq_true rfl) (Nat.le_of_ble_eq_true rfl) rfl dX10_man_8 ?_
  refine lv_topi (fun v1 ev1 => ?_)
  have k2 : 0 ≤ v1.toInt ∧ v1.toInt ≤ 12 := by rw [ev1]; exact s_s_5.atN 5 (by decide) (by decide)
  refine lv_iconst (v := 1) hx hb dX10_man_9 (by decide) ?_
  refine lv_isub hx hb dX10_man_10 ?_
  refine lv_topi (fun v3 ev3 => ?_)
  have bv3 : v3.toInt = v1.toInt - 1 := by rw [ev3]; exact sub_k rfl rfl k2 ⟨Int.le_refl _, Int.le_refl _⟩ (by decide)
  have k4 : (-1) ≤ v3.toInt ∧ v3.toInt ≤ 11 := sub_r bv3 k2 ⟨Int.le_refl _, Int.le_refl _⟩ (by decide)
  refine call_Si (wr := [(h0, .inr (10, vL 67 Fh)), (h_s, .inl (cI, 335, .inl f_s))]) (As := [.int p0, .int 0, .int v3]) (rest := [.ref h0]) hx hb hml hown hw (m_X10_isIn l D cI cJ cB cP cM cZ p0 0 v3 _ ) wS_X10_211_X10_isIn dX10_man_11 hP hD hS hA [] [0, 1] rfl rfl (by decide) (by decide) (by decide) GG.fb hG.at hl.1 rfl (Nat.le_of_ble_eq_true rfl) ⟨(Nat.le_of_ble_eq_true rfl), (Nat.le_of_ble_eq_true rfl)⟩ ⟨(Nat.le_of_ble_eq_true rfl), (Nat.le_of_ble_eq_true rfl)⟩ (fun r5 u H locs hp hP hD hS => ?_)
  have zl0 : (0 : Int32).toInt = 0 := by decide
  rcases hp with ⟨t6, rfl, rfl⟩ | ⟨t7, t8, rfl, rfl⟩ | ⟨t9, t10, rfl, rfl⟩
  · have hP : va_P D vwCl [(h0, .inr (10, vL 67 Fh)), (h_s, .inl (cI, 335, .inl f_s))] H := hP
    have hD : va_D A [(h0, .inr (10, vL 67 Fh)), (h_s, .inl (cI, 335, .inl f_s))] := hD
    refine W.widen (k := 0) (n := 0) (Nat.le_of_ble_eq_true rfl) (Nat.le_of_ble_eq_true rfl) ?_
    have k12 : (-2147483648) ≤ p0.toInt ∧ p0.toInt ≤ (-1) := ⟨(ir_any _).1, up_lt t6 (Int.le_refl _) (by decide)⟩
    refine lv_if_eq (tgt := 26) hx hb dX10_man_14 (by decide) (fun _ => ?_) (fun g => absurd (by decide) g)
    refine lv_iconst (v := 1) hx hb dX10_man_26 (by decide) ?_
    refine lv_goto (tgt := 31) hx hb dX10_man_27 (by decide) ?_
    refine call_Vi (wr := [(h_s, .inl (cI, 335, .inl f_s))]) (As := [.int 1]) (rest := []) hx hb hml hown hw (m_X10_throwsIf l D cI cJ cB cP cM cZ h0 Fh 1 _ (show 0 ≤ (1 : Int32).toInt ∧ (1 : Int32).toInt ≤ 1 by decide)) wV_X10_284_X10_throwsIf dX10_man_31 hK hP hD hS hA [0] [1] rfl rfl (by decide) (by decide) (by decide) 0 10 rfl rfl GG.fb hG.at hl.1 rfl (Nat.le_of_ble_eq_true rfl) ⟨(Nat.le_of_ble_eq_true rfl), (Nat.le_of_ble_eq_true rfl)⟩ ⟨(Nat.le_of_ble_eq_true rfl), (Nat.le_of_ble_eq_true rfl)⟩ (fun r13 u H locs hp hP hD hS => ?_)
    have zl1 : (1 : Int32).toInt = 1 := by decide
    rcases hp with ⟨F14, t15, t16, t17, t18, rfl, rfl⟩ | ⟨F19, t20, t21, t22, t23, rfl, rfl⟩
    · have hP : va_P D vwCl [(h_s, .inl (cI, 335, .inl f_s)), (h0, .inr (10, vL 67 F14))] H := hP
      have hD : va_D A [(h_s, .inl (cI, 335, .inl f_s)), (h0, .inr (10, vL 67 F14))] := hD
      refine W.widen (k := 0) (n := 0) (Nat.le_of_ble_eq_true rfl) (Nat.le_of_ble_eq_true rfl) ?_
      exact absurd t18 (by decide)
    · have hP : va_P D vwCl [(h_s, .inl (cI, 335, .inl f_s)), (h0, .inr (10, vL 67 F19))] H := hP
      have hD : va_D A [(h_s, .inl (cI, 335, .inl f_s)), (h0, .inr (10, vL 67 F19))] := hD
      refine W.widen (k := 0) (n := 0) (Nat.le_of_ble_eq_true rfl) (Nat.le_of_ble_eq_true rfl) ?_
      refine lv_if_eq (tgt := 39) hx hb dX10_man_34 (by decide) (fun g => absurd g (by decide)) (fun _ => ?_)
      refine lv_iconst (v := 0) hx hb dX10_man_37 (by decide) ?_
      exact ret_i (v := 0) hx hb hr hlocks hS (hP.sub (ws' := [(h0, .inr (10, vL 67 F19)), (h_s, .inl (cI, 335, .inl f_s))]) [1, 0] rfl) (hD.sub (ws' := [(h0, .inr (10, vL 67 F19)), (h_s, .inl (cI, 335, .inl f_s))]) [1, 0] (by decide) rfl) dX10_man_38 rfl (Nat.le_of_ble_eq_true rfl) (Nat.le_of_ble_eq_true rfl) ⟨F19, 1, (SAME.tr SAME.rf t20 (by decide)), t21, (show 0 ≤ (1 : Int32).toInt ∧ (1 : Int32).toInt ≤ 1 by decide), rfl⟩
  · have hP : va_P D vwCl [(h0, .inr (10, vL 67 Fh)), (h_s, .inl (cI, 335, .inl f_s))] H := hP
    have hD : va_D A [(h0, .inr (10, vL 67 Fh)), (h_s, .inl (cI, 335, .inl f_s))] := hD
    refine W.widen (k := 0) (n := 0) (Nat.le_of_ble_eq_true rfl) (Nat.le_of_ble_eq_true rfl) ?_
    have k25 : 0 ≤ p0.toInt ∧ p0.toInt ≤ 2147483647 := ⟨Int.le_trans (Int.le_refl _) t7, (ir_any _).2⟩
    refine lv_if_eq (tgt := 26) hx hb dX10_man_14 (by decide) (fun _ => ?_) (fun g => absurd (by decide) g)
    refine lv_iconst (v := 1) hx hb dX10_man_26 (by decide) ?_
    refine lv_goto (tgt := 31) hx hb dX10_man_27 (by decide) ?_
    refine call_Vi (wr := [(h_s, .inl (cI, 335, .inl f_s))]) (As := [.int 1]) (rest := []) hx hb hml hown hw (m_X10_throwsIf l D cI cJ cB cP cM cZ h0 Fh 1 _ (show 0 ≤ (1 : Int32).toInt ∧ (1 : Int32).toInt ≤ 1 by decide)) wV_X10_284_X10_throwsIf dX10_man_31 hK hP hD hS hA [0] [1] rfl rfl (by decide) (by decide) (by decide) 0 10 rfl rfl GG.fb hG.at hl.1 rfl (Nat.le_of_ble_eq_true rfl) ⟨(Nat.le_of_ble_eq_true rfl), (Nat.le_of_ble_eq_true rfl)⟩ ⟨(Nat.le_of_ble_eq_true rfl), (Nat.le_of_ble_eq_true rfl)⟩ (fun r26 u H locs hp hP hD hS => ?_)
    have zl1 : (1 : Int32).toInt = 1 := by decide
    rcases hp with ⟨F27, t28, t29, t30, t31, rfl, rfl⟩ | ⟨F32, t33, t34, t35, t36, rfl, rfl⟩
    · have hP : va_P D vwCl [(h_s, .inl (cI, 335, .inl f_s)), (h0, .inr (10, vL 67 F27))] H := hP
      have hD : va_D A [(h_s, .inl (cI, 335, .inl f_s)), (h0, .inr (10, vL 67 F27))] := hD
      refine W.widen (k := 0) (n := 0) (Nat.le_of_ble_eq_true rfl) (Nat.le_of_ble_eq_true rfl) ?_
      exact absurd t31 (by decide)
    · have hP : va_P D vwCl [(h_s, .inl (cI, 335, .inl f_s)), (h0, .inr (10, vL 67 F32))] H := hP
      have hD : va_D A [(h_s, .inl (cI, 335, .inl f_s)), (h0, .inr (10, vL 67 F32))] := hD
      refine W.widen (k := 0) (n := 0) (Nat.le_of_ble_eq_true rfl) (Nat.le_of_ble_eq_true rfl) ?_
      refine lv_if_eq (tgt := 39) hx hb dX10_man_34 (by decide) (fun g => absurd g (by decide)) (fun _ => ?_)
      refine lv_iconst (v := 0) hx hb dX10_man_37 (by decide) ?_
      exact ret_i (v := 0) hx hb hr hlocks hS (hP.sub (ws' := [(h0, .inr (10, vL 67 F32)), (h_s, .inl (cI, 335, .inl f_s))]) [1, 0] rfl) (hD.sub (ws' := [(h0, .inr (10, vL 67 F32)), (h_s, .inl (cI, 335, .inl f_s))]) [1, 0] (by decide) rfl) dX10_man_38 rfl (Nat.le_of_ble_eq_true rfl) (Nat.le_of_ble_eq_true rfl) ⟨F32, 1, (SAME.tr SAME.rf t33 (by decide)), t34, (show 0 ≤ (1 : Int32).toInt ∧ (1 : Int32).toInt ≤ 1 by decide), rfl⟩
  · have hP : va_P D vwCl [(h0, .inr (10, vL 67 Fh)), (h_s, .inl (cI, 335, .inl f_s))] H := hP
    have hD : va_D A [(h0, .inr (10, vL 67 Fh)), (h_s, .inl (cI, 335, .inl f_s))] := hD
    refine W.widen (k := 0) (n := 0) (Nat.le_of_ble_eq_true rfl) (Nat.le_of_ble_eq_true rfl) ?_
    have k38 : 0 ≤ p0.toInt ∧ p0.toInt ≤ 2147483647 := ⟨Int.le_trans (Int.le_refl _) t9, (ir_any _).2⟩
    have k39 : 0 ≤ p0.toInt ∧ p0.toInt ≤ 11 := ⟨k38.1, Int.le_trans t10 k4.2⟩
    have k40 : 0 ≤ v3.toInt ∧ v3.toInt ≤ 11 := ⟨Int.le_trans k38.1 t10, k4.2⟩
    have k41 : 1 ≤ v1.toInt ∧ v1.toInt ≤ 12 := ⟨lin_lo (lin_m bv3) k40.1 (by decide), k2.2⟩
    refine lv_if_eq (tgt := 26) hx hb dX10_man_14 (by decide) (fun g => absurd g (by decide)) (fun _ => ?_)
    refine lv_iload_n hx hb dX10_man_17 rfl (lv_at hl 2 rfl) ?_
    refine lv_iconst (v := 0) hx hb dX10_man_18 (by decide) ?_
    refine lv_iconst (v := 4) hx hb dX10_man_19 (by decide) ?_
    refine call_Si (wr := [(h0, .inr (10, vL 67 Fh)), (h_s, .inl (cI, 335, .inl f_s))]) (As := [.int p1, .int 0, .int 4]) (rest := [.ref h0]) hx hb hml hown hw (m_X10_isIn l D cI cJ cB cP cM cZ p1 0 4 _ ) wS_X10_211_X10_isIn dX10_man_20 hP hD hS hA [] [0, 1] rfl rfl (by decide) (by decide) (by decide) GG.fb hG.at hl.1 rfl (Nat.le_of_ble_eq_true rfl) ⟨(Nat.le_of_ble_eq_true rfl), (Nat.le_of_ble_eq_true rfl)⟩ ⟨(Nat.le_of_ble_eq_true rfl), (Nat.le_of_ble_eq_true rfl)⟩ (fun r42 u H locs hp hP hD hS => ?_)
    have zl4 : (4 : Int32).toInt = 4 := by decide
    rcases hp with ⟨t43, rfl, rfl⟩ | ⟨t44, t45, rfl, rfl⟩ | ⟨t46, t47, rfl, rfl⟩
    · have hP : va_P D vwCl [(h0, .inr (10, vL 67 Fh)), (h_s, .inl (cI, 335, .inl f_s))] H := hP
      have hD : va_D A [(h0, .inr (10, vL 67 Fh)), (h_s, .inl (cI, 335, .inl f_s))] := hD
      refine W.widen (k := 0) (n := 0) (Nat.le_of_ble_eq_true rfl) (Nat.le_of_ble_eq_true rfl) ?_
      have k49 : (-2147483648) ≤ p1.toInt ∧ p1.toInt ≤ (-1) := ⟨(ir_any _).1, up_lt t43 (Int.le_refl _) (by decide)⟩
      refine lv_if_ne (tgt := 30) hx hb dX10_man_23 (by decide) (fun g => absurd (by decide) g) (fun _ => ?_)
      refine lv_iconst (v := 1) hx hb dX10_man_26 (by decide) ?_
      refine lv_goto (tgt := 31) hx hb dX10_man_27 (by decide) ?_
      refine call_Vi (wr := [(h_s, .inl (cI, 335, .inl f_s))]) (As := [.int 1]) (rest := []) hx hb hml hown hw (m_X10_throwsIf l D cI cJ cB cP cM cZ h0 Fh 1 _ (show 0 ≤ (1 : Int32).toInt ∧ (1 : Int32).toInt ≤ 1 by decide)) wV_X10_284_X10_throwsIf dX10_man_31 hK hP hD hS hA [0] [1] rfl rfl (by decide) (by decide) (by decide) 0 10 rfl rfl GG.fb hG.at hl.1 rfl (Nat.le_of_ble_eq_true rfl) ⟨(Nat.le_of_ble_eq_true rfl), (Nat.le_of_ble_eq_true rfl)⟩ ⟨(Nat.le_of_ble_eq_true rfl), (Nat.le_of_ble_eq_true rfl)⟩ (fun r50 u H locs hp hP hD hS => ?_)
      have zl1 : (1 : Int32).toInt = 1 := by decide
      rcases hp with ⟨F51, t52, t53, t54, t55, rfl, rfl⟩ | ⟨F56, t57, t58, t59, t60, rfl, rfl⟩
      · have hP : va_P D vwCl [(h_s, .inl (cI, 335, .inl f_s)), (h0, .inr (10, vL 67 F51))] H := hP
        have hD : va_D A [(h_s, .inl (cI, 335, .inl f_s)), (h0, .inr (10, vL 67 F51))] := hD
        refine W.widen (k := 0) (n := 0) (Nat.le_of_ble_eq_true rfl) (Nat.le_of_ble_eq_true rfl) ?_
        exact absurd t55 (by decide)
      · have hP : va_P D vwCl [(h_s, .inl (cI, 335, .inl f_s)), (h0, .inr (10, vL 67 F56))] H := hP
        have hD : va_D A [(h_s, .inl (cI, 335, .inl f_s)), (h0, .inr (10, vL 67 F56))] := hD
        refine W.widen (k := 0) (n := 0) (Nat.le_of_ble_eq_true rfl) (Nat.le_of_ble_eq_true rfl) ?_
        refine lv_if_eq (tgt := 39) hx hb dX10_man_34 (by decide) (fun g => absurd g (by decide)) (fun _ => ?_)
        refine lv_iconst (v := 0) hx hb dX10_man_37 (by decide) ?_
        exact ret_i (v := 0) hx hb hr hlocks hS (hP.sub (ws' := [(h0, .inr (10, vL 67 F56)), (h_s, .inl (cI, 335, .inl f_s))]) [1, 0] rfl) (hD.sub (ws' := [(h0, .inr (10, vL 67 F56)), (h_s, .inl (cI, 335, .inl f_s))]) [1, 0] (by decide) rfl) dX10_man_38 rfl (Nat.le_of_ble_eq_true rfl) (Nat.le_of_ble_eq_true rfl) ⟨F56, 1, (SAME.tr SAME.rf t57 (by decide)), t58, (show 0 ≤ (1 : Int32).toInt ∧ (1 : Int32).toInt ≤ 1 by decide), rfl⟩
    · have hP : va_P D vwCl [(h0, .inr (10, vL 67 Fh)), (h_s, .inl (cI, 335, .inl f_s))] H := hP
      have hD : va_D A [(h0, .inr (10, vL 67 Fh)), (h_s, .inl (cI, 335, .inl f_s))] := hD
      refine W.widen (k := 0) (n := 0) (Nat.le_of_ble_eq_true rfl) (Nat.le_of_ble_eq_true rfl) ?_
      have k62 : 0 ≤ p1.toInt ∧ p1.toInt ≤ 2147483647 := ⟨Int.le_trans (Int.le_refl _) t44, (ir_any _).2⟩
      have k63 : 5 ≤ p1.toInt ∧ p1.toInt ≤ 2147483647 := ⟨lo_lt t45 (Int.le_refl _) (by decide), k62.2⟩
      refine lv_if_ne (tgt := 30) hx hb dX10_man_23 (by decide) (fun g => absurd (by decide) g) (fun _ => ?_)
      refine lv_iconst (v := 1) hx hb dX10_man_26 (by decide) ?_
      refine lv_goto (tgt := 31) hx hb dX10_man_27 (by decide) ?_
      refine call_Vi (wr := [(h_s, .inl (cI, 335, .inl f_s))]) (As := [.int 1]) (rest := []) hx hb hml hown hw (m_X10_throwsIf l D cI cJ cB cP cM cZ h0 Fh 1 _ (show 0 ≤ (1 : Int32).toInt ∧ (1 : Int32).toInt ≤ 1 by decide)) wV_X10_284_X10_throwsIf dX10_man_31 hK hP hD hS hA [0] [1] rfl rfl (by decide) (by decide) (by decide) 0 10 rfl rfl GG.fb hG.at hl.1 rfl (Nat.le_of_ble_eq_true rfl) ⟨(Nat.le_of_ble_eq_true rfl), (Nat.le_of_ble_eq_true rfl)⟩ ⟨(Nat.le_of_ble_eq_true rfl), (Nat.le_of_ble_eq_true rfl)⟩ (fun r64 u H locs hp hP hD hS => ?_)
      have zl1 : (1 : Int32).toInt = 1 := by decide
      rcases hp with ⟨F65, t66, t67, t68, t69, rfl, rfl⟩ | ⟨F70, t71, t72, t73, t74, rfl, rfl⟩
      · have hP : va_P D vwCl [(h_s, .inl (cI, 335, .inl f_s)), (h0, .inr (10, vL 67 F65))] H := hP
        have hD : va_D A [(h_s, .inl (cI, 335, .inl f_s)), (h0, .inr (10, vL 67 F65))] := hD
        refine W.widen (k := 0) (n := 0) (Nat.le_of_ble_eq_true rfl) (Nat.le_of_ble_eq_true rfl) ?_
        exact absurd t69 (by decide)
      · have hP : va_P D vwCl [(h_s, .inl (cI, 335, .inl f_s)), (h0, .inr (10, vL 67 F70))] H := hP
        have hD : va_D A [(h_s, .inl (cI, 335, .inl f_s)), (h0, .inr (10, vL 67 F70))] := hD
        refine W.widen (k := 0) (n := 0) (Nat.le_of_ble_eq_true rfl) (Nat.le_of_ble_eq_true rfl) ?_
        refine lv_if_eq (tgt := 39) hx hb dX10_man_34 (by decide) (fun g => absurd g (by decide)) (fun _ => ?_)
        refine lv_iconst (v := 0) hx hb dX10_man_37 (by decide) ?_
        exact ret_i (v := 0) hx hb hr hlocks hS (hP.sub (ws' := [(h0, .inr (10, vL 67 F70)), (h_s, .inl (cI, 335, .inl f_s))]) [1, 0] rfl) (hD.sub (ws' := [(h0, .inr (10, vL 67 F70)), (h_s, .inl (cI, 335, .inl f_s))]) [1, 0] (by decide) rfl) dX10_man_38 rfl (Nat.le_of_ble_eq_true rfl) (Nat.le_of_ble_eq_true rfl) ⟨F70, 1, (SAME.tr SAME.rf t71 (by decide)), t72, (show 0 ≤ (1 : Int32).toInt ∧ (1 : Int32).toInt ≤ 1 by decide), rfl⟩
    · have hP : va_P D vwCl [(h0, .inr (10, vL 67 Fh)), (h_s, .inl (cI, 335, .inl f_s))] H := hP
      have hD : va_D A [(h0, .inr (10, vL 67 Fh)), (h_s, .inl (cI, 335, .inl f_s))] := hD
      refine W.widen (k := 0) (n := 0) (Nat.le_of_ble_eq_true rfl) (Nat.le_of_ble_eq_true rfl) ?_
      have k76 : 0 ≤ p1.toInt ∧ p1.toInt ≤ 2147483647 := ⟨Int.le_trans (Int.le_refl _) t46, (ir_any _).2⟩
      have k77 : 0 ≤ p1.toInt ∧ p1.toInt ≤ 4 := ⟨k76.1, Int.le_trans t47 (Int.le_refl _)⟩
      refine lv_if_ne (tgt := 30) hx hb dX10_man_23 (by decide) (fun _ => ?_) (fun g => absurd g (by decide))
      refine lv_iconst (v := 0) hx hb dX10_man_30 (by decide) ?_
      refine call_Vi (wr := [(h_s, .inl (cI, 335, .inl f_s))]) (As := [.int 0]) (rest := []) hx hb hml hown hw (m_X10_throwsIf l D cI cJ cB cP cM cZ h0 Fh 0 _ (show 0 ≤ (0 : Int32).toInt ∧ (0 : Int32).toInt ≤ 1 by decide)) wV_X10_284_X10_throwsIf dX10_man_31 hK hP hD hS hA [0] [1] rfl rfl (by decide) (by decide) (by decide) 0 10 rfl rfl GG.fb hG.at hl.1 rfl (Nat.le_of_ble_eq_true rfl) ⟨(Nat.le_of_ble_eq_true rfl), (Nat.le_of_ble_eq_true rfl)⟩ ⟨(Nat.le_of_ble_eq_true rfl), (Nat.le_of_ble_eq_true rfl)⟩ (fun r78 u H locs hp hP hD hS => ?_)
      rcases hp with ⟨F79, t80, t81, t82, t83, rfl, rfl⟩ | ⟨F84, t85, t86, t87, t88, rfl, rfl⟩
      · have hP : va_P D vwCl [(h_s, .inl (cI, 335, .inl f_s)), (h0, .inr (10, vL 67 F79))] H := hP
        have hD : va_D A [(h_s, .inl (cI, 335, .inl f_s)), (h0, .inr (10, vL 67 F79))] := hD
        refine W.widen (k := 0) (n := 0) (Nat.le_of_ble_eq_true rfl) (Nat.le_of_ble_eq_true rfl) ?_
        refine lv_if_eq (tgt := 39) hx hb dX10_man_34 (by decide) (fun _ => ?_) (fun g => absurd (by decide) g)
        refine lv_aload_n hx hb dX10_man_39 rfl (lv_at hl 0 rfl) ?_
        refine lv_iload_n hx hb dX10_man_40 rfl (lv_at hl 1 rfl) ?_
        have n90 : F79 6 = .ref h_s := (SAME.at t80 (by decide) e_s)
        refine call_Vi (wr := []) (As := [.int p0]) (rest := []) hx hb hml hown hw (m_X10_placeOf l D cI cJ cB cP cM cZ h0 h_s F79 f_s p0 _ n90 s_s_K0 s_s_0 s_s_105 s_s_114 s_s_130 s_s_139 s_s_153 s_s_44 s_s_5 s_s_6 s_s_7) wV_X10_288_X10_placeOf dX10_man_41 hK hP hD hS hA [1, 0] [] rfl rfl (by decide) (by decide) (by decide) 0 10 rfl rfl GG.fb hG.at hl.1 rfl (Nat.le_of_ble_eq_true rfl) ⟨(Nat.le_of_ble_eq_true rfl), (Nat.le_of_ble_eq_true rfl)⟩ ⟨(Nat.le_of_ble_eq_true rfl), (Nat.le_of_ble_eq_true rfl)⟩ (fun r91 u H locs hp hP hD hS => ?_)
        obtain ⟨t92, rfl⟩ := hp
        have hP : va_P D vwCl [(h0, .inr (10, vL 67 F79)), (h_s, .inl (cI, 335, .inl f_s))] H := hP
        have hD : va_D A [(h0, .inr (10, vL 67 F79)), (h_s, .inl (cI, 335, .inl f_s))] := hD
        refine W.widen (k := 0) (n := 0) (Nat.le_of_ble_eq_true rfl) (Nat.le_of_ble_eq_true rfl) ?_
        refine lv_istore_n (lv' := [(3, .int r91), (0, .ref h0), (1, .int p0), (2, .int p1)]) hx hb dX10_man_44 rfl hl (by decide) rfl (fun ls hl => ?_)
        refine lv_iload_n hx hb dX10_man_45 rfl (lv_at hl 3 rfl) ?_
        by_cases k94 : p1 = 0
        · have dk94 : p1.toInt = 0 := eq_i rfl rfl k94
          have k95 : 0 ≤ p1.toInt ∧ p1.toInt ≤ 0 := ⟨k77.1, Int.le_trans (Int.le_of_eq dk94) (Int.le_refl _)⟩
          refine lv_ci (y := 0) k94 ?_
          refine lv_tableIn (tgt := 76) (off := 30) hx hb dX10_man_46 (by decide) (by decide) (by decide) (by decide) ?_
          refine lv_aload_n hx hb dX10_man_76 rfl (lv_at hl 1 rfl) ?_
          refine get_f (D := D) (ci := 10) (v := .ref h_s) (C := RX10) (T := TX10) (N := 67) hx hb hw inAX10 hown hK hP 0 rfl rfl 6 (by decide) (hw _ q_1267) (fun _ h9 => h9) n90 dX10_man_77 ?_
          refine lv_bipush (v := 8) hx hb dX10_man_80 (by decide) ?_
          refine lv_iload_n hx hb dX10_man_82 rfl (lv_at hl 2 rfl) ?_
          refine lv_iadd hx hb dX10_man_83 ?_
          refine lv_topi (fun v96 ev96 => ?_)
          have bv96 : v96.toInt = 8 + p0.toInt := by rw [ev96]; exact add_k rfl rfl ⟨Int.le_refl _, Int.le_refl _⟩ k39 (by decide)
          have k97 : 8 ≤ v96.toInt ∧ v96.toInt ≤ 19 := add_r bv96 ⟨Int.le_refl _, Int.le_refl _⟩ k39 (by decide)
          refine va_iald hx hb hK hP 1 0 rfl rfl (ix_k k97 (by decide) (by decide)) dX10_man_84 ?_
          refine lv_topi (fun v98 ev98 => ?_)
          exact ret_i (v := v98) hx hb hr hlocks hS hP hD dX10_man_85 rfl (Nat.le_of_ble_eq_true rfl) (Nat.le_of_ble_eq_true rfl) ⟨F79, 0, (SAME.tr SAME.rf t80 (by decide)), t81, (show 0 ≤ (0 : Int32).toInt ∧ (0 : Int32).toInt ≤ 1 by decide), rfl⟩
        by_cases k99 : p1 = 1
        · have dk99 : p1.toInt = 1 := eq_i rfl rfl k99
          have k100 : 1 ≤ p1.toInt ∧ p1.toInt ≤ 1 := ⟨Int.le_trans (Int.le_refl _) (Int.le_of_eq dk99.symm), Int.le_trans (Int.le_of_eq dk99) (Int.le_refl _)⟩
          refine lv_ci (y := 1) k99 ?_
          refine lv_tableIn (tgt := 86) (off := 40) hx hb dX10_man_46 (by decide) (by decide) (by decide) (by decide) ?_
          refine lv_aload_n hx hb dX10_man_86 rfl (lv_at hl 1 rfl) ?_
          refine get_f (D := D) (ci := 10) (v := .ref h_s) (C := RX10) (T := TX10) (N := 67) hx hb hw inAX10 hown hK hP 0 rfl rfl 6 (by decide) (hw _ q_1267) (fun _ h9 => h9) n90 dX10_man_87 ?_
          refine lv_bipush (v := 20) hx hb dX10_man_90 (by decide) ?_
          refine lv_iload_n hx hb dX10_man_92 rfl (lv_at hl 2 rfl) ?_
          refine lv_iadd hx hb dX10_man_93 ?_
          refine lv_topi (fun v101 ev101 => ?_)
          have bv101 : v101.toInt = 20 + p0.toInt := by rw [ev101]; exact add_k rfl rfl ⟨Int.le_refl _, Int.le_refl _⟩ k39 (by decide)
          have k102 : 20 ≤ v101.toInt ∧ v101.toInt ≤ 31 := add_r bv101 ⟨Int.le_refl _, Int.le_refl _⟩ k39 (by decide)
          refine va_iald hx hb hK hP 1 0 rfl rfl (ix_k k102 (by decide) (by decide)) dX10_man_94 ?_
          refine lv_topi (fun v103 ev103 => ?_)
          exact ret_i (v := v103) hx hb hr hlocks hS hP hD dX10_man_95 rfl (Nat.le_of_ble_eq_true rfl) (Nat.le_of_ble_eq_true rfl) ⟨F79, 0, (SAME.tr SAME.rf t80 (by decide)), t81, (show 0 ≤ (0 : Int32).toInt ∧ (0 : Int32).toInt ≤ 1 by decide), rfl⟩
        by_cases k104 : p1 = 2
        · have dk104 : p1.toInt = 2 := eq_i rfl rfl k104
          have k105 : 2 ≤ p1.toInt ∧ p1.toInt ≤ 2 := ⟨Int.le_trans (Int.le_refl _) (Int.le_of_eq dk104.symm), Int.le_trans (Int.le_of_eq dk104) (Int.le_refl _)⟩
          refine lv_ci (y := 2) k104 ?_
          refine lv_tableIn (tgt := 96) (off := 50) hx hb dX10_man_46 (by decide) (by decide) (by decide) (by decide) ?_
          refine lv_aload_n hx hb dX10_man_96 rfl (lv_at hl 1 rfl) ?_
          refine get_f (D := D) (ci := 10) (v := .ref h_s) (C := RX10) (T := TX10) (N := 67) hx hb hw inAX10 hown hK hP 0 rfl rfl 6 (by decide) (hw _ q_1267) (fun _ h9 => h9) n90 dX10_man_97 ?_
          refine lv_bipush (v := 32) hx hb dX10_man_100 (by decide) ?_
          refine lv_iload_n hx hb dX10_man_102 rfl (lv_at hl 2 rfl) ?_
          refine lv_iadd hx hb dX10_man_103 ?_
          refine lv_topi (fun v106 ev106 => ?_)
          have bv106 : v106.toInt = 32 + p0.toInt := by rw [ev106]; exact add_k rfl rfl ⟨Int.le_refl _, Int.le_refl _⟩ k39 (by decide)
          have k107 : 32 ≤ v106.toInt ∧ v106.toInt ≤ 43 := add_r bv106 ⟨Int.le_refl _, Int.le_refl _⟩ k39 (by decide)
          refine va_iald hx hb hK hP 1 0 rfl rfl (ix_k k107 (by decide) (by decide)) dX10_man_104 ?_
          refine lv_topi (fun v108 ev108 => ?_)
          exact ret_i (v := v108) hx hb hr hlocks hS hP hD dX10_man_105 rfl (Nat.le_of_ble_eq_true rfl) (Nat.le_of_ble_eq_true rfl) ⟨F79, 0, (SAME.tr SAME.rf t80 (by decide)), t81, (show 0 ≤ (0 : Int32).toInt ∧ (0 : Int32).toInt ≤ 1 by decide), rfl⟩
        by_cases k109 : p1 = 3
        · have dk109 : p1.toInt = 3 := eq_i rfl rfl k109
          have k110 : 3 ≤ p1.toInt ∧ p1.toInt ≤ 3 := ⟨Int.le_trans (Int.le_refl _) (Int.le_of_eq dk109.symm), Int.le_trans (Int.le_of_eq dk109) (Int.le_refl _)⟩
          refine lv_ci (y := 3) k109 ?_
          refine lv_tableIn (tgt := 106) (off := 60) hx hb dX10_man_46 (by decide) (by decide) (by decide) (by decide) ?_
          refine lv_iload_n hx hb dX10_man_106 rfl (lv_at hl 0 rfl) ?_
          exact ret_i (v := r91) hx hb hr hlocks hS hP hD dX10_man_107 rfl (Nat.le_of_ble_eq_true rfl) (Nat.le_of_ble_eq_true rfl) ⟨F79, 0, (SAME.tr SAME.rf t80 (by decide)), t81, (show 0 ≤ (0 : Int32).toInt ∧ (0 : Int32).toInt ≤ 1 by decide), rfl⟩
        have dk94 : p1.toInt ≠ 0 := ne_i rfl rfl k94
        have k111 : 1 ≤ p1.toInt ∧ p1.toInt ≤ 4 := ⟨ne_lo dk94 k77.1 ⟨Int.le_refl _, Int.le_refl _⟩ (by decide), k77.2⟩
        have dk99 : p1.toInt ≠ 1 := ne_i rfl rfl k99
        have k112 : 2 ≤ p1.toInt ∧ p1.toInt ≤ 4 := ⟨ne_lo dk99 k111.1 ⟨Int.le_refl _, Int.le_refl _⟩ (by decide), k111.2⟩
        have dk104 : p1.toInt ≠ 2 := ne_i rfl rfl k104
        have k113 : 3 ≤ p1.toInt ∧ p1.toInt ≤ 4 := ⟨ne_lo dk104 k112.1 ⟨Int.le_refl _, Int.le_refl _⟩ (by decide), k112.2⟩
        have dk109 : p1.toInt ≠ 3 := ne_i rfl rfl k109
        have k114 : 4 ≤ p1.toInt ∧ p1.toInt ≤ 4 := ⟨ne_lo dk109 k113.1 ⟨Int.le_refl _, Int.le_refl _⟩ (by decide), k113.2⟩
        refine lv_tableOut (tgt := 108) hx hb dX10_man_46 (by omega) (by decide) ?_
        refine lv_iload_n hx hb dX10_man_108 rfl (lv_at hl 0 rfl) ?_
        refine lv_if_ge (tgt := 116) hx hb dX10_man_109 (by decide) (fun c115 => ?_) (fun c115 => ?_)
        · have dc115 : 0 ≤ r91.toInt := le_i (a := 0) (b := r91.toInt) rfl rfl c115
          have k116 : 0 ≤ r91.toInt ∧ r91.toInt ≤ 3 := ⟨Int.le_trans (Int.le_refl _) dc115, t92.2⟩
          refine lv_aload_n hx hb dX10_man_116 rfl (lv_at hl 1 rfl) ?_
          refine get_f (D := D) (ci := 10) (v := .ref h_s) (C := RX10) (T := TX10) (N := 67) hx hb hw inAX10 hown hK hP 0 rfl rfl 6 (by decide) (hw _ q_1267) (fun _ h9 => h9) n90 dX10_man_117 ?_
          refine lv_bipush (v := 109) hx hb dX10_man_120 (by decide) ?_
          refine lv_iload_n hx hb dX10_man_122 rfl (lv_at hl 0 rfl) ?_
          refine lv_iadd hx hb dX10_man_123 ?_
          refine lv_topi (fun v117 ev117 => ?_)
          have bv117 : v117.toInt = 109 + r91.toInt := by rw [ev117]; exact add_k rfl rfl ⟨Int.le_refl _, Int.le_refl _⟩ k116 (by decide)
          have k118 : 109 ≤ v117.toInt ∧ v117.toInt ≤ 112 := add_r bv117 ⟨Int.le_refl _, Int.le_refl _⟩ k116 (by decide)
          refine va_iald hx hb hK hP 1 0 rfl rfl (ix_k k118 (by decide) (by decide)) dX10_man_124 ?_
          refine lv_topi (fun v119 ev119 => ?_)
          exact ret_i (v := v119) hx hb hr hlocks hS hP hD dX10_man_125 rfl (Nat.le_of_ble_eq_true rfl) (Nat.le_of_ble_eq_true rfl) ⟨F79, 0, (SAME.tr SAME.rf t80 (by decide)), t81, (show 0 ≤ (0 : Int32).toInt ∧ (0 : Int32).toInt ≤ 1 by decide), rfl⟩
        · have dc115 : r91.toInt < 0 := nle_i (a := 0) (b := r91.toInt) rfl rfl c115
          have k120 : (-1) ≤ r91.toInt ∧ r91.toInt ≤ (-1) := ⟨t92.1, up_lt dc115 (Int.le_refl _) (by decide)⟩
          refine lv_iconst (v := (-1)) hx hb dX10_man_112 (by decide) ?_
          refine lv_goto (tgt := 125) hx hb dX10_man_113 (by decide) ?_
          exact ret_i (v := (-1)) hx hb hr hlocks hS hP hD dX10_man_125 rfl (Nat.le_of_ble_eq_true rfl) (Nat.le_of_ble_eq_true rfl) ⟨F79, 0, (SAME.tr SAME.rf t80 (by decide)), t81, (show 0 ≤ (0 : Int32).toInt ∧ (0 : Int32).toInt ≤ 1 by decide), rfl⟩
      · have hP : va_P D vwCl [(h_s, .inl (cI, 335, .inl f_s)), (h0, .inr (10, vL 67 F84))] H := hP
        have hD : va_D A [(h_s, .inl (cI, 335, .inl f_s)), (h0, .inr (10, vL 67 F84))] := hD
        refine W.widen (k := 0) (n := 0) (Nat.le_of_ble_eq_true rfl) (Nat.le_of_ble_eq_true rfl) ?_
        exact absurd t88 (by decide)
set_option maxHeartbeats 4000000 in
set_option maxRecDepth 100000 in
theorem m_X10_isBend (l : Launch) (D : va_G) (cI cJ cB cP cM cZ : ClassId) (h0 : Nat) (h_s : Nat) (Fh : Nat → Value) (f_s : Nat → Int32) (p0 : Int32) (sz : Nat) (e_s : Fh 6 = .ref h_s) (s_s_K0 : KW 0 f_s) (s_s_0 : SG 0 0 0 40 f_s) (s_s_105 : SG 105 108 0 11 f_s) (s_s_114 : SG 114 114 0 5 f_s) (s_s_130 : SG 130 133 0 11 f_s) (s_s_139 : SG 139 139 0 5 f_s) (s_s_153 : SG 153 153 0 44 f_s) (s_s_44 : SG 44 55 0 9 f_s) (s_s_5 : SG 5 5 0 12 f_s) (s_s_6 : SG 6 6 0 12 f_s) (s_s_7 : SG 7 7 0 6 f_s) : CI l yX10_isBend cX10_isBend 2 (some .boolean) { frames := 1, cells := 0, slots := 0, locals := 22 } (GG D cI cJ cB cP cM cZ) D [(h0, .inr (10, vL 67 Fh)), (h_s, .inl (cI, 335, .inl f_s))] sz [.ref h0, .int p0] (fun (r : Int32) (u : va_W) => (p0.toInt < 0 ∧ r = 0 ∧ u = [(h0, .inr (10, vL 67 Fh)), (h_s, .inl (cI, 335, .inl f_s))]) ∨ (0 ≤ p0.toInt ∧ (-1) < p0.toInt ∧ r = 0 ∧ u = [(h0, .inr (10, vL 67 Fh)), (h_s, .inl (cI, 335, .inl f_s))]) ∨ (0 ≤ p0.toInt ∧ p0.toInt ≤ 11 ∧ r = 1 ∧ u = [(h0, .inr (10, vL 67 Fh)), (h_s, .inl (cI, 335, .inl f_s))])) := by
  refine CI_mk (by decide) (Nat.le_of_ble_eq_true rfl) ?_
  intro p e s m below meth c A ls E hAe hG hsz hP hD hA hS hl
  obtain ⟨hx, hb, hr, hw, hown, hlocks, hml, hnm⟩ := E
  have hK := hG.1
  have hl : lv_has ls 2 [(0, .ref h0), (1, .int p0)] := hl
  refine lv_iload_n hx hb dX10_isBend_0 rfl (lv_at hl 1 rfl) ?_
  refine lv_iconst (v := 0) hx hb dX10_isBend_1 (by decide) ?_
  refine lv_aload_n hx hb dX10_isBend_2 rfl (lv_at hl 0 rfl) ?_
  refine get_f (D := D) (ci := 10) (v := .ref h_s) (C := RX10) (T := TX10) (N := 67) hx hb hw inAX10 hown hK hP 0 rfl rfl 6 (by decide) (hw _ q_1267) (fun _ h9 => h9) e_s dX10_isBend_3 ?_
  refine lv_bipush (v := 6) hx hb dX10_isBend_6 (by decide) ?_
  refine iald_n hx hb hK hP 1 0 rfl rfl 6 rfl (Nat.le_of_ble_eq_true rfl) (Nat.le_of_ble_eq_true rfl) rfl dX10_isBend_8 ?_
  refine lv_topi (fun v1 ev1 => ?_)
  have k2 : 0 ≤ v1.toInt ∧ v1.toInt ≤ 12 := by rw [ev1]; exact s_s_6.atN 6 (by decide) (by decide)
  refine lv_iconst (v := 1) hx hb dX10_isBend_9 (by decide) ?_
  refine lv_isub hx hb dX10_isBend_10 ?_
  refine lv_topi (fun v3 ev3 => ?_)
  have bv3 : v3.toInt = v1.toInt - 1 := by rw [ev3]; exact sub_k rfl rfl k2 ⟨Int.le_refl _, Int.le_refl _⟩ (by decide)
  have k4 : (-1) ≤ v3.toInt ∧ v3.toInt ≤ 11 := sub_r bv3 k2 ⟨Int.le_refl _, Int.le_refl _⟩ (by decide)
  refine call_Si (wr := [(h0, .inr (10, vL 67 Fh)), (h_s, .inl (cI, 335, .inl f_s))]) (As := [.int p0, .int 0, .int v3]) (rest := []) hx hb hml hown hw (m_X10_isIn l D cI cJ cB cP cM cZ p0 0 v3 _ ) wS_X10_211_X10_isIn dX10_isBend_11 hP hD hS hA [] [0, 1] rfl rfl (by decide) (by decide) (by decide) GG.fb hG.at hl.1 rfl (Nat.le_of_ble_eq_true rfl) ⟨(Nat.le_of_ble_eq_true rfl), (Nat.le_of_ble_eq_true rfl)⟩ ⟨(Nat.le_of_ble_eq_true rfl), (Nat.le_of_ble_eq_true rfl)⟩ (fun r5 u H locs hp hP hD hS => ?_)
  have zl0 : (0 : Int32).toInt = 0 := by decide
  rcases hp with ⟨t6, rfl, rfl⟩ | ⟨t7, t8, rfl, rfl⟩ | ⟨t9, t10, rfl, rfl⟩
  · have hP : va_P D vwCl [(h0, .inr (10, vL 67 Fh)), (h_s, .inl (cI, 335, .inl f_s))] H := hP
    have hD : va_D A [(h0, .inr (10, vL 67 Fh)), (h_s, .inl (cI, 335, .inl f_s))] := hD
    refine W.widen (k := 0) (n := 0) (Nat.le_of_ble_eq_true rfl) (Nat.le_of_ble_eq_true rfl) ?_
    have k12 : (-2147483648) ≤ p0.toInt ∧ p0.toInt ≤ (-1) := ⟨(ir_any _).1, up_lt t6 (Int.le_refl _) (by decide)⟩
    exact ret_i (v := 0) hx hb hr hlocks hS hP hD dX10_isBend_14 rfl (Nat.le_of_ble_eq_true rfl) (Nat.le_of_ble_eq_true rfl) (Or.inl ⟨t6, rfl, rfl⟩)
  · have hP : va_P D vwCl [(h0, .inr (10, vL 67 Fh)), (h_s, .inl (cI, 335, .inl f_s))] H := hP
    have hD : va_D A [(h0, .inr (10, vL 67 Fh)), (h_s, .inl (cI, 335, .inl f_s))] := hD
    refine W.widen (k := 0) (n := 0) (Nat.le_of_ble_eq_true rfl) (Nat.le_of_ble_eq_true rfl) ?_
    have k13 : 0 ≤ p0.toInt ∧ p0.toInt ≤ 2147483647 := ⟨Int.le_trans (Int.le_refl _) t7, (ir_any _).2⟩
    exact ret_i (v := 0) hx hb hr hlocks hS hP hD dX10_isBend_14 rfl (Nat.le_of_ble_eq_true rfl) (Nat.le_of_ble_eq_true rfl) (Or.inr (Or.inl ⟨t7, (by omega), rfl, rfl⟩))
  · have hP : va_P D vwCl [(h0, .inr (10, vL 67 Fh)), (h_s, .inl (cI, 335, .inl f_s))] H := hP
    have hD : va_D A [(h0, .inr (10, vL 67 Fh)), (h_s, .inl (cI, 335, .inl f_s))] := hD
    refine W.widen (k := 0) (n := 0) (Nat.le_of_ble_eq_true rfl) (Nat.le_of_ble_eq_true rfl) ?_
    have k14 : 0 ≤ p0.toInt ∧ p0.toInt ≤ 2147483647 := ⟨Int.le_trans (Int.le_refl _) t9, (ir_any _).2⟩
    have k15 : 0 ≤ p0.toInt ∧ p0.toInt ≤ 11 := ⟨k14.1, Int.le_trans t10 k4.2⟩
    have k16 : 0 ≤ v3.toInt ∧ v3.toInt ≤ 11 := ⟨Int.le_trans k14.1 t10, k4.2⟩
    have k17 : 1 ≤ v1.toInt ∧ v1.toInt ≤ 12 := ⟨lin_lo (lin_m bv3) k16.1 (by decide), k2.2⟩
    exact ret_i (v := 1) hx hb hr hlocks hS hP hD dX10_isBend_14 rfl (Nat.le_of_ble_eq_true rfl) (Nat.le_of_ble_eq_true rfl) (Or.inr (Or.inr ⟨t9, (by omega), rfl, rfl⟩))
set_option maxHeartbeats 4000000 in
set_option maxRecDepth 100000 in
theorem m_X10_bend (l : Launch) (D : va_G) (cI cJ cB cP cM cZ : ClassId) (h0 : Nat) (h_s : Nat) (Fh : Nat → Value) (f_s : Nat → Int32) (p0 : Int32) (p1 : Int32) (sz : Nat) (e_s : Fh 6 = .ref h_s) (s_s_K0 : KW 0 f_s) (s_s_0 : SG 0 0 0 40 f_s) (s_s_105 : SG 105 108 0 11 f_s) (s_s_114 : SG 114 114 0 5 f_s) (s_s_130 : SG 130 133 0 11 f_s) (s_s_139 : SG 139 139 0 5 f_s) (s_s_153 : SG 153 153 0 44 f_s) (s_s_44 : SG 44 55 0 9 f_s) (s_s_5 : SG 5 5 0 12 f_s) (s_s_6 : SG 6 6 0 12 f_s) (s_s_7 : SG 7 7 0 6 f_s) : CI l yX10_bend cX10_bend 3 (some .int) { frames := 2, cells := 0, slots := 0, locals := 43 } (GG D cI cJ cB cP cM cZ) D [(h0, .inr (10, vL 67 Fh)), (h_s, .inl (cI, 335, .inl f_s))] sz [.ref h0, .int p0, .int p1] (fun (r : Int32) (u : va_W) => ∃ (Gh : Nat → Value), SAME [0] Fh Gh ∧ Gh 0 = .int 0 ∧ u = [(h0, .inr (10, vL 67 Gh)), (h_s, .inl (cI, 335, .inl f_s))]) := by
  refine CI_mk (by decide) (Nat.le_of_ble_eq_true rfl) ?_
  intro p e s m below meth c A ls E hAe hG hsz hP hD hA hS hl
  obtain ⟨hx, hb, hr, hw, hown, hlocks, hml, hnm⟩ := E
  have hK := hG.1
  have hl : lv_has ls 3 [(0, .ref h0), (1, .int p0), (2, .int p1)] := hl
  refine lv_aload_n hx hb dX10_bend_0 rfl (lv_at hl 0 rfl) ?_
  refine lv_iconst (v := 0) hx hb dX10_bend_1 (by decide) ?_
  refine put_f (D := D) (ci := 10) (v := .int 0) (ty := .int) (C := RX10) (T := TX10) (N := 67) hx hb hw inAX10 tyX10 tyX10_ok nmX10 hown hK hP hD hS 0 rfl rfl 0 (by decide) (hw _ q_1261) (fun _ h9 => h9) rfl (by decide +kernel) rfl rfl dX10_bend_2 (fun H locs F1 eF1 hP hD hS => ?_)
  have hP : va_P D vwCl [(h0, .inr (10, vL 67 F1)), (h_s, .inl (cI, 335, .inl f_s))] H := hP
  have hD : va_D A [(h0, .inr (10, vL 67 F1)), (h_s, .inl (cI, 335, .inl f_s))] := hD
  refine lv_aload_n hx hb dX10_bend_5 rfl (lv_at hl 0 rfl) ?_
  refine lv_iload_n hx hb dX10_bend_6 rfl (lv_at hl 1 rfl) ?_
  have n2 : F1 6 = .ref h_s := (get_ne eF1 (by decide) e_s)
  refine call_Vi (wr := []) (As := [.int p0]) (rest := []) hx hb hml hown hw (m_X10_isBend l D cI cJ cB cP cM cZ h0 h_s F1 f_s p0 _ n2 s_s_K0 s_s_0 s_s_105 s_s_114 s_s_130 s_s_139 s_s_153 s_s_44 s_s_5 s_s_6 s_s_7) wV_X10_292_X10_isBend dX10_bend_7 hK hP hD hS hA [0, 1] [] rfl rfl (by decide) (by decide) (by decide) 0 10 rfl rfl GG.fb hG.at hl.1 rfl (Nat.le_of_ble_eq_true rfl) ⟨(Nat.le_of_ble_eq_true rfl), (Nat.le_of_ble_eq_true rfl)⟩ ⟨(Nat.le_of_ble_eq_true rfl), (Nat.le_of_ble_eq_true rfl)⟩ (fun r3 u H locs hp hP hD hS => ?_)
  rcases hp with ⟨t4, rfl, rfl⟩ | ⟨t5, t6, rfl, rfl⟩ | ⟨t7, t8, rfl, rfl⟩
  · have hP : va_P D vwCl [(h0, .inr (10, vL 67 F1)), (h_s, .inl (cI, 335, .inl f_s))] H := hP
    have hD : va_D A [(h0, .inr (10, vL 67 F1)), (h_s, .inl (cI, 335, .inl f_s))] := hD
    refine W.widen (k := 0) (n := 0) (Nat.le_of_ble_eq_true rfl) (Nat.le_of_ble_eq_true rfl) ?_
    have k10 : (-2147483648) ≤ p0.toInt ∧ p0.toInt ≤ (-1) := ⟨(ir_any _).1, up_lt t4 (Int.le_refl _) (by decide)⟩
    refine lv_if_ne (tgt := 15) hx hb dX10_bend_10 (by decide) (fun g => absurd (by decide) g) (fun _ => ?_)
    refine lv_iconst (v := (-1)) hx hb dX10_bend_13 (by decide) ?_
    exact ret_i (v := (-1)) hx hb hr hlocks hS hP hD dX10_bend_14 rfl (Nat.le_of_ble_eq_true rfl) (Nat.le_of_ble_eq_true rfl) ⟨F1, (SAME.up eF1 SAME.rf (by decide)), (get_eq eF1), rfl⟩
  · have hP : va_P D vwCl [(h0, .inr (10, vL 67 F1)), (h_s, .inl (cI, 335, .inl f_s))] H := hP
    have hD : va_D A [(h0, .inr (10, vL 67 F1)), (h_s, .inl (cI, 335, .inl f_s))] := hD
    refine W.widen (k := 0) (n := 0) (Nat.le_of_ble_eq_true rfl) (Nat.le_of_ble_eq_true rfl) ?_
    have k11 : 0 ≤ p0.toInt ∧ p0.toInt ≤ 2147483647 := ⟨Int.le_trans (Int.le_refl _) t5, (ir_any _).2⟩
    refine lv_if_ne (tgt := 15) hx hb dX10_bend_10 (by decide) (fun g => absurd (by decide) g) (fun _ => ?_)
    refine lv_iconst (v := (-1)) hx hb dX10_bend_13 (by decide) ?_
    exact ret_i (v := (-1)) hx hb hr hlocks hS hP hD dX10_bend_14 rfl (Nat.le_of_ble_eq_true rfl) (Nat.le_of_ble_eq_true rfl) ⟨F1, (SAME.up eF1 SAME.rf (by decide)), (get_eq eF1), rfl⟩
  · have hP : va_P D vwCl [(h0, .inr (10, vL 67 F1)), (h_s, .inl (cI, 335, .inl f_s))] H := hP
    have hD : va_D A [(h0, .inr (10, vL 67 F1)), (h_s, .inl (cI, 335, .inl f_s))] := hD
    refine W.widen (k := 0) (n := 0) (Nat.le_of_ble_eq_true rfl) (Nat.le_of_ble_eq_true rfl) ?_
    have k12 : 0 ≤ p0.toInt ∧ p0.toInt ≤ 2147483647 := ⟨Int.le_trans (Int.le_refl _) t7, (ir_any _).2⟩
    have k13 : 0 ≤ p0.toInt ∧ p0.toInt ≤ 11 := ⟨k12.1, Int.le_trans t8 (Int.le_refl _)⟩
    refine lv_if_ne (tgt := 15) hx hb dX10_bend_10 (by decide) (fun _ => ?_) (fun g => absurd g (by decide))
    refine lv_iload_n hx hb dX10_bend_15 rfl (lv_at hl 2 rfl) ?_
    by_cases k14 : p1 = 0
    · have dk14 : p1.toInt = 0 := eq_i rfl rfl k14
      have k15 : 0 ≤ p1.toInt ∧ p1.toInt ≤ 0 := ⟨Int.le_trans (Int.le_refl _) (Int.le_of_eq dk14.symm), Int.le_trans (Int.le_of_eq dk14) (Int.le_refl _)⟩
      refine lv_ci (y := 0) k14 ?_
      refine lv_tableIn (tgt := 52) (off := 36) hx hb dX10_bend_16 (by decide) (by decide) (by decide) (by decide) ?_
      refine lv_aload_n hx hb dX10_bend_52 rfl (lv_at hl 0 rfl) ?_
      refine get_f (D := D) (ci := 10) (v := .ref h_s) (C := RX10) (T := TX10) (N := 67) hx hb hw inAX10 hown hK hP 0 rfl rfl 6 (by decide) (hw _ q_1267) (fun _ h9 => h9) n2 dX10_bend_53 ?_
      refine lv_bipush (v := 44) hx hb dX10_bend_56 (by decide) ?_
      refine lv_iload_n hx hb dX10_bend_58 rfl (lv_at hl 1 rfl) ?_
      refine lv_iadd hx hb dX10_bend_59 ?_
      refine lv_topi (fun v16 ev16 => ?_)
      have bv16 : v16.toInt = 44 + p0.toInt := by rw [ev16]; exact add_k rfl rfl ⟨Int.le_refl _, Int.le_refl _⟩ k13 (by decide)
      have k17 : 44 ≤ v16.toInt ∧ v16.toInt ≤ 55 := add_r bv16 ⟨Int.le_refl _, Int.le_refl _⟩ k13 (by decide)
      refine va_iald hx hb hK hP 1 0 rfl rfl (ix_k k17 (by decide) (by decide)) dX10_bend_60 ?_
      refine lv_topi (fun v18 ev18 => ?_)
      have k19 : 0 ≤ v18.toInt ∧ v18.toInt ≤ 9 := by rw [ev18]; exact s_s_44.at _ (Int.le_trans (by decide) k17.1) (Int.le_trans k17.2 (by decide))
      exact ret_i (v := v18) hx hb hr hlocks hS hP hD dX10_bend_61 rfl (Nat.le_of_ble_eq_true rfl) (Nat.le_of_ble_eq_true rfl) ⟨F1, (SAME.up eF1 SAME.rf (by decide)), (get_eq eF1), rfl⟩
    by_cases k20 : p1 = 1
    · have dk20 : p1.toInt = 1 := eq_i rfl rfl k20
      have k21 : 1 ≤ p1.toInt ∧ p1.toInt ≤ 1 := ⟨Int.le_trans (Int.le_refl _) (Int.le_of_eq dk20.symm), Int.le_trans (Int.le_of_eq dk20) (Int.le_refl _)⟩
      refine lv_ci (y := 1) k20 ?_
      refine lv_tableIn (tgt := 62) (off := 46) hx hb dX10_bend_16 (by decide) (by decide) (by decide) (by decide) ?_
      refine lv_aload_n hx hb dX10_bend_62 rfl (lv_at hl 0 rfl) ?_
      refine get_f (D := D) (ci := 10) (v := .ref h_s) (C := RX10) (T := TX10) (N := 67) hx hb hw inAX10 hown hK hP 0 rfl rfl 6 (by decide) (hw _ q_1267) (fun _ h9 => h9) n2 dX10_bend_63 ?_
      refine lv_bipush (v := 56) hx hb dX10_bend_66 (by decide) ?_
      refine lv_iload_n hx hb dX10_bend_68 rfl (lv_at hl 1 rfl) ?_
      refine lv_iadd hx hb dX10_bend_69 ?_
      refine lv_topi (fun v22 ev22 => ?_)
      have bv22 : v22.toInt = 56 + p0.toInt := by rw [ev22]; exact add_k rfl rfl ⟨Int.le_refl _, Int.le_refl _⟩ k13 (by decide)
      have k23 : 56 ≤ v22.toInt ∧ v22.toInt ≤ 67 := add_r bv22 ⟨Int.le_refl _, Int.le_refl _⟩ k13 (by decide)
      refine va_iald hx hb hK hP 1 0 rfl rfl (ix_k k23 (by decide) (by decide)) dX10_bend_70 ?_
      refine lv_topi (fun v24 ev24 => ?_)
      exact ret_i (v := v24) hx hb hr hlocks hS hP hD dX10_bend_71 rfl (Nat.le_of_ble_eq_true rfl) (Nat.le_of_ble_eq_true rfl) ⟨F1, (SAME.up eF1 SAME.rf (by decide)), (get_eq eF1), rfl⟩
    by_cases k25 : p1 = 2
    · have dk25 : p1.toInt = 2 := eq_i rfl rfl k25
      have k26 : 2 ≤ p1.toInt ∧ p1.toInt ≤ 2 := ⟨Int.le_trans (Int.le_refl _) (Int.le_of_eq dk25.symm), Int.le_trans (Int.le_of_eq dk25) (Int.le_refl _)⟩
      refine lv_ci (y := 2) k25 ?_
      refine lv_tableIn (tgt := 72) (off := 56) hx hb dX10_bend_16 (by decide) (by decide) (by decide) (by decide) ?_
      refine lv_aload_n hx hb dX10_bend_72 rfl (lv_at hl 0 rfl) ?_
      refine get_f (D := D) (ci := 10) (v := .ref h_s) (C := RX10) (T := TX10) (N := 67) hx hb hw inAX10 hown hK hP 0 rfl rfl 6 (by decide) (hw _ q_1267) (fun _ h9 => h9) n2 dX10_bend_73 ?_
      refine lv_bipush (v := 68) hx hb dX10_bend_76 (by decide) ?_
      refine lv_iload_n hx hb dX10_bend_78 rfl (lv_at hl 1 rfl) ?_
      refine lv_iadd hx hb dX10_bend_79 ?_
      refine lv_topi (fun v27 ev27 => ?_)
      have bv27 : v27.toInt = 68 + p0.toInt := by rw [ev27]; exact add_k rfl rfl ⟨Int.le_refl _, Int.le_refl _⟩ k13 (by decide)
      have k28 : 68 ≤ v27.toInt ∧ v27.toInt ≤ 79 := add_r bv27 ⟨Int.le_refl _, Int.le_refl _⟩ k13 (by decide)
      refine va_iald hx hb hK hP 1 0 rfl rfl (ix_k k28 (by decide) (by decide)) dX10_bend_80 ?_
      refine lv_topi (fun v29 ev29 => ?_)
      exact ret_i (v := v29) hx hb hr hlocks hS hP hD dX10_bend_81 rfl (Nat.le_of_ble_eq_true rfl) (Nat.le_of_ble_eq_true rfl) ⟨F1, (SAME.up eF1 SAME.rf (by decide)), (get_eq eF1), rfl⟩
    by_cases k30 : p1 = 3
    · have dk30 : p1.toInt = 3 := eq_i rfl rfl k30
      have k31 : 3 ≤ p1.toInt ∧ p1.toInt ≤ 3 := ⟨Int.le_trans (Int.le_refl _) (Int.le_of_eq dk30.symm), Int.le_trans (Int.le_of_eq dk30) (Int.le_refl _)⟩
      refine lv_ci (y := 3) k30 ?_
      refine lv_tableIn (tgt := 82) (off := 66) hx hb dX10_bend_16 (by decide) (by decide) (by decide) (by decide) ?_
      refine lv_aload_n hx hb dX10_bend_82 rfl (lv_at hl 0 rfl) ?_
      refine get_f (D := D) (ci := 10) (v := .ref h_s) (C := RX10) (T := TX10) (N := 67) hx hb hw inAX10 hown hK hP 0 rfl rfl 6 (by decide) (hw _ q_1267) (fun _ h9 => h9) n2 dX10_bend_83 ?_
      refine lv_bipush (v := 80) hx hb dX10_bend_86 (by decide) ?_
      refine lv_iload_n hx hb dX10_bend_88 rfl (lv_at hl 1 rfl) ?_
      refine lv_iadd hx hb dX10_bend_89 ?_
      refine lv_topi (fun v32 ev32 => ?_)
      have bv32 : v32.toInt = 80 + p0.toInt := by rw [ev32]; exact add_k rfl rfl ⟨Int.le_refl _, Int.le_refl _⟩ k13 (by decide)
      have k33 : 80 ≤ v32.toInt ∧ v32.toInt ≤ 91 := add_r bv32 ⟨Int.le_refl _, Int.le_refl _⟩ k13 (by decide)
      refine va_iald hx hb hK hP 1 0 rfl rfl (ix_k k33 (by decide) (by decide)) dX10_bend_90 ?_
      refine lv_topi (fun v34 ev34 => ?_)
      exact ret_i (v := v34) hx hb hr hlocks hS hP hD dX10_bend_91 rfl (Nat.le_of_ble_eq_true rfl) (Nat.le_of_ble_eq_true rfl) ⟨F1, (SAME.up eF1 SAME.rf (by decide)), (get_eq eF1), rfl⟩
    by_cases k35 : p1 = 4
    · have dk35 : p1.toInt = 4 := eq_i rfl rfl k35
      have k36 : 4 ≤ p1.toInt ∧ p1.toInt ≤ 4 := ⟨Int.le_trans (Int.le_refl _) (Int.le_of_eq dk35.symm), Int.le_trans (Int.le_of_eq dk35) (Int.le_refl _)⟩
      refine lv_ci (y := 4) k35 ?_
      refine lv_tableIn (tgt := 92) (off := 76) hx hb dX10_bend_16 (by decide) (by decide) (by decide) (by decide) ?_
      refine lv_aload_n hx hb dX10_bend_92 rfl (lv_at hl 0 rfl) ?_
      refine get_f (D := D) (ci := 10) (v := .ref h_s) (C := RX10) (T := TX10) (N := 67) hx hb hw inAX10 hown hK hP 0 rfl rfl 6 (by decide) (hw _ q_1267) (fun _ h9 => h9) n2 dX10_bend_93 ?_
      refine lv_bipush (v := 116) hx hb dX10_bend_96 (by decide) ?_
      refine lv_iload_n hx hb dX10_bend_98 rfl (lv_at hl 1 rfl) ?_
      refine lv_iadd hx hb dX10_bend_99 ?_
      refine lv_topi (fun v37 ev37 => ?_)
      have bv37 : v37.toInt = 116 + p0.toInt := by rw [ev37]; exact add_k rfl rfl ⟨Int.le_refl _, Int.le_refl _⟩ k13 (by decide)
      have k38 : 116 ≤ v37.toInt ∧ v37.toInt ≤ 127 := add_r bv37 ⟨Int.le_refl _, Int.le_refl _⟩ k13 (by decide)
      refine va_iald hx hb hK hP 1 0 rfl rfl (ix_k k38 (by decide) (by decide)) dX10_bend_100 ?_
      refine lv_topi (fun v39 ev39 => ?_)
      exact ret_i (v := v39) hx hb hr hlocks hS hP hD dX10_bend_101 rfl (Nat.le_of_ble_eq_true rfl) (Nat.le_of_ble_eq_true rfl) ⟨F1, (SAME.up eF1 SAME.rf (by decide)), (get_eq eF1), rfl⟩
    have dk14 : p1.toInt ≠ 0 := ne_i rfl rfl k14
    have dk20 : p1.toInt ≠ 1 := ne_i rfl rfl k20
    have dk25 : p1.toInt ≠ 2 := ne_i rfl rfl k25
    have dk30 : p1.toInt ≠ 3 := ne_i rfl rfl k30
    have dk35 : p1.toInt ≠ 4 := ne_i rfl rfl k35
    refine lv_tableOut (tgt := 102) hx hb dX10_bend_16 (by omega) (by decide) ?_
    refine lv_iconst (v := (-1)) hx hb dX10_bend_102 (by decide) ?_
    exact ret_i (v := (-1)) hx hb hr hlocks hS hP hD dX10_bend_103 rfl (Nat.le_of_ble_eq_true rfl) (Nat.le_of_ble_eq_true rfl) ⟨F1, (SAME.up eF1 SAME.rf (by decide)), (get_eq eF1), rfl⟩
set_option maxHeartbeats 4000000 in
set_option maxRecDepth 100000 in
theorem m_X10_isRunner (l : Launch) (D : va_G) (cI cJ cB cP cM cZ : ClassId) (h0 : Nat) (h_s : Nat) (Fh : Nat → Value) (f_s : Nat → Int32) (p0 : Int32) (sz : Nat) (e_s : Fh 6 = .ref h_s) (s_s_K0 : KW 0 f_s) (s_s_0 : SG 0 0 0 40 f_s) (s_s_105 : SG 105 108 0 11 f_s) (s_s_114 : SG 114 114 0 5 f_s) (s_s_130 : SG 130 133 0 11 f_s) (s_s_139 : SG 139 139 0 5 f_s) (s_s_153 : SG 153 153 0 44 f_s) (s_s_44 : SG 44 55 0 9 f_s) (s_s_5 : SG 5 5 0 12 f_s) (s_s_6 : SG 6 6 0 12 f_s) (s_s_7 : SG 7 7 0 6 f_s) : CI l yX10_isRunner cX10_isRunner 2 (some .boolean) { frames := 1, cells := 0, slots := 0, locals := 22 } (GG D cI cJ cB cP cM cZ) D [(h0, .inr (10, vL 67 Fh)), (h_s, .inl (cI, 335, .inl f_s))] sz [.ref h0, .int p0] (fun (r : Int32) (u : va_W) => (p0.toInt < 0 ∧ r = 0 ∧ u = [(h0, .inr (10, vL 67 Fh)), (h_s, .inl (cI, 335, .inl f_s))]) ∨ (0 ≤ p0.toInt ∧ (-1) < p0.toInt ∧ r = 0 ∧ u = [(h0, .inr (10, vL 67 Fh)), (h_s, .inl (cI, 335, .inl f_s))]) ∨ (0 ≤ p0.toInt ∧ p0.toInt ≤ 5 ∧ r = 1 ∧ u = [(h0, .inr (10, vL 67 Fh)), (h_s, .inl (cI, 335, .inl f_s))])) := by
  refine CI_mk (by decide) (Nat.le_of_ble_eq_true rfl) ?_
  intro p e s m below meth c A ls E hAe hG hsz hP hD hA hS hl
  obtain ⟨hx, hb, hr, hw, hown, hlocks, hml, hnm⟩ := E
  have hK := hG.1
  have hl : lv_has ls 2 [(0, .ref h0), (1, .int p0)] := hl
  refine lv_iload_n hx hb dX10_isRunner_0 rfl (lv_at hl 1 rfl) ?_
  refine lv_iconst (v := 0) hx hb dX10_isRunner_1 (by decide) ?_
  refine lv_aload_n hx hb dX10_isRunner_2 rfl (lv_at hl 0 rfl) ?_
  refine get_f (D := D) (ci := 10) (v := .ref h_s) (C := RX10) (T := TX10) (N := 67) hx hb hw inAX10 hown hK hP 0 rfl rfl 6 (by decide) (hw _ q_1267) (fun _ h9 => h9) e_s dX10_isRunner_3 ?_
  refine lv_bipush (v := 7) hx hb dX10_isRunner_6 (by decide) ?_
  refine iald_n hx hb hK hP 1 0 rfl rfl 7 rfl (Nat.le_of_ble_eq_true rfl) (Nat.le_of_ble_eq_true rfl) rfl dX10_isRunner_8 ?_
  refine lv_topi (fun v1 ev1 => ?_)
  have k2 : 0 ≤ v1.toInt ∧ v1.toInt ≤ 6 := by rw [ev1]; exact s_s_7.atN 7 (by decide) (by decide)
  refine lv_iconst (v := 1) hx hb dX10_isRunner_9 (by decide) ?_
  refine lv_isub hx hb dX10_isRunner_10 ?_
  refine lv_topi (fun v3 ev3 => ?_)
  have bv3 : v3.toInt = v1.toInt - 1 := by rw [ev3]; exact sub_k rfl rfl k2 ⟨Int.le_refl _, Int.le_refl _⟩ (by decide)
  have k4 : (-1) ≤ v3.toInt ∧ v3.toInt ≤ 5 := sub_r bv3 k2 ⟨Int.le_refl _, Int.le_refl _⟩ (by decide)
  refine call_Si (wr := [(h0, .inr (10, vL 67 Fh)), (h_s, .inl (cI, 335, .inl f_s))]) (As := [.int p0, .int 0, .int v3]) (rest := []) hx hb hml hown hw (m_X10_isIn l D cI cJ cB cP cM cZ p0 0 v3 _ ) wS_X10_211_X10_isIn dX10_isRunner_11 hP hD hS hA [] [0, 1] rfl rfl (by decide) (by decide) (by decide) GG.fb hG.at hl.1 rfl (Nat.le_of_ble_eq_true rfl) ⟨(Nat.le_of_ble_eq_true rfl), (Nat.le_of_ble_eq_true rfl)⟩ ⟨(Nat.le_of_ble_eq_true rfl), (Nat.le_of_ble_eq_true rfl)⟩ (fun r5 u H locs hp hP hD hS => ?_)
  have zl0 : (0 : Int32).toInt = 0 := by decide
  rcases hp with ⟨t6, rfl, rfl⟩ | ⟨t7, t8, rfl, rfl⟩ | ⟨t9, t10, rfl, rfl⟩
  · have hP : va_P D vwCl [(h0, .inr (10, vL 67 Fh)), (h_s, .inl (cI, 335, .inl f_s))] H := hP
    have hD : va_D A [(h0, .inr (10, vL 67 Fh)), (h_s, .inl (cI, 335, .inl f_s))] := hD
    refine W.widen (k := 0) (n := 0) (Nat.le_of_ble_eq_true rfl) (Nat.le_of_ble_eq_true rfl) ?_
    have k12 : (-2147483648) ≤ p0.toInt ∧ p0.toInt ≤ (-1) := ⟨(ir_any _).1, up_lt t6 (Int.le_refl _) (by decide)⟩
    exact ret_i (v := 0) hx hb hr hlocks hS hP hD dX10_isRunner_14 rfl (Nat.le_of_ble_eq_true rfl) (Nat.le_of_ble_eq_true rfl) (Or.inl ⟨t6, rfl, rfl⟩)
  · have hP : va_P D vwCl [(h0, .inr (10, vL 67 Fh)), (h_s, .inl (cI, 335, .inl f_s))] H := hP
    have hD : va_D A [(h0, .inr (10, vL 67 Fh)), (h_s, .inl (cI, 335, .inl f_s))] := hD
    refine W.widen (k := 0) (n := 0) (Nat.le_of_ble_eq_true rfl) (Nat.le_of_ble_eq_true rfl) ?_
    have k13 : 0 ≤ p0.toInt ∧ p0.toInt ≤ 2147483647 := ⟨Int.le_trans (Int.le_refl _) t7, (ir_any _).2⟩
    exact ret_i (v := 0) hx hb hr hlocks hS hP hD dX10_isRunner_14 rfl (Nat.le_of_ble_eq_true rfl) (Nat.le_of_ble_eq_true rfl) (Or.inr (Or.inl ⟨t7, (by omega), rfl, rfl⟩))
  · have hP : va_P D vwCl [(h0, .inr (10, vL 67 Fh)), (h_s, .inl (cI, 335, .inl f_s))] H := hP
    have hD : va_D A [(h0, .inr (10, vL 67 Fh)), (h_s, .inl (cI, 335, .inl f_s))] := hD
    refine W.widen (k := 0) (n := 0) (Nat.le_of_ble_eq_true rfl) (Nat.le_of_ble_eq_true rfl) ?_
    have k14 : 0 ≤ p0.toInt ∧ p0.toInt ≤ 2147483647 := ⟨Int.le_trans (Int.le_refl _) t9, (ir_any _).2⟩
    have k15 : 0 ≤ p0.toInt ∧ p0.toInt ≤ 5 := ⟨k14.1, Int.le_trans t10 k4.2⟩
    have k16 : 0 ≤ v3.toInt ∧ v3.toInt ≤ 5 := ⟨Int.le_trans k14.1 t10, k4.2⟩
    have k17 : 1 ≤ v1.toInt ∧ v1.toInt ≤ 6 := ⟨lin_lo (lin_m bv3) k16.1 (by decide), k2.2⟩
    exact ret_i (v := 1) hx hb hr hlocks hS hP hD dX10_isRunner_14 rfl (Nat.le_of_ble_eq_true rfl) (Nat.le_of_ble_eq_true rfl) (Or.inr (Or.inr ⟨t9, (by omega), rfl, rfl⟩))
def fn_X10_takenBy (f_s : Nat → Int32) (p0 : Int32) : Int32 := (((f_s ((98 : Int32) + p0).toNatClampNeg) * (fn_X10_off ((f_s 4) + ((f_s 115) / (3 : Int32))) (f_s ((92 : Int32) + p0).toNatClampNeg))) / (4 : Int32))
set_option maxHeartbeats 4000000 in
set_option maxRecDepth 100000 in
theorem m_X10_takenBy (l : Launch) (D : va_G) (cI cJ cB cP cM cZ : ClassId) (h0 : Nat) (h_s : Nat) (Fh : Nat → Value) (f_s : Nat → Int32) (p0 : Int32) (sz : Nat) (e_s : Fh 6 = .ref h_s) (s_s_K0 : KW 0 f_s) (s_s_0 : SG 0 0 0 40 f_s) (s_s_105 : SG 105 108 0 11 f_s) (s_s_114 : SG 114 114 0 5 f_s) (s_s_130 : SG 130 133 0 11 f_s) (s_s_139 : SG 139 139 0 5 f_s) (s_s_153 : SG 153 153 0 44 f_s) (s_s_44 : SG 44 55 0 9 f_s) (s_s_5 : SG 5 5 0 12 f_s) (s_s_6 : SG 6 6 0 12 f_s) (s_s_7 : SG 7 7 0 6 f_s) (i_p0 : IR 0 5 p0) : CI l yX10_takenBy cX10_takenBy 2 (some .int) { frames := 1, cells := 0, slots := 0, locals := 21 } (GG D cI cJ cB cP cM cZ) D [(h0, .inr (10, vL 67 Fh)), (h_s, .inl (cI, 335, .inl f_s))] sz [.ref h0, .int p0] (fun (r : Int32) (u : va_W) => r = fn_X10_takenBy f_s p0 ∧ u = [(h0, .inr (10, vL 67 Fh)), (h_s, .inl (cI, 335, .inl f_s))]) := by
  refine CI_mk (by decide) (Nat.le_of_ble_eq_true rfl) ?_
  intro p e s m below meth c A ls E hAe hG hsz hP hD hA hS hl
  obtain ⟨hx, hb, hr, hw, hown, hlocks, hml, hnm⟩ := E
  have hK := hG.1
  have i_p0 : 0 ≤ p0.toInt ∧ p0.toInt ≤ 5 := i_p0
  have hl : lv_has ls 2 [(0, .ref h0), (1, .int p0)] := hl
  refine lv_aload_n hx hb dX10_takenBy_0 rfl (lv_at hl 0 rfl) ?_
  refine get_f (D := D) (ci := 10) (v := .ref h_s) (C := RX10) (T := TX10) (N := 67) hx hb hw inAX10 hown hK hP 0 rfl rfl 6 (by decide) (hw _ q_1267) (fun _ h9 => h9) e_s dX10_takenBy_1 ?_
  refine lv_bipush (v := 98) hx hb dX10_takenBy_4 (by decide) ?_
  refine lv_iload_n hx hb dX10_takenBy_6 rfl (lv_at hl 1 rfl) ?_
  refine lv_iadd hx hb dX10_takenBy_7 ?_
  refine lv_topi (fun v1 ev1 => ?_)
  have bv1 : v1.toInt = 98 + p0.toInt := by rw [ev1]; exact add_k rfl rfl ⟨Int.le_refl _, Int.le_refl _⟩ i_p0 (by decide)
  have k2 : 98 ≤ v1.toInt ∧ v1.toInt ≤ 103 := add_r bv1 ⟨Int.le_refl _, Int.le_refl _⟩ i_p0 (by decide)
  refine va_iald hx hb hK hP 1 0 rfl rfl (ix_k k2 (by decide) (by decide)) dX10_takenBy_8 ?_
  refine lv_topi (fun v3 ev3 => ?_)
  refine lv_aload_n hx hb dX10_takenBy_9 rfl (lv_at hl 0 rfl) ?_
  refine get_f (D := D) (ci := 10) (v := .ref h_s) (C := RX10) (T := TX10) (N := 67) hx hb hw inAX10 hown hK hP 0 rfl rfl 6 (by decide) (hw _ q_1267) (fun _ h9 => h9) e_s dX10_takenBy_10 ?_
  refine lv_iconst (v := 4) hx hb dX10_takenBy_13 (by decide) ?_
  refine iald_n hx hb hK hP 1 0 rfl rfl 4 rfl (Nat.le_of_ble_eq_true rfl) (Nat.le_of_ble_eq_true rfl) rfl dX10_takenBy_14 ?_
  refine lv_topi (fun v4 ev4 => ?_)
  refine lv_aload_n hx hb dX10_takenBy_15 rfl (lv_at hl 0 rfl) ?_
  refine get_f (D := D) (ci := 10) (v := .ref h_s) (C := RX10) (T := TX10) (N := 67) hx hb hw inAX10 hown hK hP 0 rfl rfl 6 (by decide) (hw _ q_1267) (fun _ h9 => h9) e_s dX10_takenBy_16 ?_
  refine lv_bipush (v := 115) hx hb dX10_takenBy_19 (by decide) ?_
  refine iald_n hx hb hK hP 1 0 rfl rfl 115 rfl (Nat.le_of_ble_eq_true rfl) (Nat.le_of_ble_eq_true rfl) rfl dX10_takenBy_21 ?_
  refine lv_topi (fun v5 ev5 => ?_)
  refine lv_iconst (v := 3) hx hb dX10_takenBy_22 (by decide) ?_
  refine lv_idiv hx hb dX10_takenBy_23 (by decide) ?_
  refine lv_topi (fun v6 ev6 => ?_)
  refine lv_iadd hx hb dX10_takenBy_24 ?_
  refine lv_topi (fun v7 ev7 => ?_)
  refine lv_aload_n hx hb dX10_takenBy_25 rfl (lv_at hl 0 rfl) ?_
  refine get_f (D := D) (ci := 10) (v := .ref h_s) (C := RX10) (T := TX10) (N := 67) hx hb hw inAX10 hown hK hP 0 rfl rfl 6 (by decide) (hw _ q_1267) (fun _ h9 => h9) e_s dX10_takenBy_26 ?_
  refine lv_bipush (v := 92) hx hb dX10_takenBy_29 (by decide) ?_
  refine lv_iload_n hx hb dX10_takenBy_31 rfl (lv_at hl 1 rfl) ?_
  refine lv_iadd hx hb dX10_takenBy_32 ?_
  refine lv_topi (fun v8 ev8 => ?_)
  have bv8 : v8.toInt = 92 + p0.toInt := by rw [ev8]; exact add_k rfl rfl ⟨Int.le_refl _, Int.le_refl _⟩ i_p0 (by decide)
  have k9 : 92 ≤ v8.toInt ∧ v8.toInt ≤ 97 := add_r bv8 ⟨Int.le_refl _, Int.le_refl _⟩ i_p0 (by decide)
  refine va_iald hx hb hK hP 1 0 rfl rfl (ix_k k9 (by decide) (by decide)) dX10_takenBy_33 ?_
  refine lv_topi (fun v10 ev10 => ?_)
  refine call_Si (wr := [(h0, .inr (10, vL 67 Fh)), (h_s, .inl (cI, 335, .inl f_s))]) (As := [.int v7, .int v10]) (rest := [.int v3]) hx hb hml hown hw (m_X10_off l D cI cJ cB cP cM cZ v7 v10 _ ) wS_X10_295_X10_off dX10_takenBy_34 hP hD hS hA [] [0, 1] rfl rfl (by decide) (by decide) (by decide) GG.fb hG.at hl.1 rfl (Nat.le_of_ble_eq_true rfl) ⟨(Nat.le_of_ble_eq_true rfl), (Nat.le_of_ble_eq_true rfl)⟩ ⟨(Nat.le_of_ble_eq_true rfl), (Nat.le_of_ble_eq_true rfl)⟩ (fun r11 u H locs hp hP hD hS => ?_)
  obtain ⟨t12, rfl⟩ := hp
  have hP : va_P D vwCl [(h0, .inr (10, vL 67 Fh)), (h_s, .inl (cI, 335, .inl f_s))] H := hP
  have hD : va_D A [(h0, .inr (10, vL 67 Fh)), (h_s, .inl (cI, 335, .inl f_s))] := hD
  refine W.widen (k := 0) (n := 0) (Nat.le_of_ble_eq_true rfl) (Nat.le_of_ble_eq_true rfl) ?_
  refine lv_imul hx hb dX10_takenBy_37 ?_
  refine lv_topi (fun v14 ev14 => ?_)
  refine lv_iconst (v := 4) hx hb dX10_takenBy_38 (by decide) ?_
  refine lv_idiv hx hb dX10_takenBy_39 (by decide) ?_
  refine lv_topi (fun v15 ev15 => ?_)
  exact ret_i (v := v15) hx hb hr hlocks hS hP hD dX10_takenBy_40 rfl (Nat.le_of_ble_eq_true rfl) (Nat.le_of_ble_eq_true rfl) ⟨(by subst_vars; unfold fn_X10_takenBy; rfl), rfl⟩
set_option maxHeartbeats 4000000 in
set_option maxRecDepth 100000 in
theorem m_X10_runner (l : Launch) (D : va_G) (cI cJ cB cP cM cZ : ClassId) (h0 : Nat) (h_s : Nat) (Fh : Nat → Value) (f_s : Nat → Int32) (p0 : Int32) (p1 : Int32) (sz : Nat) (e_s : Fh 6 = .ref h_s) (s_s_K0 : KW 0 f_s) (s_s_0 : SG 0 0 0 40 f_s) (s_s_105 : SG 105 108 0 11 f_s) (s_s_114 : SG 114 114 0 5 f_s) (s_s_130 : SG 130 133 0 11 f_s) (s_s_139 : SG 139 139 0 5 f_s) (s_s_153 : SG 153 153 0 44 f_s) (s_s_44 : SG 44 55 0 9 f_s) (s_s_5 : SG 5 5 0 12 f_s) (s_s_6 : SG 6 6 0 12 f_s) (s_s_7 : SG 7 7 0 6 f_s) : CI l yX10_runner cX10_runner 3 (some .int) { frames := 2, cells := 0, slots := 0, locals := 43 } (GG D cI cJ cB cP cM cZ) D [(h0, .inr (10, vL 67 Fh)), (h_s, .inl (cI, 335, .inl f_s))] sz [.ref h0, .int p0, .int p1] (fun (r : Int32) (u : va_W) => ∃ (Gh : Nat → Value), SAME [0] Fh Gh ∧ Gh 0 = .int 0 ∧ u = [(h0, .inr (10, vL 67 Gh)), (h_s, .inl (cI, 335, .inl f_s))]) := by
  refine CI_mk (by decide) (Nat.le_of_ble_eq_true rfl) ?_
  intro p e s m below meth c A ls E hAe hG hsz hP hD hA hS hl
  obtain ⟨hx, hb, hr, hw, hown, hlocks, hml, hnm⟩ := E
  have hK := hG.1
  have hl : lv_has ls 3 [(0, .ref h0), (1, .int p0), (2, .int p1)] := hl
  refine lv_aload_n hx hb dX10_runner_0 rfl (lv_at hl 0 rfl) ?_
  refine lv_iconst (v := 0) hx hb dX10_runner_1 (by decide) ?_
  refine put_f (D := D) (ci := 10) (v := .int 0) (ty := .int) (C := RX10) (T := TX10) (N := 67) hx hb hw inAX10 tyX10 tyX10_ok nmX10 hown hK hP hD hS 0 rfl rfl 0 (by decide) (hw _ q_1261) (fun _ h9 => h9) rfl (by decide +kernel) rfl rfl dX10_runner_2 (fun H locs F1 eF1 hP hD hS => ?_)
  have hP : va_P D vwCl [(h0, .inr (10, vL 67 F1)), (h_s, .inl (cI, 335, .inl f_s))] H := hP
  have hD : va_D A [(h0, .inr (10, vL 67 F1)), (h_s, .inl (cI, 335, .inl f_s))] := hD
  refine lv_aload_n hx hb dX10_runner_5 rfl (lv_at hl 0 rfl) ?_
  refine lv_iload_n hx hb dX10_runner_6 rfl (lv_at hl 1 rfl) ?_
  have n2 : F1 6 = .ref h_s := (get_ne eF1 (by decide) e_s)
  refine call_Vi (wr := []) (As := [.int p0]) (rest := []) hx hb hml hown hw (m_X10_isRunner l D cI cJ cB cP cM cZ h0 h_s F1 f_s p0 _ n2 s_s_K0 s_s_0 s_s_105 s_s_114 s_s_130 s_s_139 s_s_153 s_s_44 s_s_5 s_s_6 s_s_7) wV_X10_298_X10_isRunner dX10_runner_7 hK hP hD hS hA [0, 1] [] rfl rfl (by decide) (by decide) (by decide) 0 10 rfl rfl GG.fb hG.at hl.1 rfl (Nat.le_of_ble_eq_true rfl) ⟨(Nat.le_of_ble_eq_true rfl), (Nat.le_of_ble_eq_true rfl)⟩ ⟨(Nat.le_of_ble_eq_true rfl), (Nat.le_of_ble_eq_true rfl)⟩ (fun r3 u H locs hp hP hD hS => ?_)
  rcases hp with ⟨t4, rfl, rfl⟩ | ⟨t5, t6, rfl, rfl⟩ | ⟨t7, t8, rfl, rfl⟩
  · have hP : va_P D vwCl [(h0, .inr (10, vL 67 F1)), (h_s, .inl (cI, 335, .inl f_s))] H := hP
    have hD : va_D A [(h0, .inr (10, vL 67 F1)), (h_s, .inl (cI, 335, .inl f_s))] := hD
    refine W.widen (k := 0) (n := 0) (Nat.le_of_ble_eq_true rfl) (Nat.le_of_ble_eq_true rfl) ?_
    have k10 : (-2147483648) ≤ p0.toInt ∧ p0.toInt ≤ (-1) := ⟨(ir_any _).1, up_lt t4 (Int.le_refl _) (by decide)⟩
    refine lv_if_ne (tgt := 15) hx hb dX10_runner_10 (by decide) (fun g => absurd (by decide) g) (fun _ => ?_)
    refine lv_iconst (v := (-1)) hx hb dX10_runner_13 (by decide) ?_
    exact ret_i (v := (-1)) hx hb hr hlocks hS hP hD dX10_runner_14 rfl (Nat.le_of_ble_eq_true rfl) (Nat.le_of_ble_eq_true rfl) ⟨F1, (SAME.up eF1 SAME.rf (by decide)), (get_eq eF1), rfl⟩
  · have hP : va_P D vwCl [(h0, .inr (10, vL 67 F1)), (h_s, .inl (cI, 335, .inl f_s))] H := hP
    have hD : va_D A [(h0, .inr (10, vL 67 F1)), (h_s, .inl (cI, 335, .inl f_s))] := hD
    refine W.widen (k := 0) (n := 0) (Nat.le_of_ble_eq_true rfl) (Nat.le_of_ble_eq_true rfl) ?_
    have k11 : 0 ≤ p0.toInt ∧ p0.toInt ≤ 2147483647 := ⟨Int.le_trans (Int.le_refl _) t5, (ir_any _).2⟩
    refine lv_if_ne (tgt := 15) hx hb dX10_runner_10 (by decide) (fun g => absurd (by decide) g) (fun _ => ?_)
    refine lv_iconst (v := (-1)) hx hb dX10_runner_13 (by decide) ?_
    exact ret_i (v := (-1)) hx hb hr hlocks hS hP hD dX10_runner_14 rfl (Nat.le_of_ble_eq_true rfl) (Nat.le_of_ble_eq_true rfl) ⟨F1, (SAME.up eF1 SAME.rf (by decide)), (get_eq eF1), rfl⟩
  · have hP : va_P D vwCl [(h0, .inr (10, vL 67 F1)), (h_s, .inl (cI, 335, .inl f_s))] H := hP
    have hD : va_D A [(h0, .inr (10, vL 67 F1)), (h_s, .inl (cI, 335, .inl f_s))] := hD
    refine W.widen (k := 0) (n := 0) (Nat.le_of_ble_eq_true rfl) (Nat.le_of_ble_eq_true rfl) ?_
    have k12 : 0 ≤ p0.toInt ∧ p0.toInt ≤ 2147483647 := ⟨Int.le_trans (Int.le_refl _) t7, (ir_any _).2⟩
    have k13 : 0 ≤ p0.toInt ∧ p0.toInt ≤ 5 := ⟨k12.1, Int.le_trans t8 (Int.le_refl _)⟩
    refine lv_if_ne (tgt := 15) hx hb dX10_runner_10 (by decide) (fun _ => ?_) (fun g => absurd g (by decide))
    refine lv_iload_n hx hb dX10_runner_15 rfl (lv_at hl 2 rfl) ?_
    refine lv_if_ne (tgt := 31) hx hb dX10_runner_16 (by decide) (fun c14 => ?_) (fun c14 => ?_)
    · have dc14 : p1.toInt ≠ 0 := ne_i (a := p1.toInt) (b := 0) rfl rfl c14
      refine lv_iload_n hx hb dX10_runner_31 rfl (lv_at hl 2 rfl) ?_
      refine lv_iconst (v := 1) hx hb dX10_runner_32 (by decide) ?_
      refine lv_icmp_ne (tgt := 48) hx hb dX10_runner_33 (by decide) (fun c15 => ?_) (fun c15 => ?_)
      · have dc15 : p1.toInt ≠ 1 := ne_i (a := p1.toInt) (b := 1) rfl rfl c15
        refine lv_iload_n hx hb dX10_runner_48 rfl (lv_at hl 2 rfl) ?_
        refine lv_iconst (v := 2) hx hb dX10_runner_49 (by decide) ?_
        refine lv_icmp_ne (tgt := 61) hx hb dX10_runner_50 (by decide) (fun c16 => ?_) (fun c16 => ?_)
        · have dc16 : p1.toInt ≠ 2 := ne_i (a := p1.toInt) (b := 2) rfl rfl c16
          refine lv_iconst (v := (-1)) hx hb dX10_runner_61 (by decide) ?_
          exact ret_i (v := (-1)) hx hb hr hlocks hS hP hD dX10_runner_62 rfl (Nat.le_of_ble_eq_true rfl) (Nat.le_of_ble_eq_true rfl) ⟨F1, (SAME.up eF1 SAME.rf (by decide)), (get_eq eF1), rfl⟩
        · have dc16 : p1.toInt = 2 := eq_i (a := p1.toInt) (b := 2) rfl rfl c16
          have k17 : 2 ≤ p1.toInt ∧ p1.toInt ≤ 2 := ⟨Int.le_trans (Int.le_refl _) (Int.le_of_eq dc16.symm), Int.le_trans (Int.le_of_eq dc16) (Int.le_refl _)⟩
          refine lv_aload_n hx hb dX10_runner_53 rfl (lv_at hl 0 rfl) ?_
          refine lv_iload_n hx hb dX10_runner_54 rfl (lv_at hl 1 rfl) ?_
          refine call_Vi (wr := []) (As := [.int p0]) (rest := []) hx hb hml hown hw (m_X10_takenBy l D cI cJ cB cP cM cZ h0 h_s F1 f_s p0 _ n2 s_s_K0 s_s_0 s_s_105 s_s_114 s_s_130 s_s_139 s_s_153 s_s_44 s_s_5 s_s_6 s_s_7 k13) wV_X10_301_X10_takenBy dX10_runner_55 hK hP hD hS hA [0, 1] [] rfl rfl (by decide) (by decide) (by decide) 0 10 rfl rfl GG.fb hG.at hl.1 rfl (Nat.le_of_ble_eq_true rfl) ⟨(Nat.le_of_ble_eq_true rfl), (Nat.le_of_ble_eq_true rfl)⟩ ⟨(Nat.le_of_ble_eq_true rfl), (Nat.le_of_ble_eq_true rfl)⟩ (fun r18 u H locs hp hP hD hS => ?_)
          obtain ⟨t19, rfl⟩ := hp
          have hP : va_P D vwCl [(h0, .inr (10, vL 67 F1)), (h_s, .inl (cI, 335, .inl f_s))] H := hP
          have hD : va_D A [(h0, .inr (10, vL 67 F1)), (h_s, .inl (cI, 335, .inl f_s))] := hD
          refine W.widen (k := 0) (n := 0) (Nat.le_of_ble_eq_true rfl) (Nat.le_of_ble_eq_true rfl) ?_
          refine lv_goto (tgt := 62) hx hb dX10_runner_58 (by decide) ?_
          exact ret_i (v := r18) hx hb hr hlocks hS hP hD dX10_runner_62 rfl (Nat.le_of_ble_eq_true rfl) (Nat.le_of_ble_eq_true rfl) ⟨F1, (SAME.up eF1 SAME.rf (by decide)), (get_eq eF1), rfl⟩
      · have dc15 : p1.toInt = 1 := eq_i (a := p1.toInt) (b := 1) rfl rfl c15
        have k21 : 1 ≤ p1.toInt ∧ p1.toInt ≤ 1 := ⟨Int.le_trans (Int.le_refl _) (Int.le_of_eq dc15.symm), Int.le_trans (Int.le_of_eq dc15) (Int.le_refl _)⟩
        refine lv_aload_n hx hb dX10_runner_36 rfl (lv_at hl 0 rfl) ?_
        refine get_f (D := D) (ci := 10) (v := .ref h_s) (C := RX10) (T := TX10) (N := 67) hx hb hw inAX10 hown hK hP 0 rfl rfl 6 (by decide) (hw _ q_1267) (fun _ h9 => h9) n2 dX10_runner_37 ?_
        refine lv_bipush (v := 98) hx hb dX10_runner_40 (by decide) ?_
        refine lv_iload_n hx hb dX10_runner_42 rfl (lv_at hl 1 rfl) ?_
        refine lv_iadd hx hb dX10_runner_43 ?_
        refine lv_topi (fun v22 ev22 => ?_)
        have bv22 : v22.toInt = 98 + p0.toInt := by rw [ev22]; exact add_k rfl rfl ⟨Int.le_refl _, Int.le_refl _⟩ k13 (by decide)
        have k23 : 98 ≤ v22.toInt ∧ v22.toInt ≤ 103 := add_r bv22 ⟨Int.le_refl _, Int.le_refl _⟩ k13 (by decide)
        refine va_iald hx hb hK hP 1 0 rfl rfl (ix_k k23 (by decide) (by decide)) dX10_runner_44 ?_
        refine lv_topi (fun v24 ev24 => ?_)
        refine lv_goto (tgt := 62) hx hb dX10_runner_45 (by decide) ?_
        exact ret_i (v := v24) hx hb hr hlocks hS hP hD dX10_runner_62 rfl (Nat.le_of_ble_eq_true rfl) (Nat.le_of_ble_eq_true rfl) ⟨F1, (SAME.up eF1 SAME.rf (by decide)), (get_eq eF1), rfl⟩
    · have dc14 : p1.toInt = 0 := eq_i (a := p1.toInt) (b := 0) rfl rfl c14
      have k25 : 0 ≤ p1.toInt ∧ p1.toInt ≤ 0 := ⟨Int.le_trans (Int.le_refl _) (Int.le_of_eq dc14.symm), Int.le_trans (Int.le_of_eq dc14) (Int.le_refl _)⟩
      refine lv_aload_n hx hb dX10_runner_19 rfl (lv_at hl 0 rfl) ?_
      refine get_f (D := D) (ci := 10) (v := .ref h_s) (C := RX10) (T := TX10) (N := 67) hx hb hw inAX10 hown hK hP 0 rfl rfl 6 (by decide) (hw _ q_1267) (fun _ h9 => h9) n2 dX10_runner_20 ?_
      refine lv_bipush (v := 92) hx hb dX10_runner_23 (by decide) ?_
      refine lv_iload_n hx hb dX10_runner_25 rfl (lv_at hl 1 rfl) ?_
      refine lv_iadd hx hb dX10_runner_26 ?_
      refine lv_topi (fun v26 ev26 => ?_)
      have bv26 : v26.toInt = 92 + p0.toInt := by rw [ev26]; exact add_k rfl rfl ⟨Int.le_refl _, Int.le_refl _⟩ k13 (by decide)
      have k27 : 92 ≤ v26.toInt ∧ v26.toInt ≤ 97 := add_r bv26 ⟨Int.le_refl _, Int.le_refl _⟩ k13 (by decide)
      refine va_iald hx hb hK hP 1 0 rfl rfl (ix_k k27 (by decide) (by decide)) dX10_runner_27 ?_
      refine lv_topi (fun v28 ev28 => ?_)
      refine lv_goto (tgt := 62) hx hb dX10_runner_28 (by decide) ?_
      exact ret_i (v := v28) hx hb hr hlocks hS hP hD dX10_runner_62 rfl (Nat.le_of_ble_eq_true rfl) (Nat.le_of_ble_eq_true rfl) ⟨F1, (SAME.up eF1 SAME.rf (by decide)), (get_eq eF1), rfl⟩
set_option maxHeartbeats 4000000 in
set_option maxRecDepth 100000 in
theorem m_X10_draw (l : Launch) (D : va_G) (cI cJ cB cP cM cZ : ClassId) (h0 : Nat) (Fh : Nat → Value) (x_seed : Int32) (p0 : Int32) (sz : Nat) (e_seed : Fh 31 = .int x_seed) (i_p0 : IR 8 8 p0) : CI l yX10_draw cX10_draw 2 (some .int) { frames := 0, cells := 0, slots := 0, locals := 0 } (GG D cI cJ cB cP cM cZ) D [(h0, .inr (10, vL 67 Fh))] sz [.ref h0, .int p0] (fun (r : Int32) (u : va_W) => ∃ (Gh : Nat → Value) (y_seed : Int32), SAME [31] Fh Gh ∧ Gh 31 = .int y_seed ∧ u = [(h0, .inr (10, vL 67 Gh))]) := by
  refine CI_mk (by decide) (Nat.le_of_ble_eq_true rfl) ?_
  intro p e s m below meth c A ls E hAe hG hsz hP hD hA hS hl
  obtain ⟨hx, hb, hr, hw, hown, hlocks, hml, hnm⟩ := E
  have hK := hG.1
  have i_p0 : 8 ≤ p0.toInt ∧ p0.toInt ≤ 8 := i_p0
  have hl : lv_has ls 2 [(0, .ref h0), (1, .int p0)] := hl
  refine lv_aload_n hx hb dX10_draw_0 rfl (lv_at hl 0 rfl) ?_
  refine lv_aload_n hx hb dX10_draw_1 rfl (lv_at hl 0 rfl) ?_
  refine get_f (D := D) (ci := 10) (v := .int x_seed) (C := RX10) (T := TX10) (N := 67) hx hb hw inAX10 hown hK hP 0 rfl rfl 31 (by decide) (hw _ q_1292) (fun _ h9 => h9) e_seed dX10_draw_2 ?_
  refine lv_ldcw hx hb hown (hw _ q_1625) dX10_draw_5 ?_
  refine lv_imul hx hb dX10_draw_8 ?_
  refine lv_topi (fun v1 ev1 => ?_)
  refine lv_sipush (v := 12345) hx hb dX10_draw_9 (by decide) ?_
  refine lv_iadd hx hb dX10_draw_12 ?_
  refine lv_topi (fun v2 ev2 => ?_)
  refine put_f (D := D) (ci := 10) (v := .int v2) (ty := .int) (C := RX10) (T := TX10) (N := 67) hx hb hw inAX10 tyX10 tyX10_ok nmX10 hown hK hP hD hS 0 rfl rfl 31 (by decide) (hw _ q_1292) (fun _ h9 => h9) rfl (by decide +kernel) rfl rfl dX10_draw_13 (fun H locs F3 eF3 hP hD hS => ?_)
  have hP : va_P D vwCl [(h0, .inr (10, vL 67 F3))] H := hP
  have hD : va_D A [(h0, .inr (10, vL 67 F3))] := hD
  refine lv_aload_n hx hb dX10_draw_16 rfl (lv_at hl 0 rfl) ?_
  refine get_f (D := D) (ci := 10) (v := .int v2) (C := RX10) (T := TX10) (N := 67) hx hb hw inAX10 hown hK hP 0 rfl rfl 31 (by decide) (hw _ q_1292) (fun _ h9 => h9) (get_eq eF3) dX10_draw_17 ?_
  refine lv_bipush (v := 8) hx hb dX10_draw_20 (by decide) ?_
  obtain ⟨v4, ev4⟩ : ∃ z : Int32, ((v2 : Int32).toUInt32 >>> ((8 : Int32).toUInt32 &&& Int32.toUInt32 31)).toInt32 = z := ⟨_, rfl⟩
  refine lv_iushr (v := v4) hx hb dX10_draw_22 ev4 ?_
  have k5 : 0 ≤ v4.toInt ∧ v4.toInt ≤ 16777215 := by rw [← ev4]; exact ushr8_i _
  refine lv_iload_n hx hb dX10_draw_23 rfl (lv_at hl 1 rfl) ?_
  refine lv_irem hx hb dX10_draw_24 (nz_k i_p0 (by decide)) ?_
  refine lv_topi (fun v6 ev6 => ?_)
  exact ret_i (v := v6) hx hb hr hlocks hS hP hD dX10_draw_25 rfl (Nat.le_of_ble_eq_true rfl) (Nat.le_of_ble_eq_true rfl) ⟨F3, v2, (SAME.up eF3 SAME.rf (by decide)), (get_eq eF3), rfl⟩
set_option maxHeartbeats 4000000 in
set_option maxRecDepth 100000 in
theorem m_X10_weightOf (l : Launch) (D : va_G) (cI cJ cB cP cM cZ : ClassId) (h0 : Nat) (h_s : Nat) (Fh : Nat → Value) (f_s : Nat → Int32) (p0 : Int32) (sz : Nat) (e_s : Fh 6 = .ref h_s) (s_s_K0 : KW 0 f_s) (s_s_0 : SG 0 0 0 40 f_s) (s_s_105 : SG 105 108 0 11 f_s) (s_s_114 : SG 114 114 0 5 f_s) (s_s_130 : SG 130 133 0 11 f_s) (s_s_139 : SG 139 139 0 5 f_s) (s_s_153 : SG 153 153 0 44 f_s) (s_s_44 : SG 44 55 0 9 f_s) (s_s_5 : SG 5 5 0 12 f_s) (s_s_6 : SG 6 6 0 12 f_s) (s_s_7 : SG 7 7 0 6 f_s) : CI l yX10_weightOf cX10_weightOf 4 (some .int) { frames := 1, cells := 0, slots := 0, locals := 21 } (GG D cI cJ cB cP cM cZ) D [(h0, .inr (10, vL 67 Fh)), (h_s, .inl (cI, 335, .inl f_s))] sz [.ref h0, .int p0] (fun (r : Int32) (u : va_W) => u = [(h0, .inr (10, vL 67 Fh)), (h_s, .inl (cI, 335, .inl f_s))]) := by
  refine CI_mk (by decide) (Nat.le_of_ble_eq_true rfl) ?_
  intro p e s m below meth c A ls E hAe hG hsz hP hD hA hS hl
  obtain ⟨hx, hb, hr, hw, hown, hlocks, hml, hnm⟩ := E
  have hK := hG.1
  have hl : lv_has ls 4 [(0, .ref h0), (1, .int p0)] := hl
  refine lv_iconst (v := 0) hx hb dX10_weightOf_0 (by decide) ?_
  refine lv_istore_n (lv' := [(2, .int 0), (0, .ref h0), (1, .int p0)]) hx hb dX10_weightOf_1 rfl hl (by decide) rfl (fun ls hl => ?_)
  refine lv_iconst (v := 0) hx hb dX10_weightOf_2 (by decide) ?_
  refine lv_istore_n (lv' := [(3, .int 0), (2, .int 0), (0, .ref h0), (1, .int p0)]) hx hb dX10_weightOf_3 rfl hl (by decide) rfl (fun ls hl => ?_)
  refine mloop (α := (Int32) × (Int32)) (nL := 4) (D := D) (A := A) (H0 := s.heap) (fun a => (4 - a.1.toInt).toNat) (fun a => IR 0 4 a.1) (fun a => [(h0, .inr (10, vL 67 Fh)), (h_s, .inl (cI, 335, .inl f_s))]) (fun a => [(3, .int a.1), (2, .int a.2), (0, .ref h0), (1, .int p0)]) (fun H locs ls => W p l e ({ frames := 1, cells := 0, slots := 0, locals := 21 } : Room) s m [.ref h0, .int p0].toArray below meth c H locs 0 0 (MQ below (va_Qi (fun (r : Int32) (u : va_W) => u = [(h0, .inr (10, vL 67 Fh)), (h_s, .inl (cI, 335, .inl f_s))]) (PO D A) A) [.ref h0, .int p0].toArray s 0 0 A) (F0 m 4 ls [])) ?_ (0, 0) (show 0 ≤ (0 : Int32).toInt ∧ (0 : Int32).toInt ≤ 4 by decide) _ _ _ hP hD hS hl
  rintro ⟨u1, u2⟩ i3 ih H locs ls hP hD hS hl
  have i3 : 0 ≤ u1.toInt ∧ u1.toInt ≤ 4 := i3
  have hP : va_P D vwCl [(h0, .inr (10, vL 67 Fh)), (h_s, .inl (cI, 335, .inl f_s))] H := hP
  have hD : va_D A [(h0, .inr (10, vL 67 Fh)), (h_s, .inl (cI, 335, .inl f_s))] := hD
  have hl : lv_has ls 4 [(3, .int u1), (2, .int u2), (0, .ref h0), (1, .int p0)] := hl
  refine lv_iload_n hx hb dX10_weightOf_4 rfl (lv_at hl 0 rfl) ?_
  refine lv_iconst (v := 4) hx hb dX10_weightOf_5 (by decide) ?_
  refine lv_icmp_ge (tgt := 47) hx hb dX10_weightOf_6 (by decide) (fun c4 => ?_) (fun c4 => ?_)
  · have dc4 : 4 ≤ u1.toInt := le_i (a := 4) (b := u1.toInt) rfl rfl c4
    have k5 : 4 ≤ u1.toInt ∧ u1.toInt ≤ 4 := ⟨Int.le_trans (Int.le_refl _) dc4, i3.2⟩
    refine lv_iload_n hx hb dX10_weightOf_47 rfl (lv_at hl 1 rfl) ?_
    exact ret_i (v := u2) hx hb hr hlocks hS hP hD dX10_weightOf_48 rfl (Nat.le_of_ble_eq_true rfl) (Nat.le_of_ble_eq_true rfl) rfl
  · have dc4 : u1.toInt < 4 := nle_i (a := 4) (b := u1.toInt) rfl rfl c4
    have k6 : 0 ≤ u1.toInt ∧ u1.toInt ≤ 3 := ⟨i3.1, up_lt dc4 (Int.le_refl _) (by decide)⟩
    refine lv_iload_n hx hb dX10_weightOf_9 rfl (lv_at hl 1 rfl) ?_
    refine lv_iload_n hx hb dX10_weightOf_10 rfl (lv_at hl 3 rfl) ?_
    refine lv_iload_n hx hb dX10_weightOf_11 rfl (lv_at hl 0 rfl) ?_
    refine call_Si (wr := [(h0, .inr (10, vL 67 Fh)), (h_s, .inl (cI, 335, .inl f_s))]) (As := [.int p0, .int u1]) (rest := [.int u2]) hx hb hml hown hw (m_X10_bitOf l D cI cJ cB cP cM cZ p0 u1 _ ) wS_X10_232_X10_bitOf dX10_weightOf_12 hP hD hS hA [] [0, 1] rfl rfl (by decide) (by decide) (by decide) GG.fb hG.at hl.1 rfl (Nat.le_of_ble_eq_true rfl) ⟨(Nat.le_of_ble_eq_true rfl), (Nat.le_of_ble_eq_true rfl)⟩ ⟨(Nat.le_of_ble_eq_true rfl), (Nat.le_of_ble_eq_true rfl)⟩ (fun r7 u H locs hp hP hD hS => ?_)
    rcases hp with ⟨rfl, rfl⟩ | ⟨rfl, rfl⟩
    · have hP : va_P D vwCl [(h0, .inr (10, vL 67 Fh)), (h_s, .inl (cI, 335, .inl f_s))] H := hP
      have hD : va_D A [(h0, .inr (10, vL 67 Fh)), (h_s, .inl (cI, 335, .inl f_s))] := hD
      refine W.widen (k := 0) (n := 0) (Nat.le_of_ble_eq_true rfl) (Nat.le_of_ble_eq_true rfl) ?_
      refine lv_if_eq (tgt := 38) hx hb dX10_weightOf_15 (by decide) (fun _ => ?_) (fun g => absurd (by decide) g)
      refine lv_iconst (v := 0) hx hb dX10_weightOf_38 (by decide) ?_
      refine lv_iadd hx hb dX10_weightOf_39 ?_
      refine lv_topi (fun v9 ev9 => ?_)
      have bv9 : v9.toInt = u2.toInt + 0 := by rw [ev9]; exact add_k rfl rfl (ir_any _) ⟨Int.le_refl _, Int.le_refl _⟩ (by decide)
      have k10 : (-2147483648) ≤ v9.toInt ∧ v9.toInt ≤ 2147483647 := add_r bv9 (ir_any _) ⟨Int.le_refl _, Int.le_refl _⟩ (by decide)
      refine lv_istore_n (lv' := [(2, .int v9), (3, .int u1), (0, .ref h0), (1, .int p0)]) hx hb dX10_weightOf_40 rfl hl (by decide) rfl (fun ls hl => ?_)
      obtain ⟨v11, ev11⟩ : ∃ z : Int32, z = u1 + 1 := ⟨_, rfl⟩
      have bv11 : v11.toInt = u1.toInt + 1 := by rw [ev11]; exact add_k rfl rfl k6 ⟨Int.le_refl _, Int.le_refl _⟩ (by decide)
      have k12 : 1 ≤ v11.toInt ∧ v11.toInt ≤ 4 := add_r bv11 k6 ⟨Int.le_refl _, Int.le_refl _⟩ (by decide)
      refine lv_iinc (v := v11) (lv' := [(3, .int v11), (2, .int v9), (0, .ref h0), (1, .int p0)]) hx hb dX10_weightOf_41 hl (k := 1) rfl (by rw [ev11]; rfl) (by decide) rfl (fun ls hl => ?_)
      refine lv_goto (tgt := 4) hx hb dX10_weightOf_44 (by decide) ?_
      exact ih (v11, v9) (ir_wk k12 (by decide) (by decide)) (by show (4 - v11.toInt).toNat < (4 - u1.toInt).toNat; omega) _ _ _ hP hD hS (lv_sub hl [0, 1, 2, 3] rfl)
    · have hP : va_P D vwCl [(h0, .inr (10, vL 67 Fh)), (h_s, .inl (cI, 335, .inl f_s))] H := hP
      have hD : va_D A [(h0, .inr (10, vL 67 Fh)), (h_s, .inl (cI, 335, .inl f_s))] := hD
      refine W.widen (k := 0) (n := 0) (Nat.le_of_ble_eq_true rfl) (Nat.le_of_ble_eq_true rfl) ?_
      refine lv_if_eq (tgt := 38) hx hb dX10_weightOf_15 (by decide) (fun g => absurd g (by decide)) (fun _ => ?_)
      refine lv_aload_n hx hb dX10_weightOf_18 rfl (lv_at hl 2 rfl) ?_
      refine get_f (D := D) (ci := 10) (v := .ref h_s) (C := RX10) (T := TX10) (N := 67) hx hb hw inAX10 hown hK hP 0 rfl rfl 6 (by decide) (hw _ q_1267) (fun _ h9 => h9) e_s dX10_weightOf_19 ?_
      refine lv_bipush (v := 32) hx hb dX10_weightOf_22 (by decide) ?_
      refine lv_aload_n hx hb dX10_weightOf_24 rfl (lv_at hl 2 rfl) ?_
      refine get_f (D := D) (ci := 10) (v := .ref h_s) (C := RX10) (T := TX10) (N := 67) hx hb hw inAX10 hown hK hP 0 rfl rfl 6 (by decide) (hw _ q_1267) (fun _ h9 => h9) e_s dX10_weightOf_25 ?_
      refine lv_bipush (v := 105) hx hb dX10_weightOf_28 (by decide) ?_
      refine lv_iload_n hx hb dX10_weightOf_30 rfl (lv_at hl 0 rfl) ?_
      refine lv_iadd hx hb dX10_weightOf_31 ?_
      refine lv_topi (fun v13 ev13 => ?_)
      have bv13 : v13.toInt = 105 + u1.toInt := by rw [ev13]; exact add_k rfl rfl ⟨Int.le_refl _, Int.le_refl _⟩ k6 (by decide)
      have k14 : 105 ≤ v13.toInt ∧ v13.toInt ≤ 108 := add_r bv13 ⟨Int.le_refl _, Int.le_refl _⟩ k6 (by decide)
      refine va_iald hx hb hK hP 1 0 rfl rfl (ix_k k14 (by decide) (by decide)) dX10_weightOf_32 ?_
      refine lv_topi (fun v15 ev15 => ?_)
      have k16 : 0 ≤ v15.toInt ∧ v15.toInt ≤ 11 := by rw [ev15]; exact s_s_105.at _ (Int.le_trans (by decide) k14.1) (Int.le_trans k14.2 (by decide))
      refine lv_iadd hx hb dX10_weightOf_33 ?_
      refine lv_topi (fun v17 ev17 => ?_)
      have bv17 : v17.toInt = 32 + v15.toInt := by rw [ev17]; exact add_k rfl rfl ⟨Int.le_refl _, Int.le_refl _⟩ k16 (by decide)
      have k18 : 32 ≤ v17.toInt ∧ v17.toInt ≤ 43 := add_r bv17 ⟨Int.le_refl _, Int.le_refl _⟩ k16 (by decide)
      refine va_iald hx hb hK hP 1 0 rfl rfl (ix_k k18 (by decide) (by decide)) dX10_weightOf_34 ?_
      refine lv_topi (fun v19 ev19 => ?_)
      refine lv_goto (tgt := 39) hx hb dX10_weightOf_35 (by decide) ?_
      refine lv_iadd hx hb dX10_weightOf_39 ?_
      refine lv_topi (fun v20 ev20 => ?_)
      refine lv_istore_n (lv' := [(2, .int v20), (3, .int u1), (0, .ref h0), (1, .int p0)]) hx hb dX10_weightOf_40 rfl hl (by decide) rfl (fun ls hl => ?_)
      obtain ⟨v21, ev21⟩ : ∃ z : Int32, z = u1 + 1 := ⟨_, rfl⟩
      have bv21 : v21.toInt = u1.toInt + 1 := by rw [ev21]; exact add_k rfl rfl k6 ⟨Int.le_refl _, Int.le_refl _⟩ (by decide)
      have k22 : 1 ≤ v21.toInt ∧ v21.toInt ≤ 4 := add_r bv21 k6 ⟨Int.le_refl _, Int.le_refl _⟩ (by decide)
      refine lv_iinc (v := v21) (lv' := [(3, .int v21), (2, .int v20), (0, .ref h0), (1, .int p0)]) hx hb dX10_weightOf_41 hl (k := 1) rfl (by rw [ev21]; rfl) (by decide) rfl (fun ls hl => ?_)
      refine lv_goto (tgt := 4) hx hb dX10_weightOf_44 (by decide) ?_
      exact ih (v21, v20) (ir_wk k22 (by decide) (by decide)) (by show (4 - v21.toInt).toNat < (4 - u1.toInt).toNat; omega) _ _ _ hP hD hS (lv_sub hl [0, 1, 2, 3] rfl)
set_option maxHeartbeats 4000000 in
set_option maxRecDepth 100000 in
theorem m_X10_pushed (l : Launch) (D : va_G) (cI cJ cB cP cM cZ : ClassId) (h0 : Nat) (h_s : Nat) (Fh : Nat → Value) (f_s : Nat → Int32) (p0 : Int32) (p1 : Int32) (p2 : Int32) (sz : Nat) (e_s : Fh 6 = .ref h_s) (s_s_K0 : KW 0 f_s) (s_s_0 : SG 0 0 0 40 f_s) (s_s_105 : SG 105 108 0 11 f_s) (s_s_114 : SG 114 114 0 5 f_s) (s_s_130 : SG 130 133 0 11 f_s) (s_s_139 : SG 139 139 0 5 f_s) (s_s_153 : SG 153 153 0 44 f_s) (s_s_44 : SG 44 55 0 9 f_s) (s_s_5 : SG 5 5 0 12 f_s) (s_s_6 : SG 6 6 0 12 f_s) (s_s_7 : SG 7 7 0 6 f_s) : CI l yX10_pushed cX10_pushed 6 (some .int) { frames := 2, cells := 0, slots := 0, locals := 44 } (GG D cI cJ cB cP cM cZ) D [(h0, .inr (10, vL 67 Fh)), (h_s, .inl (cI, 335, .inl f_s))] sz [.ref h0, .int p0, .int p1, .int p2] (fun (r : Int32) (u : va_W) => IR 10 250 r ∧ u = [(h0, .inr (10, vL 67 Fh)), (h_s, .inl (cI, 335, .inl f_s))]) := by
  refine CI_mk (by decide) (Nat.le_of_ble_eq_true rfl) ?_
  intro p e s m below meth c A ls E hAe hG hsz hP hD hA hS hl
  obtain ⟨hx, hb, hr, hw, hown, hlocks, hml, hnm⟩ := E
  have hK := hG.1
  have hl : lv_has ls 6 [(0, .ref h0), (1, .int p0), (2, .int p1), (3, .int p2)] := hl
  refine lv_iload_n hx hb dX10_pushed_0 rfl (lv_at hl 1 rfl) ?_
  refine lv_iconst (v := 4) hx hb dX10_pushed_1 (by decide) ?_
  refine lv_isub hx hb dX10_pushed_2 ?_
  refine lv_topi (fun v1 ev1 => ?_)
  refine lv_aload_n hx hb dX10_pushed_3 rfl (lv_at hl 0 rfl) ?_
  refine lv_iload_n hx hb dX10_pushed_4 rfl (lv_at hl 3 rfl) ?_
  refine call_Vi (wr := []) (As := [.int p2]) (rest := [.int v1]) hx hb hml hown hw (m_X10_weightOf l D cI cJ cB cP cM cZ h0 h_s Fh f_s p2 _ e_s s_s_K0 s_s_0 s_s_105 s_s_114 s_s_130 s_s_139 s_s_153 s_s_44 s_s_5 s_s_6 s_s_7) wV_X10_308_X10_weightOf dX10_pushed_5 hK hP hD hS hA [0, 1] [] rfl rfl (by decide) (by decide) (by decide) 0 10 rfl rfl GG.fb hG.at hl.1 rfl (Nat.le_of_ble_eq_true rfl) ⟨(Nat.le_of_ble_eq_true rfl), (Nat.le_of_ble_eq_true rfl)⟩ ⟨(Nat.le_of_ble_eq_true rfl), (Nat.le_of_ble_eq_true rfl)⟩ (fun r2 u H locs hp hP hD hS => ?_)
  obtain rfl := hp
  have hP : va_P D vwCl [(h0, .inr (10, vL 67 Fh)), (h_s, .inl (cI, 335, .inl f_s))] H := hP
  have hD : va_D A [(h0, .inr (10, vL 67 Fh)), (h_s, .inl (cI, 335, .inl f_s))] := hD
  refine W.widen (k := 0) (n := 0) (Nat.le_of_ble_eq_true rfl) (Nat.le_of_ble_eq_true rfl) ?_
  refine lv_bipush (v := 100) hx hb dX10_pushed_8 (by decide) ?_
  refine lv_idiv hx hb dX10_pushed_10 (by decide) ?_
  refine lv_topi (fun v4 ev4 => ?_)
  refine lv_isub hx hb dX10_pushed_11 ?_
  refine lv_topi (fun v5 ev5 => ?_)
  refine lv_istore (lv' := [(4, .int v5), (0, .ref h0), (1, .int p0), (2, .int p1), (3, .int p2)]) hx hb dX10_pushed_12 hl (by decide) rfl (fun ls hl => ?_)
  refine lv_iconst (v := 0) hx hb dX10_pushed_14 (by decide) ?_
  refine lv_istore (lv' := [(5, .int 0), (4, .int v5), (0, .ref h0), (1, .int p0), (2, .int p1), (3, .int p2)]) hx hb dX10_pushed_15 hl (by decide) rfl (fun ls hl => ?_)
  refine mloop (α := (Int32) × (Int32)) (nL := 6) (D := D) (A := A) (H0 := s.heap) (fun a => (4 - a.1.toInt).toNat) (fun a => IR 0 4 a.1) (fun a => [(h0, .inr (10, vL 67 Fh)), (h_s, .inl (cI, 335, .inl f_s))]) (fun a => [(5, .int a.1), (4, .int a.2), (0, .ref h0), (1, .int p0), (2, .int p1), (3, .int p2)]) (fun H locs ls => W p l e ({ frames := 2, cells := 0, slots := 0, locals := 44 } : Room) s m [.ref h0, .int p0, .int p1, .int p2].toArray below meth c H locs 0 0 (MQ below (va_Qi (fun (r : Int32) (u : va_W) => IR 10 250 r ∧ u = [(h0, .inr (10, vL 67 Fh)), (h_s, .inl (cI, 335, .inl f_s))]) (PO D A) A) [.ref h0, .int p0, .int p1, .int p2].toArray s 0 0 A) (F0 m 17 ls [])) ?_ (0, v5) (show 0 ≤ (0 : Int32).toInt ∧ (0 : Int32).toInt ≤ 4 by decide) _ _ _ hP hD hS hl
  rintro ⟨u6, u7⟩ i8 ih H locs ls hP hD hS hl
  have i8 : 0 ≤ u6.toInt ∧ u6.toInt ≤ 4 := i8
  have hP : va_P D vwCl [(h0, .inr (10, vL 67 Fh)), (h_s, .inl (cI, 335, .inl f_s))] H := hP
  have hD : va_D A [(h0, .inr (10, vL 67 Fh)), (h_s, .inl (cI, 335, .inl f_s))] := hD
  have hl : lv_has ls 6 [(5, .int u6), (4, .int u7), (0, .ref h0), (1, .int p0), (2, .int p1), (3, .int p2)] := hl
  refine lv_iload hx hb dX10_pushed_17 (lv_at hl 0 rfl) ?_
  refine lv_iconst (v := 4) hx hb dX10_pushed_19 (by decide) ?_
  refine lv_icmp_ge (tgt := 90) hx hb dX10_pushed_20 (by decide) (fun c9 => ?_) (fun c9 => ?_)
  · have dc9 : 4 ≤ u6.toInt := le_i (a := 4) (b := u6.toInt) rfl rfl c9
    have k10 : 4 ≤ u6.toInt ∧ u6.toInt ≤ 4 := ⟨Int.le_trans (Int.le_refl _) dc9, i8.2⟩
    refine lv_iload hx hb dX10_pushed_90 (lv_at hl 1 rfl) ?_
    refine call_Si (wr := [(h0, .inr (10, vL 67 Fh)), (h_s, .inl (cI, 335, .inl f_s))]) (As := [.int u7]) (rest := []) hx hb hml hown hw (m_X10_bounded l D cI cJ cB cP cM cZ u7 _ ) wS_X10_311_X10_bounded dX10_pushed_92 hP hD hS hA [] [0, 1] rfl rfl (by decide) (by decide) (by decide) GG.fb hG.at hl.1 rfl (Nat.le_of_ble_eq_true rfl) ⟨(Nat.le_of_ble_eq_true rfl), (Nat.le_of_ble_eq_true rfl)⟩ ⟨(Nat.le_of_ble_eq_true rfl), (Nat.le_of_ble_eq_true rfl)⟩ (fun r11 u H locs hp hP hD hS => ?_)
    obtain ⟨t12, t13, rfl⟩ := hp
    have hP : va_P D vwCl [(h0, .inr (10, vL 67 Fh)), (h_s, .inl (cI, 335, .inl f_s))] H := hP
    have hD : va_D A [(h0, .inr (10, vL 67 Fh)), (h_s, .inl (cI, 335, .inl f_s))] := hD
    refine W.widen (k := 0) (n := 0) (Nat.le_of_ble_eq_true rfl) (Nat.le_of_ble_eq_true rfl) ?_
    exact ret_i (v := r11) hx hb hr hlocks hS hP hD dX10_pushed_95 rfl (Nat.le_of_ble_eq_true rfl) (Nat.le_of_ble_eq_true rfl) ⟨t12, rfl⟩
  · have dc9 : u6.toInt < 4 := nle_i (a := 4) (b := u6.toInt) rfl rfl c9
    have k15 : 0 ≤ u6.toInt ∧ u6.toInt ≤ 3 := ⟨i8.1, up_lt dc9 (Int.le_refl _) (by decide)⟩
    refine lv_iload hx hb dX10_pushed_23 (lv_at hl 1 rfl) ?_
    refine lv_iload_n hx hb dX10_pushed_25 rfl (lv_at hl 4 rfl) ?_
    refine lv_iload hx hb dX10_pushed_26 (lv_at hl 0 rfl) ?_
    refine call_Si (wr := [(h0, .inr (10, vL 67 Fh)), (h_s, .inl (cI, 335, .inl f_s))]) (As := [.int p1, .int u6]) (rest := [.int u7]) hx hb hml hown hw (m_X10_bitOf l D cI cJ cB cP cM cZ p1 u6 _ ) wS_X10_232_X10_bitOf dX10_pushed_28 hP hD hS hA [] [0, 1] rfl rfl (by decide) (by decide) (by decide) GG.fb hG.at hl.1 rfl (Nat.le_of_ble_eq_true rfl) ⟨(Nat.le_of_ble_eq_true rfl), (Nat.le_of_ble_eq_true rfl)⟩ ⟨(Nat.le_of_ble_eq_true rfl), (Nat.le_of_ble_eq_true rfl)⟩ (fun r16 u H locs hp hP hD hS => ?_)
    rcases hp with ⟨rfl, rfl⟩ | ⟨rfl, rfl⟩
    · have hP : va_P D vwCl [(h0, .inr (10, vL 67 Fh)), (h_s, .inl (cI, 335, .inl f_s))] H := hP
      have hD : va_D A [(h0, .inr (10, vL 67 Fh)), (h_s, .inl (cI, 335, .inl f_s))] := hD
      refine W.widen (k := 0) (n := 0) (Nat.le_of_ble_eq_true rfl) (Nat.le_of_ble_eq_true rfl) ?_
      refine lv_if_ne (tgt := 80) hx hb dX10_pushed_31 (by decide) (fun g => absurd (by decide) g) (fun _ => ?_)
      refine lv_iload_n hx hb dX10_pushed_34 rfl (lv_at hl 3 rfl) ?_
      refine lv_bipush (v := 12) hx hb dX10_pushed_35 (by decide) ?_
      refine lv_aload_n hx hb dX10_pushed_37 rfl (lv_at hl 2 rfl) ?_
      refine get_f (D := D) (ci := 10) (v := .ref h_s) (C := RX10) (T := TX10) (N := 67) hx hb hw inAX10 hown hK hP 0 rfl rfl 6 (by decide) (hw _ q_1267) (fun _ h9 => h9) e_s dX10_pushed_38 ?_
      refine lv_bipush (v := 20) hx hb dX10_pushed_41 (by decide) ?_
      refine lv_aload_n hx hb dX10_pushed_43 rfl (lv_at hl 2 rfl) ?_
      refine get_f (D := D) (ci := 10) (v := .ref h_s) (C := RX10) (T := TX10) (N := 67) hx hb hw inAX10 hown hK hP 0 rfl rfl 6 (by decide) (hw _ q_1267) (fun _ h9 => h9) e_s dX10_pushed_44 ?_
      refine lv_bipush (v := 105) hx hb dX10_pushed_47 (by decide) ?_
      refine lv_iload hx hb dX10_pushed_49 (lv_at hl 0 rfl) ?_
      refine lv_iadd hx hb dX10_pushed_51 ?_
      refine lv_topi (fun v18 ev18 => ?_)
      have bv18 : v18.toInt = 105 + u6.toInt := by rw [ev18]; exact add_k rfl rfl ⟨Int.le_refl _, Int.le_refl _⟩ k15 (by decide)
      have k19 : 105 ≤ v18.toInt ∧ v18.toInt ≤ 108 := add_r bv18 ⟨Int.le_refl _, Int.le_refl _⟩ k15 (by decide)
      refine va_iald hx hb hK hP 1 0 rfl rfl (ix_k k19 (by decide) (by decide)) dX10_pushed_52 ?_
      refine lv_topi (fun v20 ev20 => ?_)
      have k21 : 0 ≤ v20.toInt ∧ v20.toInt ≤ 11 := by rw [ev20]; exact s_s_105.at _ (Int.le_trans (by decide) k19.1) (Int.le_trans k19.2 (by decide))
      refine lv_iadd hx hb dX10_pushed_53 ?_
      refine lv_topi (fun v22 ev22 => ?_)
      have bv22 : v22.toInt = 20 + v20.toInt := by rw [ev22]; exact add_k rfl rfl ⟨Int.le_refl _, Int.le_refl _⟩ k21 (by decide)
      have k23 : 20 ≤ v22.toInt ∧ v22.toInt ≤ 31 := add_r bv22 ⟨Int.le_refl _, Int.le_refl _⟩ k21 (by decide)
      refine va_iald hx hb hK hP 1 0 rfl rfl (ix_k k23 (by decide) (by decide)) dX10_pushed_54 ?_
      refine lv_topi (fun v24 ev24 => ?_)
      refine lv_imul hx hb dX10_pushed_55 ?_
      refine lv_topi (fun v25 ev25 => ?_)
      refine lv_icmp_ge (tgt := 80) hx hb dX10_pushed_56 (by decide) (fun c26 => ?_) (fun c26 => ?_)
      · have dc26 : v25.toInt ≤ p0.toInt := le_i (a := v25.toInt) (b := p0.toInt) rfl rfl c26
        refine lv_iconst (v := 0) hx hb dX10_pushed_80 (by decide) ?_
        refine lv_iadd hx hb dX10_pushed_81 ?_
        refine lv_topi (fun v27 ev27 => ?_)
        have bv27 : v27.toInt = u7.toInt + 0 := by rw [ev27]; exact add_k rfl rfl (ir_any _) ⟨Int.le_refl _, Int.le_refl _⟩ (by decide)
        have k28 : (-2147483648) ≤ v27.toInt ∧ v27.toInt ≤ 2147483647 := add_r bv27 (ir_any _) ⟨Int.le_refl _, Int.le_refl _⟩ (by decide)
        refine lv_istore (lv' := [(4, .int v27), (5, .int u6), (0, .ref h0), (1, .int p0), (2, .int p1), (3, .int p2)]) hx hb dX10_pushed_82 hl (by decide) rfl (fun ls hl => ?_)
        obtain ⟨v29, ev29⟩ : ∃ z : Int32, z = u6 + 1 := ⟨_, rfl⟩
        have bv29 : v29.toInt = u6.toInt + 1 := by rw [ev29]; exact add_k rfl rfl k15 ⟨Int.le_refl _, Int.le_refl _⟩ (by decide)
        have k30 : 1 ≤ v29.toInt ∧ v29.toInt ≤ 4 := add_r bv29 k15 ⟨Int.le_refl _, Int.le_refl _⟩ (by decide)
        refine lv_iinc (v := v29) (lv' := [(5, .int v29), (4, .int v27), (0, .ref h0), (1, .int p0), (2, .int p1), (3, .int p2)]) hx hb dX10_pushed_84 hl (k := 1) rfl (by rw [ev29]; rfl) (by decide) rfl (fun ls hl => ?_)
        refine lv_goto (tgt := 17) hx hb dX10_pushed_87 (by decide) ?_
        exact ih (v29, v27) (ir_wk k30 (by decide) (by decide)) (by show (4 - v29.toInt).toNat < (4 - u6.toInt).toNat; omega) _ _ _ hP hD hS (lv_sub hl [0, 1, 2, 3, 4, 5] rfl)
      · have dc26 : p0.toInt < v25.toInt := nle_i (a := v25.toInt) (b := p0.toInt) rfl rfl c26
        have k31 : (-2147483648) ≤ p0.toInt ∧ p0.toInt ≤ 2147483646 := ⟨(ir_any _).1, up_lt dc26 (ir_any _).2 (by decide)⟩
        have k32 : (-2147483647) ≤ v25.toInt ∧ v25.toInt ≤ 2147483647 := ⟨lo_lt dc26 (ir_any _).1 (by decide), (ir_any _).2⟩
        refine lv_aload_n hx hb dX10_pushed_59 rfl (lv_at hl 2 rfl) ?_
        refine get_f (D := D) (ci := 10) (v := .ref h_s) (C := RX10) (T := TX10) (N := 67) hx hb hw inAX10 hown hK hP 0 rfl rfl 6 (by decide) (hw _ q_1267) (fun _ h9 => h9) e_s dX10_pushed_60 ?_
        refine lv_bipush (v := 8) hx hb dX10_pushed_63 (by decide) ?_
        refine lv_aload_n hx hb dX10_pushed_65 rfl (lv_at hl 2 rfl) ?_
        refine get_f (D := D) (ci := 10) (v := .ref h_s) (C := RX10) (T := TX10) (N := 67) hx hb hw inAX10 hown hK hP 0 rfl rfl 6 (by decide) (hw _ q_1267) (fun _ h9 => h9) e_s dX10_pushed_66 ?_
        refine lv_bipush (v := 105) hx hb dX10_pushed_69 (by decide) ?_
        refine lv_iload hx hb dX10_pushed_71 (lv_at hl 0 rfl) ?_
        refine lv_iadd hx hb dX10_pushed_73 ?_
        refine lv_ci (y := v18) ev18.symm ?_
        refine va_iald hx hb hK hP 1 0 rfl rfl (ix_k k19 (by decide) (by decide)) dX10_pushed_74 ?_
        refine lv_ci (y := v20) ev20.symm ?_
        refine lv_iadd hx hb dX10_pushed_75 ?_
        refine lv_topi (fun v33 ev33 => ?_)
        have bv33 : v33.toInt = 8 + v20.toInt := by rw [ev33]; exact add_k rfl rfl ⟨Int.le_refl _, Int.le_refl _⟩ k21 (by decide)
        have k34 : 8 ≤ v33.toInt ∧ v33.toInt ≤ 19 := add_r bv33 ⟨Int.le_refl _, Int.le_refl _⟩ k21 (by decide)
        refine va_iald hx hb hK hP 1 0 rfl rfl (ix_k k34 (by decide) (by decide)) dX10_pushed_76 ?_
        refine lv_topi (fun v35 ev35 => ?_)
        refine lv_goto (tgt := 81) hx hb dX10_pushed_77 (by decide) ?_
        refine lv_iadd hx hb dX10_pushed_81 ?_
        refine lv_topi (fun v36 ev36 => ?_)
        refine lv_istore (lv' := [(4, .int v36), (5, .int u6), (0, .ref h0), (1, .int p0), (2, .int p1), (3, .int p2)]) hx hb dX10_pushed_82 hl (by decide) rfl (fun ls hl => ?_)
        obtain ⟨v37, ev37⟩ : ∃ z : Int32, z = u6 + 1 := ⟨_, rfl⟩
        have bv37 : v37.toInt = u6.toInt + 1 := by rw [ev37]; exact add_k rfl rfl k15 ⟨Int.le_refl _, Int.le_refl _⟩ (by decide)
        have k38 : 1 ≤ v37.toInt ∧ v37.toInt ≤ 4 := add_r bv37 k15 ⟨Int.le_refl _, Int.le_refl _⟩ (by decide)
        refine lv_iinc (v := v37) (lv' := [(5, .int v37), (4, .int v36), (0, .ref h0), (1, .int p0), (2, .int p1), (3, .int p2)]) hx hb dX10_pushed_84 hl (k := 1) rfl (by rw [ev37]; rfl) (by decide) rfl (fun ls hl => ?_)
        refine lv_goto (tgt := 17) hx hb dX10_pushed_87 (by decide) ?_
        exact ih (v37, v36) (ir_wk k38 (by decide) (by decide)) (by show (4 - v37.toInt).toNat < (4 - u6.toInt).toNat; omega) _ _ _ hP hD hS (lv_sub hl [0, 1, 2, 3, 4, 5] rfl)
    · have hP : va_P D vwCl [(h0, .inr (10, vL 67 Fh)), (h_s, .inl (cI, 335, .inl f_s))] H := hP
      have hD : va_D A [(h0, .inr (10, vL 67 Fh)), (h_s, .inl (cI, 335, .inl f_s))] := hD
      refine W.widen (k := 0) (n := 0) (Nat.le_of_ble_eq_true rfl) (Nat.le_of_ble_eq_true rfl) ?_
      refine lv_if_ne (tgt := 80) hx hb dX10_pushed_31 (by decide) (fun _ => ?_) (fun g => absurd g (by decide))
      refine lv_iconst (v := 0) hx hb dX10_pushed_80 (by decide) ?_
      refine lv_iadd hx hb dX10_pushed_81 ?_
      refine lv_topi (fun v39 ev39 => ?_)
      have bv39 : v39.toInt = u7.toInt + 0 := by rw [ev39]; exact add_k rfl rfl (ir_any _) ⟨Int.le_refl _, Int.le_refl _⟩ (by decide)
      have k40 : (-2147483648) ≤ v39.toInt ∧ v39.toInt ≤ 2147483647 := add_r bv39 (ir_any _) ⟨Int.le_refl _, Int.le_refl _⟩ (by decide)
      refine lv_istore (lv' := [(4, .int v39), (5, .int u6), (0, .ref h0), (1, .int p0), (2, .int p1), (3, .int p2)]) hx hb dX10_pushed_82 hl (by decide) rfl (fun ls hl => ?_)
      obtain ⟨v41, ev41⟩ : ∃ z : Int32, z = u6 + 1 := ⟨_, rfl⟩
      have bv41 : v41.toInt = u6.toInt + 1 := by rw [ev41]; exact add_k rfl rfl k15 ⟨Int.le_refl _, Int.le_refl _⟩ (by decide)
      have k42 : 1 ≤ v41.toInt ∧ v41.toInt ≤ 4 := add_r bv41 k15 ⟨Int.le_refl _, Int.le_refl _⟩ (by decide)
      refine lv_iinc (v := v41) (lv' := [(5, .int v41), (4, .int v39), (0, .ref h0), (1, .int p0), (2, .int p1), (3, .int p2)]) hx hb dX10_pushed_84 hl (k := 1) rfl (by rw [ev41]; rfl) (by decide) rfl (fun ls hl => ?_)
      refine lv_goto (tgt := 17) hx hb dX10_pushed_87 (by decide) ?_
      exact ih (v41, v39) (ir_wk k42 (by decide) (by decide)) (by show (4 - v41.toInt).toNat < (4 - u6.toInt).toNat; omega) _ _ _ hP hD hS (lv_sub hl [0, 1, 2, 3, 4, 5] rfl)
set_option maxHeartbeats 4000000 in
set_option maxRecDepth 100000 in
theorem m_X10_isLate (l : Launch) (D : va_G) (cI cJ cB cP cM cZ : ClassId) (h0 : Nat) (h_s : Nat) (Fh : Nat → Value) (f_s : Nat → Int32) (p0 : Int32) (p1 : Int32) (sz : Nat) (e_s : Fh 6 = .ref h_s) (s_s_K0 : KW 0 f_s) (s_s_0 : SG 0 0 0 40 f_s) (s_s_105 : SG 105 108 0 11 f_s) (s_s_114 : SG 114 114 0 5 f_s) (s_s_130 : SG 130 133 0 11 f_s) (s_s_139 : SG 139 139 0 5 f_s) (s_s_153 : SG 153 153 0 44 f_s) (s_s_44 : SG 44 55 0 9 f_s) (s_s_5 : SG 5 5 0 12 f_s) (s_s_6 : SG 6 6 0 12 f_s) (s_s_7 : SG 7 7 0 6 f_s) (i_p1 : IR 0 3 p1) : CI l yX10_isLate cX10_isLate 3 (some .boolean) { frames := 0, cells := 0, slots := 0, locals := 0 } (GG D cI cJ cB cP cM cZ) D [(h0, .inr (10, vL 67 Fh)), (h_s, .inl (cI, 335, .inl f_s))] sz [.ref h0, .int p0, .int p1] (fun (r : Int32) (u : va_W) => IR 0 1 r ∧ u = [(h0, .inr (10, vL 67 Fh)), (h_s, .inl (cI, 335, .inl f_s))]) := by
  refine CI_mk (by decide) (Nat.le_of_ble_eq_true rfl) ?_
  intro p e s m below meth c A ls E hAe hG hsz hP hD hA hS hl
  obtain ⟨hx, hb, hr, hw, hown, hlocks, hml, hnm⟩ := E
  have hK := hG.1
  have i_p1 : 0 ≤ p1.toInt ∧ p1.toInt ≤ 3 := i_p1
  have hl : lv_has ls 3 [(0, .ref h0), (1, .int p0), (2, .int p1)] := hl
  refine lv_bipush (v := 12) hx hb dX10_isLate_0 (by decide) ?_
  refine lv_aload_n hx hb dX10_isLate_2 rfl (lv_at hl 0 rfl) ?_
  refine get_f (D := D) (ci := 10) (v := .ref h_s) (C := RX10) (T := TX10) (N := 67) hx hb hw inAX10 hown hK hP 0 rfl rfl 6 (by decide) (hw _ q_1267) (fun _ h9 => h9) e_s dX10_isLate_3 ?_
  refine lv_bipush (v := 20) hx hb dX10_isLate_6 (by decide) ?_
  refine lv_aload_n hx hb dX10_isLate_8 rfl (lv_at hl 0 rfl) ?_
  refine get_f (D := D) (ci := 10) (v := .ref h_s) (C := RX10) (T := TX10) (N := 67) hx hb hw inAX10 hown hK hP 0 rfl rfl 6 (by decide) (hw _ q_1267) (fun _ h9 => h9) e_s dX10_isLate_9 ?_
  refine lv_bipush (v := 105) hx hb dX10_isLate_12 (by decide) ?_
  refine lv_iload_n hx hb dX10_isLate_14 rfl (lv_at hl 2 rfl) ?_
  refine lv_iadd hx hb dX10_isLate_15 ?_
  refine lv_topi (fun v1 ev1 => ?_)
  have bv1 : v1.toInt = 105 + p1.toInt := by rw [ev1]; exact add_k rfl rfl ⟨Int.le_refl _, Int.le_refl _⟩ i_p1 (by decide)
  have k2 : 105 ≤ v1.toInt ∧ v1.toInt ≤ 108 := add_r bv1 ⟨Int.le_refl _, Int.le_refl _⟩ i_p1 (by decide)
  refine va_iald hx hb hK hP 1 0 rfl rfl (ix_k k2 (by decide) (by decide)) dX10_isLate_16 ?_
  refine lv_topi (fun v3 ev3 => ?_)
  have k4 : 0 ≤ v3.toInt ∧ v3.toInt ≤ 11 := by rw [ev3]; exact s_s_105.at _ (Int.le_trans (by decide) k2.1) (Int.le_trans k2.2 (by decide))
  refine lv_iadd hx hb dX10_isLate_17 ?_
  refine lv_topi (fun v5 ev5 => ?_)
  have bv5 : v5.toInt = 20 + v3.toInt := by rw [ev5]; exact add_k rfl rfl ⟨Int.le_refl _, Int.le_refl _⟩ k4 (by decide)
  have k6 : 20 ≤ v5.toInt ∧ v5.toInt ≤ 31 := add_r bv5 ⟨Int.le_refl _, Int.le_refl _⟩ k4 (by decide)
  refine va_iald hx hb hK hP 1 0 rfl rfl (ix_k k6 (by decide) (by decide)) dX10_isLate_18 ?_
  refine lv_topi (fun v7 ev7 => ?_)
  refine lv_imul hx hb dX10_isLate_19 ?_
  refine lv_topi (fun v8 ev8 => ?_)
  refine lv_bipush (v := 20) hx hb dX10_isLate_20 (by decide) ?_
  refine lv_iadd hx hb dX10_isLate_22 ?_
  refine lv_topi (fun v9 ev9 => ?_)
  refine lv_iload_n hx hb dX10_isLate_23 rfl (lv_at hl 1 rfl) ?_
  refine lv_icmp_ge (tgt := 31) hx hb dX10_isLate_24 (by decide) (fun c10 => ?_) (fun c10 => ?_)
  · have dc10 : p0.toInt ≤ v9.toInt := le_i (a := p0.toInt) (b := v9.toInt) rfl rfl c10
    refine lv_iconst (v := 0) hx hb dX10_isLate_31 (by decide) ?_
    exact ret_i (v := 0) hx hb hr hlocks hS hP hD dX10_isLate_32 rfl (Nat.le_of_ble_eq_true rfl) (Nat.le_of_ble_eq_true rfl) ⟨(show 0 ≤ (0 : Int32).toInt ∧ (0 : Int32).toInt ≤ 1 by decide), rfl⟩
  · have dc10 : v9.toInt < p0.toInt := nle_i (a := p0.toInt) (b := v9.toInt) rfl rfl c10
    have k11 : (-2147483648) ≤ v9.toInt ∧ v9.toInt ≤ 2147483646 := ⟨(ir_any _).1, up_lt dc10 (ir_any _).2 (by decide)⟩
    have k12 : (-2147483647) ≤ p0.toInt ∧ p0.toInt ≤ 2147483647 := ⟨lo_lt dc10 (ir_any _).1 (by decide), (ir_any _).2⟩
    refine lv_iconst (v := 1) hx hb dX10_isLate_27 (by decide) ?_
    refine lv_goto (tgt := 32) hx hb dX10_isLate_28 (by decide) ?_
    exact ret_i (v := 1) hx hb hr hlocks hS hP hD dX10_isLate_32 rfl (Nat.le_of_ble_eq_true rfl) (Nat.le_of_ble_eq_true rfl) ⟨(show 0 ≤ (1 : Int32).toInt ∧ (1 : Int32).toInt ≤ 1 by decide), rfl⟩
