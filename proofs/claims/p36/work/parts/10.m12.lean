set_option maxHeartbeats 4000000 in
set_option maxRecDepth 100000 in
theorem m_X10_room (l : Launch) (D : va_G) (cI cJ cB cP cM cZ : ClassId) (h0 : Nat) (h_s : Nat) (h_paceAt : Nat) (h_kindOf : Nat) (Fh : Nat → Value) (x_lineTime : Int32) (x_linePace : Int32) (x_inside : Int32) (x_late : Int32) (x_seed : Int32) (x_kicks : Int32) (f_s : Nat → Int32) (f_paceAt : Nat → Int32) (f_kindOf : Nat → Int32) (bs : Nat → Int32) (sz : Nat) (e_s : Fh 6 = .ref h_s) (e_paceAt : Fh 25 = .ref h_paceAt) (e_kindOf : Fh 26 = .ref h_kindOf) (e_lineTime : Fh 27 = .int x_lineTime) (e_linePace : Fh 28 = .int x_linePace) (e_inside : Fh 29 = .int x_inside) (i_x_inside : IR 0 15 x_inside) (e_late : Fh 30 = .int x_late) (i_x_late : IR 0 15 x_late) (e_seed : Fh 31 = .int x_seed) (e_kicks : Fh 32 = .int x_kicks) (i_x_kicks : IR 0 1 x_kicks) (s_s_K0 : KW 0 f_s) (s_s_US : US bs f_s) (s_s_0 : SG 0 0 0 40 f_s) (s_s_105 : SG 105 108 0 11 f_s) (s_s_114 : SG 114 114 0 5 f_s) (s_s_130 : SG 130 133 0 11 f_s) (s_s_139 : SG 139 139 0 5 f_s) (s_s_153 : SG 153 153 0 44 f_s) (s_s_44 : SG 44 55 0 9 f_s) (s_s_5 : SG 5 5 0 12 f_s) (s_s_6 : SG 6 6 0 12 f_s) (s_s_7 : SG 7 7 0 6 f_s) : CI l yX10_room cX10_room 2 (some .int) { frames := 4, cells := 0, slots := 0, locals := 94 } (GG D cI cJ cB cP cM cZ) D [(h0, .inr (10, vL 67 Fh)), (h_s, .inl (cI, 335, .inl f_s)), (h_paceAt, .inl (cI, 40, .inl f_paceAt)), (h_kindOf, .inl (cI, 4, .inl f_kindOf))] sz [.ref h0] (fun (r : Int32) (u : va_W) => ∃ (Gh : Nat → Value) (y_lineTime : Int32) (y_linePace : Int32) (y_inside : Int32) (y_late : Int32) (y_seed : Int32) (g_paceAt : Nat → Int32) (g_kindOf : Nat → Int32), SAME [0, 27, 28, 29, 30, 31] Fh Gh ∧ Gh 0 = .int 0 ∧ Gh 27 = .int y_lineTime ∧ Gh 28 = .int y_linePace ∧ Gh 29 = .int y_inside ∧ IR 0 15 y_inside ∧ Gh 30 = .int y_late ∧ IR 0 15 y_late ∧ Gh 31 = .int y_seed ∧ IR (-1) 99 r ∧ u = [(h0, .inr (10, vL 67 Gh)), (h_s, .inl (cI, 335, .inl f_s)), (h_paceAt, .inl (cI, 40, .inl g_paceAt)), (h_kindOf, .inl (cI, 4, .inl g_kindOf))]) := by
  refine CI_mk (by decide) (Nat.le_of_ble_eq_true rfl) ?_
  intro p e s m below meth c A ls E hAe hG hsz hP hD hA hS hl
  obtain ⟨hx, hb, hr, hw, hown, hlocks, hml, hnm⟩ := E
  have hK := hG.1
  have i_x_inside : 0 ≤ x_inside.toInt ∧ x_inside.toInt ≤ 15 := i_x_inside
  have i_x_late : 0 ≤ x_late.toInt ∧ x_late.toInt ≤ 15 := i_x_late
  have i_x_kicks : 0 ≤ x_kicks.toInt ∧ x_kicks.toInt ≤ 1 := i_x_kicks
  have hl : lv_has ls 2 [(0, .ref h0)] := hl
  refine lv_aload_n hx hb dX10_room_0 rfl (lv_at hl 0 rfl) ?_
  refine lv_iconst (v := 0) hx hb dX10_room_1 (by decide) ?_
  refine put_f (D := D) (ci := 10) (v := .int 0) (ty := .int) (C := RX10) (T := TX10) (N := 67) hx hb hw inAX10 tyX10 tyX10_ok nmX10 hown hK hP hD hS 0 rfl rfl 0 (by decide) (hw _ q_1261) (fun _ h9 => h9) rfl (by decide +kernel) rfl rfl dX10_room_2 (fun H locs F1 eF1 hP hD hS => ?_)
  have hP : va_P D vwCl [(h0, .inr (10, vL 67 F1)), (h_s, .inl (cI, 335, .inl f_s)), (h_paceAt, .inl (cI, 40, .inl f_paceAt)), (h_kindOf, .inl (cI, 4, .inl f_kindOf))] H := hP
  have hD : va_D A [(h0, .inr (10, vL 67 F1)), (h_s, .inl (cI, 335, .inl f_s)), (h_paceAt, .inl (cI, 40, .inl f_paceAt)), (h_kindOf, .inl (cI, 4, .inl f_kindOf))] := hD
  refine lv_aload_n hx hb dX10_room_5 rfl (lv_at hl 0 rfl) ?_
  have n2 : F1 6 = .ref h_s := (get_ne eF1 (by decide) e_s)
  refine call_Vi (wr := [(h_paceAt, .inl (cI, 40, .inl f_paceAt)), (h_kindOf, .inl (cI, 4, .inl f_kindOf))]) (As := []) (rest := []) hx hb hml hown hw (m_X10_hasCrew l D cI cJ cB cP cM cZ h0 h_s F1 f_s bs _ n2 s_s_K0 s_s_US s_s_0 s_s_105 s_s_114 s_s_130 s_s_139 s_s_153 s_s_44 s_s_5 s_s_6 s_s_7) wV_X10_281_X10_hasCrew dX10_room_6 hK hP hD hS hA [0, 1] [2, 3] rfl rfl (by decide) (by decide) (by decide) 0 10 rfl rfl GG.fb hG.at hl.1 rfl (Nat.le_of_ble_eq_true rfl) ⟨(Nat.le_of_ble_eq_true rfl), (Nat.le_of_ble_eq_true rfl)⟩ ⟨(Nat.le_of_ble_eq_true rfl), (Nat.le_of_ble_eq_true rfl)⟩ (fun r3 u H locs hp hP hD hS => ?_)
  rcases hp with ⟨rfl, rfl⟩ | ⟨rfl, rfl⟩
  · have hP : va_P D vwCl [(h_paceAt, .inl (cI, 40, .inl f_paceAt)), (h_kindOf, .inl (cI, 4, .inl f_kindOf)), (h0, .inr (10, vL 67 F1)), (h_s, .inl (cI, 335, .inl f_s))] H := hP
    have hD : va_D A [(h_paceAt, .inl (cI, 40, .inl f_paceAt)), (h_kindOf, .inl (cI, 4, .inl f_kindOf)), (h0, .inr (10, vL 67 F1)), (h_s, .inl (cI, 335, .inl f_s))] := hD
    refine W.widen (k := 0) (n := 0) (Nat.le_of_ble_eq_true rfl) (Nat.le_of_ble_eq_true rfl) ?_
    refine lv_if_ne (tgt := 14) hx hb dX10_room_9 (by decide) (fun g => absurd (by decide) g) (fun _ => ?_)
    refine lv_iconst (v := (-1)) hx hb dX10_room_12 (by decide) ?_
    exact ret_i (v := (-1)) hx hb hr hlocks hS (hP.sub (ws' := [(h0, .inr (10, vL 67 F1)), (h_s, .inl (cI, 335, .inl f_s)), (h_paceAt, .inl (cI, 40, .inl f_paceAt)), (h_kindOf, .inl (cI, 4, .inl f_kindOf))]) [2, 3, 0, 1] rfl) (hD.sub (ws' := [(h0, .inr (10, vL 67 F1)), (h_s, .inl (cI, 335, .inl f_s)), (h_paceAt, .inl (cI, 40, .inl f_paceAt)), (h_kindOf, .inl (cI, 4, .inl f_kindOf))]) [2, 3, 0, 1] (by decide) rfl) dX10_room_13 rfl (Nat.le_of_ble_eq_true rfl) (Nat.le_of_ble_eq_true rfl) ⟨F1, x_lineTime, x_linePace, x_inside, x_late, x_seed, f_paceAt, f_kindOf, (SAME.up eF1 SAME.rf (by decide)), (get_eq eF1), (get_ne eF1 (by decide) e_lineTime), (get_ne eF1 (by decide) e_linePace), (get_ne eF1 (by decide) e_inside), i_x_inside, (get_ne eF1 (by decide) e_late), i_x_late, (get_ne eF1 (by decide) e_seed), (show (-1) ≤ ((-1) : Int32).toInt ∧ ((-1) : Int32).toInt ≤ 99 by decide), rfl⟩
  · have hP : va_P D vwCl [(h_paceAt, .inl (cI, 40, .inl f_paceAt)), (h_kindOf, .inl (cI, 4, .inl f_kindOf)), (h0, .inr (10, vL 67 F1)), (h_s, .inl (cI, 335, .inl f_s))] H := hP
    have hD : va_D A [(h_paceAt, .inl (cI, 40, .inl f_paceAt)), (h_kindOf, .inl (cI, 4, .inl f_kindOf)), (h0, .inr (10, vL 67 F1)), (h_s, .inl (cI, 335, .inl f_s))] := hD
    refine W.widen (k := 0) (n := 0) (Nat.le_of_ble_eq_true rfl) (Nat.le_of_ble_eq_true rfl) ?_
    refine lv_if_ne (tgt := 14) hx hb dX10_room_9 (by decide) (fun _ => ?_) (fun g => absurd g (by decide))
    refine lv_aload_n hx hb dX10_room_14 rfl (lv_at hl 0 rfl) ?_
    have n5 : F1 25 = .ref h_paceAt := (get_ne eF1 (by decide) e_paceAt)
    have n6 : F1 26 = .ref h_kindOf := (get_ne eF1 (by decide) e_kindOf)
    have n7 : F1 31 = .int x_seed := (get_ne eF1 (by decide) e_seed)
    have n8 : F1 32 = .int x_kicks := (get_ne eF1 (by decide) e_kicks)
    refine call_Vv (wr := []) (As := []) (rest := []) hx hb hml hown hw (m_X10_starts l D cI cJ cB cP cM cZ h0 h_s h_paceAt h_kindOf F1 x_seed x_kicks f_s f_paceAt f_kindOf bs _ n2 n5 n6 n7 n8 i_x_kicks s_s_K0 s_s_US s_s_0 s_s_105 s_s_114 s_s_130 s_s_139 s_s_153 s_s_44 s_s_5 s_s_6 s_s_7) wV_X10_340_X10_starts dX10_room_15 hK hP hD hS hA [2, 3, 0, 1] [] rfl rfl (by decide) (by decide) (by decide) 0 10 rfl rfl GG.fb hG.at hl.1 rfl (Nat.le_of_ble_eq_true rfl) ⟨(Nat.le_of_ble_eq_true rfl), (Nat.le_of_ble_eq_true rfl)⟩ ⟨(Nat.le_of_ble_eq_true rfl), (Nat.le_of_ble_eq_true rfl)⟩ (fun u H locs hp hP hD hS => ?_)
    obtain ⟨F10, y11, y12, y13, y14, y15, g16, g17, t18, t19, t20, t21, t22, t23, t24, t25, t26, rfl⟩ := hp
    have hP : va_P D vwCl [(h0, .inr (10, vL 67 F10)), (h_s, .inl (cI, 335, .inl f_s)), (h_paceAt, .inl (cI, 40, .inl g16)), (h_kindOf, .inl (cI, 4, .inl g17))] H := hP
    have hD : va_D A [(h0, .inr (10, vL 67 F10)), (h_s, .inl (cI, 335, .inl f_s)), (h_paceAt, .inl (cI, 40, .inl g16)), (h_kindOf, .inl (cI, 4, .inl g17))] := hD
    refine W.widen (k := 0) (n := 0) (Nat.le_of_ble_eq_true rfl) (Nat.le_of_ble_eq_true rfl) ?_
    refine lv_aload_n hx hb dX10_room_18 rfl (lv_at hl 0 rfl) ?_
    have n28 : F10 6 = .ref h_s := (SAME.at t18 (by decide) n2)
    refine get_f (D := D) (ci := 10) (v := .ref h_s) (C := RX10) (T := TX10) (N := 67) hx hb hw inAX10 hown hK hP 0 rfl rfl 6 (by decide) (hw _ q_1267) (fun _ h9 => h9) n28 dX10_room_19 ?_
    refine lv_iconst (v := 2) hx hb dX10_room_22 (by decide) ?_
    refine iald_n hx hb hK hP 1 0 rfl rfl 2 rfl (Nat.le_of_ble_eq_true rfl) (Nat.le_of_ble_eq_true rfl) rfl dX10_room_23 ?_
    refine lv_topi (fun v29 ev29 => ?_)
    refine lv_aload_n hx hb dX10_room_24 rfl (lv_at hl 0 rfl) ?_
    refine get_f (D := D) (ci := 10) (v := .ref h_s) (C := RX10) (T := TX10) (N := 67) hx hb hw inAX10 hown hK hP 0 rfl rfl 6 (by decide) (hw _ q_1267) (fun _ h9 => h9) n28 dX10_room_25 ?_
    refine lv_iconst (v := 1) hx hb dX10_room_28 (by decide) ?_
    refine iald_n hx hb hK hP 1 0 rfl rfl 1 rfl (Nat.le_of_ble_eq_true rfl) (Nat.le_of_ble_eq_true rfl) rfl dX10_room_29 ?_
    refine lv_topi (fun v30 ev30 => ?_)
    refine lv_isub hx hb dX10_room_30 ?_
    refine lv_topi (fun v31 ev31 => ?_)
    refine lv_aload_n hx hb dX10_room_31 rfl (lv_at hl 0 rfl) ?_
    refine lv_aload_n hx hb dX10_room_32 rfl (lv_at hl 0 rfl) ?_
    refine get_f (D := D) (ci := 10) (v := .int y13) (C := RX10) (T := TX10) (N := 67) hx hb hw inAX10 hown hK hP 0 rfl rfl 29 (by decide) (hw _ q_1290) (fun _ h9 => h9) t22 dX10_room_33 ?_
    refine call_Vi (wr := [(h_paceAt, .inl (cI, 40, .inl g16)), (h_kindOf, .inl (cI, 4, .inl g17))]) (As := [.int y13]) (rest := [.int v31]) hx hb hml hown hw (m_X10_weightOf l D cI cJ cB cP cM cZ h0 h_s F10 f_s y13 bs _ n28 s_s_K0 s_s_US s_s_0 s_s_105 s_s_114 s_s_130 s_s_139 s_s_153 s_s_44 s_s_5 s_s_6 s_s_7) wV_X10_308_X10_weightOf dX10_room_36 hK hP hD hS hA [0, 1] [2, 3] rfl rfl (by decide) (by decide) (by decide) 0 10 rfl rfl GG.fb hG.at hl.1 rfl (Nat.le_of_ble_eq_true rfl) ⟨(Nat.le_of_ble_eq_true rfl), (Nat.le_of_ble_eq_true rfl)⟩ ⟨(Nat.le_of_ble_eq_true rfl), (Nat.le_of_ble_eq_true rfl)⟩ (fun r32 u H locs hp hP hD hS => ?_)
    obtain rfl := hp
    have hP : va_P D vwCl [(h_paceAt, .inl (cI, 40, .inl g16)), (h_kindOf, .inl (cI, 4, .inl g17)), (h0, .inr (10, vL 67 F10)), (h_s, .inl (cI, 335, .inl f_s))] H := hP
    have hD : va_D A [(h_paceAt, .inl (cI, 40, .inl g16)), (h_kindOf, .inl (cI, 4, .inl g17)), (h0, .inr (10, vL 67 F10)), (h_s, .inl (cI, 335, .inl f_s))] := hD
    refine W.widen (k := 0) (n := 0) (Nat.le_of_ble_eq_true rfl) (Nat.le_of_ble_eq_true rfl) ?_
    refine lv_isub hx hb dX10_room_39 ?_
    refine lv_topi (fun v34 ev34 => ?_)
    refine lv_istore_n (lv' := [(1, .int v34), (0, .ref h0)]) hx hb dX10_room_40 rfl hl (by decide) rfl (fun ls hl => ?_)
    refine lv_iload_n hx hb dX10_room_41 rfl (lv_at hl 0 rfl) ?_
    refine lv_if_ge (tgt := 49) hx hb dX10_room_42 (by decide) (fun c35 => ?_) (fun c35 => ?_)
    · have dc35 : 0 ≤ v34.toInt := le_i (a := 0) (b := v34.toInt) rfl rfl c35
      have k36 : 0 ≤ v34.toInt ∧ v34.toInt ≤ 2147483647 := ⟨Int.le_trans (Int.le_refl _) dc35, (ir_any _).2⟩
      refine lv_iload_n hx hb dX10_room_49 rfl (lv_at hl 0 rfl) ?_
      refine lv_bipush (v := 99) hx hb dX10_room_50 (by decide) ?_
      refine call_Si (wr := [(h_paceAt, .inl (cI, 40, .inl g16)), (h_kindOf, .inl (cI, 4, .inl g17)), (h0, .inr (10, vL 67 F10)), (h_s, .inl (cI, 335, .inl f_s))]) (As := [.int v34, .int 99]) (rest := []) hx hb hml hown hw (m_X10_lesser l D cI cJ cB cP cM cZ v34 99 _ ) wS_X10_27_X10_lesser dX10_room_52 hP hD hS hA [] [0, 1, 2, 3] rfl rfl (by decide) (by decide) (by decide) GG.fb hG.at hl.1 rfl (Nat.le_of_ble_eq_true rfl) ⟨(Nat.le_of_ble_eq_true rfl), (Nat.le_of_ble_eq_true rfl)⟩ ⟨(Nat.le_of_ble_eq_true rfl), (Nat.le_of_ble_eq_true rfl)⟩ (fun r37 u H locs hp hP hD hS => ?_)
      have zl99 : (99 : Int32).toInt = 99 := by decide
      obtain ⟨t38, t39, rfl⟩ := hp
      have hP : va_P D vwCl [(h_paceAt, .inl (cI, 40, .inl g16)), (h_kindOf, .inl (cI, 4, .inl g17)), (h0, .inr (10, vL 67 F10)), (h_s, .inl (cI, 335, .inl f_s))] H := hP
      have hD : va_D A [(h_paceAt, .inl (cI, 40, .inl g16)), (h_kindOf, .inl (cI, 4, .inl g17)), (h0, .inr (10, vL 67 F10)), (h_s, .inl (cI, 335, .inl f_s))] := hD
      refine W.widen (k := 0) (n := 0) (Nat.le_of_ble_eq_true rfl) (Nat.le_of_ble_eq_true rfl) ?_
      have k41 : 0 ≤ r37.toInt ∧ r37.toInt ≤ 99 := ⟨by omega, by omega⟩
      exact ret_i (v := r37) hx hb hr hlocks hS (hP.sub (ws' := [(h0, .inr (10, vL 67 F10)), (h_s, .inl (cI, 335, .inl f_s)), (h_paceAt, .inl (cI, 40, .inl g16)), (h_kindOf, .inl (cI, 4, .inl g17))]) [2, 3, 0, 1] rfl) (hD.sub (ws' := [(h0, .inr (10, vL 67 F10)), (h_s, .inl (cI, 335, .inl f_s)), (h_paceAt, .inl (cI, 40, .inl g16)), (h_kindOf, .inl (cI, 4, .inl g17))]) [2, 3, 0, 1] (by decide) rfl) dX10_room_55 rfl (Nat.le_of_ble_eq_true rfl) (Nat.le_of_ble_eq_true rfl) ⟨F10, y11, y12, y13, y14, y15, g16, g17, (SAME.tr (SAME.up eF1 SAME.rf (by decide)) t18 (by decide)), (SAME.at t18 (by decide) (get_eq eF1)), t19, t20, t22, t23, t24, t25, t26, (ir_wk k41 (by decide) (by decide)), rfl⟩
    · have dc35 : v34.toInt < 0 := nle_i (a := 0) (b := v34.toInt) rfl rfl c35
      have k42 : (-2147483648) ≤ v34.toInt ∧ v34.toInt ≤ (-1) := ⟨(ir_any _).1, up_lt dc35 (Int.le_refl _) (by decide)⟩
      refine lv_iconst (v := (-1)) hx hb dX10_room_45 (by decide) ?_
      refine lv_goto (tgt := 55) hx hb dX10_room_46 (by decide) ?_
      exact ret_i (v := (-1)) hx hb hr hlocks hS (hP.sub (ws' := [(h0, .inr (10, vL 67 F10)), (h_s, .inl (cI, 335, .inl f_s)), (h_paceAt, .inl (cI, 40, .inl g16)), (h_kindOf, .inl (cI, 4, .inl g17))]) [2, 3, 0, 1] rfl) (hD.sub (ws' := [(h0, .inr (10, vL 67 F10)), (h_s, .inl (cI, 335, .inl f_s)), (h_paceAt, .inl (cI, 40, .inl g16)), (h_kindOf, .inl (cI, 4, .inl g17))]) [2, 3, 0, 1] (by decide) rfl) dX10_room_55 rfl (Nat.le_of_ble_eq_true rfl) (Nat.le_of_ble_eq_true rfl) ⟨F10, y11, y12, y13, y14, y15, g16, g17, (SAME.tr (SAME.up eF1 SAME.rf (by decide)) t18 (by decide)), (SAME.at t18 (by decide) (get_eq eF1)), t19, t20, t22, t23, t24, t25, t26, (show (-1) ≤ ((-1) : Int32).toInt ∧ ((-1) : Int32).toInt ≤ 99 by decide), rfl⟩
theorem zn_k {x : Int32} (h : 0 ≤ x.toInt ∧ x.toInt ≤ 1) : vp_nar .boolean x = x := by
  obtain ⟨n, en, hn, tn⟩ := ni_of h.1
  have h2 : n = 0 ∨ n = 1 := by omega
  rcases h2 with h2 | h2
  · subst h2; subst en; decide +kernel
  · subst h2; subst en; decide +kernel
/-- how many of the first n on the pile join two -/
def nbin (f : Nat → Int32) : Nat → Int
  | 0 => 0
  | n + 1 => nbin f n + (if (f n).toInt = 21 ∨ (f n).toInt = 22 then 1 else 0)
theorem nbin_nn (f : Nat → Int32) : ∀ n, 0 ≤ nbin f n
  | 0 => Int.le_refl 0
  | n + 1 => by
    have h := nbin_nn f n
    show 0 ≤ nbin f n + (if (f n).toInt = 21 ∨ (f n).toInt = 22 then 1 else 0)
    split <;> omega
theorem nbin_eq {f g : Nat → Int32} : ∀ n, (∀ j, j < n → g j = f j) → nbin g n = nbin f n
  | 0, _ => rfl
  | n + 1, h => by
    show nbin g n + (if (g n).toInt = 21 ∨ (g n).toInt = 22 then 1 else 0) = nbin f n + (if (f n).toInt = 21 ∨ (f n).toInt = 22 then 1 else 0)
    rw [nbin_eq n (fun j hj => h j (by omega)), h n (by omega)]
theorem nbin_1 {f : Nat → Int32} {n : Nat} (h : (f n).toInt = 21 ∨ (f n).toInt = 22) : nbin f (n + 1) = nbin f n + 1 := by
  show nbin f n + (if (f n).toInt = 21 ∨ (f n).toInt = 22 then 1 else 0) = _
  rw [if_pos h]
theorem nbin_0 {f : Nat → Int32} {n : Nat} (h : ¬ ((f n).toInt = 21 ∨ (f n).toInt = 22)) : nbin f (n + 1) = nbin f n := by
  show nbin f n + (if (f n).toInt = 21 ∨ (f n).toInt = 22 then 1 else 0) = _
  rw [if_neg h]; omega
theorem dep_le (f : Nat → Int32) (b : Nat) : ∀ n : Nat, dep f b n ≤ n
  | 0 => Int.le_refl 0
  | n + 1 => by
    have h := dep_le f b n
    show dep f b n + stp (f (b + 3 * n)).toInt ≤ _
    have h2 := stp_ca (f (b + 3 * n)).toInt
    by_cases h3 : (f (b + 3 * n)).toInt = 20
    · rw [h2.1 h3]; omega
    · by_cases h4 : (f (b + 3 * n)).toInt = 21 ∨ (f (b + 3 * n)).toInt = 22
      · rw [h2.2.1 h4]; omega
      · rw [h2.2.2 h3 (by omega) (by omega)]; omega
/-- g is f with one code more -/
def APP (f g : Nat → Int32) (c : Int) (w : Int32) : Prop := (∀ j, j < 3 * c.toNat → g j = f j) ∧ g (3 * c.toNat) = w
theorem APP.of {f g1 g2 g3 : Nat → Int32} {c : Int} {i1 i2 i3 w x2 x3 : Int32} (e1 : upd f i1.toNatClampNeg w = g1) (e2 : upd g1 i2.toNatClampNeg x2 = g2) (e3 : upd g2 i3.toNatClampNeg x3 = g3) (hc : 0 ≤ c) (h1 : i1.toInt = 3 * c) (h2 : i2.toInt = 3 * c + 1) (h3 : i3.toInt = 3 * c + 2) : APP f g3 c w := by
  subst e1; subst e2; subst e3
  simp only [cl_nat]
  refine ⟨fun j hj => ?_, ?_⟩
  · rw [pk_un (by omega), pk_un (by omega), pk_un (by omega)]
  · rw [pk_un (by omega), pk_un (by omega), show 3 * c.toNat = i1.toInt.toNat by omega, pk_us]
/-- the codes so far are good, and as many truths lie on their pile as the signs that wait need -/
def SMI (fr fs : Nat → Int32) (c t w : Int) : Prop := 0 ≤ c ∧ 0 ≤ t ∧ gdc fr 0 c.toNat ∧ dep fr 0 c.toNat = nbin fs t.toNat + w
theorem SMI.zero {fr fs : Nat → Int32} : SMI fr fs 0 0 0 := ⟨Int.le_refl 0, Int.le_refl 0, fun i hi => absurd hi (Nat.not_lt_zero _), rfl⟩
theorem SMI.w {fr fs : Nat → Int32} {c t w w' : Int} (h : SMI fr fs c t w) (e : w' = w) : SMI fr fs c t w' := by subst e; exact h
theorem u153 {f g : Nat → Int32} {c : Int} {i x : Int32} (h : (f 153).toInt = c) (e : upd f i.toNatClampNeg x = g) (hi : 154 ≤ i.toInt) : (g 153).toInt = c := by
  subst e
  rw [cl_nat, pk_un (by omega)]
  exact h
theorem CPY.mn {g f : Nat → Int32} {og of : Nat} {n n' : Int} (h : CPY g og f of n) (hn : n' ≤ n) : CPY g og f of n' := fun j hj => h j (by omega)
theorem app_dep {fr fr' : Nat → Int32} {c : Int} {w : Int32} (hc : 0 ≤ c) (a : APP fr fr' c w) : dep fr' 0 (c + 1).toNat = dep fr 0 c.toNat + stp w.toInt ∧ dep fr' 0 c.toNat = dep fr 0 c.toNat := by
  have e : (c + 1).toNat = c.toNat + 1 := by omega
  have h1 : dep fr' 0 c.toNat = dep fr 0 c.toNat := dep_eq c.toNat (fun j hj => by rw [Nat.zero_add]; exact a.1 j hj)
  refine ⟨?_, h1⟩
  rw [e]
  show dep fr' 0 c.toNat + stp (fr' (0 + 3 * c.toNat)).toInt = _
  rw [h1, Nat.zero_add, a.2]
theorem app_gdc {fr fr' : Nat → Int32} {c : Int} {w : Int32} (hc : 0 ≤ c) (a : APP fr fr' c w) (g : gdc fr 0 c.toNat) (h1 : w.toInt = 20 → 1 ≤ dep fr 0 c.toNat) (h2 : w.toInt = 21 ∨ w.toInt = 22 → 2 ≤ dep fr 0 c.toNat) : gdc fr' 0 (c + 1).toNat := by
  have e : (c + 1).toNat = c.toNat + 1 := by omega
  rw [e]
  intro i hi
  by_cases hi2 : i < c.toNat
  · have g2 : gdc fr' 0 c.toNat := gdc_eq (f := fr) (b := 0) (fun j hj => by rw [Nat.zero_add]; exact a.1 j hj) g
    exact g2 i hi2
  · have e2 : i = c.toNat := by omega
    subst e2
    rw [Nat.zero_add, a.2, (app_dep hc a).2]
    exact ⟨h1, h2⟩
theorem SMI.bin {fr fr' fs : Nat → Int32} {c t c' t' : Int} {v ix : Int32} (h : SMI fr fs c t 1) (a : APP fr fr' c v) (hv : v.toInt = 21 ∨ v.toInt = 22) (e : v = fs ix.toNatClampNeg) (hix : ix.toInt = t - 1) (h1 : 1 ≤ t) (ec : c' = c + 1) (et : t' = t - 1) : SMI fr' fs c' t' 1 := by
  subst ec; subst et
  obtain ⟨hc, ht, g, d⟩ := h
  rw [cl_nat] at e
  have et : t.toNat = (t - 1).toNat + 1 := by omega
  have ei : ix.toInt.toNat = (t - 1).toNat := by omega
  have hb : nbin fs t.toNat = nbin fs (t - 1).toNat + 1 := by
    rw [et]
    exact nbin_1 (by rw [← ei, ← e]; exact hv)
  have hn := nbin_nn fs (t - 1).toNat
  refine ⟨by omega, by omega, app_gdc hc a g (fun q => by omega) (fun q => by omega), ?_⟩
  rw [(app_dep hc a).1, (stp_ca v.toInt).2.1 hv]
  omega
theorem SMI.not {fr fr' fs : Nat → Int32} {c t c' t' : Int} {v w ix : Int32} (h : SMI fr fs c t 1) (a : APP fr fr' c w) (hw : w.toInt = 20) (hv : v.toInt = 20) (e : v = fs ix.toNatClampNeg) (hix : ix.toInt = t - 1) (h1 : 1 ≤ t) (ec : c' = c + 1) (et : t' = t - 1) : SMI fr' fs c' t' 1 := by
  subst ec; subst et
  obtain ⟨hc, ht, g, d⟩ := h
  rw [cl_nat] at e
  have et : t.toNat = (t - 1).toNat + 1 := by omega
  have ei : ix.toInt.toNat = (t - 1).toNat := by omega
  have hb : nbin fs t.toNat = nbin fs (t - 1).toNat := by
    rw [et]
    exact nbin_0 (by rw [← ei, ← e]; omega)
  have hn := nbin_nn fs (t - 1).toNat
  refine ⟨by omega, by omega, app_gdc hc a g (fun q => by omega) (fun q => by omega), ?_⟩
  rw [(app_dep hc a).1, (stp_ca w.toInt).1 hw]
  omega
theorem SMI.leaf {fr fr' fs : Nat → Int32} {c t c' w' : Int} {w : Int32} (h : SMI fr fs c t 0) (a : APP fr fr' c w) (hw : 0 ≤ w.toInt ∧ w.toInt ≤ 6) (ec : c' = c + 1) (ew : w' = 1) : SMI fr' fs c' t w' := by
  subst ec; subst ew
  obtain ⟨hc, ht, g, d⟩ := h
  refine ⟨by omega, ht, app_gdc hc a g (fun q => by omega) (fun q => by omega), ?_⟩
  rw [(app_dep hc a).1, (stp_ca w.toInt).2.2 (by omega) (by omega) (by omega)]
  omega
theorem SMI.push {fr fs fs' : Nat → Int32} {c t t' : Int} {x ix : Int32} (h : SMI fr fs c t 0) (e : upd fs ix.toNatClampNeg x = fs') (hix : ix.toInt = t) (hx : x.toInt = 20 ∨ x.toInt = 23) (et : t' = t + 1) : SMI fr fs' c t' 0 := by
  subst et; subst e
  rw [cl_nat]
  obtain ⟨hc, ht, g, d⟩ := h
  refine ⟨hc, by omega, g, ?_⟩
  rw [show (t + 1).toNat = t.toNat + 1 by omega, show ix.toInt.toNat = t.toNat by omega, nbin_0 (by rw [pk_us]; omega), nbin_eq t.toNat (fun j hj => pk_un (by omega))]
  exact d
theorem SMI.pushb {fr fs fs' : Nat → Int32} {c t t' : Int} {x ix : Int32} (h : SMI fr fs c t 1) (e : upd fs ix.toNatClampNeg x = fs') (hix : ix.toInt = t) (hx : x.toInt = 21 ∨ x.toInt = 22) (et : t' = t + 1) : SMI fr fs' c t' 0 := by
  subst et; subst e
  rw [cl_nat]
  obtain ⟨hc, ht, g, d⟩ := h
  refine ⟨hc, by omega, g, ?_⟩
  rw [show (t + 1).toNat = t.toNat + 1 by omega, show ix.toInt.toNat = t.toNat by omega, nbin_1 (by rw [pk_us]; exact hx), nbin_eq (f := fs) t.toNat (fun j hj => pk_un (by omega))]
  omega
/-- what joins() leaves on top joins nothing -/
def JT (f : Nat → Int32) (t : Int) (k : Int) : Prop := k = 22 → 1 ≤ t → nbin f (t - 1).toNat = nbin f t.toNat
theorem JT.no {f : Nat → Int32} {t k : Int} (h : t ≤ 0) : JT f t k := fun _ q => by omega
theorem JT.ne {f : Nat → Int32} {t k : Int} (h : k ≠ 22) : JT f t k := fun q => absurd q h
theorem JT.at {f : Nat → Int32} {t k : Int} {v ix : Int32} (e : v = f ix.toNatClampNeg) (hix : ix.toInt = t - 1) (h1 : v.toInt ≠ 21) (h2 : v.toInt ≠ 22) : JT f t k := fun _ q => by
  rw [cl_nat] at e
  have et : t.toNat = (t - 1).toNat + 1 := by omega
  rw [et]
  refine (nbin_0 ?_).symm
  rw [show (t - 1).toNat = ix.toInt.toNat by omega, ← e]
  omega
theorem SMI.pop {fr fs : Nat → Int32} {c t t' k : Int} (h : SMI fr fs c t 1) (j : JT fs t k) (hk : k = 22) (h1 : 1 ≤ t) (et : t' = t - 1) : SMI fr fs c t' 1 := by
  subst et
  obtain ⟨hc, ht, g, d⟩ := h
  refine ⟨hc, by omega, g, ?_⟩
  rw [j hk h1]
  exact d
theorem KW.sent {fr g : Nat → Int32} {c : Int} (hc : 0 ≤ c ∧ c ≤ 44) (h : gdc fr 0 c.toNat) (e : (g 153).toInt = c) (hcp : CPY g 154 fr 0 (3 * c)) : KW 0 g := by
  refine ⟨by show 0 ≤ (g (0 + 153)).toInt ∧ _; rw [Nat.zero_add, e]; exact hc, ?_⟩
  rw [Nat.zero_add, Nat.zero_add, e]
  exact gdc_eq (f := fr) (b := 0) (fun j hj => hcp j (by omega)) h
theorem KW.g {f : Nat → Int32} (h : KW 0 f) {i v ix : Int32} {n : Int} (e : v = f ix.toNatClampNeg) (hix : ix.toInt = 154 + 3 * i.toInt) (h0 : 0 ≤ i.toInt) (hn : (f 153).toInt = n) (hi : i.toInt < n) : (v.toInt = 20 → 1 ≤ dep f 154 i.toInt.toNat) ∧ (v.toInt = 21 ∨ v.toInt = 22 → 2 ≤ dep f 154 i.toInt.toNat) := by
  have h2 := h.2
  rw [Nat.zero_add, Nat.zero_add, hn] at h2
  have h3 := h2 i.toInt.toNat (by omega)
  rw [cl_nat] at e
  rw [show 154 + 3 * i.toInt.toNat = ix.toInt.toNat by omega, ← e] at h3
  exact h3
theorem dep_st {f : Nat → Int32} {i v ix : Int32} {i' : Int} (e : v = f ix.toNatClampNeg) (hix : ix.toInt = 154 + 3 * i.toInt) (h0 : 0 ≤ i.toInt) (hi : i' = i.toInt + 1) : dep f 154 i'.toNat = dep f 154 i.toInt.toNat + stp v.toInt := by
  rw [dep_to h0 hi]
  rw [cl_nat] at e
  rw [show 154 + 3 * i.toInt.toNat = ix.toInt.toNat by omega, ← e]
set_option maxHeartbeats 4000000 in
set_option maxRecDepth 100000 in
theorem m_X10_code (l : Launch) (D : va_G) (cI cJ cB cP cM cZ : ClassId) (h0 : Nat) (h_read : Nat) (Fh : Nat → Value) (x_codes : Int32) (x_ones : Int32) (x_top : Int32) (x_isWhole : Int32) (f_read : Nat → Int32) (p0 : Int32) (p1 : Int32) (p2 : Int32) (sz : Nat) (e_read : Fh 8 = .ref h_read) (e_codes : Fh 58 = .int x_codes) (i_x_codes : IR 0 44 x_codes) (e_ones : Fh 59 = .int x_ones) (i_x_ones : IR 0 20 x_ones) (e_top : Fh 60 = .int x_top) (i_x_top : IR 0 45 x_top) (e_isWhole : Fh 62 = .int x_isWhole) (i_x_isWhole : IR 0 1 x_isWhole) (z_0 : x_top.toInt + x_codes.toInt + 1 + x_isWhole.toInt ≤ 2 * x_ones.toInt) (o_0 : x_top.toInt + x_codes.toInt + x_isWhole.toInt ≤ 2 * x_ones.toInt) : CV l yX10_code cX10_code 4 none { frames := 0, cells := 0, slots := 0, locals := 0 } (GG D cI cJ cB cP cM cZ) D [(h0, .inr (10, vL 67 Fh)), (h_read, .inl (cI, 135, .inl f_read))] sz [.ref h0, .int p0, .int p1, .int p2] (fun (u : va_W) => ∃ (Gh : Nat → Value) (y_codes : Int32) (g_read : Nat → Int32), SAME [58] Fh Gh ∧ Gh 58 = .int y_codes ∧ IR 1 45 y_codes ∧ (y_codes.toInt = x_codes.toInt + 1) ∧ (APP f_read g_read x_codes.toInt p0) ∧ (x_top.toInt + y_codes.toInt + x_isWhole.toInt ≤ 2 * x_ones.toInt) ∧ u = [(h0, .inr (10, vL 67 Gh)), (h_read, .inl (cI, 135, .inl g_read))]) := by
  refine CV_mk (by decide) (Nat.le_of_ble_eq_true rfl) ?_
  intro p e s m below meth c A ls E hAe hG hsz hP hD hA hS hl
  obtain ⟨hx, hb, hr, hw, hown, hlocks, hml, hnm⟩ := E
  have hK := hG.1
  have i_x_codes : 0 ≤ x_codes.toInt ∧ x_codes.toInt ≤ 44 := i_x_codes
  have i_x_ones : 0 ≤ x_ones.toInt ∧ x_ones.toInt ≤ 20 := i_x_ones
  have i_x_top : 0 ≤ x_top.toInt ∧ x_top.toInt ≤ 45 := i_x_top
  have i_x_isWhole : 0 ≤ x_isWhole.toInt ∧ x_isWhole.toInt ≤ 1 := i_x_isWhole
  have hl : lv_has ls 4 [(0, .ref h0), (1, .int p0), (2, .int p1), (3, .int p2)] := hl
  refine lv_aload_n hx hb dX10_code_0 rfl (lv_at hl 0 rfl) ?_
  refine get_f (D := D) (ci := 10) (v := .ref h_read) (C := RX10) (T := TX10) (N := 67) hx hb hw inAX10 hown hK hP 0 rfl rfl 8 (by decide) (hw _ q_1269) (fun _ h9 => h9) e_read dX10_code_1 ?_
  refine lv_iconst (v := 3) hx hb dX10_code_4 (by decide) ?_
  refine lv_aload_n hx hb dX10_code_5 rfl (lv_at hl 0 rfl) ?_
  refine get_f (D := D) (ci := 10) (v := .int x_codes) (C := RX10) (T := TX10) (N := 67) hx hb hw inAX10 hown hK hP 0 rfl rfl 58 (by decide) (hw _ q_1319) (fun _ h9 => h9) e_codes dX10_code_6 ?_
  refine lv_imul hx hb dX10_code_9 ?_
  refine lv_topi (fun v1 ev1 => ?_)
  have bv1 : v1.toInt = 3 * x_codes.toInt := by rw [ev1]; exact kmul_k rfl rfl (by decide) i_x_codes (by decide)
  have k2 : 0 ≤ v1.toInt ∧ v1.toInt ≤ 132 := kmul_r bv1 (by decide) i_x_codes (by decide)
  refine lv_iload_n hx hb dX10_code_10 rfl (lv_at hl 1 rfl) ?_
  obtain ⟨g3, eg3⟩ : ∃ z : Nat → Int32, upd f_read v1.toNatClampNeg p0 = z := ⟨_, rfl⟩
  refine iast_g hx hb hK hP hD hS 1 0 rfl rfl (ix_k k2 (by decide) (by decide)) eg3 dX10_code_11 (fun H locs hP hD hS => ?_)
  have hP : va_P D vwCl [(h0, .inr (10, vL 67 Fh)), (h_read, .inl (cI, 135, .inl g3))] H := hP
  have hD : va_D A [(h0, .inr (10, vL 67 Fh)), (h_read, .inl (cI, 135, .inl g3))] := hD
  refine lv_aload_n hx hb dX10_code_12 rfl (lv_at hl 0 rfl) ?_
  refine get_f (D := D) (ci := 10) (v := .ref h_read) (C := RX10) (T := TX10) (N := 67) hx hb hw inAX10 hown hK hP 0 rfl rfl 8 (by decide) (hw _ q_1269) (fun _ h9 => h9) e_read dX10_code_13 ?_
  refine lv_iconst (v := 3) hx hb dX10_code_16 (by decide) ?_
  refine lv_aload_n hx hb dX10_code_17 rfl (lv_at hl 0 rfl) ?_
  refine get_f (D := D) (ci := 10) (v := .int x_codes) (C := RX10) (T := TX10) (N := 67) hx hb hw inAX10 hown hK hP 0 rfl rfl 58 (by decide) (hw _ q_1319) (fun _ h9 => h9) e_codes dX10_code_18 ?_
  refine lv_imul hx hb dX10_code_21 ?_
  refine lv_ci (y := v1) ev1.symm ?_
  refine lv_iconst (v := 1) hx hb dX10_code_22 (by decide) ?_
  refine lv_iadd hx hb dX10_code_23 ?_
  refine lv_topi (fun v4 ev4 => ?_)
  have bv4 : v4.toInt = v1.toInt + 1 := by rw [ev4]; exact add_k rfl rfl k2 ⟨Int.le_refl _, Int.le_refl _⟩ (by decide)
  have k5 : 1 ≤ v4.toInt ∧ v4.toInt ≤ 133 := add_r bv4 k2 ⟨Int.le_refl _, Int.le_refl _⟩ (by decide)
  refine lv_iload_n hx hb dX10_code_24 rfl (lv_at hl 2 rfl) ?_
  obtain ⟨g6, eg6⟩ : ∃ z : Nat → Int32, upd g3 v4.toNatClampNeg p1 = z := ⟨_, rfl⟩
  refine iast_g hx hb hK hP hD hS 1 0 rfl rfl (ix_k k5 (by decide) (by decide)) eg6 dX10_code_25 (fun H locs hP hD hS => ?_)
  have hP : va_P D vwCl [(h0, .inr (10, vL 67 Fh)), (h_read, .inl (cI, 135, .inl g6))] H := hP
  have hD : va_D A [(h0, .inr (10, vL 67 Fh)), (h_read, .inl (cI, 135, .inl g6))] := hD
  refine lv_aload_n hx hb dX10_code_26 rfl (lv_at hl 0 rfl) ?_
  refine get_f (D := D) (ci := 10) (v := .ref h_read) (C := RX10) (T := TX10) (N := 67) hx hb hw inAX10 hown hK hP 0 rfl rfl 8 (by decide) (hw _ q_1269) (fun _ h9 => h9) e_read dX10_code_27 ?_
  refine lv_iconst (v := 3) hx hb dX10_code_30 (by decide) ?_
  refine lv_aload_n hx hb dX10_code_31 rfl (lv_at hl 0 rfl) ?_
  refine get_f (D := D) (ci := 10) (v := .int x_codes) (C := RX10) (T := TX10) (N := 67) hx hb hw inAX10 hown hK hP 0 rfl rfl 58 (by decide) (hw _ q_1319) (fun _ h9 => h9) e_codes dX10_code_32 ?_
  refine lv_imul hx hb dX10_code_35 ?_
  refine lv_ci (y := v1) ev1.symm ?_
  refine lv_iconst (v := 2) hx hb dX10_code_36 (by decide) ?_
  refine lv_iadd hx hb dX10_code_37 ?_
  refine lv_topi (fun v7 ev7 => ?_)
  have bv7 : v7.toInt = v1.toInt + 2 := by rw [ev7]; exact add_k rfl rfl k2 ⟨Int.le_refl _, Int.le_refl _⟩ (by decide)
  have k8 : 2 ≤ v7.toInt ∧ v7.toInt ≤ 134 := add_r bv7 k2 ⟨Int.le_refl _, Int.le_refl _⟩ (by decide)
  refine lv_iload_n hx hb dX10_code_38 rfl (lv_at hl 3 rfl) ?_
  obtain ⟨g9, eg9⟩ : ∃ z : Nat → Int32, upd g6 v7.toNatClampNeg p2 = z := ⟨_, rfl⟩
  refine iast_g hx hb hK hP hD hS 1 0 rfl rfl (ix_k k8 (by decide) (by decide)) eg9 dX10_code_39 (fun H locs hP hD hS => ?_)
  have hP : va_P D vwCl [(h0, .inr (10, vL 67 Fh)), (h_read, .inl (cI, 135, .inl g9))] H := hP
  have hD : va_D A [(h0, .inr (10, vL 67 Fh)), (h_read, .inl (cI, 135, .inl g9))] := hD
  refine lv_aload_n hx hb dX10_code_40 rfl (lv_at hl 0 rfl) ?_
  refine lv_dup hx hb dX10_code_41 rfl ?_
  refine get_f (D := D) (ci := 10) (v := .int x_codes) (C := RX10) (T := TX10) (N := 67) hx hb hw inAX10 hown hK hP 0 rfl rfl 58 (by decide) (hw _ q_1319) (fun _ h9 => h9) e_codes dX10_code_42 ?_
  refine lv_iconst (v := 1) hx hb dX10_code_45 (by decide) ?_
  refine lv_iadd hx hb dX10_code_46 ?_
  refine lv_topi (fun v10 ev10 => ?_)
  have bv10 : v10.toInt = x_codes.toInt + 1 := by rw [ev10]; exact add_k rfl rfl i_x_codes ⟨Int.le_refl _, Int.le_refl _⟩ (by decide)
  have k11 : 1 ≤ v10.toInt ∧ v10.toInt ≤ 45 := add_r bv10 i_x_codes ⟨Int.le_refl _, Int.le_refl _⟩ (by decide)
  refine put_f (D := D) (ci := 10) (v := .int v10) (ty := .int) (C := RX10) (T := TX10) (N := 67) hx hb hw inAX10 tyX10 tyX10_ok nmX10 hown hK hP hD hS 0 rfl rfl 58 (by decide) (hw _ q_1319) (fun _ h9 => h9) rfl (by decide +kernel) rfl rfl dX10_code_47 (fun H locs F12 eF12 hP hD hS => ?_)
  have hP : va_P D vwCl [(h0, .inr (10, vL 67 F12)), (h_read, .inl (cI, 135, .inl g9))] H := hP
  have hD : va_D A [(h0, .inr (10, vL 67 F12)), (h_read, .inl (cI, 135, .inl g9))] := hD
  exact ret_v hx hb hr hlocks hS hP hD dX10_code_50 (Nat.le_of_ble_eq_true rfl) (Nat.le_of_ble_eq_true rfl) ⟨F12, v10, g9, (SAME.up eF12 SAME.rf (by decide)), (get_eq eF12), k11, (by omega), (APP.of eg3 eg6 eg9 (by omega) (by omega) (by omega) (by omega)), (by omega), rfl⟩
set_option maxHeartbeats 4000000 in
set_option maxRecDepth 100000 in
theorem m_X10_joins (l : Launch) (D : va_G) (cI cJ cB cP cM cZ : ClassId) (h0 : Nat) (h_read : Nat) (h_stack : Nat) (Fh : Nat → Value) (x_codes : Int32) (x_ones : Int32) (x_top : Int32) (x_deep : Int32) (x_isWhole : Int32) (f_read : Nat → Int32) (f_stack : Nat → Int32) (p0 : Int32) (sz : Nat) (e_read : Fh 8 = .ref h_read) (e_stack : Fh 57 = .ref h_stack) (e_codes : Fh 58 = .int x_codes) (i_x_codes : IR 0 45 x_codes) (e_ones : Fh 59 = .int x_ones) (i_x_ones : IR 0 20 x_ones) (e_top : Fh 60 = .int x_top) (i_x_top : IR 0 45 x_top) (e_deep : Fh 61 = .int x_deep) (i_x_deep : IR 0 46 x_deep) (e_isWhole : Fh 62 = .int x_isWhole) (i_x_isWhole : IR 0 1 x_isWhole) (z_0 : x_isWhole.toInt = 1) (z_1 : SMI f_read f_stack x_codes.toInt x_top.toInt 1) (z_2 : SKB f_stack x_top.toInt x_deep.toInt) (z_3 : TNN f_stack x_top.toInt) (o_0 : x_top.toInt + x_codes.toInt + x_isWhole.toInt ≤ 2 * x_ones.toInt) : CV l yX10_joins cX10_joins 2 none { frames := 1, cells := 0, slots := 0, locals := 23 } (GG D cI cJ cB cP cM cZ) D [(h0, .inr (10, vL 67 Fh)), (h_read, .inl (cI, 135, .inl f_read)), (h_stack, .inl (cI, 45, .inl f_stack))] sz [.ref h0, .int p0] (fun (u : va_W) => ∃ (Gh : Nat → Value) (y_codes : Int32) (y_top : Int32) (g_read : Nat → Int32), SAME [58, 60] Fh Gh ∧ Gh 58 = .int y_codes ∧ IR 0 45 y_codes ∧ Gh 60 = .int y_top ∧ IR 0 45 y_top ∧ (SMI g_read f_stack y_codes.toInt y_top.toInt 1) ∧ (JT f_stack y_top.toInt p0.toInt) ∧ (SKJ f_stack y_top.toInt x_deep.toInt x_top.toInt) ∧ (JT2 f_stack y_top.toInt p0.toInt) ∧ (y_top.toInt + y_codes.toInt + x_isWhole.toInt ≤ 2 * x_ones.toInt) ∧ u = [(h0, .inr (10, vL 67 Gh)), (h_read, .inl (cI, 135, .inl g_read)), (h_stack, .inl (cI, 45, .inl f_stack))]) := by
  refine CV_mk (by decide) (Nat.le_of_ble_eq_true rfl) ?_
  intro p e s m below meth c A ls E hAe hG hsz hP hD hA hS hl
  obtain ⟨hx, hb, hr, hw, hown, hlocks, hml, hnm⟩ := E
  have hK := hG.1
  have i_x_codes : 0 ≤ x_codes.toInt ∧ x_codes.toInt ≤ 45 := i_x_codes
  have i_x_ones : 0 ≤ x_ones.toInt ∧ x_ones.toInt ≤ 20 := i_x_ones
  have i_x_top : 0 ≤ x_top.toInt ∧ x_top.toInt ≤ 45 := i_x_top
  have i_x_deep : 0 ≤ x_deep.toInt ∧ x_deep.toInt ≤ 46 := i_x_deep
  have i_x_isWhole : 0 ≤ x_isWhole.toInt ∧ x_isWhole.toInt ≤ 1 := i_x_isWhole
  have hl : lv_has ls 2 [(0, .ref h0), (1, .int p0)] := hl
  refine mloop (α := (Nat → Value) × (Int32) × (Int32) × (Nat → Int32)) (nL := 2) (D := D) (A := A) (H0 := s.heap) (fun a => (a.2.2.1.toInt).toNat) (fun a => SAME [58, 60] Fh a.1 ∧ a.1 58 = .int a.2.1 ∧ a.1 60 = .int a.2.2.1 ∧ IR 0 45 a.2.1 ∧ IR 0 45 a.2.2.1 ∧ (SMI a.2.2.2 f_stack a.2.1.toInt a.2.2.1.toInt 1) ∧ (SKJ f_stack a.2.2.1.toInt x_deep.toInt x_top.toInt) ∧ (a.2.2.1.toInt + a.2.1.toInt + x_isWhole.toInt ≤ 2 * x_ones.toInt)) (fun a => [(h0, .inr (10, vL 67 a.1)), (h_read, .inl (cI, 135, .inl a.2.2.2)), (h_stack, .inl (cI, 45, .inl f_stack))]) (fun a => [(0, .ref h0), (1, .int p0)]) (fun H locs ls => W p l e ({ frames := 1, cells := 0, slots := 0, locals := 23 } : Room) s m [.ref h0, .int p0].toArray below meth c H locs 0 0 (MQ below (va_Qv (fun (u : va_W) => ∃ (Gh : Nat → Value) (y_codes : Int32) (y_top : Int32) (g_read : Nat → Int32), SAME [58, 60] Fh Gh ∧ Gh 58 = .int y_codes ∧ IR 0 45 y_codes ∧ Gh 60 = .int y_top ∧ IR 0 45 y_top ∧ (SMI g_read f_stack y_codes.toInt y_top.toInt 1) ∧ (JT f_stack y_top.toInt p0.toInt) ∧ (SKJ f_stack y_top.toInt x_deep.toInt x_top.toInt) ∧ (JT2 f_stack y_top.toInt p0.toInt) ∧ (y_top.toInt + y_codes.toInt + x_isWhole.toInt ≤ 2 * x_ones.toInt) ∧ u = [(h0, .inr (10, vL 67 Gh)), (h_read, .inl (cI, 135, .inl g_read)), (h_stack, .inl (cI, 45, .inl f_stack))]) (PO D A) A) [.ref h0, .int p0].toArray s 0 0 A) (F0 m 0 ls [])) ?_ (Fh, x_codes, x_top, f_read) ⟨SAME.rf, e_codes, e_top, i_x_codes, i_x_top, (show SMI f_read f_stack x_codes.toInt x_top.toInt 1 from z_1), (show SKJ f_stack x_top.toInt x_deep.toInt x_top.toInt from (SKJ.z z_2 z_3)), (by show x_top.toInt + x_codes.toInt + x_isWhole.toInt ≤ 2 * x_ones.toInt; omega)⟩ _ _ _ hP hD hS hl
  rintro ⟨G1, u2, u3, w4⟩ ⟨i5, i6, i7, i8, i9, i10, i11, i12⟩ ih H locs ls hP hD hS hl
  have i8 : 0 ≤ u2.toInt ∧ u2.toInt ≤ 45 := i8
  have i9 : 0 ≤ u3.toInt ∧ u3.toInt ≤ 45 := i9
  have i10 : SMI w4 f_stack u2.toInt u3.toInt 1 := i10
  have i11 : SKJ f_stack u3.toInt x_deep.toInt x_top.toInt := i11
  have i12 : u3.toInt + u2.toInt + x_isWhole.toInt ≤ 2 * x_ones.toInt := i12
  have hP : va_P D vwCl [(h0, .inr (10, vL 67 G1)), (h_read, .inl (cI, 135, .inl w4)), (h_stack, .inl (cI, 45, .inl f_stack))] H := hP
  have hD : va_D A [(h0, .inr (10, vL 67 G1)), (h_read, .inl (cI, 135, .inl w4)), (h_stack, .inl (cI, 45, .inl f_stack))] := hD
  have hl : lv_has ls 2 [(0, .ref h0), (1, .int p0)] := hl
  refine lv_aload_n hx hb dX10_joins_0 rfl (lv_at hl 0 rfl) ?_
  refine get_f (D := D) (ci := 10) (v := .int u3) (C := RX10) (T := TX10) (N := 67) hx hb hw inAX10 hown hK hP 0 rfl rfl 60 (by decide) (hw _ q_1321) (fun _ h9 => h9) i7 dX10_joins_1 ?_
  refine lv_if_le (tgt := 73) hx hb dX10_joins_4 (by decide) (fun c13 => ?_) (fun c13 => ?_)
  · have dc13 : u3.toInt ≤ 0 := le_i (a := u3.toInt) (b := 0) rfl rfl c13
    have k14 : 0 ≤ u3.toInt ∧ u3.toInt ≤ 0 := ⟨i9.1, Int.le_trans dc13 (Int.le_refl _)⟩
    exact ret_v hx hb hr hlocks hS hP hD dX10_joins_73 (Nat.le_of_ble_eq_true rfl) (Nat.le_of_ble_eq_true rfl) ⟨G1, u2, u3, w4, (SAME.tr SAME.rf i5 (by decide)), i6, i8, i7, (ir_wk k14 (by decide) (by decide)), i10, (JT.no (by omega)), i11, (JT2.no (by omega)), (by omega), rfl⟩
  · have dc13 : 0 < u3.toInt := nle_i (a := u3.toInt) (b := 0) rfl rfl c13
    have k15 : 1 ≤ u3.toInt ∧ u3.toInt ≤ 45 := ⟨lo_lt dc13 (Int.le_refl _) (by decide), i9.2⟩
    refine lv_aload_n hx hb dX10_joins_7 rfl (lv_at hl 0 rfl) ?_
    have n16 : G1 57 = .ref h_stack := (SAME.at i5 (by decide) e_stack)
    refine get_f (D := D) (ci := 10) (v := .ref h_stack) (C := RX10) (T := TX10) (N := 67) hx hb hw inAX10 hown hK hP 0 rfl rfl 57 (by decide) (hw _ q_1318) (fun _ h9 => h9) n16 dX10_joins_8 ?_
    refine lv_aload_n hx hb dX10_joins_11 rfl (lv_at hl 0 rfl) ?_
    refine get_f (D := D) (ci := 10) (v := .int u3) (C := RX10) (T := TX10) (N := 67) hx hb hw inAX10 hown hK hP 0 rfl rfl 60 (by decide) (hw _ q_1321) (fun _ h9 => h9) i7 dX10_joins_12 ?_
    refine lv_iconst (v := 1) hx hb dX10_joins_15 (by decide) ?_
    refine lv_isub hx hb dX10_joins_16 ?_
    refine lv_topi (fun v17 ev17 => ?_)
    have bv17 : v17.toInt = u3.toInt - 1 := by rw [ev17]; exact sub_k rfl rfl k15 ⟨Int.le_refl _, Int.le_refl _⟩ (by decide)
    have k18 : 0 ≤ v17.toInt ∧ v17.toInt ≤ 44 := sub_r bv17 k15 ⟨Int.le_refl _, Int.le_refl _⟩ (by decide)
    refine va_iald hx hb hK hP 2 0 rfl rfl (ix_k k18 (by decide) (by decide)) dX10_joins_17 ?_
    refine lv_topi (fun v19 ev19 => ?_)
    refine lv_bipush (v := 21) hx hb dX10_joins_18 (by decide) ?_
    refine lv_icmp_eq (tgt := 45) hx hb dX10_joins_20 (by decide) (fun c20 => ?_) (fun c20 => ?_)
    · have dc20 : v19.toInt = 21 := eq_i (a := v19.toInt) (b := 21) rfl rfl c20
      have k21 : 21 ≤ v19.toInt ∧ v19.toInt ≤ 21 := ⟨Int.le_trans (Int.le_refl _) (Int.le_of_eq dc20.symm), Int.le_trans (Int.le_of_eq dc20) (Int.le_refl _)⟩
      refine lv_aload_n hx hb dX10_joins_45 rfl (lv_at hl 0 rfl) ?_
      refine lv_dup hx hb dX10_joins_46 rfl ?_
      refine get_f (D := D) (ci := 10) (v := .int u3) (C := RX10) (T := TX10) (N := 67) hx hb hw inAX10 hown hK hP 0 rfl rfl 60 (by decide) (hw _ q_1321) (fun _ h9 => h9) i7 dX10_joins_47 ?_
      refine lv_iconst (v := 1) hx hb dX10_joins_50 (by decide) ?_
      refine lv_isub hx hb dX10_joins_51 ?_
      refine lv_ci (y := v17) ev17.symm ?_
      refine put_f (D := D) (ci := 10) (v := .int v17) (ty := .int) (C := RX10) (T := TX10) (N := 67) hx hb hw inAX10 tyX10 tyX10_ok nmX10 hown hK hP hD hS 0 rfl rfl 60 (by decide) (hw _ q_1321) (fun _ h9 => h9) rfl (by decide +kernel) rfl rfl dX10_joins_52 (fun H locs F22 eF22 hP hD hS => ?_)
      have hP : va_P D vwCl [(h0, .inr (10, vL 67 F22)), (h_read, .inl (cI, 135, .inl w4)), (h_stack, .inl (cI, 45, .inl f_stack))] H := hP
      have hD : va_D A [(h0, .inr (10, vL 67 F22)), (h_read, .inl (cI, 135, .inl w4)), (h_stack, .inl (cI, 45, .inl f_stack))] := hD
      refine lv_aload_n hx hb dX10_joins_55 rfl (lv_at hl 0 rfl) ?_
      refine lv_aload_n hx hb dX10_joins_56 rfl (lv_at hl 0 rfl) ?_
      have n23 : F22 57 = .ref h_stack := (get_ne eF22 (by decide) n16)
      refine get_f (D := D) (ci := 10) (v := .ref h_stack) (C := RX10) (T := TX10) (N := 67) hx hb hw inAX10 hown hK hP 0 rfl rfl 57 (by decide) (hw _ q_1318) (fun _ h9 => h9) n23 dX10_joins_57 ?_
      refine lv_aload_n hx hb dX10_joins_60 rfl (lv_at hl 0 rfl) ?_
      refine get_f (D := D) (ci := 10) (v := .int v17) (C := RX10) (T := TX10) (N := 67) hx hb hw inAX10 hown hK hP 0 rfl rfl 60 (by decide) (hw _ q_1321) (fun _ h9 => h9) (get_eq eF22) dX10_joins_61 ?_
      refine va_iald hx hb hK hP 2 0 rfl rfl (ix_k k18 (by decide) (by decide)) dX10_joins_64 ?_
      refine lv_ci (y := v19) ev19.symm ?_
      refine lv_iconst (v := 0) hx hb dX10_joins_65 (by decide) ?_
      refine lv_iconst (v := 0) hx hb dX10_joins_66 (by decide) ?_
      have n24 : G1 8 = .ref h_read := (SAME.at i5 (by decide) e_read)
      have n25 : F22 8 = .ref h_read := (get_ne eF22 (by decide) n24)
      have n26 : F22 58 = .int u2 := (get_ne eF22 (by decide) i6)
      have n27 : G1 59 = .int x_ones := (SAME.at i5 (by decide) e_ones)
      have n28 : F22 59 = .int x_ones := (get_ne eF22 (by decide) n27)
      have n29 : G1 62 = .int x_isWhole := (SAME.at i5 (by decide) e_isWhole)
      have n30 : F22 62 = .int x_isWhole := (get_ne eF22 (by decide) n29)
      refine call_Vv (wr := [(h_stack, .inl (cI, 45, .inl f_stack))]) (As := [.int v19, .int 0, .int 0]) (rest := []) hx hb hml hown hw (m_X10_code l D cI cJ cB cP cM cZ h0 h_read F22 u2 x_ones v17 x_isWhole w4 v19 0 0 _ n25 n26 (show 0 ≤ u2.toInt ∧ u2.toInt ≤ 44 from ⟨by omega, by omega⟩) n28 i_x_ones (get_eq eF22) (ir_wk k18 (by decide) (by decide)) n30 i_x_isWhole (by omega) (by omega)) wV_X10_447_X10_code dX10_joins_67 hK hP hD hS hA [0, 1] [2] rfl rfl (by decide) (by decide) (by decide) 0 10 rfl rfl GG.fb hG.at hl.1 rfl (Nat.le_of_ble_eq_true rfl) ⟨(Nat.le_of_ble_eq_true rfl), (Nat.le_of_ble_eq_true rfl)⟩ ⟨(Nat.le_of_ble_eq_true rfl), (Nat.le_of_ble_eq_true rfl)⟩ (fun u H locs hp hP hD hS => ?_)
      have zl0 : (0 : Int32).toInt = 0 := by decide
      obtain ⟨F32, y33, g34, t35, t36, t37, t38, t39, t40, rfl⟩ := hp
      have hP : va_P D vwCl [(h_stack, .inl (cI, 45, .inl f_stack)), (h0, .inr (10, vL 67 F32)), (h_read, .inl (cI, 135, .inl g34))] H := hP
      have hD : va_D A [(h_stack, .inl (cI, 45, .inl f_stack)), (h0, .inr (10, vL 67 F32)), (h_read, .inl (cI, 135, .inl g34))] := hD
      refine W.widen (k := 0) (n := 0) (Nat.le_of_ble_eq_true rfl) (Nat.le_of_ble_eq_true rfl) ?_
      refine lv_goto (tgt := 0) hx hb dX10_joins_70 (by decide) ?_
      have n42 : F32 60 = .int v17 := (SAME.at t35 (by decide) (get_eq eF22))
      exact ih (F32, y33, v17, g34) ⟨(SAME.tr (SAME.up eF22 (SAME.tr SAME.rf i5 (by decide)) (by decide)) t35 (by decide)), t36, n42, (ir_wk t37 (by decide) (by decide)), (ir_wk k18 (by decide) (by decide)), (show SMI g34 f_stack y33.toInt v17.toInt 1 from (SMI.bin i10 t39 (by omega) ev19 (by omega) (by omega) (by omega) (by omega))), (show SKJ f_stack v17.toInt x_deep.toInt x_top.toInt from (SKJ.step i11 ev19 (by omega) (by omega) (by omega) (by omega))), (by show v17.toInt + y33.toInt + x_isWhole.toInt ≤ 2 * x_ones.toInt; omega)⟩ (by show (v17.toInt).toNat < (u3.toInt).toNat; omega) _ _ _ (hP.sub [1, 2, 0] rfl) (hD.sub [1, 2, 0] (by decide) rfl) hS (lv_sub hl [0, 1] rfl)
    · have dc20 : v19.toInt ≠ 21 := ne_i (a := v19.toInt) (b := 21) rfl rfl c20
      refine lv_aload_n hx hb dX10_joins_23 rfl (lv_at hl 0 rfl) ?_
      refine get_f (D := D) (ci := 10) (v := .ref h_stack) (C := RX10) (T := TX10) (N := 67) hx hb hw inAX10 hown hK hP 0 rfl rfl 57 (by decide) (hw _ q_1318) (fun _ h9 => h9) n16 dX10_joins_24 ?_
      refine lv_aload_n hx hb dX10_joins_27 rfl (lv_at hl 0 rfl) ?_
      refine get_f (D := D) (ci := 10) (v := .int u3) (C := RX10) (T := TX10) (N := 67) hx hb hw inAX10 hown hK hP 0 rfl rfl 60 (by decide) (hw _ q_1321) (fun _ h9 => h9) i7 dX10_joins_28 ?_
      refine lv_iconst (v := 1) hx hb dX10_joins_31 (by decide) ?_
      refine lv_isub hx hb dX10_joins_32 ?_
      refine lv_ci (y := v17) ev17.symm ?_
      refine va_iald hx hb hK hP 2 0 rfl rfl (ix_k k18 (by decide) (by decide)) dX10_joins_33 ?_
      refine lv_ci (y := v19) ev19.symm ?_
      refine lv_bipush (v := 22) hx hb dX10_joins_34 (by decide) ?_
      refine lv_icmp_ne (tgt := 73) hx hb dX10_joins_36 (by decide) (fun c43 => ?_) (fun c43 => ?_)
      · have dc43 : v19.toInt ≠ 22 := ne_i (a := v19.toInt) (b := 22) rfl rfl c43
        exact ret_v hx hb hr hlocks hS hP hD dX10_joins_73 (Nat.le_of_ble_eq_true rfl) (Nat.le_of_ble_eq_true rfl) ⟨G1, u2, u3, w4, (SAME.tr SAME.rf i5 (by decide)), i6, i8, i7, (ir_wk k15 (by decide) (by decide)), i10, (JT.at ev19 (by omega) (by omega) (by omega)), i11, (JT2.at ev19 (by omega) (by omega) (by omega)), (by omega), rfl⟩
      · have dc43 : v19.toInt = 22 := eq_i (a := v19.toInt) (b := 22) rfl rfl c43
        have k44 : 22 ≤ v19.toInt ∧ v19.toInt ≤ 22 := ⟨Int.le_trans (Int.le_refl _) (Int.le_of_eq dc43.symm), Int.le_trans (Int.le_of_eq dc43) (Int.le_refl _)⟩
        refine lv_iload_n hx hb dX10_joins_39 rfl (lv_at hl 1 rfl) ?_
        refine lv_bipush (v := 22) hx hb dX10_joins_40 (by decide) ?_
        refine lv_icmp_ne (tgt := 73) hx hb dX10_joins_42 (by decide) (fun c45 => ?_) (fun c45 => ?_)
        · have dc45 : p0.toInt ≠ 22 := ne_i (a := p0.toInt) (b := 22) rfl rfl c45
          exact ret_v hx hb hr hlocks hS hP hD dX10_joins_73 (Nat.le_of_ble_eq_true rfl) (Nat.le_of_ble_eq_true rfl) ⟨G1, u2, u3, w4, (SAME.tr SAME.rf i5 (by decide)), i6, i8, i7, (ir_wk k15 (by decide) (by decide)), i10, (JT.ne (by omega)), i11, (JT2.ne (by omega)), (by omega), rfl⟩
        · have dc45 : p0.toInt = 22 := eq_i (a := p0.toInt) (b := 22) rfl rfl c45
          have k46 : 22 ≤ p0.toInt ∧ p0.toInt ≤ 22 := ⟨Int.le_trans (Int.le_refl _) (Int.le_of_eq dc45.symm), Int.le_trans (Int.le_of_eq dc45) (Int.le_refl _)⟩
          refine lv_aload_n hx hb dX10_joins_45 rfl (lv_at hl 0 rfl) ?_
          refine lv_dup hx hb dX10_joins_46 rfl ?_
          refine get_f (D := D) (ci := 10) (v := .int u3) (C := RX10) (T := TX10) (N := 67) hx hb hw inAX10 hown hK hP 0 rfl rfl 60 (by decide) (hw _ q_1321) (fun _ h9 => h9) i7 dX10_joins_47 ?_
          refine lv_iconst (v := 1) hx hb dX10_joins_50 (by decide) ?_
          refine lv_isub hx hb dX10_joins_51 ?_
          refine lv_ci (y := v17) ev17.symm ?_
          refine put_f (D := D) (ci := 10) (v := .int v17) (ty := .int) (C := RX10) (T := TX10) (N := 67) hx hb hw inAX10 tyX10 tyX10_ok nmX10 hown hK hP hD hS 0 rfl rfl 60 (by decide) (hw _ q_1321) (fun _ h9 => h9) rfl (by decide +kernel) rfl rfl dX10_joins_52 (fun H locs F47 eF47 hP hD hS => ?_)
          have hP : va_P D vwCl [(h0, .inr (10, vL 67 F47)), (h_read, .inl (cI, 135, .inl w4)), (h_stack, .inl (cI, 45, .inl f_stack))] H := hP
          have hD : va_D A [(h0, .inr (10, vL 67 F47)), (h_read, .inl (cI, 135, .inl w4)), (h_stack, .inl (cI, 45, .inl f_stack))] := hD
          refine lv_aload_n hx hb dX10_joins_55 rfl (lv_at hl 0 rfl) ?_
          refine lv_aload_n hx hb dX10_joins_56 rfl (lv_at hl 0 rfl) ?_
          have n48 : F47 57 = .ref h_stack := (get_ne eF47 (by decide) n16)
          refine get_f (D := D) (ci := 10) (v := .ref h_stack) (C := RX10) (T := TX10) (N := 67) hx hb hw inAX10 hown hK hP 0 rfl rfl 57 (by decide) (hw _ q_1318) (fun _ h9 => h9) n48 dX10_joins_57 ?_
          refine lv_aload_n hx hb dX10_joins_60 rfl (lv_at hl 0 rfl) ?_
          refine get_f (D := D) (ci := 10) (v := .int v17) (C := RX10) (T := TX10) (N := 67) hx hb hw inAX10 hown hK hP 0 rfl rfl 60 (by decide) (hw _ q_1321) (fun _ h9 => h9) (get_eq eF47) dX10_joins_61 ?_
          refine va_iald hx hb hK hP 2 0 rfl rfl (ix_k k18 (by decide) (by decide)) dX10_joins_64 ?_
          refine lv_ci (y := v19) ev19.symm ?_
          refine lv_iconst (v := 0) hx hb dX10_joins_65 (by decide) ?_
          refine lv_iconst (v := 0) hx hb dX10_joins_66 (by decide) ?_
          have n49 : G1 8 = .ref h_read := (SAME.at i5 (by decide) e_read)
          have n50 : F47 8 = .ref h_read := (get_ne eF47 (by decide) n49)
          have n51 : F47 58 = .int u2 := (get_ne eF47 (by decide) i6)
          have n52 : G1 59 = .int x_ones := (SAME.at i5 (by decide) e_ones)
          have n53 : F47 59 = .int x_ones := (get_ne eF47 (by decide) n52)
          have n54 : G1 62 = .int x_isWhole := (SAME.at i5 (by decide) e_isWhole)
          have n55 : F47 62 = .int x_isWhole := (get_ne eF47 (by decide) n54)
          refine call_Vv (wr := [(h_stack, .inl (cI, 45, .inl f_stack))]) (As := [.int v19, .int 0, .int 0]) (rest := []) hx hb hml hown hw (m_X10_code l D cI cJ cB cP cM cZ h0 h_read F47 u2 x_ones v17 x_isWhole w4 v19 0 0 _ n50 n51 (show 0 ≤ u2.toInt ∧ u2.toInt ≤ 44 from ⟨by omega, by omega⟩) n53 i_x_ones (get_eq eF47) (ir_wk k18 (by decide) (by decide)) n55 i_x_isWhole (by omega) (by omega)) wV_X10_447_X10_code dX10_joins_67 hK hP hD hS hA [0, 1] [2] rfl rfl (by decide) (by decide) (by decide) 0 10 rfl rfl GG.fb hG.at hl.1 rfl (Nat.le_of_ble_eq_true rfl) ⟨(Nat.le_of_ble_eq_true rfl), (Nat.le_of_ble_eq_true rfl)⟩ ⟨(Nat.le_of_ble_eq_true rfl), (Nat.le_of_ble_eq_true rfl)⟩ (fun u H locs hp hP hD hS => ?_)
          have zl0 : (0 : Int32).toInt = 0 := by decide
          obtain ⟨F57, y58, g59, t60, t61, t62, t63, t64, t65, rfl⟩ := hp
          have hP : va_P D vwCl [(h_stack, .inl (cI, 45, .inl f_stack)), (h0, .inr (10, vL 67 F57)), (h_read, .inl (cI, 135, .inl g59))] H := hP
          have hD : va_D A [(h_stack, .inl (cI, 45, .inl f_stack)), (h0, .inr (10, vL 67 F57)), (h_read, .inl (cI, 135, .inl g59))] := hD
          refine W.widen (k := 0) (n := 0) (Nat.le_of_ble_eq_true rfl) (Nat.le_of_ble_eq_true rfl) ?_
          refine lv_goto (tgt := 0) hx hb dX10_joins_70 (by decide) ?_
          have n67 : F57 60 = .int v17 := (SAME.at t60 (by decide) (get_eq eF47))
          exact ih (F57, y58, v17, g59) ⟨(SAME.tr (SAME.up eF47 (SAME.tr SAME.rf i5 (by decide)) (by decide)) t60 (by decide)), t61, n67, (ir_wk t62 (by decide) (by decide)), (ir_wk k18 (by decide) (by decide)), (show SMI g59 f_stack y58.toInt v17.toInt 1 from (SMI.bin i10 t64 (by omega) ev19 (by omega) (by omega) (by omega) (by omega))), (show SKJ f_stack v17.toInt x_deep.toInt x_top.toInt from (SKJ.step i11 ev19 (by omega) (by omega) (by omega) (by omega))), (by show v17.toInt + y58.toInt + x_isWhole.toInt ≤ 2 * x_ones.toInt; omega)⟩ (by show (v17.toInt).toNat < (u3.toInt).toNat; omega) _ _ _ (hP.sub [1, 2, 0] rfl) (hD.sub [1, 2, 0] (by decide) rfl) hS (lv_sub hl [0, 1] rfl)
set_option maxHeartbeats 4000000 in
set_option maxRecDepth 100000 in
theorem m_X10_nots (l : Launch) (D : va_G) (cI cJ cB cP cM cZ : ClassId) (h0 : Nat) (h_read : Nat) (h_stack : Nat) (Fh : Nat → Value) (x_codes : Int32) (x_ones : Int32) (x_top : Int32) (x_deep : Int32) (x_isWhole : Int32) (f_read : Nat → Int32) (f_stack : Nat → Int32) (sz : Nat) (e_read : Fh 8 = .ref h_read) (e_stack : Fh 57 = .ref h_stack) (e_codes : Fh 58 = .int x_codes) (i_x_codes : IR 0 45 x_codes) (e_ones : Fh 59 = .int x_ones) (i_x_ones : IR 0 20 x_ones) (e_top : Fh 60 = .int x_top) (i_x_top : IR 0 45 x_top) (e_deep : Fh 61 = .int x_deep) (i_x_deep : IR 0 46 x_deep) (e_isWhole : Fh 62 = .int x_isWhole) (i_x_isWhole : IR 0 1 x_isWhole) (z_0 : x_isWhole.toInt = 1) (z_1 : SMI f_read f_stack x_codes.toInt x_top.toInt 1) (z_2 : SKB f_stack x_top.toInt x_deep.toInt) (o_0 : x_top.toInt + x_codes.toInt + x_isWhole.toInt ≤ 2 * x_ones.toInt) : CV l yX10_nots cX10_nots 1 none { frames := 1, cells := 0, slots := 0, locals := 23 } (GG D cI cJ cB cP cM cZ) D [(h0, .inr (10, vL 67 Fh)), (h_read, .inl (cI, 135, .inl f_read)), (h_stack, .inl (cI, 45, .inl f_stack))] sz [.ref h0] (fun (u : va_W) => ∃ (Gh : Nat → Value) (y_codes : Int32) (y_top : Int32) (y_deep : Int32) (g_read : Nat → Int32), SAME [58, 60, 61] Fh Gh ∧ Gh 58 = .int y_codes ∧ IR 0 45 y_codes ∧ Gh 60 = .int y_top ∧ IR 0 45 y_top ∧ Gh 61 = .int y_deep ∧ IR 0 46 y_deep ∧ (SMI g_read f_stack y_codes.toInt y_top.toInt 1) ∧ (SKN f_stack y_top.toInt y_deep.toInt x_top.toInt) ∧ (TNN f_stack y_top.toInt) ∧ (y_top.toInt + y_codes.toInt + x_isWhole.toInt ≤ 2 * x_ones.toInt) ∧ u = [(h0, .inr (10, vL 67 Gh)), (h_read, .inl (cI, 135, .inl g_read)), (h_stack, .inl (cI, 45, .inl f_stack))]) := by
  refine CV_mk (by decide) (Nat.le_of_ble_eq_true rfl) ?_
  intro p e s m below meth c A ls E hAe hG hsz hP hD hA hS hl
  obtain ⟨hx, hb, hr, hw, hown, hlocks, hml, hnm⟩ := E
  have hK := hG.1
  have i_x_codes : 0 ≤ x_codes.toInt ∧ x_codes.toInt ≤ 45 := i_x_codes
  have i_x_ones : 0 ≤ x_ones.toInt ∧ x_ones.toInt ≤ 20 := i_x_ones
  have i_x_top : 0 ≤ x_top.toInt ∧ x_top.toInt ≤ 45 := i_x_top
  have i_x_deep : 0 ≤ x_deep.toInt ∧ x_deep.toInt ≤ 46 := i_x_deep
  have i_x_isWhole : 0 ≤ x_isWhole.toInt ∧ x_isWhole.toInt ≤ 1 := i_x_isWhole
  have hl : lv_has ls 1 [(0, .ref h0)] := hl
  refine mloop (α := (Nat → Value) × (Int32) × (Int32) × (Int32) × (Nat → Int32)) (nL := 1) (D := D) (A := A) (H0 := s.heap) (fun a => (a.2.2.1.toInt).toNat) (fun a => SAME [58, 60, 61] Fh a.1 ∧ a.1 58 = .int a.2.1 ∧ a.1 60 = .int a.2.2.1 ∧ a.1 61 = .int a.2.2.2.1 ∧ IR 0 45 a.2.1 ∧ IR 0 45 a.2.2.1 ∧ IR 0 46 a.2.2.2.1 ∧ (SMI a.2.2.2.2 f_stack a.2.1.toInt a.2.2.1.toInt 1) ∧ (SKN f_stack a.2.2.1.toInt a.2.2.2.1.toInt x_top.toInt) ∧ (a.2.2.1.toInt + a.2.1.toInt + x_isWhole.toInt ≤ 2 * x_ones.toInt)) (fun a => [(h0, .inr (10, vL 67 a.1)), (h_read, .inl (cI, 135, .inl a.2.2.2.2)), (h_stack, .inl (cI, 45, .inl f_stack))]) (fun a => [(0, .ref h0)]) (fun H locs ls => W p l e ({ frames := 1, cells := 0, slots := 0, locals := 23 } : Room) s m [.ref h0].toArray below meth c H locs 0 0 (MQ below (va_Qv (fun (u : va_W) => ∃ (Gh : Nat → Value) (y_codes : Int32) (y_top : Int32) (y_deep : Int32) (g_read : Nat → Int32), SAME [58, 60, 61] Fh Gh ∧ Gh 58 = .int y_codes ∧ IR 0 45 y_codes ∧ Gh 60 = .int y_top ∧ IR 0 45 y_top ∧ Gh 61 = .int y_deep ∧ IR 0 46 y_deep ∧ (SMI g_read f_stack y_codes.toInt y_top.toInt 1) ∧ (SKN f_stack y_top.toInt y_deep.toInt x_top.toInt) ∧ (TNN f_stack y_top.toInt) ∧ (y_top.toInt + y_codes.toInt + x_isWhole.toInt ≤ 2 * x_ones.toInt) ∧ u = [(h0, .inr (10, vL 67 Gh)), (h_read, .inl (cI, 135, .inl g_read)), (h_stack, .inl (cI, 45, .inl f_stack))]) (PO D A) A) [.ref h0].toArray s 0 0 A) (F0 m 0 ls [])) ?_ (Fh, x_codes, x_top, x_deep, f_read) ⟨SAME.rf, e_codes, e_top, e_deep, i_x_codes, i_x_top, i_x_deep, (show SMI f_read f_stack x_codes.toInt x_top.toInt 1 from z_1), (show SKN f_stack x_top.toInt x_deep.toInt x_top.toInt from (SKN.z z_2)), (by show x_top.toInt + x_codes.toInt + x_isWhole.toInt ≤ 2 * x_ones.toInt; omega)⟩ _ _ _ hP hD hS hl
  rintro ⟨G1, u2, u3, u4, w5⟩ ⟨i6, i7, i8, i9, i10, i11, i12, i13, i14, i15⟩ ih H locs ls hP hD hS hl
  have i10 : 0 ≤ u2.toInt ∧ u2.toInt ≤ 45 := i10
  have i11 : 0 ≤ u3.toInt ∧ u3.toInt ≤ 45 := i11
  have i12 : 0 ≤ u4.toInt ∧ u4.toInt ≤ 46 := i12
  have i13 : SMI w5 f_stack u2.toInt u3.toInt 1 := i13
  have i14 : SKN f_stack u3.toInt u4.toInt x_top.toInt := i14
  have i15 : u3.toInt + u2.toInt + x_isWhole.toInt ≤ 2 * x_ones.toInt := i15
  have hP : va_P D vwCl [(h0, .inr (10, vL 67 G1)), (h_read, .inl (cI, 135, .inl w5)), (h_stack, .inl (cI, 45, .inl f_stack))] H := hP
  have hD : va_D A [(h0, .inr (10, vL 67 G1)), (h_read, .inl (cI, 135, .inl w5)), (h_stack, .inl (cI, 45, .inl f_stack))] := hD
  have hl : lv_has ls 1 [(0, .ref h0)] := hl
  refine lv_aload_n hx hb dX10_nots_0 rfl (lv_at hl 0 rfl) ?_
  refine get_f (D := D) (ci := 10) (v := .int u3) (C := RX10) (T := TX10) (N := 67) hx hb hw inAX10 hown hK hP 0 rfl rfl 60 (by decide) (hw _ q_1321) (fun _ h9 => h9) i8 dX10_nots_1 ?_
  refine lv_if_le (tgt := 54) hx hb dX10_nots_4 (by decide) (fun c16 => ?_) (fun c16 => ?_)
  · have dc16 : u3.toInt ≤ 0 := le_i (a := u3.toInt) (b := 0) rfl rfl c16
    have k17 : 0 ≤ u3.toInt ∧ u3.toInt ≤ 0 := ⟨i11.1, Int.le_trans dc16 (Int.le_refl _)⟩
    exact ret_v hx hb hr hlocks hS hP hD dX10_nots_54 (Nat.le_of_ble_eq_true rfl) (Nat.le_of_ble_eq_true rfl) ⟨G1, u2, u3, u4, w5, (SAME.tr SAME.rf i6 (by decide)), i7, i10, i8, (ir_wk k17 (by decide) (by decide)), i9, i12, i13, i14, (TNN.no (by omega)), (by omega), rfl⟩
  · have dc16 : 0 < u3.toInt := nle_i (a := u3.toInt) (b := 0) rfl rfl c16
    have k18 : 1 ≤ u3.toInt ∧ u3.toInt ≤ 45 := ⟨lo_lt dc16 (Int.le_refl _) (by decide), i11.2⟩
    have h19 := SKB.dp i14.1
    refine lv_aload_n hx hb dX10_nots_7 rfl (lv_at hl 0 rfl) ?_
    have n20 : G1 57 = .ref h_stack := (SAME.at i6 (by decide) e_stack)
    refine get_f (D := D) (ci := 10) (v := .ref h_stack) (C := RX10) (T := TX10) (N := 67) hx hb hw inAX10 hown hK hP 0 rfl rfl 57 (by decide) (hw _ q_1318) (fun _ h9 => h9) n20 dX10_nots_8 ?_
    refine lv_aload_n hx hb dX10_nots_11 rfl (lv_at hl 0 rfl) ?_
    refine get_f (D := D) (ci := 10) (v := .int u3) (C := RX10) (T := TX10) (N := 67) hx hb hw inAX10 hown hK hP 0 rfl rfl 60 (by decide) (hw _ q_1321) (fun _ h9 => h9) i8 dX10_nots_12 ?_
    refine lv_iconst (v := 1) hx hb dX10_nots_15 (by decide) ?_
    refine lv_isub hx hb dX10_nots_16 ?_
    refine lv_topi (fun v21 ev21 => ?_)
    have bv21 : v21.toInt = u3.toInt - 1 := by rw [ev21]; exact sub_k rfl rfl k18 ⟨Int.le_refl _, Int.le_refl _⟩ (by decide)
    have k22 : 0 ≤ v21.toInt ∧ v21.toInt ≤ 44 := sub_r bv21 k18 ⟨Int.le_refl _, Int.le_refl _⟩ (by decide)
    refine va_iald hx hb hK hP 2 0 rfl rfl (ix_k k22 (by decide) (by decide)) dX10_nots_17 ?_
    refine lv_topi (fun v23 ev23 => ?_)
    refine lv_bipush (v := 20) hx hb dX10_nots_18 (by decide) ?_
    refine lv_icmp_ne (tgt := 54) hx hb dX10_nots_20 (by decide) (fun c24 => ?_) (fun c24 => ?_)
    · have dc24 : v23.toInt ≠ 20 := ne_i (a := v23.toInt) (b := 20) rfl rfl c24
      exact ret_v hx hb hr hlocks hS hP hD dX10_nots_54 (Nat.le_of_ble_eq_true rfl) (Nat.le_of_ble_eq_true rfl) ⟨G1, u2, u3, u4, w5, (SAME.tr SAME.rf i6 (by decide)), i7, i10, i8, (ir_wk k18 (by decide) (by decide)), i9, i12, i13, i14, (TNN.at ev23 (by omega) (by omega)), (by omega), rfl⟩
    · have dc24 : v23.toInt = 20 := eq_i (a := v23.toInt) (b := 20) rfl rfl c24
      have k25 : 20 ≤ v23.toInt ∧ v23.toInt ≤ 20 := ⟨Int.le_trans (Int.le_refl _) (Int.le_of_eq dc24.symm), Int.le_trans (Int.le_of_eq dc24) (Int.le_refl _)⟩
      refine lv_aload_n hx hb dX10_nots_23 rfl (lv_at hl 0 rfl) ?_
      refine lv_dup hx hb dX10_nots_24 rfl ?_
      refine get_f (D := D) (ci := 10) (v := .int u3) (C := RX10) (T := TX10) (N := 67) hx hb hw inAX10 hown hK hP 0 rfl rfl 60 (by decide) (hw _ q_1321) (fun _ h9 => h9) i8 dX10_nots_25 ?_
      refine lv_iconst (v := 1) hx hb dX10_nots_28 (by decide) ?_
      refine lv_isub hx hb dX10_nots_29 ?_
      refine lv_ci (y := v21) ev21.symm ?_
      refine put_f (D := D) (ci := 10) (v := .int v21) (ty := .int) (C := RX10) (T := TX10) (N := 67) hx hb hw inAX10 tyX10 tyX10_ok nmX10 hown hK hP hD hS 0 rfl rfl 60 (by decide) (hw _ q_1321) (fun _ h9 => h9) rfl (by decide +kernel) rfl rfl dX10_nots_30 (fun H locs F26 eF26 hP hD hS => ?_)
      have hP : va_P D vwCl [(h0, .inr (10, vL 67 F26)), (h_read, .inl (cI, 135, .inl w5)), (h_stack, .inl (cI, 45, .inl f_stack))] H := hP
      have hD : va_D A [(h0, .inr (10, vL 67 F26)), (h_read, .inl (cI, 135, .inl w5)), (h_stack, .inl (cI, 45, .inl f_stack))] := hD
      refine lv_aload_n hx hb dX10_nots_33 rfl (lv_at hl 0 rfl) ?_
      refine lv_dup hx hb dX10_nots_34 rfl ?_
      have n27 : F26 61 = .int u4 := (get_ne eF26 (by decide) i9)
      refine get_f (D := D) (ci := 10) (v := .int u4) (C := RX10) (T := TX10) (N := 67) hx hb hw inAX10 hown hK hP 0 rfl rfl 61 (by decide) (hw _ q_1322) (fun _ h9 => h9) n27 dX10_nots_35 ?_
      refine lv_iconst (v := 1) hx hb dX10_nots_38 (by decide) ?_
      refine lv_isub hx hb dX10_nots_39 ?_
      refine lv_topi (fun v28 ev28 => ?_)
      have bv28 : v28.toInt = u4.toInt - 1 := by rw [ev28]; exact sub_k rfl rfl i12 ⟨Int.le_refl _, Int.le_refl _⟩ (by decide)
      have k29 : (-1) ≤ v28.toInt ∧ v28.toInt ≤ 45 := sub_r bv28 i12 ⟨Int.le_refl _, Int.le_refl _⟩ (by decide)
      refine put_f (D := D) (ci := 10) (v := .int v28) (ty := .int) (C := RX10) (T := TX10) (N := 67) hx hb hw inAX10 tyX10 tyX10_ok nmX10 hown hK hP hD hS 0 rfl rfl 61 (by decide) (hw _ q_1322) (fun _ h9 => h9) rfl (by decide +kernel) rfl rfl dX10_nots_40 (fun H locs F30 eF30 hP hD hS => ?_)
      have hP : va_P D vwCl [(h0, .inr (10, vL 67 F30)), (h_read, .inl (cI, 135, .inl w5)), (h_stack, .inl (cI, 45, .inl f_stack))] H := hP
      have hD : va_D A [(h0, .inr (10, vL 67 F30)), (h_read, .inl (cI, 135, .inl w5)), (h_stack, .inl (cI, 45, .inl f_stack))] := hD
      refine lv_aload_n hx hb dX10_nots_43 rfl (lv_at hl 0 rfl) ?_
      refine lv_bipush (v := 20) hx hb dX10_nots_44 (by decide) ?_
      refine lv_iconst (v := 0) hx hb dX10_nots_46 (by decide) ?_
      refine lv_iconst (v := 0) hx hb dX10_nots_47 (by decide) ?_
      have n31 : G1 8 = .ref h_read := (SAME.at i6 (by decide) e_read)
      have n32 : F26 8 = .ref h_read := (get_ne eF26 (by decide) n31)
      have n33 : F30 8 = .ref h_read := (get_ne eF30 (by decide) n32)
      have n34 : F26 58 = .int u2 := (get_ne eF26 (by decide) i7)
      have n35 : F30 58 = .int u2 := (get_ne eF30 (by decide) n34)
      have n36 : G1 59 = .int x_ones := (SAME.at i6 (by decide) e_ones)
      have n37 : F26 59 = .int x_ones := (get_ne eF26 (by decide) n36)
      have n38 : F30 59 = .int x_ones := (get_ne eF30 (by decide) n37)
      have n39 : F30 60 = .int v21 := (get_ne eF30 (by decide) (get_eq eF26))
      have n40 : G1 62 = .int x_isWhole := (SAME.at i6 (by decide) e_isWhole)
      have n41 : F26 62 = .int x_isWhole := (get_ne eF26 (by decide) n40)
      have n42 : F30 62 = .int x_isWhole := (get_ne eF30 (by decide) n41)
      refine call_Vv (wr := [(h_stack, .inl (cI, 45, .inl f_stack))]) (As := [.int 20, .int 0, .int 0]) (rest := []) hx hb hml hown hw (m_X10_code l D cI cJ cB cP cM cZ h0 h_read F30 u2 x_ones v21 x_isWhole w5 20 0 0 _ n33 n35 (show 0 ≤ u2.toInt ∧ u2.toInt ≤ 44 from ⟨by omega, by omega⟩) n38 i_x_ones n39 (ir_wk k22 (by decide) (by decide)) n42 i_x_isWhole (by omega) (by omega)) wV_X10_447_X10_code dX10_nots_48 hK hP hD hS hA [0, 1] [2] rfl rfl (by decide) (by decide) (by decide) 0 10 rfl rfl GG.fb hG.at hl.1 rfl (Nat.le_of_ble_eq_true rfl) ⟨(Nat.le_of_ble_eq_true rfl), (Nat.le_of_ble_eq_true rfl)⟩ ⟨(Nat.le_of_ble_eq_true rfl), (Nat.le_of_ble_eq_true rfl)⟩ (fun u H locs hp hP hD hS => ?_)
      have zl0 : (0 : Int32).toInt = 0 := by decide
      have zl20 : (20 : Int32).toInt = 20 := by decide
      obtain ⟨F44, y45, g46, t47, t48, t49, t50, t51, t52, rfl⟩ := hp
      have hP : va_P D vwCl [(h_stack, .inl (cI, 45, .inl f_stack)), (h0, .inr (10, vL 67 F44)), (h_read, .inl (cI, 135, .inl g46))] H := hP
      have hD : va_D A [(h_stack, .inl (cI, 45, .inl f_stack)), (h0, .inr (10, vL 67 F44)), (h_read, .inl (cI, 135, .inl g46))] := hD
      refine W.widen (k := 0) (n := 0) (Nat.le_of_ble_eq_true rfl) (Nat.le_of_ble_eq_true rfl) ?_
      refine lv_goto (tgt := 0) hx hb dX10_nots_51 (by decide) ?_
      have n54 : F44 60 = .int v21 := (SAME.at t47 (by decide) n39)
      have n55 : F44 61 = .int v28 := (SAME.at t47 (by decide) (get_eq eF30))
      exact ih (F44, y45, v21, v28, g46) ⟨(SAME.tr (SAME.up eF30 (SAME.up eF26 (SAME.tr SAME.rf i6 (by decide)) (by decide)) (by decide)) t47 (by decide)), t48, n54, n55, (ir_wk t49 (by decide) (by decide)), (ir_wk k22 (by decide) (by decide)), (show 0 ≤ v28.toInt ∧ v28.toInt ≤ 46 from ⟨by omega, by omega⟩), (show SMI g46 f_stack y45.toInt v21.toInt 1 from (SMI.not i13 t51 (by decide) (by omega) ev23 (by omega) (by omega) (by omega) (by omega))), (show SKN f_stack v21.toInt v28.toInt x_top.toInt from (SKN.step i14 ev23 (by omega) (by omega) (by omega) (by omega) (by omega))), (by show v21.toInt + y45.toInt + x_isWhole.toInt ≤ 2 * x_ones.toInt; omega)⟩ (by show (v21.toInt).toNat < (u3.toInt).toNat; omega) _ _ _ (hP.sub [1, 2, 0] rfl) (hD.sub [1, 2, 0] (by decide) rfl) hS (lv_sub hl [0] rfl)
set_option maxHeartbeats 4000000 in
set_option maxRecDepth 100000 in
theorem m_X10_leafOf (l : Launch) (D : va_G) (cI cJ cB cP cM cZ : ClassId) (h0 : Nat) (Fh : Nat → Value) (x_token : Int32) (x_number : Int32) (x_word : Int64) (sz : Nat) (e_token : Fh 11 = .int x_token) (i_x_token : IR 0 4 x_token) (e_number : Fh 14 = .int x_number) (e_word : Fh 18 = .long x_word) (z_0 : (VWF x_token.toInt x_word.toInt)) (o_0 : (x_token.toInt = 2 → 0 ≤ x_number.toInt ∧ x_number.toInt ≤ 999)) : CI l yX10_leafOf cX10_leafOf 1 (some .int) { frames := 1, cells := 0, slots := 0, locals := 22 } (GG D cI cJ cB cP cM cZ) D [(h0, .inr (10, vL 67 Fh))] sz [.ref h0] (fun (r : Int32) (u : va_W) => IR (-1) 6 r ∧ ((0 ≤ r.toInt ∧ r.toInt ≤ 6 ∧ x_token.toInt = 1 ∧ ((r.toInt = 0 ∧ wix (g27 x_word.toInt) = 8) ∨ (1 ≤ r.toInt ∧ wix (g27 x_word.toInt) = 16 + r.toInt))) ∨ (r.toInt = -1 ∧ ¬ (x_token.toInt = 1 ∧ (wix (g27 x_word.toInt) = 8 ∨ (17 ≤ wix (g27 x_word.toInt) ∧ wix (g27 x_word.toInt) ≤ 22))))) ∧ u = [(h0, .inr (10, vL 67 Fh))]) := by
  refine CI_mk (by decide) (Nat.le_of_ble_eq_true rfl) ?_
  intro p e s m below meth c A ls E hAe hG hsz hP hD hA hS hl
  obtain ⟨hx, hb, hr, hw, hown, hlocks, hml, hnm⟩ := E
  have hK := hG.1
  have i_x_token : 0 ≤ x_token.toInt ∧ x_token.toInt ≤ 4 := i_x_token
  have hl : lv_has ls 1 [(0, .ref h0)] := hl
  refine lv_aload_n hx hb dX10_leafOf_0 rfl (lv_at hl 0 rfl) ?_
  refine lv_ldc2 hx hb hown (hw _ q_1242) dX10_leafOf_1 ?_
  refine call_Vi (wr := []) (As := [.long 1668441463]) (rest := []) hx hb hml hown hw (m_X10_isWord l D cI cJ cB cP cM cZ h0 Fh x_token x_number x_word 1668441463 _ e_token i_x_token e_number e_word (by omega)) wV_X10_225_X10_isWord dX10_leafOf_4 hK hP hD hS hA [0] [] rfl rfl (by decide) (by decide) (by decide) 0 10 rfl rfl GG.fb hG.at hl.1 rfl (Nat.le_of_ble_eq_true rfl) ⟨(Nat.le_of_ble_eq_true rfl), (Nat.le_of_ble_eq_true rfl)⟩ ⟨(Nat.le_of_ble_eq_true rfl), (Nat.le_of_ble_eq_true rfl)⟩ (fun r1 u H locs hp hP hD hS => ?_)
  have zl1668441463 : (1668441463 : Int32).toInt = 1668441463 := by decide
  obtain ⟨t2, t3, rfl⟩ := hp
  have hP : va_P D vwCl [(h0, .inr (10, vL 67 Fh))] H := hP
  have hD : va_D A [(h0, .inr (10, vL 67 Fh))] := hD
  refine W.widen (k := 0) (n := 0) (Nat.le_of_ble_eq_true rfl) (Nat.le_of_ble_eq_true rfl) ?_
  replace t3 := (isw (k := 8) (a := 72329) z_0 t3 (by decide) (by decide +kernel) (by decide +kernel) (by decide +kernel) (by decide +kernel))
  refine lv_if_eq (tgt := 14) hx hb dX10_leafOf_7 (by decide) (fun c5 => ?_) (fun c5 => ?_)
  · have dc5 : r1.toInt = 0 := eq_i (a := r1.toInt) (b := 0) rfl rfl c5
    have k6 : 0 ≤ r1.toInt ∧ r1.toInt ≤ 0 := ⟨t2.1, Int.le_trans (Int.le_of_eq dc5) (Int.le_refl _)⟩
    refine lv_aload_n hx hb dX10_leafOf_14 rfl (lv_at hl 0 rfl) ?_
    refine lv_ldc2 hx hb hown (hw _ q_1251) dX10_leafOf_15 ?_
    refine call_Vi (wr := []) (As := [.long 1734702195]) (rest := []) hx hb hml hown hw (m_X10_isWord l D cI cJ cB cP cM cZ h0 Fh x_token x_number x_word 1734702195 _ e_token i_x_token e_number e_word (by omega)) wV_X10_225_X10_isWord dX10_leafOf_18 hK hP hD hS hA [0] [] rfl rfl (by decide) (by decide) (by decide) 0 10 rfl rfl GG.fb hG.at hl.1 rfl (Nat.le_of_ble_eq_true rfl) ⟨(Nat.le_of_ble_eq_true rfl), (Nat.le_of_ble_eq_true rfl)⟩ ⟨(Nat.le_of_ble_eq_true rfl), (Nat.le_of_ble_eq_true rfl)⟩ (fun r7 u H locs hp hP hD hS => ?_)
    have zl1734702195 : (1734702195 : Int32).toInt = 1734702195 := by decide
    obtain ⟨t8, t9, rfl⟩ := hp
    have hP : va_P D vwCl [(h0, .inr (10, vL 67 Fh))] H := hP
    have hD : va_D A [(h0, .inr (10, vL 67 Fh))] := hD
    refine W.widen (k := 0) (n := 0) (Nat.le_of_ble_eq_true rfl) (Nat.le_of_ble_eq_true rfl) ?_
    replace t9 := (isw (k := 17) (a := 141985) z_0 t9 (by decide) (by decide +kernel) (by decide +kernel) (by decide +kernel) (by decide +kernel))
    refine lv_if_eq (tgt := 28) hx hb dX10_leafOf_21 (by decide) (fun c11 => ?_) (fun c11 => ?_)
    · have dc11 : r7.toInt = 0 := eq_i (a := r7.toInt) (b := 0) rfl rfl c11
      have k12 : 0 ≤ r7.toInt ∧ r7.toInt ≤ 0 := ⟨t8.1, Int.le_trans (Int.le_of_eq dc11) (Int.le_refl _)⟩
      refine lv_aload_n hx hb dX10_leafOf_28 rfl (lv_at hl 0 rfl) ?_
      refine lv_ldc2 hx hb hown (hw _ q_1252) dX10_leafOf_29 ?_
      refine call_Vi (wr := []) (As := [.long 418363302244]) (rest := []) hx hb hml hown hw (m_X10_isWord l D cI cJ cB cP cM cZ h0 Fh x_token x_number x_word 418363302244 _ e_token i_x_token e_number e_word (by omega)) wV_X10_225_X10_isWord dX10_leafOf_32 hK hP hD hS hA [0] [] rfl rfl (by decide) (by decide) (by decide) 0 10 rfl rfl GG.fb hG.at hl.1 rfl (Nat.le_of_ble_eq_true rfl) ⟨(Nat.le_of_ble_eq_true rfl), (Nat.le_of_ble_eq_true rfl)⟩ ⟨(Nat.le_of_ble_eq_true rfl), (Nat.le_of_ble_eq_true rfl)⟩ (fun r13 u H locs hp hP hD hS => ?_)
      obtain ⟨t14, t15, rfl⟩ := hp
      have hP : va_P D vwCl [(h0, .inr (10, vL 67 Fh))] H := hP
      have hD : va_D A [(h0, .inr (10, vL 67 Fh))] := hD
      refine W.widen (k := 0) (n := 0) (Nat.le_of_ble_eq_true rfl) (Nat.le_of_ble_eq_true rfl) ?_
      replace t15 := (isw (k := 18) (a := 692581) z_0 t15 (by decide) (by decide +kernel) (by decide +kernel) (by decide +kernel) (by decide +kernel))
      refine lv_if_eq (tgt := 42) hx hb dX10_leafOf_35 (by decide) (fun c17 => ?_) (fun c17 => ?_)
      · have dc17 : r13.toInt = 0 := eq_i (a := r13.toInt) (b := 0) rfl rfl c17
        have k18 : 0 ≤ r13.toInt ∧ r13.toInt ≤ 0 := ⟨t14.1, Int.le_trans (Int.le_of_eq dc17) (Int.le_refl _)⟩
        refine lv_aload_n hx hb dX10_leafOf_42 rfl (lv_at hl 0 rfl) ?_
        refine lv_ldc2 hx hb hown (hw _ q_1253) dX10_leafOf_43 ?_
        refine call_Vi (wr := []) (As := [.long 1886745448]) (rest := []) hx hb hml hown hw (m_X10_isWord l D cI cJ cB cP cM cZ h0 Fh x_token x_number x_word 1886745448 _ e_token i_x_token e_number e_word (by omega)) wV_X10_225_X10_isWord dX10_leafOf_46 hK hP hD hS hA [0] [] rfl rfl (by decide) (by decide) (by decide) 0 10 rfl rfl GG.fb hG.at hl.1 rfl (Nat.le_of_ble_eq_true rfl) ⟨(Nat.le_of_ble_eq_true rfl), (Nat.le_of_ble_eq_true rfl)⟩ ⟨(Nat.le_of_ble_eq_true rfl), (Nat.le_of_ble_eq_true rfl)⟩ (fun r19 u H locs hp hP hD hS => ?_)
        have zl1886745448 : (1886745448 : Int32).toInt = 1886745448 := by decide
        obtain ⟨t20, t21, rfl⟩ := hp
        have hP : va_P D vwCl [(h0, .inr (10, vL 67 Fh))] H := hP
        have hD : va_D A [(h0, .inr (10, vL 67 Fh))] := hD
        refine W.widen (k := 0) (n := 0) (Nat.le_of_ble_eq_true rfl) (Nat.le_of_ble_eq_true rfl) ?_
        replace t21 := (isw (k := 19) (a := 330758) z_0 t21 (by decide) (by decide +kernel) (by decide +kernel) (by decide +kernel) (by decide +kernel))
        refine lv_if_eq (tgt := 56) hx hb dX10_leafOf_49 (by decide) (fun c23 => ?_) (fun c23 => ?_)
        · have dc23 : r19.toInt = 0 := eq_i (a := r19.toInt) (b := 0) rfl rfl c23
          have k24 : 0 ≤ r19.toInt ∧ r19.toInt ≤ 0 := ⟨t20.1, Int.le_trans (Int.le_of_eq dc23) (Int.le_refl _)⟩
          refine lv_aload_n hx hb dX10_leafOf_56 rfl (lv_at hl 0 rfl) ?_
          refine lv_ldc2 hx hb hown (hw _ q_1254) dX10_leafOf_57 ?_
          refine call_Vi (wr := []) (As := [.long 1717921140]) (rest := []) hx hb hml hown hw (m_X10_isWord l D cI cJ cB cP cM cZ h0 Fh x_token x_number x_word 1717921140 _ e_token i_x_token e_number e_word (by omega)) wV_X10_225_X10_isWord dX10_leafOf_60 hK hP hD hS hA [0] [] rfl rfl (by decide) (by decide) (by decide) 0 10 rfl rfl GG.fb hG.at hl.1 rfl (Nat.le_of_ble_eq_true rfl) ⟨(Nat.le_of_ble_eq_true rfl), (Nat.le_of_ble_eq_true rfl)⟩ ⟨(Nat.le_of_ble_eq_true rfl), (Nat.le_of_ble_eq_true rfl)⟩ (fun r25 u H locs hp hP hD hS => ?_)
          have zl1717921140 : (1717921140 : Int32).toInt = 1717921140 := by decide
          obtain ⟨t26, t27, rfl⟩ := hp
          have hP : va_P D vwCl [(h0, .inr (10, vL 67 Fh))] H := hP
          have hD : va_D A [(h0, .inr (10, vL 67 Fh))] := hD
          refine W.widen (k := 0) (n := 0) (Nat.le_of_ble_eq_true rfl) (Nat.le_of_ble_eq_true rfl) ?_
          replace t27 := (isw (k := 20) (a := 121898) z_0 t27 (by decide) (by decide +kernel) (by decide +kernel) (by decide +kernel) (by decide +kernel))
          refine lv_if_eq (tgt := 70) hx hb dX10_leafOf_63 (by decide) (fun c29 => ?_) (fun c29 => ?_)
          · have dc29 : r25.toInt = 0 := eq_i (a := r25.toInt) (b := 0) rfl rfl c29
            have k30 : 0 ≤ r25.toInt ∧ r25.toInt ≤ 0 := ⟨t26.1, Int.le_trans (Int.le_of_eq dc29) (Int.le_refl _)⟩
            refine lv_aload_n hx hb dX10_leafOf_70 rfl (lv_at hl 0 rfl) ?_
            refine lv_ldc2 hx hb hown (hw _ q_1255) dX10_leafOf_71 ?_
            refine call_Vi (wr := []) (As := [.long 131277443786868]) (rest := []) hx hb hml hown hw (m_X10_isWord l D cI cJ cB cP cM cZ h0 Fh x_token x_number x_word 131277443786868 _ e_token i_x_token e_number e_word (by omega)) wV_X10_225_X10_isWord dX10_leafOf_74 hK hP hD hS hA [0] [] rfl rfl (by decide) (by decide) (by decide) 0 10 rfl rfl GG.fb hG.at hl.1 rfl (Nat.le_of_ble_eq_true rfl) ⟨(Nat.le_of_ble_eq_true rfl), (Nat.le_of_ble_eq_true rfl)⟩ ⟨(Nat.le_of_ble_eq_true rfl), (Nat.le_of_ble_eq_true rfl)⟩ (fun r31 u H locs hp hP hD hS => ?_)
            obtain ⟨t32, t33, rfl⟩ := hp
            have hP : va_P D vwCl [(h0, .inr (10, vL 67 Fh))] H := hP
            have hD : va_D A [(h0, .inr (10, vL 67 Fh))] := hD
            refine W.widen (k := 0) (n := 0) (Nat.le_of_ble_eq_true rfl) (Nat.le_of_ble_eq_true rfl) ?_
            replace t33 := (isw (k := 21) (a := 332864552) z_0 t33 (by decide) (by decide +kernel) (by decide +kernel) (by decide +kernel) (by decide +kernel))
            refine lv_if_eq (tgt := 84) hx hb dX10_leafOf_77 (by decide) (fun c35 => ?_) (fun c35 => ?_)
            · have dc35 : r31.toInt = 0 := eq_i (a := r31.toInt) (b := 0) rfl rfl c35
              have k36 : 0 ≤ r31.toInt ∧ r31.toInt ≤ 0 := ⟨t32.1, Int.le_trans (Int.le_of_eq dc35) (Int.le_refl _)⟩
              refine lv_aload_n hx hb dX10_leafOf_84 rfl (lv_at hl 0 rfl) ?_
              refine lv_ldc2 hx hb hown (hw _ q_1256) dX10_leafOf_85 ?_
              refine call_Vi (wr := []) (As := [.long 121450625394034]) (rest := []) hx hb hml hown hw (m_X10_isWord l D cI cJ cB cP cM cZ h0 Fh x_token x_number x_word 121450625394034 _ e_token i_x_token e_number e_word (by omega)) wV_X10_225_X10_isWord dX10_leafOf_88 hK hP hD hS hA [0] [] rfl rfl (by decide) (by decide) (by decide) 0 10 rfl rfl GG.fb hG.at hl.1 rfl (Nat.le_of_ble_eq_true rfl) ⟨(Nat.le_of_ble_eq_true rfl), (Nat.le_of_ble_eq_true rfl)⟩ ⟨(Nat.le_of_ble_eq_true rfl), (Nat.le_of_ble_eq_true rfl)⟩ (fun r37 u H locs hp hP hD hS => ?_)
              obtain ⟨t38, t39, rfl⟩ := hp
              have hP : va_P D vwCl [(h0, .inr (10, vL 67 Fh))] H := hP
              have hD : va_D A [(h0, .inr (10, vL 67 Fh))] := hD
              refine W.widen (k := 0) (n := 0) (Nat.le_of_ble_eq_true rfl) (Nat.le_of_ble_eq_true rfl) ?_
              replace t39 := (isw (k := 22) (a := 212302449) z_0 t39 (by decide) (by decide +kernel) (by decide +kernel) (by decide +kernel) (by decide +kernel))
              refine lv_if_eq (tgt := 99) hx hb dX10_leafOf_91 (by decide) (fun c41 => ?_) (fun c41 => ?_)
              · have dc41 : r37.toInt = 0 := eq_i (a := r37.toInt) (b := 0) rfl rfl c41
                have k42 : 0 ≤ r37.toInt ∧ r37.toInt ≤ 0 := ⟨t38.1, Int.le_trans (Int.le_of_eq dc41) (Int.le_refl _)⟩
                refine lv_iconst (v := (-1)) hx hb dX10_leafOf_99 (by decide) ?_
                exact ret_i (v := (-1)) hx hb hr hlocks hS hP hD dX10_leafOf_100 rfl (Nat.le_of_ble_eq_true rfl) (Nat.le_of_ble_eq_true rfl) ⟨(show (-1) ≤ ((-1) : Int32).toInt ∧ ((-1) : Int32).toInt ≤ 6 by decide), (by have zlm1 : ((-1) : Int32).toInt = (-1) := (by decide); omega), rfl⟩
              · have dc41 : r37.toInt ≠ 0 := ne_i (a := r37.toInt) (b := 0) rfl rfl c41
                have k43 : 1 ≤ r37.toInt ∧ r37.toInt ≤ 1 := ⟨ne_lo dc41 t38.1 ⟨Int.le_refl _, Int.le_refl _⟩ (by decide), t38.2⟩
                refine lv_bipush (v := 6) hx hb dX10_leafOf_94 (by decide) ?_
                refine lv_goto (tgt := 100) hx hb dX10_leafOf_96 (by decide) ?_
                exact ret_i (v := 6) hx hb hr hlocks hS hP hD dX10_leafOf_100 rfl (Nat.le_of_ble_eq_true rfl) (Nat.le_of_ble_eq_true rfl) ⟨(show (-1) ≤ (6 : Int32).toInt ∧ (6 : Int32).toInt ≤ 6 by decide), (by have zl6 : (6 : Int32).toInt = 6 := (by decide); omega), rfl⟩
            · have dc35 : r31.toInt ≠ 0 := ne_i (a := r31.toInt) (b := 0) rfl rfl c35
              have k44 : 1 ≤ r31.toInt ∧ r31.toInt ≤ 1 := ⟨ne_lo dc35 t32.1 ⟨Int.le_refl _, Int.le_refl _⟩ (by decide), t32.2⟩
              refine lv_iconst (v := 5) hx hb dX10_leafOf_80 (by decide) ?_
              refine lv_goto (tgt := 100) hx hb dX10_leafOf_81 (by decide) ?_
              exact ret_i (v := 5) hx hb hr hlocks hS hP hD dX10_leafOf_100 rfl (Nat.le_of_ble_eq_true rfl) (Nat.le_of_ble_eq_true rfl) ⟨(show (-1) ≤ (5 : Int32).toInt ∧ (5 : Int32).toInt ≤ 6 by decide), (by have zl5 : (5 : Int32).toInt = 5 := (by decide); omega), rfl⟩
          · have dc29 : r25.toInt ≠ 0 := ne_i (a := r25.toInt) (b := 0) rfl rfl c29
            have k45 : 1 ≤ r25.toInt ∧ r25.toInt ≤ 1 := ⟨ne_lo dc29 t26.1 ⟨Int.le_refl _, Int.le_refl _⟩ (by decide), t26.2⟩
            refine lv_iconst (v := 4) hx hb dX10_leafOf_66 (by decide) ?_
            refine lv_goto (tgt := 100) hx hb dX10_leafOf_67 (by decide) ?_
            exact ret_i (v := 4) hx hb hr hlocks hS hP hD dX10_leafOf_100 rfl (Nat.le_of_ble_eq_true rfl) (Nat.le_of_ble_eq_true rfl) ⟨(show (-1) ≤ (4 : Int32).toInt ∧ (4 : Int32).toInt ≤ 6 by decide), (by have zl4 : (4 : Int32).toInt = 4 := (by decide); omega), rfl⟩
        · have dc23 : r19.toInt ≠ 0 := ne_i (a := r19.toInt) (b := 0) rfl rfl c23
          have k46 : 1 ≤ r19.toInt ∧ r19.toInt ≤ 1 := ⟨ne_lo dc23 t20.1 ⟨Int.le_refl _, Int.le_refl _⟩ (by decide), t20.2⟩
          refine lv_iconst (v := 3) hx hb dX10_leafOf_52 (by decide) ?_
          refine lv_goto (tgt := 100) hx hb dX10_leafOf_53 (by decide) ?_
          exact ret_i (v := 3) hx hb hr hlocks hS hP hD dX10_leafOf_100 rfl (Nat.le_of_ble_eq_true rfl) (Nat.le_of_ble_eq_true rfl) ⟨(show (-1) ≤ (3 : Int32).toInt ∧ (3 : Int32).toInt ≤ 6 by decide), (by have zl3 : (3 : Int32).toInt = 3 := (by decide); omega), rfl⟩
      · have dc17 : r13.toInt ≠ 0 := ne_i (a := r13.toInt) (b := 0) rfl rfl c17
        have k47 : 1 ≤ r13.toInt ∧ r13.toInt ≤ 1 := ⟨ne_lo dc17 t14.1 ⟨Int.le_refl _, Int.le_refl _⟩ (by decide), t14.2⟩
        refine lv_iconst (v := 2) hx hb dX10_leafOf_38 (by decide) ?_
        refine lv_goto (tgt := 100) hx hb dX10_leafOf_39 (by decide) ?_
        exact ret_i (v := 2) hx hb hr hlocks hS hP hD dX10_leafOf_100 rfl (Nat.le_of_ble_eq_true rfl) (Nat.le_of_ble_eq_true rfl) ⟨(show (-1) ≤ (2 : Int32).toInt ∧ (2 : Int32).toInt ≤ 6 by decide), (by have zl2 : (2 : Int32).toInt = 2 := (by decide); omega), rfl⟩
    · have dc11 : r7.toInt ≠ 0 := ne_i (a := r7.toInt) (b := 0) rfl rfl c11
      have k48 : 1 ≤ r7.toInt ∧ r7.toInt ≤ 1 := ⟨ne_lo dc11 t8.1 ⟨Int.le_refl _, Int.le_refl _⟩ (by decide), t8.2⟩
      refine lv_iconst (v := 1) hx hb dX10_leafOf_24 (by decide) ?_
      refine lv_goto (tgt := 100) hx hb dX10_leafOf_25 (by decide) ?_
      exact ret_i (v := 1) hx hb hr hlocks hS hP hD dX10_leafOf_100 rfl (Nat.le_of_ble_eq_true rfl) (Nat.le_of_ble_eq_true rfl) ⟨(show (-1) ≤ (1 : Int32).toInt ∧ (1 : Int32).toInt ≤ 6 by decide), (by have zl1 : (1 : Int32).toInt = 1 := (by decide); omega), rfl⟩
  · have dc5 : r1.toInt ≠ 0 := ne_i (a := r1.toInt) (b := 0) rfl rfl c5
    have k49 : 1 ≤ r1.toInt ∧ r1.toInt ≤ 1 := ⟨ne_lo dc5 t2.1 ⟨Int.le_refl _, Int.le_refl _⟩ (by decide), t2.2⟩
    refine lv_iconst (v := 0) hx hb dX10_leafOf_10 (by decide) ?_
    refine lv_goto (tgt := 100) hx hb dX10_leafOf_11 (by decide) ?_
    exact ret_i (v := 0) hx hb hr hlocks hS hP hD dX10_leafOf_100 rfl (Nat.le_of_ble_eq_true rfl) (Nat.le_of_ble_eq_true rfl) ⟨(show (-1) ≤ (0 : Int32).toInt ∧ (0 : Int32).toInt ≤ 6 by decide), (by have zl0 : (0 : Int32).toInt = 0 := (by decide); omega), rfl⟩
set_option maxHeartbeats 4000000 in
set_option maxRecDepth 100000 in
theorem m_X10_operand (l : Launch) (D : va_G) (cI cJ cB cP cM cZ : ClassId) (h0 : Nat) (h_tape : Nat) (h_s : Nat) (h_read : Nat) (h_names : Nat) (h_reserved : Nat) (h_stack : Nat) (Fh : Nat → Value) (x_size : Int32) (x_p : Int32) (x_limit : Int32) (x_token : Int32) (x_at : Int32) (x_span : Int32) (x_number : Int32) (x_fault : Int32) (x_faultAt : Int32) (x_word : Int64) (x_codes : Int32) (x_ones : Int32) (x_top : Int32) (x_deep : Int32) (x_isWhole : Int32) (f_tape : Nat → Int32) (f_s : Nat → Int32) (f_read : Nat → Int32) (f_names : Nat → Int64) (f_reserved : Nat → Int64) (f_stack : Nat → Int32) (bs : Nat → Int32) (sz : Nat) (e_tape : Fh 1 = .ref h_tape) (e_size : Fh 3 = .int x_size) (i_x_size : IR 0 940 x_size) (e_p : Fh 4 = .int x_p) (i_x_p : IR 0 940 x_p) (e_limit : Fh 5 = .int x_limit) (i_x_limit : IR 200 940 x_limit) (e_s : Fh 6 = .ref h_s) (e_read : Fh 8 = .ref h_read) (e_names : Fh 9 = .ref h_names) (e_reserved : Fh 10 = .ref h_reserved) (e_token : Fh 11 = .int x_token) (i_x_token : IR 0 4 x_token) (e_at : Fh 12 = .int x_at) (e_span : Fh 13 = .int x_span) (e_number : Fh 14 = .int x_number) (e_fault : Fh 15 = .int x_fault) (e_faultAt : Fh 16 = .int x_faultAt) (e_word : Fh 18 = .long x_word) (e_stack : Fh 57 = .ref h_stack) (e_codes : Fh 58 = .int x_codes) (i_x_codes : IR 0 45 x_codes) (e_ones : Fh 59 = .int x_ones) (i_x_ones : IR 0 20 x_ones) (e_top : Fh 60 = .int x_top) (i_x_top : IR 0 45 x_top) (e_deep : Fh 61 = .int x_deep) (i_x_deep : IR 0 46 x_deep) (e_isWhole : Fh 62 = .int x_isWhole) (i_x_isWhole : IR 0 1 x_isWhole) (s_s_K0 : KW 0 f_s) (s_s_US : US bs f_s) (s_s_0 : SG 0 0 0 40 f_s) (s_s_105 : SG 105 108 0 11 f_s) (s_s_114 : SG 114 114 0 5 f_s) (s_s_130 : SG 130 133 0 11 f_s) (s_s_139 : SG 139 139 0 5 f_s) (s_s_153 : SG 153 153 0 44 f_s) (s_s_44 : SG 44 55 0 9 f_s) (s_s_5 : SG 5 5 0 12 f_s) (s_s_6 : SG 6 6 0 12 f_s) (s_s_7 : SG 7 7 0 6 f_s) (s_reserved_KR : KRN f_reserved) (z_0 : x_isWhole.toInt = 0) (z_1 : SMI f_read f_stack x_codes.toInt x_top.toInt 0) (z_2 : (VWF x_token.toInt x_word.toInt)) (z_3 : SKB f_stack x_top.toInt x_deep.toInt) (z_4 : AV f_names 0 (f_s 5).toInt) (o_0 : (x_token.toInt = 2 → 0 ≤ x_number.toInt ∧ x_number.toInt ≤ 999)) (o_1 : x_top.toInt + x_codes.toInt + x_isWhole.toInt ≤ 2 * x_ones.toInt) : CI l yX10_operand cX10_operand 5 (some .boolean) { frames := 2, cells := 0, slots := 0, locals := 43 } (GG D cI cJ cB cP cM cZ) D [(h0, .inr (10, vL 67 Fh)), (h_tape, .inl (cB, 940, .inl f_tape)), (h_s, .inl (cI, 335, .inl f_s)), (h_read, .inl (cI, 135, .inl f_read)), (h_names, .inl (cJ, 36, .inr (.inl f_names))), (h_reserved, .inl (cJ, 23, .inr (.inl f_reserved))), (h_stack, .inl (cI, 45, .inl f_stack))] sz [.ref h0] (fun (r : Int32) (u : va_W) => (∃ (Gh : Nat → Value) (y_p : Int32) (y_token : Int32) (y_at : Int32) (y_span : Int32) (y_number : Int32) (y_fault : Int32) (y_faultAt : Int32) (y_word : Int64) (y_ones : Int32) (y_isWhole : Int32), SAME [4, 11, 12, 13, 14, 15, 16, 18, 59, 62] Fh Gh ∧ Gh 4 = .int y_p ∧ IR 0 940 y_p ∧ Gh 11 = .int y_token ∧ IR 0 4 y_token ∧ Gh 12 = .int y_at ∧ Gh 13 = .int y_span ∧ Gh 14 = .int y_number ∧ Gh 15 = .int y_fault ∧ IR 1 4 y_fault ∧ Gh 16 = .int y_faultAt ∧ Gh 18 = .long y_word ∧ Gh 59 = .int y_ones ∧ IR 0 20 y_ones ∧ Gh 62 = .int y_isWhole ∧ IR 0 1 y_isWhole ∧ ((r.toInt = 1 → (1 ≤ x_token.toInt ∧ x_token.toInt ≤ 3 ∧ x_p.toInt ≤ y_p.toInt ∧ (1 ≤ y_token.toInt → y_token.toInt ≤ 3 → x_p.toInt < y_p.toInt)))) ∧ ((r.toInt = 1 → SMI f_read f_stack x_codes.toInt x_top.toInt y_isWhole.toInt)) ∧ ((r.toInt = 1 → (VWF y_token.toInt y_word.toInt))) ∧ (Gos (tkA f_tape x_size.toInt x_limit.toInt) (nmM f_names 0 (f_s 5).toInt) ((abF f_stack x_top.toInt.toNat), 0, x_ones.toInt, (tkM x_token x_at x_number x_word x_p)) (.inl (y_fault.toInt, y_faultAt.toInt))) ∧ ((y_token.toInt = 2 → 0 ≤ y_number.toInt ∧ y_number.toInt ≤ 999)) ∧ (x_top.toInt + x_codes.toInt + y_isWhole.toInt ≤ 2 * y_ones.toInt) ∧ r = 0 ∧ u = [(h0, .inr (10, vL 67 Gh)), (h_tape, .inl (cB, 940, .inl f_tape)), (h_s, .inl (cI, 335, .inl f_s)), (h_read, .inl (cI, 135, .inl f_read)), (h_names, .inl (cJ, 36, .inr (.inl f_names))), (h_reserved, .inl (cJ, 23, .inr (.inl f_reserved))), (h_stack, .inl (cI, 45, .inl f_stack))]) ∨ (∃ (Gh : Nat → Value) (y_p : Int32) (y_token : Int32) (y_at : Int32) (y_span : Int32) (y_number : Int32) (y_word : Int64) (y_codes : Int32) (y_ones : Int32) (y_top : Int32) (y_deep : Int32) (y_isWhole : Int32) (g_read : Nat → Int32) (g_stack : Nat → Int32), SAME [4, 11, 12, 13, 14, 18, 58, 59, 60, 61, 62] Fh Gh ∧ Gh 4 = .int y_p ∧ IR 0 940 y_p ∧ Gh 11 = .int y_token ∧ IR 0 4 y_token ∧ Gh 12 = .int y_at ∧ IR 0 940 y_at ∧ Gh 13 = .int y_span ∧ IR 0 940 y_span ∧ Gh 14 = .int y_number ∧ Gh 18 = .long y_word ∧ Gh 58 = .int y_codes ∧ IR 0 45 y_codes ∧ Gh 59 = .int y_ones ∧ IR 1 20 y_ones ∧ Gh 60 = .int y_top ∧ IR 0 45 y_top ∧ Gh 61 = .int y_deep ∧ IR 0 9 y_deep ∧ Gh 62 = .int y_isWhole ∧ IR 0 1 y_isWhole ∧ ((r.toInt = 1 → (1 ≤ x_token.toInt ∧ x_token.toInt ≤ 3 ∧ x_p.toInt ≤ y_p.toInt ∧ (1 ≤ y_token.toInt → y_token.toInt ≤ 3 → x_p.toInt < y_p.toInt)))) ∧ ((r.toInt = 1 → SMI g_read g_stack y_codes.toInt y_top.toInt y_isWhole.toInt)) ∧ ((r.toInt = 1 → (VWF y_token.toInt y_word.toInt))) ∧ (∀ r9 : Sum Flt Int, Gos (tkA f_tape x_size.toInt x_limit.toInt) (nmM f_names 0 (f_s 5).toInt) ((abF g_stack y_top.toInt.toNat), y_isWhole.toInt, y_ones.toInt, (tkM y_token y_at y_number y_word y_p)) r9 → Gos (tkA f_tape x_size.toInt x_limit.toInt) (nmM f_names 0 (f_s 5).toInt) ((abF f_stack x_top.toInt.toNat), 0, x_ones.toInt, (tkM x_token x_at x_number x_word x_p)) r9) ∧ (SKB g_stack y_top.toInt y_deep.toInt) ∧ ((y_token.toInt = 2 → 0 ≤ y_number.toInt ∧ y_number.toInt ≤ 999)) ∧ (y_top.toInt + y_codes.toInt + y_isWhole.toInt ≤ 2 * y_ones.toInt) ∧ r = 1 ∧ u = [(h0, .inr (10, vL 67 Gh)), (h_tape, .inl (cB, 940, .inl f_tape)), (h_s, .inl (cI, 335, .inl f_s)), (h_read, .inl (cI, 135, .inl g_read)), (h_names, .inl (cJ, 36, .inr (.inl f_names))), (h_reserved, .inl (cJ, 23, .inr (.inl f_reserved))), (h_stack, .inl (cI, 45, .inl g_stack))])) := by
  refine CI_mk (by decide) (Nat.le_of_ble_eq_true rfl) ?_
  intro p e s m below meth c A ls E hAe hG hsz hP hD hA hS hl
  obtain ⟨hx, hb, hr, hw, hown, hlocks, hml, hnm⟩ := E
  have hK := hG.1
  have i_x_size : 0 ≤ x_size.toInt ∧ x_size.toInt ≤ 940 := i_x_size
  have i_x_p : 0 ≤ x_p.toInt ∧ x_p.toInt ≤ 940 := i_x_p
  have i_x_limit : 200 ≤ x_limit.toInt ∧ x_limit.toInt ≤ 940 := i_x_limit
  have i_x_token : 0 ≤ x_token.toInt ∧ x_token.toInt ≤ 4 := i_x_token
  have i_x_codes : 0 ≤ x_codes.toInt ∧ x_codes.toInt ≤ 45 := i_x_codes
  have i_x_ones : 0 ≤ x_ones.toInt ∧ x_ones.toInt ≤ 20 := i_x_ones
  have i_x_top : 0 ≤ x_top.toInt ∧ x_top.toInt ≤ 45 := i_x_top
  have i_x_deep : 0 ≤ x_deep.toInt ∧ x_deep.toInt ≤ 46 := i_x_deep
  have i_x_isWhole : 0 ≤ x_isWhole.toInt ∧ x_isWhole.toInt ≤ 1 := i_x_isWhole
  have hl : lv_has ls 5 [(0, .ref h0)] := hl
  refine lv_aload_n hx hb dX10_operand_0 rfl (lv_at hl 0 rfl) ?_
  refine lv_ldc2 hx hb hown (hw _ q_1250) dX10_operand_1 ?_
  refine call_Vi (wr := [(h_tape, .inl (cB, 940, .inl f_tape)), (h_s, .inl (cI, 335, .inl f_s)), (h_read, .inl (cI, 135, .inl f_read)), (h_names, .inl (cJ, 36, .inr (.inl f_names))), (h_reserved, .inl (cJ, 23, .inr (.inl f_reserved))), (h_stack, .inl (cI, 45, .inl f_stack))]) (As := [.long 7237492]) (rest := []) hx hb hml hown hw (m_X10_isWord l D cI cJ cB cP cM cZ h0 Fh x_token x_number x_word 7237492 _ e_token i_x_token e_number e_word (by omega)) wV_X10_225_X10_isWord dX10_operand_4 hK hP hD hS hA [0] [1, 2, 3, 4, 5, 6] rfl rfl (by decide) (by decide) (by decide) 0 10 rfl rfl GG.fb hG.at hl.1 rfl (Nat.le_of_ble_eq_true rfl) ⟨(Nat.le_of_ble_eq_true rfl), (Nat.le_of_ble_eq_true rfl)⟩ ⟨(Nat.le_of_ble_eq_true rfl), (Nat.le_of_ble_eq_true rfl)⟩ (fun r1 u H locs hp hP hD hS => ?_)
  have zl7237492 : (7237492 : Int32).toInt = 7237492 := by decide
  obtain ⟨t2, t3, rfl⟩ := hp
  have hP : va_P D vwCl [(h_tape, .inl (cB, 940, .inl f_tape)), (h_s, .inl (cI, 335, .inl f_s)), (h_read, .inl (cI, 135, .inl f_read)), (h_names, .inl (cJ, 36, .inr (.inl f_names))), (h_reserved, .inl (cJ, 23, .inr (.inl f_reserved))), (h_stack, .inl (cI, 45, .inl f_stack)), (h0, .inr (10, vL 67 Fh))] H := hP
  have hD : va_D A [(h_tape, .inl (cB, 940, .inl f_tape)), (h_s, .inl (cI, 335, .inl f_s)), (h_read, .inl (cI, 135, .inl f_read)), (h_names, .inl (cJ, 36, .inr (.inl f_names))), (h_reserved, .inl (cJ, 23, .inr (.inl f_reserved))), (h_stack, .inl (cI, 45, .inl f_stack)), (h0, .inr (10, vL 67 Fh))] := hD
  refine W.widen (k := 0) (n := 0) (Nat.le_of_ble_eq_true rfl) (Nat.le_of_ble_eq_true rfl) ?_
  replace t3 := ISWF.mk (isw (k := 16) (a := 10631) z_2 t3 (by decide) (by decide +kernel) (by decide +kernel) (by decide +kernel) (by decide +kernel))
  refine lv_istore_n (lv' := [(1, .int r1), (0, .ref h0)]) hx hb dX10_operand_7 rfl hl (by decide) rfl (fun ls hl => ?_)
  refine lv_aload_n hx hb dX10_operand_8 rfl (lv_at hl 1 rfl) ?_
  refine lv_bipush (v := 40) hx hb dX10_operand_9 (by decide) ?_
  refine call_Vi (wr := [(h_tape, .inl (cB, 940, .inl f_tape)), (h_s, .inl (cI, 335, .inl f_s)), (h_read, .inl (cI, 135, .inl f_read)), (h_names, .inl (cJ, 36, .inr (.inl f_names))), (h_reserved, .inl (cJ, 23, .inr (.inl f_reserved))), (h_stack, .inl (cI, 45, .inl f_stack))]) (As := [.int 40]) (rest := []) hx hb hml hown hw (m_X10_isSign l D cI cJ cB cP cM cZ h0 Fh x_token x_number 40 _ e_token i_x_token e_number (by omega)) wV_X10_202_X10_isSign dX10_operand_11 hK hP hD hS hA [6] [0, 1, 2, 3, 4, 5] rfl rfl (by decide) (by decide) (by decide) 0 10 rfl rfl GG.fb hG.at hl.1 rfl (Nat.le_of_ble_eq_true rfl) ⟨(Nat.le_of_ble_eq_true rfl), (Nat.le_of_ble_eq_true rfl)⟩ ⟨(Nat.le_of_ble_eq_true rfl), (Nat.le_of_ble_eq_true rfl)⟩ (fun r5 u H locs hp hP hD hS => ?_)
  have zl40 : (40 : Int32).toInt = 40 := by decide
  obtain ⟨t6, t7, rfl⟩ := hp
  have hP : va_P D vwCl [(h_tape, .inl (cB, 940, .inl f_tape)), (h_s, .inl (cI, 335, .inl f_s)), (h_read, .inl (cI, 135, .inl f_read)), (h_names, .inl (cJ, 36, .inr (.inl f_names))), (h_reserved, .inl (cJ, 23, .inr (.inl f_reserved))), (h_stack, .inl (cI, 45, .inl f_stack)), (h0, .inr (10, vL 67 Fh))] H := hP
  have hD : va_D A [(h_tape, .inl (cB, 940, .inl f_tape)), (h_s, .inl (cI, 335, .inl f_s)), (h_read, .inl (cI, 135, .inl f_read)), (h_names, .inl (cJ, 36, .inr (.inl f_names))), (h_reserved, .inl (cJ, 23, .inr (.inl f_reserved))), (h_stack, .inl (cI, 45, .inl f_stack)), (h0, .inr (10, vL 67 Fh))] := hD
  refine W.widen (k := 0) (n := 0) (Nat.le_of_ble_eq_true rfl) (Nat.le_of_ble_eq_true rfl) ?_
  replace t7 := ISGF.mk t7
  refine lv_istore_n (lv' := [(2, .int r5), (1, .int r1), (0, .ref h0)]) hx hb dX10_operand_14 rfl hl (by decide) rfl (fun ls hl => ?_)
  refine lv_aload_n hx hb dX10_operand_15 rfl (lv_at hl 2 rfl) ?_
  refine call_Vi (wr := [(h_tape, .inl (cB, 940, .inl f_tape)), (h_s, .inl (cI, 335, .inl f_s)), (h_read, .inl (cI, 135, .inl f_read)), (h_names, .inl (cJ, 36, .inr (.inl f_names))), (h_reserved, .inl (cJ, 23, .inr (.inl f_reserved))), (h_stack, .inl (cI, 45, .inl f_stack))]) (As := []) (rest := []) hx hb hml hown hw (m_X10_leafOf l D cI cJ cB cP cM cZ h0 Fh x_token x_number x_word _ e_token i_x_token e_number e_word z_2 (by omega)) wV_X10_454_X10_leafOf dX10_operand_16 hK hP hD hS hA [6] [0, 1, 2, 3, 4, 5] rfl rfl (by decide) (by decide) (by decide) 0 10 rfl rfl GG.fb hG.at hl.1 rfl (Nat.le_of_ble_eq_true rfl) ⟨(Nat.le_of_ble_eq_true rfl), (Nat.le_of_ble_eq_true rfl)⟩ ⟨(Nat.le_of_ble_eq_true rfl), (Nat.le_of_ble_eq_true rfl)⟩ (fun r9 u H locs hp hP hD hS => ?_)
  obtain ⟨t10, t11, rfl⟩ := hp
  have hP : va_P D vwCl [(h_tape, .inl (cB, 940, .inl f_tape)), (h_s, .inl (cI, 335, .inl f_s)), (h_read, .inl (cI, 135, .inl f_read)), (h_names, .inl (cJ, 36, .inr (.inl f_names))), (h_reserved, .inl (cJ, 23, .inr (.inl f_reserved))), (h_stack, .inl (cI, 45, .inl f_stack)), (h0, .inr (10, vL 67 Fh))] H := hP
  have hD : va_D A [(h_tape, .inl (cB, 940, .inl f_tape)), (h_s, .inl (cI, 335, .inl f_s)), (h_read, .inl (cI, 135, .inl f_read)), (h_names, .inl (cJ, 36, .inr (.inl f_names))), (h_reserved, .inl (cJ, 23, .inr (.inl f_reserved))), (h_stack, .inl (cI, 45, .inl f_stack)), (h0, .inr (10, vL 67 Fh))] := hD
  refine W.widen (k := 0) (n := 0) (Nat.le_of_ble_eq_true rfl) (Nat.le_of_ble_eq_true rfl) ?_
  replace t11 := LEFF.mk t11
  refine lv_istore_n (lv' := [(3, .int r9), (2, .int r5), (1, .int r1), (0, .ref h0)]) hx hb dX10_operand_19 rfl hl (by decide) rfl (fun ls hl => ?_)
  refine lv_iload_n hx hb dX10_operand_20 rfl (lv_at hl 2 rfl) ?_
  refine lv_if_ne (tgt := 38) hx hb dX10_operand_21 (by decide) (fun c13 => ?_) (fun c13 => ?_)
  · have dc13 : r1.toInt ≠ 0 := ne_i (a := r1.toInt) (b := 0) rfl rfl c13
    have k14 : 1 ≤ r1.toInt ∧ r1.toInt ≤ 1 := ⟨ne_lo dc13 t2.1 ⟨Int.le_refl _, Int.le_refl _⟩ (by decide), t2.2⟩
    have h15 := ISWF.t t3 (by omega)
    refine lv_aload_n hx hb dX10_operand_38 rfl (lv_at hl 3 rfl) ?_
    refine get_f (D := D) (ci := 10) (v := .int x_ones) (C := RX10) (T := TX10) (N := 67) hx hb hw inAX10 hown hK hP 6 rfl rfl 59 (by decide) (hw _ q_1320) (fun _ h9 => h9) e_ones dX10_operand_39 ?_
    refine lv_bipush (v := 20) hx hb dX10_operand_42 (by decide) ?_
    refine lv_icmp_eq (tgt := 56) hx hb dX10_operand_44 (by decide) (fun c16 => ?_) (fun c16 => ?_)
    · have dc16 : x_ones.toInt = 20 := eq_i (a := x_ones.toInt) (b := 20) rfl rfl c16
      have k17 : 20 ≤ x_ones.toInt ∧ x_ones.toInt ≤ 20 := ⟨Int.le_trans (Int.le_refl _) (Int.le_of_eq dc16.symm), i_x_ones.2⟩
      refine lv_aload_n hx hb dX10_operand_56 rfl (lv_at hl 3 rfl) ?_
      refine lv_iconst (v := 4) hx hb dX10_operand_57 (by decide) ?_
      refine call_Vi (wr := [(h_tape, .inl (cB, 940, .inl f_tape)), (h_s, .inl (cI, 335, .inl f_s)), (h_read, .inl (cI, 135, .inl f_read)), (h_names, .inl (cJ, 36, .inr (.inl f_names))), (h_reserved, .inl (cJ, 23, .inr (.inl f_reserved))), (h_stack, .inl (cI, 45, .inl f_stack))]) (As := [.int 4]) (rest := []) hx hb hml hown hw (m_X10_bad l D cI cJ cB cP cM cZ h0 Fh x_at 4 _ e_at) wV_X10_205_X10_bad dX10_operand_58 hK hP hD hS hA [6] [0, 1, 2, 3, 4, 5] rfl rfl (by decide) (by decide) (by decide) 0 10 rfl rfl GG.fb hG.at hl.1 rfl (Nat.le_of_ble_eq_true rfl) ⟨(Nat.le_of_ble_eq_true rfl), (Nat.le_of_ble_eq_true rfl)⟩ ⟨(Nat.le_of_ble_eq_true rfl), (Nat.le_of_ble_eq_true rfl)⟩ (fun r18 u H locs hp hP hD hS => ?_)
      have zl4 : (4 : Int32).toInt = 4 := by decide
      obtain ⟨F19, t20, t21, t22, rfl, rfl⟩ := hp
      have hP : va_P D vwCl [(h_tape, .inl (cB, 940, .inl f_tape)), (h_s, .inl (cI, 335, .inl f_s)), (h_read, .inl (cI, 135, .inl f_read)), (h_names, .inl (cJ, 36, .inr (.inl f_names))), (h_reserved, .inl (cJ, 23, .inr (.inl f_reserved))), (h_stack, .inl (cI, 45, .inl f_stack)), (h0, .inr (10, vL 67 F19))] H := hP
      have hD : va_D A [(h_tape, .inl (cB, 940, .inl f_tape)), (h_s, .inl (cI, 335, .inl f_s)), (h_read, .inl (cI, 135, .inl f_read)), (h_names, .inl (cJ, 36, .inr (.inl f_names))), (h_reserved, .inl (cJ, 23, .inr (.inl f_reserved))), (h_stack, .inl (cI, 45, .inl f_stack)), (h0, .inr (10, vL 67 F19))] := hD
      refine W.widen (k := 0) (n := 0) (Nat.le_of_ble_eq_true rfl) (Nat.le_of_ble_eq_true rfl) ?_
      exact ret_i (v := 0) hx hb hr hlocks hS (hP.sub (ws' := [(h0, .inr (10, vL 67 F19)), (h_tape, .inl (cB, 940, .inl f_tape)), (h_s, .inl (cI, 335, .inl f_s)), (h_read, .inl (cI, 135, .inl f_read)), (h_names, .inl (cJ, 36, .inr (.inl f_names))), (h_reserved, .inl (cJ, 23, .inr (.inl f_reserved))), (h_stack, .inl (cI, 45, .inl f_stack))]) [6, 0, 1, 2, 3, 4, 5] rfl) (hD.sub (ws' := [(h0, .inr (10, vL 67 F19)), (h_tape, .inl (cB, 940, .inl f_tape)), (h_s, .inl (cI, 335, .inl f_s)), (h_read, .inl (cI, 135, .inl f_read)), (h_names, .inl (cJ, 36, .inr (.inl f_names))), (h_reserved, .inl (cJ, 23, .inr (.inl f_reserved))), (h_stack, .inl (cI, 45, .inl f_stack))]) [6, 0, 1, 2, 3, 4, 5] (by decide) rfl) dX10_operand_61 rfl (Nat.le_of_ble_eq_true rfl) (Nat.le_of_ble_eq_true rfl) (Or.inl ⟨F19, x_p, x_token, x_at, x_span, x_number, 4, x_at, x_word, x_ones, x_isWhole, (SAME.tr SAME.rf t20 (by decide)), (SAME.at t20 (by decide) e_p), i_x_p, (SAME.at t20 (by decide) e_token), i_x_token, (SAME.at t20 (by decide) e_at), (SAME.at t20 (by decide) e_span), (SAME.at t20 (by decide) e_number), t21, (show 1 ≤ (4 : Int32).toInt ∧ (4 : Int32).toInt ≤ 4 by decide), t22, (SAME.at t20 (by decide) e_word), (SAME.at t20 (by decide) e_ones), (ir_wk k17 (by decide) (by decide)), (SAME.at t20 (by decide) e_isWhole), i_x_isWhole, (by have zl0 : (0 : Int32).toInt = 0 := (by decide); have zl4 : (4 : Int32).toInt = 4 := (by decide); omega), (fun q => absurd q (by decide)), (fun q => absurd q (by decide)), (gq_4 (sbM_w (by omega) (by omega)) (by have hd9 := z_3.2.1; omega) rfl), (by have zl4 : (4 : Int32).toInt = 4 := (by decide); omega), (by have zl4 : (4 : Int32).toInt = 4 := (by decide); omega), rfl, rfl⟩)
    · have dc16 : x_ones.toInt ≠ 20 := ne_i (a := x_ones.toInt) (b := 20) rfl rfl c16
      have k24 : 0 ≤ x_ones.toInt ∧ x_ones.toInt ≤ 19 := ⟨i_x_ones.1, ne_hi dc16 i_x_ones.2 ⟨Int.le_refl _, Int.le_refl _⟩ (by decide)⟩
      refine lv_aload_n hx hb dX10_operand_47 rfl (lv_at hl 3 rfl) ?_
      refine get_f (D := D) (ci := 10) (v := .int x_deep) (C := RX10) (T := TX10) (N := 67) hx hb hw inAX10 hown hK hP 6 rfl rfl 61 (by decide) (hw _ q_1322) (fun _ h9 => h9) e_deep dX10_operand_48 ?_
      refine lv_bipush (v := 8) hx hb dX10_operand_51 (by decide) ?_
      refine lv_icmp_le (tgt := 62) hx hb dX10_operand_53 (by decide) (fun c25 => ?_) (fun c25 => ?_)
      · have dc25 : x_deep.toInt ≤ 8 := le_i (a := x_deep.toInt) (b := 8) rfl rfl c25
        have k26 : 0 ≤ x_deep.toInt ∧ x_deep.toInt ≤ 8 := ⟨i_x_deep.1, Int.le_trans dc25 (Int.le_refl _)⟩
        refine lv_aload_n hx hb dX10_operand_62 rfl (lv_at hl 3 rfl) ?_
        refine lv_dup hx hb dX10_operand_63 rfl ?_
        refine get_f (D := D) (ci := 10) (v := .int x_ones) (C := RX10) (T := TX10) (N := 67) hx hb hw inAX10 hown hK hP 6 rfl rfl 59 (by decide) (hw _ q_1320) (fun _ h9 => h9) e_ones dX10_operand_64 ?_
        refine lv_iconst (v := 1) hx hb dX10_operand_67 (by decide) ?_
        refine lv_iadd hx hb dX10_operand_68 ?_
        refine lv_topi (fun v27 ev27 => ?_)
        have bv27 : v27.toInt = x_ones.toInt + 1 := by rw [ev27]; exact add_k rfl rfl k24 ⟨Int.le_refl _, Int.le_refl _⟩ (by decide)
        have k28 : 1 ≤ v27.toInt ∧ v27.toInt ≤ 20 := add_r bv27 k24 ⟨Int.le_refl _, Int.le_refl _⟩ (by decide)
        refine put_f (D := D) (ci := 10) (v := .int v27) (ty := .int) (C := RX10) (T := TX10) (N := 67) hx hb hw inAX10 tyX10 tyX10_ok nmX10 hown hK hP hD hS 6 rfl rfl 59 (by decide) (hw _ q_1320) (fun _ h9 => h9) rfl (by decide +kernel) rfl rfl dX10_operand_69 (fun H locs F29 eF29 hP hD hS => ?_)
        have hP : va_P D vwCl [(h_tape, .inl (cB, 940, .inl f_tape)), (h_s, .inl (cI, 335, .inl f_s)), (h_read, .inl (cI, 135, .inl f_read)), (h_names, .inl (cJ, 36, .inr (.inl f_names))), (h_reserved, .inl (cJ, 23, .inr (.inl f_reserved))), (h_stack, .inl (cI, 45, .inl f_stack)), (h0, .inr (10, vL 67 F29))] H := hP
        have hD : va_D A [(h_tape, .inl (cB, 940, .inl f_tape)), (h_s, .inl (cI, 335, .inl f_s)), (h_read, .inl (cI, 135, .inl f_read)), (h_names, .inl (cJ, 36, .inr (.inl f_names))), (h_reserved, .inl (cJ, 23, .inr (.inl f_reserved))), (h_stack, .inl (cI, 45, .inl f_stack)), (h0, .inr (10, vL 67 F29))] := hD
        refine lv_aload_n hx hb dX10_operand_72 rfl (lv_at hl 3 rfl) ?_
        have n30 : F29 1 = .ref h_tape := (get_ne eF29 (by decide) e_tape)
        have n31 : F29 3 = .int x_size := (get_ne eF29 (by decide) e_size)
        have n32 : F29 4 = .int x_p := (get_ne eF29 (by decide) e_p)
        have n33 : F29 5 = .int x_limit := (get_ne eF29 (by decide) e_limit)
        have n34 : F29 11 = .int x_token := (get_ne eF29 (by decide) e_token)
        have n35 : F29 12 = .int x_at := (get_ne eF29 (by decide) e_at)
        have n36 : F29 14 = .int x_number := (get_ne eF29 (by decide) e_number)
        have n37 : F29 18 = .long x_word := (get_ne eF29 (by decide) e_word)
        refine call_Vv (wr := [(h_s, .inl (cI, 335, .inl f_s)), (h_read, .inl (cI, 135, .inl f_read)), (h_names, .inl (cJ, 36, .inr (.inl f_names))), (h_reserved, .inl (cJ, 23, .inr (.inl f_reserved))), (h_stack, .inl (cI, 45, .inl f_stack))]) (As := []) (rest := []) hx hb hml hown hw (m_X10_next l D cI cJ cB cP cM cZ h0 h_tape F29 x_size x_p x_limit x_token x_at x_number x_word f_tape _ n30 n31 i_x_size n32 i_x_p n33 i_x_limit n34 i_x_token n35 n36 n37 (by omega)) wV_X10_208_X10_next dX10_operand_73 hK hP hD hS hA [6, 0] [1, 2, 3, 4, 5] rfl rfl (by decide) (by decide) (by decide) 0 10 rfl rfl GG.fb hG.at hl.1 rfl (Nat.le_of_ble_eq_true rfl) ⟨(Nat.le_of_ble_eq_true rfl), (Nat.le_of_ble_eq_true rfl)⟩ ⟨(Nat.le_of_ble_eq_true rfl), (Nat.le_of_ble_eq_true rfl)⟩ (fun u H locs hp hP hD hS => ?_)
        obtain ⟨F39, y40, y41, y42, y43, y44, y45, t46, t47, t48, t49, t50, t51, t52, t53, t54, t55, t56, t57, t58, t59, t60, t61, rfl⟩ := hp
        have hP : va_P D vwCl [(h_s, .inl (cI, 335, .inl f_s)), (h_read, .inl (cI, 135, .inl f_read)), (h_names, .inl (cJ, 36, .inr (.inl f_names))), (h_reserved, .inl (cJ, 23, .inr (.inl f_reserved))), (h_stack, .inl (cI, 45, .inl f_stack)), (h0, .inr (10, vL 67 F39)), (h_tape, .inl (cB, 940, .inl f_tape))] H := hP
        have hD : va_D A [(h_s, .inl (cI, 335, .inl f_s)), (h_read, .inl (cI, 135, .inl f_read)), (h_names, .inl (cJ, 36, .inr (.inl f_names))), (h_reserved, .inl (cJ, 23, .inr (.inl f_reserved))), (h_stack, .inl (cI, 45, .inl f_stack)), (h0, .inr (10, vL 67 F39)), (h_tape, .inl (cB, 940, .inl f_tape))] := hD
        refine W.widen (k := 0) (n := 0) (Nat.le_of_ble_eq_true rfl) (Nat.le_of_ble_eq_true rfl) ?_
        refine lv_iload_n hx hb dX10_operand_76 rfl (lv_at hl 2 rfl) ?_
        refine lv_if_ne (tgt := 84) hx hb dX10_operand_77 (by decide) (fun c63 => ?_) (fun c63 => False.elim (bad_le (Int.le_of_eq (eq_i (a := r1.toInt) (b := 0) rfl rfl c63)) k14.1 (Int.le_refl _) (by decide)))
        have dc63 : r1.toInt ≠ 0 := ne_i (a := r1.toInt) (b := 0) rfl rfl c63
        refine lv_aload_n hx hb dX10_operand_84 rfl (lv_at hl 3 rfl) ?_
        have n64 : F29 57 = .ref h_stack := (get_ne eF29 (by decide) e_stack)
        have n65 : F39 57 = .ref h_stack := (SAME.at t46 (by decide) n64)
        refine get_f (D := D) (ci := 10) (v := .ref h_stack) (C := RX10) (T := TX10) (N := 67) hx hb hw inAX10 hown hK hP 5 rfl rfl 57 (by decide) (hw _ q_1318) (fun _ h9 => h9) n65 dX10_operand_85 ?_
        refine lv_aload_n hx hb dX10_operand_88 rfl (lv_at hl 3 rfl) ?_
        have n66 : F29 60 = .int x_top := (get_ne eF29 (by decide) e_top)
        have n67 : F39 60 = .int x_top := (SAME.at t46 (by decide) n66)
        refine get_f (D := D) (ci := 10) (v := .int x_top) (C := RX10) (T := TX10) (N := 67) hx hb hw inAX10 hown hK hP 5 rfl rfl 60 (by decide) (hw _ q_1321) (fun _ h9 => h9) n67 dX10_operand_89 ?_
        refine lv_iload_n hx hb dX10_operand_92 rfl (lv_at hl 2 rfl) ?_
        refine lv_if_eq (tgt := 101) hx hb dX10_operand_93 (by decide) (fun c68 => False.elim (bad_le (Int.le_of_eq (eq_i (a := r1.toInt) (b := 0) rfl rfl c68)) k14.1 (Int.le_refl _) (by decide))) (fun c68 => ?_)
        have dc68 : r1.toInt ≠ 0 := ne_i (a := r1.toInt) (b := 0) rfl rfl c68
        refine lv_bipush (v := 20) hx hb dX10_operand_96 (by decide) ?_
        refine lv_goto (tgt := 103) hx hb dX10_operand_98 (by decide) ?_
        obtain ⟨g69, eg69⟩ : ∃ z : Nat → Int32, upd f_stack x_top.toNatClampNeg 20 = z := ⟨_, rfl⟩
        refine iast_g hx hb hK hP hD hS 4 0 rfl rfl (ix_i (by omega) (by omega)) eg69 dX10_operand_103 (fun H locs hP hD hS => ?_)
        have hP : va_P D vwCl [(h_s, .inl (cI, 335, .inl f_s)), (h_read, .inl (cI, 135, .inl f_read)), (h_names, .inl (cJ, 36, .inr (.inl f_names))), (h_reserved, .inl (cJ, 23, .inr (.inl f_reserved))), (h_stack, .inl (cI, 45, .inl g69)), (h0, .inr (10, vL 67 F39)), (h_tape, .inl (cB, 940, .inl f_tape))] H := hP
        have hD : va_D A [(h_s, .inl (cI, 335, .inl f_s)), (h_read, .inl (cI, 135, .inl f_read)), (h_names, .inl (cJ, 36, .inr (.inl f_names))), (h_reserved, .inl (cJ, 23, .inr (.inl f_reserved))), (h_stack, .inl (cI, 45, .inl g69)), (h0, .inr (10, vL 67 F39)), (h_tape, .inl (cB, 940, .inl f_tape))] := hD
        refine lv_aload_n hx hb dX10_operand_104 rfl (lv_at hl 3 rfl) ?_
        refine lv_dup hx hb dX10_operand_105 rfl ?_
        refine get_f (D := D) (ci := 10) (v := .int x_top) (C := RX10) (T := TX10) (N := 67) hx hb hw inAX10 hown hK hP 5 rfl rfl 60 (by decide) (hw _ q_1321) (fun _ h9 => h9) n67 dX10_operand_106 ?_
        refine lv_iconst (v := 1) hx hb dX10_operand_109 (by decide) ?_
        refine lv_iadd hx hb dX10_operand_110 ?_
        refine lv_topi (fun v70 ev70 => ?_)
        have bv70 : v70.toInt = x_top.toInt + 1 := by rw [ev70]; exact add_k rfl rfl i_x_top ⟨Int.le_refl _, Int.le_refl _⟩ (by decide)
        have k71 : 1 ≤ v70.toInt ∧ v70.toInt ≤ 46 := add_r bv70 i_x_top ⟨Int.le_refl _, Int.le_refl _⟩ (by decide)
        refine put_f (D := D) (ci := 10) (v := .int v70) (ty := .int) (C := RX10) (T := TX10) (N := 67) hx hb hw inAX10 tyX10 tyX10_ok nmX10 hown hK hP hD hS 5 rfl rfl 60 (by decide) (hw _ q_1321) (fun _ h9 => h9) rfl (by decide +kernel) rfl rfl dX10_operand_111 (fun H locs F72 eF72 hP hD hS => ?_)
        have hP : va_P D vwCl [(h_s, .inl (cI, 335, .inl f_s)), (h_read, .inl (cI, 135, .inl f_read)), (h_names, .inl (cJ, 36, .inr (.inl f_names))), (h_reserved, .inl (cJ, 23, .inr (.inl f_reserved))), (h_stack, .inl (cI, 45, .inl g69)), (h0, .inr (10, vL 67 F72)), (h_tape, .inl (cB, 940, .inl f_tape))] H := hP
        have hD : va_D A [(h_s, .inl (cI, 335, .inl f_s)), (h_read, .inl (cI, 135, .inl f_read)), (h_names, .inl (cJ, 36, .inr (.inl f_names))), (h_reserved, .inl (cJ, 23, .inr (.inl f_reserved))), (h_stack, .inl (cI, 45, .inl g69)), (h0, .inr (10, vL 67 F72)), (h_tape, .inl (cB, 940, .inl f_tape))] := hD
        refine lv_aload_n hx hb dX10_operand_114 rfl (lv_at hl 3 rfl) ?_
        refine lv_dup hx hb dX10_operand_115 rfl ?_
        have n73 : F29 61 = .int x_deep := (get_ne eF29 (by decide) e_deep)
        have n74 : F39 61 = .int x_deep := (SAME.at t46 (by decide) n73)
        have n75 : F72 61 = .int x_deep := (get_ne eF72 (by decide) n74)
        refine get_f (D := D) (ci := 10) (v := .int x_deep) (C := RX10) (T := TX10) (N := 67) hx hb hw inAX10 hown hK hP 5 rfl rfl 61 (by decide) (hw _ q_1322) (fun _ h9 => h9) n75 dX10_operand_116 ?_
        refine lv_iconst (v := 1) hx hb dX10_operand_119 (by decide) ?_
        refine lv_iadd hx hb dX10_operand_120 ?_
        refine lv_topi (fun v76 ev76 => ?_)
        have bv76 : v76.toInt = x_deep.toInt + 1 := by rw [ev76]; exact add_k rfl rfl k26 ⟨Int.le_refl _, Int.le_refl _⟩ (by decide)
        have k77 : 1 ≤ v76.toInt ∧ v76.toInt ≤ 9 := add_r bv76 k26 ⟨Int.le_refl _, Int.le_refl _⟩ (by decide)
        refine put_f (D := D) (ci := 10) (v := .int v76) (ty := .int) (C := RX10) (T := TX10) (N := 67) hx hb hw inAX10 tyX10 tyX10_ok nmX10 hown hK hP hD hS 5 rfl rfl 61 (by decide) (hw _ q_1322) (fun _ h9 => h9) rfl (by decide +kernel) rfl rfl dX10_operand_121 (fun H locs F78 eF78 hP hD hS => ?_)
        have hP : va_P D vwCl [(h_s, .inl (cI, 335, .inl f_s)), (h_read, .inl (cI, 135, .inl f_read)), (h_names, .inl (cJ, 36, .inr (.inl f_names))), (h_reserved, .inl (cJ, 23, .inr (.inl f_reserved))), (h_stack, .inl (cI, 45, .inl g69)), (h0, .inr (10, vL 67 F78)), (h_tape, .inl (cB, 940, .inl f_tape))] H := hP
        have hD : va_D A [(h_s, .inl (cI, 335, .inl f_s)), (h_read, .inl (cI, 135, .inl f_read)), (h_names, .inl (cJ, 36, .inr (.inl f_names))), (h_reserved, .inl (cJ, 23, .inr (.inl f_reserved))), (h_stack, .inl (cI, 45, .inl g69)), (h0, .inr (10, vL 67 F78)), (h_tape, .inl (cB, 940, .inl f_tape))] := hD
        refine lv_iconst (v := 1) hx hb dX10_operand_124 (by decide) ?_
        exact ret_i (v := 1) hx hb hr hlocks hS (hP.sub (ws' := [(h0, .inr (10, vL 67 F78)), (h_tape, .inl (cB, 940, .inl f_tape)), (h_s, .inl (cI, 335, .inl f_s)), (h_read, .inl (cI, 135, .inl f_read)), (h_names, .inl (cJ, 36, .inr (.inl f_names))), (h_reserved, .inl (cJ, 23, .inr (.inl f_reserved))), (h_stack, .inl (cI, 45, .inl g69))]) [5, 6, 0, 1, 2, 3, 4] rfl) (hD.sub (ws' := [(h0, .inr (10, vL 67 F78)), (h_tape, .inl (cB, 940, .inl f_tape)), (h_s, .inl (cI, 335, .inl f_s)), (h_read, .inl (cI, 135, .inl f_read)), (h_names, .inl (cJ, 36, .inr (.inl f_names))), (h_reserved, .inl (cJ, 23, .inr (.inl f_reserved))), (h_stack, .inl (cI, 45, .inl g69))]) [5, 6, 0, 1, 2, 3, 4] (by decide) rfl) dX10_operand_125 rfl (Nat.le_of_ble_eq_true rfl) (Nat.le_of_ble_eq_true rfl) (Or.inr ⟨F78, y40, y41, y42, y43, y44, y45, x_codes, v27, v70, v76, x_isWhole, f_read, g69, (SAME.up eF78 (SAME.up eF72 (SAME.tr (SAME.up eF29 SAME.rf (by decide)) t46 (by decide)) (by decide)) (by decide)), (get_ne eF78 (by decide) (get_ne eF72 (by decide) t47)), t48, (get_ne eF78 (by decide) (get_ne eF72 (by decide) t49)), t50, (get_ne eF78 (by decide) (get_ne eF72 (by decide) t51)), t52, (get_ne eF78 (by decide) (get_ne eF72 (by decide) t53)), t54, (get_ne eF78 (by decide) (get_ne eF72 (by decide) t55)), (get_ne eF78 (by decide) (get_ne eF72 (by decide) t56)), (get_ne eF78 (by decide) (get_ne eF72 (by decide) (SAME.at t46 (by decide) (get_ne eF29 (by decide) e_codes)))), i_x_codes, (get_ne eF78 (by decide) (get_ne eF72 (by decide) (SAME.at t46 (by decide) (get_eq eF29)))), k28, (get_ne eF78 (by decide) (get_eq eF72)), (show 0 ≤ v70.toInt ∧ v70.toInt ≤ 45 from ⟨by omega, by omega⟩), (get_eq eF78), (ir_wk k77 (by decide) (by decide)), (get_ne eF78 (by decide) (get_ne eF72 (by decide) (SAME.at t46 (by decide) (get_ne eF29 (by decide) e_isWhole)))), i_x_isWhole, (by have zl1 : (1 : Int32).toInt = 1 := (by decide); omega), (fun _ => SMI.w (SMI.push z_1 eg69 (by omega) (by decide) (by omega)) (by omega)), (fun _ => t60), (fun r9 g9 => gq_nt (tkM_1st (by omega)) (lnwM (by omega) (by omega)) (by have hd9 := z_3.2.1; omega) (atM t59 (by omega)) (SKB.p20 z_3 eg69 (by omega) (by decide) (by omega) (by omega)).2 (by omega) (by omega) g9), (SKB.p20 z_3 eg69 (by omega) (by decide) (by omega) (by omega)).1, (by omega), (by omega), rfl, rfl⟩)
      · have dc25 : 8 < x_deep.toInt := nle_i (a := x_deep.toInt) (b := 8) rfl rfl c25
        have k79 : 9 ≤ x_deep.toInt ∧ x_deep.toInt ≤ 46 := ⟨lo_lt dc25 (Int.le_refl _) (by decide), i_x_deep.2⟩
        refine lv_aload_n hx hb dX10_operand_56 rfl (lv_at hl 3 rfl) ?_
        refine lv_iconst (v := 4) hx hb dX10_operand_57 (by decide) ?_
        refine call_Vi (wr := [(h_tape, .inl (cB, 940, .inl f_tape)), (h_s, .inl (cI, 335, .inl f_s)), (h_read, .inl (cI, 135, .inl f_read)), (h_names, .inl (cJ, 36, .inr (.inl f_names))), (h_reserved, .inl (cJ, 23, .inr (.inl f_reserved))), (h_stack, .inl (cI, 45, .inl f_stack))]) (As := [.int 4]) (rest := []) hx hb hml hown hw (m_X10_bad l D cI cJ cB cP cM cZ h0 Fh x_at 4 _ e_at) wV_X10_205_X10_bad dX10_operand_58 hK hP hD hS hA [6] [0, 1, 2, 3, 4, 5] rfl rfl (by decide) (by decide) (by decide) 0 10 rfl rfl GG.fb hG.at hl.1 rfl (Nat.le_of_ble_eq_true rfl) ⟨(Nat.le_of_ble_eq_true rfl), (Nat.le_of_ble_eq_true rfl)⟩ ⟨(Nat.le_of_ble_eq_true rfl), (Nat.le_of_ble_eq_true rfl)⟩ (fun r80 u H locs hp hP hD hS => ?_)
        have zl4 : (4 : Int32).toInt = 4 := by decide
        obtain ⟨F81, t82, t83, t84, rfl, rfl⟩ := hp
        have hP : va_P D vwCl [(h_tape, .inl (cB, 940, .inl f_tape)), (h_s, .inl (cI, 335, .inl f_s)), (h_read, .inl (cI, 135, .inl f_read)), (h_names, .inl (cJ, 36, .inr (.inl f_names))), (h_reserved, .inl (cJ, 23, .inr (.inl f_reserved))), (h_stack, .inl (cI, 45, .inl f_stack)), (h0, .inr (10, vL 67 F81))] H := hP
        have hD : va_D A [(h_tape, .inl (cB, 940, .inl f_tape)), (h_s, .inl (cI, 335, .inl f_s)), (h_read, .inl (cI, 135, .inl f_read)), (h_names, .inl (cJ, 36, .inr (.inl f_names))), (h_reserved, .inl (cJ, 23, .inr (.inl f_reserved))), (h_stack, .inl (cI, 45, .inl f_stack)), (h0, .inr (10, vL 67 F81))] := hD
        refine W.widen (k := 0) (n := 0) (Nat.le_of_ble_eq_true rfl) (Nat.le_of_ble_eq_true rfl) ?_
        exact ret_i (v := 0) hx hb hr hlocks hS (hP.sub (ws' := [(h0, .inr (10, vL 67 F81)), (h_tape, .inl (cB, 940, .inl f_tape)), (h_s, .inl (cI, 335, .inl f_s)), (h_read, .inl (cI, 135, .inl f_read)), (h_names, .inl (cJ, 36, .inr (.inl f_names))), (h_reserved, .inl (cJ, 23, .inr (.inl f_reserved))), (h_stack, .inl (cI, 45, .inl f_stack))]) [6, 0, 1, 2, 3, 4, 5] rfl) (hD.sub (ws' := [(h0, .inr (10, vL 67 F81)), (h_tape, .inl (cB, 940, .inl f_tape)), (h_s, .inl (cI, 335, .inl f_s)), (h_read, .inl (cI, 135, .inl f_read)), (h_names, .inl (cJ, 36, .inr (.inl f_names))), (h_reserved, .inl (cJ, 23, .inr (.inl f_reserved))), (h_stack, .inl (cI, 45, .inl f_stack))]) [6, 0, 1, 2, 3, 4, 5] (by decide) rfl) dX10_operand_61 rfl (Nat.le_of_ble_eq_true rfl) (Nat.le_of_ble_eq_true rfl) (Or.inl ⟨F81, x_p, x_token, x_at, x_span, x_number, 4, x_at, x_word, x_ones, x_isWhole, (SAME.tr SAME.rf t82 (by decide)), (SAME.at t82 (by decide) e_p), i_x_p, (SAME.at t82 (by decide) e_token), i_x_token, (SAME.at t82 (by decide) e_at), (SAME.at t82 (by decide) e_span), (SAME.at t82 (by decide) e_number), t83, (show 1 ≤ (4 : Int32).toInt ∧ (4 : Int32).toInt ≤ 4 by decide), t84, (SAME.at t82 (by decide) e_word), (SAME.at t82 (by decide) e_ones), (ir_wk k24 (by decide) (by decide)), (SAME.at t82 (by decide) e_isWhole), i_x_isWhole, (by have zl0 : (0 : Int32).toInt = 0 := (by decide); have zl4 : (4 : Int32).toInt = 4 := (by decide); omega), (fun q => absurd q (by decide)), (fun q => absurd q (by decide)), (gq_4 (sbM_w (by omega) (by omega)) (by have hd9 := z_3.2.1; omega) rfl), (by have zl4 : (4 : Int32).toInt = 4 := (by decide); omega), (by have zl4 : (4 : Int32).toInt = 4 := (by decide); omega), rfl, rfl⟩)
  · have dc13 : r1.toInt = 0 := eq_i (a := r1.toInt) (b := 0) rfl rfl c13
    have k86 : 0 ≤ r1.toInt ∧ r1.toInt ≤ 0 := ⟨t2.1, Int.le_trans (Int.le_of_eq dc13) (Int.le_refl _)⟩
    refine lv_iload_n hx hb dX10_operand_24 rfl (lv_at hl 1 rfl) ?_
    refine lv_if_ne (tgt := 38) hx hb dX10_operand_25 (by decide) (fun c87 => ?_) (fun c87 => ?_)
    · have dc87 : r5.toInt ≠ 0 := ne_i (a := r5.toInt) (b := 0) rfl rfl c87
      have k88 : 1 ≤ r5.toInt ∧ r5.toInt ≤ 1 := ⟨ne_lo dc87 t6.1 ⟨Int.le_refl _, Int.le_refl _⟩ (by decide), t6.2⟩
      have h89 := ISGF.t t7 (by omega)
      refine lv_aload_n hx hb dX10_operand_38 rfl (lv_at hl 3 rfl) ?_
      refine get_f (D := D) (ci := 10) (v := .int x_ones) (C := RX10) (T := TX10) (N := 67) hx hb hw inAX10 hown hK hP 6 rfl rfl 59 (by decide) (hw _ q_1320) (fun _ h9 => h9) e_ones dX10_operand_39 ?_
      refine lv_bipush (v := 20) hx hb dX10_operand_42 (by decide) ?_
      refine lv_icmp_eq (tgt := 56) hx hb dX10_operand_44 (by decide) (fun c90 => ?_) (fun c90 => ?_)
      · have dc90 : x_ones.toInt = 20 := eq_i (a := x_ones.toInt) (b := 20) rfl rfl c90
        have k91 : 20 ≤ x_ones.toInt ∧ x_ones.toInt ≤ 20 := ⟨Int.le_trans (Int.le_refl _) (Int.le_of_eq dc90.symm), i_x_ones.2⟩
        refine lv_aload_n hx hb dX10_operand_56 rfl (lv_at hl 3 rfl) ?_
        refine lv_iconst (v := 4) hx hb dX10_operand_57 (by decide) ?_
        refine call_Vi (wr := [(h_tape, .inl (cB, 940, .inl f_tape)), (h_s, .inl (cI, 335, .inl f_s)), (h_read, .inl (cI, 135, .inl f_read)), (h_names, .inl (cJ, 36, .inr (.inl f_names))), (h_reserved, .inl (cJ, 23, .inr (.inl f_reserved))), (h_stack, .inl (cI, 45, .inl f_stack))]) (As := [.int 4]) (rest := []) hx hb hml hown hw (m_X10_bad l D cI cJ cB cP cM cZ h0 Fh x_at 4 _ e_at) wV_X10_205_X10_bad dX10_operand_58 hK hP hD hS hA [6] [0, 1, 2, 3, 4, 5] rfl rfl (by decide) (by decide) (by decide) 0 10 rfl rfl GG.fb hG.at hl.1 rfl (Nat.le_of_ble_eq_true rfl) ⟨(Nat.le_of_ble_eq_true rfl), (Nat.le_of_ble_eq_true rfl)⟩ ⟨(Nat.le_of_ble_eq_true rfl), (Nat.le_of_ble_eq_true rfl)⟩ (fun r92 u H locs hp hP hD hS => ?_)
        have zl4 : (4 : Int32).toInt = 4 := by decide
        obtain ⟨F93, t94, t95, t96, rfl, rfl⟩ := hp
        have hP : va_P D vwCl [(h_tape, .inl (cB, 940, .inl f_tape)), (h_s, .inl (cI, 335, .inl f_s)), (h_read, .inl (cI, 135, .inl f_read)), (h_names, .inl (cJ, 36, .inr (.inl f_names))), (h_reserved, .inl (cJ, 23, .inr (.inl f_reserved))), (h_stack, .inl (cI, 45, .inl f_stack)), (h0, .inr (10, vL 67 F93))] H := hP
        have hD : va_D A [(h_tape, .inl (cB, 940, .inl f_tape)), (h_s, .inl (cI, 335, .inl f_s)), (h_read, .inl (cI, 135, .inl f_read)), (h_names, .inl (cJ, 36, .inr (.inl f_names))), (h_reserved, .inl (cJ, 23, .inr (.inl f_reserved))), (h_stack, .inl (cI, 45, .inl f_stack)), (h0, .inr (10, vL 67 F93))] := hD
        refine W.widen (k := 0) (n := 0) (Nat.le_of_ble_eq_true rfl) (Nat.le_of_ble_eq_true rfl) ?_
        exact ret_i (v := 0) hx hb hr hlocks hS (hP.sub (ws' := [(h0, .inr (10, vL 67 F93)), (h_tape, .inl (cB, 940, .inl f_tape)), (h_s, .inl (cI, 335, .inl f_s)), (h_read, .inl (cI, 135, .inl f_read)), (h_names, .inl (cJ, 36, .inr (.inl f_names))), (h_reserved, .inl (cJ, 23, .inr (.inl f_reserved))), (h_stack, .inl (cI, 45, .inl f_stack))]) [6, 0, 1, 2, 3, 4, 5] rfl) (hD.sub (ws' := [(h0, .inr (10, vL 67 F93)), (h_tape, .inl (cB, 940, .inl f_tape)), (h_s, .inl (cI, 335, .inl f_s)), (h_read, .inl (cI, 135, .inl f_read)), (h_names, .inl (cJ, 36, .inr (.inl f_names))), (h_reserved, .inl (cJ, 23, .inr (.inl f_reserved))), (h_stack, .inl (cI, 45, .inl f_stack))]) [6, 0, 1, 2, 3, 4, 5] (by decide) rfl) dX10_operand_61 rfl (Nat.le_of_ble_eq_true rfl) (Nat.le_of_ble_eq_true rfl) (Or.inl ⟨F93, x_p, x_token, x_at, x_span, x_number, 4, x_at, x_word, x_ones, x_isWhole, (SAME.tr SAME.rf t94 (by decide)), (SAME.at t94 (by decide) e_p), i_x_p, (SAME.at t94 (by decide) e_token), i_x_token, (SAME.at t94 (by decide) e_at), (SAME.at t94 (by decide) e_span), (SAME.at t94 (by decide) e_number), t95, (show 1 ≤ (4 : Int32).toInt ∧ (4 : Int32).toInt ≤ 4 by decide), t96, (SAME.at t94 (by decide) e_word), (SAME.at t94 (by decide) e_ones), (ir_wk k91 (by decide) (by decide)), (SAME.at t94 (by decide) e_isWhole), i_x_isWhole, (by have zl0 : (0 : Int32).toInt = 0 := (by decide); have zl4 : (4 : Int32).toInt = 4 := (by decide); omega), (fun q => absurd q (by decide)), (fun q => absurd q (by decide)), (gq_4 (sbM_o ⟨by omega, by omega⟩) (by have hd9 := z_3.2.1; omega) rfl), (by have zl4 : (4 : Int32).toInt = 4 := (by decide); omega), (by have zl4 : (4 : Int32).toInt = 4 := (by decide); omega), rfl, rfl⟩)
      · have dc90 : x_ones.toInt ≠ 20 := ne_i (a := x_ones.toInt) (b := 20) rfl rfl c90
        have k98 : 0 ≤ x_ones.toInt ∧ x_ones.toInt ≤ 19 := ⟨i_x_ones.1, ne_hi dc90 i_x_ones.2 ⟨Int.le_refl _, Int.le_refl _⟩ (by decide)⟩
        refine lv_aload_n hx hb dX10_operand_47 rfl (lv_at hl 3 rfl) ?_
        refine get_f (D := D) (ci := 10) (v := .int x_deep) (C := RX10) (T := TX10) (N := 67) hx hb hw inAX10 hown hK hP 6 rfl rfl 61 (by decide) (hw _ q_1322) (fun _ h9 => h9) e_deep dX10_operand_48 ?_
        refine lv_bipush (v := 8) hx hb dX10_operand_51 (by decide) ?_
        refine lv_icmp_le (tgt := 62) hx hb dX10_operand_53 (by decide) (fun c99 => ?_) (fun c99 => ?_)
        · have dc99 : x_deep.toInt ≤ 8 := le_i (a := x_deep.toInt) (b := 8) rfl rfl c99
          have k100 : 0 ≤ x_deep.toInt ∧ x_deep.toInt ≤ 8 := ⟨i_x_deep.1, Int.le_trans dc99 (Int.le_refl _)⟩
          refine lv_aload_n hx hb dX10_operand_62 rfl (lv_at hl 3 rfl) ?_
          refine lv_dup hx hb dX10_operand_63 rfl ?_
          refine get_f (D := D) (ci := 10) (v := .int x_ones) (C := RX10) (T := TX10) (N := 67) hx hb hw inAX10 hown hK hP 6 rfl rfl 59 (by decide) (hw _ q_1320) (fun _ h9 => h9) e_ones dX10_operand_64 ?_
          refine lv_iconst (v := 1) hx hb dX10_operand_67 (by decide) ?_
          refine lv_iadd hx hb dX10_operand_68 ?_
          refine lv_topi (fun v101 ev101 => ?_)
          have bv101 : v101.toInt = x_ones.toInt + 1 := by rw [ev101]; exact add_k rfl rfl k98 ⟨Int.le_refl _, Int.le_refl _⟩ (by decide)
          have k102 : 1 ≤ v101.toInt ∧ v101.toInt ≤ 20 := add_r bv101 k98 ⟨Int.le_refl _, Int.le_refl _⟩ (by decide)
          refine put_f (D := D) (ci := 10) (v := .int v101) (ty := .int) (C := RX10) (T := TX10) (N := 67) hx hb hw inAX10 tyX10 tyX10_ok nmX10 hown hK hP hD hS 6 rfl rfl 59 (by decide) (hw _ q_1320) (fun _ h9 => h9) rfl (by decide +kernel) rfl rfl dX10_operand_69 (fun H locs F103 eF103 hP hD hS => ?_)
          have hP : va_P D vwCl [(h_tape, .inl (cB, 940, .inl f_tape)), (h_s, .inl (cI, 335, .inl f_s)), (h_read, .inl (cI, 135, .inl f_read)), (h_names, .inl (cJ, 36, .inr (.inl f_names))), (h_reserved, .inl (cJ, 23, .inr (.inl f_reserved))), (h_stack, .inl (cI, 45, .inl f_stack)), (h0, .inr (10, vL 67 F103))] H := hP
          have hD : va_D A [(h_tape, .inl (cB, 940, .inl f_tape)), (h_s, .inl (cI, 335, .inl f_s)), (h_read, .inl (cI, 135, .inl f_read)), (h_names, .inl (cJ, 36, .inr (.inl f_names))), (h_reserved, .inl (cJ, 23, .inr (.inl f_reserved))), (h_stack, .inl (cI, 45, .inl f_stack)), (h0, .inr (10, vL 67 F103))] := hD
          refine lv_aload_n hx hb dX10_operand_72 rfl (lv_at hl 3 rfl) ?_
          have n104 : F103 1 = .ref h_tape := (get_ne eF103 (by decide) e_tape)
          have n105 : F103 3 = .int x_size := (get_ne eF103 (by decide) e_size)
          have n106 : F103 4 = .int x_p := (get_ne eF103 (by decide) e_p)
          have n107 : F103 5 = .int x_limit := (get_ne eF103 (by decide) e_limit)
          have n108 : F103 11 = .int x_token := (get_ne eF103 (by decide) e_token)
          have n109 : F103 12 = .int x_at := (get_ne eF103 (by decide) e_at)
          have n110 : F103 14 = .int x_number := (get_ne eF103 (by decide) e_number)
          have n111 : F103 18 = .long x_word := (get_ne eF103 (by decide) e_word)
          refine call_Vv (wr := [(h_s, .inl (cI, 335, .inl f_s)), (h_read, .inl (cI, 135, .inl f_read)), (h_names, .inl (cJ, 36, .inr (.inl f_names))), (h_reserved, .inl (cJ, 23, .inr (.inl f_reserved))), (h_stack, .inl (cI, 45, .inl f_stack))]) (As := []) (rest := []) hx hb hml hown hw (m_X10_next l D cI cJ cB cP cM cZ h0 h_tape F103 x_size x_p x_limit x_token x_at x_number x_word f_tape _ n104 n105 i_x_size n106 i_x_p n107 i_x_limit n108 i_x_token n109 n110 n111 (by omega)) wV_X10_208_X10_next dX10_operand_73 hK hP hD hS hA [6, 0] [1, 2, 3, 4, 5] rfl rfl (by decide) (by decide) (by decide) 0 10 rfl rfl GG.fb hG.at hl.1 rfl (Nat.le_of_ble_eq_true rfl) ⟨(Nat.le_of_ble_eq_true rfl), (Nat.le_of_ble_eq_true rfl)⟩ ⟨(Nat.le_of_ble_eq_true rfl), (Nat.le_of_ble_eq_true rfl)⟩ (fun u H locs hp hP hD hS => ?_)
          obtain ⟨F113, y114, y115, y116, y117, y118, y119, t120, t121, t122, t123, t124, t125, t126, t127, t128, t129, t130, t131, t132, t133, t134, t135, rfl⟩ := hp
          have hP : va_P D vwCl [(h_s, .inl (cI, 335, .inl f_s)), (h_read, .inl (cI, 135, .inl f_read)), (h_names, .inl (cJ, 36, .inr (.inl f_names))), (h_reserved, .inl (cJ, 23, .inr (.inl f_reserved))), (h_stack, .inl (cI, 45, .inl f_stack)), (h0, .inr (10, vL 67 F113)), (h_tape, .inl (cB, 940, .inl f_tape))] H := hP
          have hD : va_D A [(h_s, .inl (cI, 335, .inl f_s)), (h_read, .inl (cI, 135, .inl f_read)), (h_names, .inl (cJ, 36, .inr (.inl f_names))), (h_reserved, .inl (cJ, 23, .inr (.inl f_reserved))), (h_stack, .inl (cI, 45, .inl f_stack)), (h0, .inr (10, vL 67 F113)), (h_tape, .inl (cB, 940, .inl f_tape))] := hD
          refine W.widen (k := 0) (n := 0) (Nat.le_of_ble_eq_true rfl) (Nat.le_of_ble_eq_true rfl) ?_
          refine lv_iload_n hx hb dX10_operand_76 rfl (lv_at hl 2 rfl) ?_
          refine lv_if_ne (tgt := 84) hx hb dX10_operand_77 (by decide) (fun c137 => False.elim (bad_ne (ne_i (a := r1.toInt) (b := 0) rfl rfl c137) k86 ⟨Int.le_refl _, Int.le_refl _⟩ (by decide))) (fun c137 => ?_)
          have dc137 : r1.toInt = 0 := eq_i (a := r1.toInt) (b := 0) rfl rfl c137
          refine lv_iload_n hx hb dX10_operand_80 rfl (lv_at hl 1 rfl) ?_
          refine lv_if_eq (tgt := 126) hx hb dX10_operand_81 (by decide) (fun c138 => False.elim (bad_le (Int.le_of_eq (eq_i (a := r5.toInt) (b := 0) rfl rfl c138)) k88.1 (Int.le_refl _) (by decide))) (fun c138 => ?_)
          have dc138 : r5.toInt ≠ 0 := ne_i (a := r5.toInt) (b := 0) rfl rfl c138
          refine lv_aload_n hx hb dX10_operand_84 rfl (lv_at hl 3 rfl) ?_
          have n139 : F103 57 = .ref h_stack := (get_ne eF103 (by decide) e_stack)
          have n140 : F113 57 = .ref h_stack := (SAME.at t120 (by decide) n139)
          refine get_f (D := D) (ci := 10) (v := .ref h_stack) (C := RX10) (T := TX10) (N := 67) hx hb hw inAX10 hown hK hP 5 rfl rfl 57 (by decide) (hw _ q_1318) (fun _ h9 => h9) n140 dX10_operand_85 ?_
          refine lv_aload_n hx hb dX10_operand_88 rfl (lv_at hl 3 rfl) ?_
          have n141 : F103 60 = .int x_top := (get_ne eF103 (by decide) e_top)
          have n142 : F113 60 = .int x_top := (SAME.at t120 (by decide) n141)
          refine get_f (D := D) (ci := 10) (v := .int x_top) (C := RX10) (T := TX10) (N := 67) hx hb hw inAX10 hown hK hP 5 rfl rfl 60 (by decide) (hw _ q_1321) (fun _ h9 => h9) n142 dX10_operand_89 ?_
          refine lv_iload_n hx hb dX10_operand_92 rfl (lv_at hl 2 rfl) ?_
          refine lv_if_eq (tgt := 101) hx hb dX10_operand_93 (by decide) (fun c143 => ?_) (fun c143 => False.elim (bad_ne (ne_i (a := r1.toInt) (b := 0) rfl rfl c143) k86 ⟨Int.le_refl _, Int.le_refl _⟩ (by decide)))
          have dc143 : r1.toInt = 0 := eq_i (a := r1.toInt) (b := 0) rfl rfl c143
          refine lv_bipush (v := 23) hx hb dX10_operand_101 (by decide) ?_
          obtain ⟨g144, eg144⟩ : ∃ z : Nat → Int32, upd f_stack x_top.toNatClampNeg 23 = z := ⟨_, rfl⟩
          refine iast_g hx hb hK hP hD hS 4 0 rfl rfl (ix_i (by omega) (by omega)) eg144 dX10_operand_103 (fun H locs hP hD hS => ?_)
          have hP : va_P D vwCl [(h_s, .inl (cI, 335, .inl f_s)), (h_read, .inl (cI, 135, .inl f_read)), (h_names, .inl (cJ, 36, .inr (.inl f_names))), (h_reserved, .inl (cJ, 23, .inr (.inl f_reserved))), (h_stack, .inl (cI, 45, .inl g144)), (h0, .inr (10, vL 67 F113)), (h_tape, .inl (cB, 940, .inl f_tape))] H := hP
          have hD : va_D A [(h_s, .inl (cI, 335, .inl f_s)), (h_read, .inl (cI, 135, .inl f_read)), (h_names, .inl (cJ, 36, .inr (.inl f_names))), (h_reserved, .inl (cJ, 23, .inr (.inl f_reserved))), (h_stack, .inl (cI, 45, .inl g144)), (h0, .inr (10, vL 67 F113)), (h_tape, .inl (cB, 940, .inl f_tape))] := hD
          refine lv_aload_n hx hb dX10_operand_104 rfl (lv_at hl 3 rfl) ?_
          refine lv_dup hx hb dX10_operand_105 rfl ?_
          refine get_f (D := D) (ci := 10) (v := .int x_top) (C := RX10) (T := TX10) (N := 67) hx hb hw inAX10 hown hK hP 5 rfl rfl 60 (by decide) (hw _ q_1321) (fun _ h9 => h9) n142 dX10_operand_106 ?_
          refine lv_iconst (v := 1) hx hb dX10_operand_109 (by decide) ?_
          refine lv_iadd hx hb dX10_operand_110 ?_
          refine lv_topi (fun v145 ev145 => ?_)
          have bv145 : v145.toInt = x_top.toInt + 1 := by rw [ev145]; exact add_k rfl rfl i_x_top ⟨Int.le_refl _, Int.le_refl _⟩ (by decide)
          have k146 : 1 ≤ v145.toInt ∧ v145.toInt ≤ 46 := add_r bv145 i_x_top ⟨Int.le_refl _, Int.le_refl _⟩ (by decide)
          refine put_f (D := D) (ci := 10) (v := .int v145) (ty := .int) (C := RX10) (T := TX10) (N := 67) hx hb hw inAX10 tyX10 tyX10_ok nmX10 hown hK hP hD hS 5 rfl rfl 60 (by decide) (hw _ q_1321) (fun _ h9 => h9) rfl (by decide +kernel) rfl rfl dX10_operand_111 (fun H locs F147 eF147 hP hD hS => ?_)
          have hP : va_P D vwCl [(h_s, .inl (cI, 335, .inl f_s)), (h_read, .inl (cI, 135, .inl f_read)), (h_names, .inl (cJ, 36, .inr (.inl f_names))), (h_reserved, .inl (cJ, 23, .inr (.inl f_reserved))), (h_stack, .inl (cI, 45, .inl g144)), (h0, .inr (10, vL 67 F147)), (h_tape, .inl (cB, 940, .inl f_tape))] H := hP
          have hD : va_D A [(h_s, .inl (cI, 335, .inl f_s)), (h_read, .inl (cI, 135, .inl f_read)), (h_names, .inl (cJ, 36, .inr (.inl f_names))), (h_reserved, .inl (cJ, 23, .inr (.inl f_reserved))), (h_stack, .inl (cI, 45, .inl g144)), (h0, .inr (10, vL 67 F147)), (h_tape, .inl (cB, 940, .inl f_tape))] := hD
          refine lv_aload_n hx hb dX10_operand_114 rfl (lv_at hl 3 rfl) ?_
          refine lv_dup hx hb dX10_operand_115 rfl ?_
          have n148 : F103 61 = .int x_deep := (get_ne eF103 (by decide) e_deep)
          have n149 : F113 61 = .int x_deep := (SAME.at t120 (by decide) n148)
          have n150 : F147 61 = .int x_deep := (get_ne eF147 (by decide) n149)
          refine get_f (D := D) (ci := 10) (v := .int x_deep) (C := RX10) (T := TX10) (N := 67) hx hb hw inAX10 hown hK hP 5 rfl rfl 61 (by decide) (hw _ q_1322) (fun _ h9 => h9) n150 dX10_operand_116 ?_
          refine lv_iconst (v := 1) hx hb dX10_operand_119 (by decide) ?_
          refine lv_iadd hx hb dX10_operand_120 ?_
          refine lv_topi (fun v151 ev151 => ?_)
          have bv151 : v151.toInt = x_deep.toInt + 1 := by rw [ev151]; exact add_k rfl rfl k100 ⟨Int.le_refl _, Int.le_refl _⟩ (by decide)
          have k152 : 1 ≤ v151.toInt ∧ v151.toInt ≤ 9 := add_r bv151 k100 ⟨Int.le_refl _, Int.le_refl _⟩ (by decide)
          refine put_f (D := D) (ci := 10) (v := .int v151) (ty := .int) (C := RX10) (T := TX10) (N := 67) hx hb hw inAX10 tyX10 tyX10_ok nmX10 hown hK hP hD hS 5 rfl rfl 61 (by decide) (hw _ q_1322) (fun _ h9 => h9) rfl (by decide +kernel) rfl rfl dX10_operand_121 (fun H locs F153 eF153 hP hD hS => ?_)
          have hP : va_P D vwCl [(h_s, .inl (cI, 335, .inl f_s)), (h_read, .inl (cI, 135, .inl f_read)), (h_names, .inl (cJ, 36, .inr (.inl f_names))), (h_reserved, .inl (cJ, 23, .inr (.inl f_reserved))), (h_stack, .inl (cI, 45, .inl g144)), (h0, .inr (10, vL 67 F153)), (h_tape, .inl (cB, 940, .inl f_tape))] H := hP
          have hD : va_D A [(h_s, .inl (cI, 335, .inl f_s)), (h_read, .inl (cI, 135, .inl f_read)), (h_names, .inl (cJ, 36, .inr (.inl f_names))), (h_reserved, .inl (cJ, 23, .inr (.inl f_reserved))), (h_stack, .inl (cI, 45, .inl g144)), (h0, .inr (10, vL 67 F153)), (h_tape, .inl (cB, 940, .inl f_tape))] := hD
          refine lv_iconst (v := 1) hx hb dX10_operand_124 (by decide) ?_
          exact ret_i (v := 1) hx hb hr hlocks hS (hP.sub (ws' := [(h0, .inr (10, vL 67 F153)), (h_tape, .inl (cB, 940, .inl f_tape)), (h_s, .inl (cI, 335, .inl f_s)), (h_read, .inl (cI, 135, .inl f_read)), (h_names, .inl (cJ, 36, .inr (.inl f_names))), (h_reserved, .inl (cJ, 23, .inr (.inl f_reserved))), (h_stack, .inl (cI, 45, .inl g144))]) [5, 6, 0, 1, 2, 3, 4] rfl) (hD.sub (ws' := [(h0, .inr (10, vL 67 F153)), (h_tape, .inl (cB, 940, .inl f_tape)), (h_s, .inl (cI, 335, .inl f_s)), (h_read, .inl (cI, 135, .inl f_read)), (h_names, .inl (cJ, 36, .inr (.inl f_names))), (h_reserved, .inl (cJ, 23, .inr (.inl f_reserved))), (h_stack, .inl (cI, 45, .inl g144))]) [5, 6, 0, 1, 2, 3, 4] (by decide) rfl) dX10_operand_125 rfl (Nat.le_of_ble_eq_true rfl) (Nat.le_of_ble_eq_true rfl) (Or.inr ⟨F153, y114, y115, y116, y117, y118, y119, x_codes, v101, v145, v151, x_isWhole, f_read, g144, (SAME.up eF153 (SAME.up eF147 (SAME.tr (SAME.up eF103 SAME.rf (by decide)) t120 (by decide)) (by decide)) (by decide)), (get_ne eF153 (by decide) (get_ne eF147 (by decide) t121)), t122, (get_ne eF153 (by decide) (get_ne eF147 (by decide) t123)), t124, (get_ne eF153 (by decide) (get_ne eF147 (by decide) t125)), t126, (get_ne eF153 (by decide) (get_ne eF147 (by decide) t127)), t128, (get_ne eF153 (by decide) (get_ne eF147 (by decide) t129)), (get_ne eF153 (by decide) (get_ne eF147 (by decide) t130)), (get_ne eF153 (by decide) (get_ne eF147 (by decide) (SAME.at t120 (by decide) (get_ne eF103 (by decide) e_codes)))), i_x_codes, (get_ne eF153 (by decide) (get_ne eF147 (by decide) (SAME.at t120 (by decide) (get_eq eF103)))), k102, (get_ne eF153 (by decide) (get_eq eF147)), (show 0 ≤ v145.toInt ∧ v145.toInt ≤ 45 from ⟨by omega, by omega⟩), (get_eq eF153), (ir_wk k152 (by decide) (by decide)), (get_ne eF153 (by decide) (get_ne eF147 (by decide) (SAME.at t120 (by decide) (get_ne eF103 (by decide) e_isWhole)))), i_x_isWhole, (by have zl1 : (1 : Int32).toInt = 1 := (by decide); omega), (fun _ => SMI.w (SMI.push z_1 eg144 (by omega) (by decide) (by omega)) (by omega)), (fun _ => t134), (fun r9 g9 => gq_op (tkM_sgn (by omega)).1 (by rw [(tkM_sgn (by omega)).2.1]; omega) (by have hd9 := z_3.2.1; omega) (atM3 t133 (by omega)) (SKB.p23 z_3 eg144 (by omega) (by decide) (by omega) (by omega)).2 (by omega) (by omega) g9), (SKB.p23 z_3 eg144 (by omega) (by decide) (by omega) (by omega)).1, (by omega), (by omega), rfl, rfl⟩)
        · have dc99 : 8 < x_deep.toInt := nle_i (a := x_deep.toInt) (b := 8) rfl rfl c99
          have k154 : 9 ≤ x_deep.toInt ∧ x_deep.toInt ≤ 46 := ⟨lo_lt dc99 (Int.le_refl _) (by decide), i_x_deep.2⟩
          refine lv_aload_n hx hb dX10_operand_56 rfl (lv_at hl 3 rfl) ?_
          refine lv_iconst (v := 4) hx hb dX10_operand_57 (by decide) ?_
          refine call_Vi (wr := [(h_tape, .inl (cB, 940, .inl f_tape)), (h_s, .inl (cI, 335, .inl f_s)), (h_read, .inl (cI, 135, .inl f_read)), (h_names, .inl (cJ, 36, .inr (.inl f_names))), (h_reserved, .inl (cJ, 23, .inr (.inl f_reserved))), (h_stack, .inl (cI, 45, .inl f_stack))]) (As := [.int 4]) (rest := []) hx hb hml hown hw (m_X10_bad l D cI cJ cB cP cM cZ h0 Fh x_at 4 _ e_at) wV_X10_205_X10_bad dX10_operand_58 hK hP hD hS hA [6] [0, 1, 2, 3, 4, 5] rfl rfl (by decide) (by decide) (by decide) 0 10 rfl rfl GG.fb hG.at hl.1 rfl (Nat.le_of_ble_eq_true rfl) ⟨(Nat.le_of_ble_eq_true rfl), (Nat.le_of_ble_eq_true rfl)⟩ ⟨(Nat.le_of_ble_eq_true rfl), (Nat.le_of_ble_eq_true rfl)⟩ (fun r155 u H locs hp hP hD hS => ?_)
          have zl4 : (4 : Int32).toInt = 4 := by decide
          obtain ⟨F156, t157, t158, t159, rfl, rfl⟩ := hp
          have hP : va_P D vwCl [(h_tape, .inl (cB, 940, .inl f_tape)), (h_s, .inl (cI, 335, .inl f_s)), (h_read, .inl (cI, 135, .inl f_read)), (h_names, .inl (cJ, 36, .inr (.inl f_names))), (h_reserved, .inl (cJ, 23, .inr (.inl f_reserved))), (h_stack, .inl (cI, 45, .inl f_stack)), (h0, .inr (10, vL 67 F156))] H := hP
          have hD : va_D A [(h_tape, .inl (cB, 940, .inl f_tape)), (h_s, .inl (cI, 335, .inl f_s)), (h_read, .inl (cI, 135, .inl f_read)), (h_names, .inl (cJ, 36, .inr (.inl f_names))), (h_reserved, .inl (cJ, 23, .inr (.inl f_reserved))), (h_stack, .inl (cI, 45, .inl f_stack)), (h0, .inr (10, vL 67 F156))] := hD
          refine W.widen (k := 0) (n := 0) (Nat.le_of_ble_eq_true rfl) (Nat.le_of_ble_eq_true rfl) ?_
          exact ret_i (v := 0) hx hb hr hlocks hS (hP.sub (ws' := [(h0, .inr (10, vL 67 F156)), (h_tape, .inl (cB, 940, .inl f_tape)), (h_s, .inl (cI, 335, .inl f_s)), (h_read, .inl (cI, 135, .inl f_read)), (h_names, .inl (cJ, 36, .inr (.inl f_names))), (h_reserved, .inl (cJ, 23, .inr (.inl f_reserved))), (h_stack, .inl (cI, 45, .inl f_stack))]) [6, 0, 1, 2, 3, 4, 5] rfl) (hD.sub (ws' := [(h0, .inr (10, vL 67 F156)), (h_tape, .inl (cB, 940, .inl f_tape)), (h_s, .inl (cI, 335, .inl f_s)), (h_read, .inl (cI, 135, .inl f_read)), (h_names, .inl (cJ, 36, .inr (.inl f_names))), (h_reserved, .inl (cJ, 23, .inr (.inl f_reserved))), (h_stack, .inl (cI, 45, .inl f_stack))]) [6, 0, 1, 2, 3, 4, 5] (by decide) rfl) dX10_operand_61 rfl (Nat.le_of_ble_eq_true rfl) (Nat.le_of_ble_eq_true rfl) (Or.inl ⟨F156, x_p, x_token, x_at, x_span, x_number, 4, x_at, x_word, x_ones, x_isWhole, (SAME.tr SAME.rf t157 (by decide)), (SAME.at t157 (by decide) e_p), i_x_p, (SAME.at t157 (by decide) e_token), i_x_token, (SAME.at t157 (by decide) e_at), (SAME.at t157 (by decide) e_span), (SAME.at t157 (by decide) e_number), t158, (show 1 ≤ (4 : Int32).toInt ∧ (4 : Int32).toInt ≤ 4 by decide), t159, (SAME.at t157 (by decide) e_word), (SAME.at t157 (by decide) e_ones), (ir_wk k98 (by decide) (by decide)), (SAME.at t157 (by decide) e_isWhole), i_x_isWhole, (by have zl0 : (0 : Int32).toInt = 0 := (by decide); have zl4 : (4 : Int32).toInt = 4 := (by decide); omega), (fun q => absurd q (by decide)), (fun q => absurd q (by decide)), (gq_4 (sbM_o ⟨by omega, by omega⟩) (by have hd9 := z_3.2.1; omega) rfl), (by have zl4 : (4 : Int32).toInt = 4 := (by decide); omega), (by have zl4 : (4 : Int32).toInt = 4 := (by decide); omega), rfl, rfl⟩)
    · have dc87 : r5.toInt = 0 := eq_i (a := r5.toInt) (b := 0) rfl rfl c87
      have k161 : 0 ≤ r5.toInt ∧ r5.toInt ≤ 0 := ⟨t6.1, Int.le_trans (Int.le_of_eq dc87) (Int.le_refl _)⟩
      refine lv_iload_n hx hb dX10_operand_28 rfl (lv_at hl 0 rfl) ?_
      refine lv_if_ge (tgt := 38) hx hb dX10_operand_29 (by decide) (fun c162 => ?_) (fun c162 => ?_)
      · have dc162 : 0 ≤ r9.toInt := le_i (a := 0) (b := r9.toInt) rfl rfl c162
        have k163 : 0 ≤ r9.toInt ∧ r9.toInt ≤ 6 := ⟨Int.le_trans (Int.le_refl _) dc162, t10.2⟩
        have h164 := LEFF.t t11 (by omega)
        refine lv_aload_n hx hb dX10_operand_38 rfl (lv_at hl 3 rfl) ?_
        refine get_f (D := D) (ci := 10) (v := .int x_ones) (C := RX10) (T := TX10) (N := 67) hx hb hw inAX10 hown hK hP 6 rfl rfl 59 (by decide) (hw _ q_1320) (fun _ h9 => h9) e_ones dX10_operand_39 ?_
        refine lv_bipush (v := 20) hx hb dX10_operand_42 (by decide) ?_
        refine lv_icmp_eq (tgt := 56) hx hb dX10_operand_44 (by decide) (fun c165 => ?_) (fun c165 => ?_)
        · have dc165 : x_ones.toInt = 20 := eq_i (a := x_ones.toInt) (b := 20) rfl rfl c165
          have k166 : 20 ≤ x_ones.toInt ∧ x_ones.toInt ≤ 20 := ⟨Int.le_trans (Int.le_refl _) (Int.le_of_eq dc165.symm), i_x_ones.2⟩
          refine lv_aload_n hx hb dX10_operand_56 rfl (lv_at hl 3 rfl) ?_
          refine lv_iconst (v := 4) hx hb dX10_operand_57 (by decide) ?_
          refine call_Vi (wr := [(h_tape, .inl (cB, 940, .inl f_tape)), (h_s, .inl (cI, 335, .inl f_s)), (h_read, .inl (cI, 135, .inl f_read)), (h_names, .inl (cJ, 36, .inr (.inl f_names))), (h_reserved, .inl (cJ, 23, .inr (.inl f_reserved))), (h_stack, .inl (cI, 45, .inl f_stack))]) (As := [.int 4]) (rest := []) hx hb hml hown hw (m_X10_bad l D cI cJ cB cP cM cZ h0 Fh x_at 4 _ e_at) wV_X10_205_X10_bad dX10_operand_58 hK hP hD hS hA [6] [0, 1, 2, 3, 4, 5] rfl rfl (by decide) (by decide) (by decide) 0 10 rfl rfl GG.fb hG.at hl.1 rfl (Nat.le_of_ble_eq_true rfl) ⟨(Nat.le_of_ble_eq_true rfl), (Nat.le_of_ble_eq_true rfl)⟩ ⟨(Nat.le_of_ble_eq_true rfl), (Nat.le_of_ble_eq_true rfl)⟩ (fun r167 u H locs hp hP hD hS => ?_)
          have zl4 : (4 : Int32).toInt = 4 := by decide
          obtain ⟨F168, t169, t170, t171, rfl, rfl⟩ := hp
          have hP : va_P D vwCl [(h_tape, .inl (cB, 940, .inl f_tape)), (h_s, .inl (cI, 335, .inl f_s)), (h_read, .inl (cI, 135, .inl f_read)), (h_names, .inl (cJ, 36, .inr (.inl f_names))), (h_reserved, .inl (cJ, 23, .inr (.inl f_reserved))), (h_stack, .inl (cI, 45, .inl f_stack)), (h0, .inr (10, vL 67 F168))] H := hP
          have hD : va_D A [(h_tape, .inl (cB, 940, .inl f_tape)), (h_s, .inl (cI, 335, .inl f_s)), (h_read, .inl (cI, 135, .inl f_read)), (h_names, .inl (cJ, 36, .inr (.inl f_names))), (h_reserved, .inl (cJ, 23, .inr (.inl f_reserved))), (h_stack, .inl (cI, 45, .inl f_stack)), (h0, .inr (10, vL 67 F168))] := hD
          refine W.widen (k := 0) (n := 0) (Nat.le_of_ble_eq_true rfl) (Nat.le_of_ble_eq_true rfl) ?_
          exact ret_i (v := 0) hx hb hr hlocks hS (hP.sub (ws' := [(h0, .inr (10, vL 67 F168)), (h_tape, .inl (cB, 940, .inl f_tape)), (h_s, .inl (cI, 335, .inl f_s)), (h_read, .inl (cI, 135, .inl f_read)), (h_names, .inl (cJ, 36, .inr (.inl f_names))), (h_reserved, .inl (cJ, 23, .inr (.inl f_reserved))), (h_stack, .inl (cI, 45, .inl f_stack))]) [6, 0, 1, 2, 3, 4, 5] rfl) (hD.sub (ws' := [(h0, .inr (10, vL 67 F168)), (h_tape, .inl (cB, 940, .inl f_tape)), (h_s, .inl (cI, 335, .inl f_s)), (h_read, .inl (cI, 135, .inl f_read)), (h_names, .inl (cJ, 36, .inr (.inl f_names))), (h_reserved, .inl (cJ, 23, .inr (.inl f_reserved))), (h_stack, .inl (cI, 45, .inl f_stack))]) [6, 0, 1, 2, 3, 4, 5] (by decide) rfl) dX10_operand_61 rfl (Nat.le_of_ble_eq_true rfl) (Nat.le_of_ble_eq_true rfl) (Or.inl ⟨F168, x_p, x_token, x_at, x_span, x_number, 4, x_at, x_word, x_ones, x_isWhole, (SAME.tr SAME.rf t169 (by decide)), (SAME.at t169 (by decide) e_p), i_x_p, (SAME.at t169 (by decide) e_token), i_x_token, (SAME.at t169 (by decide) e_at), (SAME.at t169 (by decide) e_span), (SAME.at t169 (by decide) e_number), t170, (show 1 ≤ (4 : Int32).toInt ∧ (4 : Int32).toInt ≤ 4 by decide), t171, (SAME.at t169 (by decide) e_word), (SAME.at t169 (by decide) e_ones), (ir_wk k166 (by decide) (by decide)), (SAME.at t169 (by decide) e_isWhole), i_x_isWhole, (by have zl0 : (0 : Int32).toInt = 0 := (by decide); have zl4 : (4 : Int32).toInt = 4 := (by decide); omega), (fun q => absurd q (by decide)), (fun q => absurd q (by decide)), (gq_4 (sbM_w (by omega) (LEFF.b t11 (by omega))) (by have hd9 := z_3.2.1; omega) rfl), (by have zl4 : (4 : Int32).toInt = 4 := (by decide); omega), (by have zl4 : (4 : Int32).toInt = 4 := (by decide); omega), rfl, rfl⟩)
        · have dc165 : x_ones.toInt ≠ 20 := ne_i (a := x_ones.toInt) (b := 20) rfl rfl c165
          have k173 : 0 ≤ x_ones.toInt ∧ x_ones.toInt ≤ 19 := ⟨i_x_ones.1, ne_hi dc165 i_x_ones.2 ⟨Int.le_refl _, Int.le_refl _⟩ (by decide)⟩
          refine lv_aload_n hx hb dX10_operand_47 rfl (lv_at hl 3 rfl) ?_
          refine get_f (D := D) (ci := 10) (v := .int x_deep) (C := RX10) (T := TX10) (N := 67) hx hb hw inAX10 hown hK hP 6 rfl rfl 61 (by decide) (hw _ q_1322) (fun _ h9 => h9) e_deep dX10_operand_48 ?_
          refine lv_bipush (v := 8) hx hb dX10_operand_51 (by decide) ?_
          refine lv_icmp_le (tgt := 62) hx hb dX10_operand_53 (by decide) (fun c174 => ?_) (fun c174 => ?_)
          · have dc174 : x_deep.toInt ≤ 8 := le_i (a := x_deep.toInt) (b := 8) rfl rfl c174
            have k175 : 0 ≤ x_deep.toInt ∧ x_deep.toInt ≤ 8 := ⟨i_x_deep.1, Int.le_trans dc174 (Int.le_refl _)⟩
            refine lv_aload_n hx hb dX10_operand_62 rfl (lv_at hl 3 rfl) ?_
            refine lv_dup hx hb dX10_operand_63 rfl ?_
            refine get_f (D := D) (ci := 10) (v := .int x_ones) (C := RX10) (T := TX10) (N := 67) hx hb hw inAX10 hown hK hP 6 rfl rfl 59 (by decide) (hw _ q_1320) (fun _ h9 => h9) e_ones dX10_operand_64 ?_
            refine lv_iconst (v := 1) hx hb dX10_operand_67 (by decide) ?_
            refine lv_iadd hx hb dX10_operand_68 ?_
            refine lv_topi (fun v176 ev176 => ?_)
            have bv176 : v176.toInt = x_ones.toInt + 1 := by rw [ev176]; exact add_k rfl rfl k173 ⟨Int.le_refl _, Int.le_refl _⟩ (by decide)
            have k177 : 1 ≤ v176.toInt ∧ v176.toInt ≤ 20 := add_r bv176 k173 ⟨Int.le_refl _, Int.le_refl _⟩ (by decide)
            refine put_f (D := D) (ci := 10) (v := .int v176) (ty := .int) (C := RX10) (T := TX10) (N := 67) hx hb hw inAX10 tyX10 tyX10_ok nmX10 hown hK hP hD hS 6 rfl rfl 59 (by decide) (hw _ q_1320) (fun _ h9 => h9) rfl (by decide +kernel) rfl rfl dX10_operand_69 (fun H locs F178 eF178 hP hD hS => ?_)
            have hP : va_P D vwCl [(h_tape, .inl (cB, 940, .inl f_tape)), (h_s, .inl (cI, 335, .inl f_s)), (h_read, .inl (cI, 135, .inl f_read)), (h_names, .inl (cJ, 36, .inr (.inl f_names))), (h_reserved, .inl (cJ, 23, .inr (.inl f_reserved))), (h_stack, .inl (cI, 45, .inl f_stack)), (h0, .inr (10, vL 67 F178))] H := hP
            have hD : va_D A [(h_tape, .inl (cB, 940, .inl f_tape)), (h_s, .inl (cI, 335, .inl f_s)), (h_read, .inl (cI, 135, .inl f_read)), (h_names, .inl (cJ, 36, .inr (.inl f_names))), (h_reserved, .inl (cJ, 23, .inr (.inl f_reserved))), (h_stack, .inl (cI, 45, .inl f_stack)), (h0, .inr (10, vL 67 F178))] := hD
            refine lv_aload_n hx hb dX10_operand_72 rfl (lv_at hl 3 rfl) ?_
            have n179 : F178 1 = .ref h_tape := (get_ne eF178 (by decide) e_tape)
            have n180 : F178 3 = .int x_size := (get_ne eF178 (by decide) e_size)
            have n181 : F178 4 = .int x_p := (get_ne eF178 (by decide) e_p)
            have n182 : F178 5 = .int x_limit := (get_ne eF178 (by decide) e_limit)
            have n183 : F178 11 = .int x_token := (get_ne eF178 (by decide) e_token)
            have n184 : F178 12 = .int x_at := (get_ne eF178 (by decide) e_at)
            have n185 : F178 14 = .int x_number := (get_ne eF178 (by decide) e_number)
            have n186 : F178 18 = .long x_word := (get_ne eF178 (by decide) e_word)
            refine call_Vv (wr := [(h_s, .inl (cI, 335, .inl f_s)), (h_read, .inl (cI, 135, .inl f_read)), (h_names, .inl (cJ, 36, .inr (.inl f_names))), (h_reserved, .inl (cJ, 23, .inr (.inl f_reserved))), (h_stack, .inl (cI, 45, .inl f_stack))]) (As := []) (rest := []) hx hb hml hown hw (m_X10_next l D cI cJ cB cP cM cZ h0 h_tape F178 x_size x_p x_limit x_token x_at x_number x_word f_tape _ n179 n180 i_x_size n181 i_x_p n182 i_x_limit n183 i_x_token n184 n185 n186 (by omega)) wV_X10_208_X10_next dX10_operand_73 hK hP hD hS hA [6, 0] [1, 2, 3, 4, 5] rfl rfl (by decide) (by decide) (by decide) 0 10 rfl rfl GG.fb hG.at hl.1 rfl (Nat.le_of_ble_eq_true rfl) ⟨(Nat.le_of_ble_eq_true rfl), (Nat.le_of_ble_eq_true rfl)⟩ ⟨(Nat.le_of_ble_eq_true rfl), (Nat.le_of_ble_eq_true rfl)⟩ (fun u H locs hp hP hD hS => ?_)
            obtain ⟨F188, y189, y190, y191, y192, y193, y194, t195, t196, t197, t198, t199, t200, t201, t202, t203, t204, t205, t206, t207, t208, t209, t210, rfl⟩ := hp
            have hP : va_P D vwCl [(h_s, .inl (cI, 335, .inl f_s)), (h_read, .inl (cI, 135, .inl f_read)), (h_names, .inl (cJ, 36, .inr (.inl f_names))), (h_reserved, .inl (cJ, 23, .inr (.inl f_reserved))), (h_stack, .inl (cI, 45, .inl f_stack)), (h0, .inr (10, vL 67 F188)), (h_tape, .inl (cB, 940, .inl f_tape))] H := hP
            have hD : va_D A [(h_s, .inl (cI, 335, .inl f_s)), (h_read, .inl (cI, 135, .inl f_read)), (h_names, .inl (cJ, 36, .inr (.inl f_names))), (h_reserved, .inl (cJ, 23, .inr (.inl f_reserved))), (h_stack, .inl (cI, 45, .inl f_stack)), (h0, .inr (10, vL 67 F188)), (h_tape, .inl (cB, 940, .inl f_tape))] := hD
            refine W.widen (k := 0) (n := 0) (Nat.le_of_ble_eq_true rfl) (Nat.le_of_ble_eq_true rfl) ?_
            refine lv_iload_n hx hb dX10_operand_76 rfl (lv_at hl 2 rfl) ?_
            refine lv_if_ne (tgt := 84) hx hb dX10_operand_77 (by decide) (fun c212 => False.elim (bad_ne (ne_i (a := r1.toInt) (b := 0) rfl rfl c212) k86 ⟨Int.le_refl _, Int.le_refl _⟩ (by decide))) (fun c212 => ?_)
            have dc212 : r1.toInt = 0 := eq_i (a := r1.toInt) (b := 0) rfl rfl c212
            refine lv_iload_n hx hb dX10_operand_80 rfl (lv_at hl 1 rfl) ?_
            refine lv_if_eq (tgt := 126) hx hb dX10_operand_81 (by decide) (fun c213 => ?_) (fun c213 => False.elim (bad_ne (ne_i (a := r5.toInt) (b := 0) rfl rfl c213) k161 ⟨Int.le_refl _, Int.le_refl _⟩ (by decide)))
            have dc213 : r5.toInt = 0 := eq_i (a := r5.toInt) (b := 0) rfl rfl c213
            refine lv_aload_n hx hb dX10_operand_126 rfl (lv_at hl 3 rfl) ?_
            refine lv_iconst (v := 1) hx hb dX10_operand_127 (by decide) ?_
            refine put_f (D := D) (ci := 10) (v := .int 1) (ty := .boolean) (C := RX10) (T := TX10) (N := 67) hx hb hw inAX10 tyX10 tyX10_ok nmX10 hown hK hP hD hS 5 rfl rfl 62 (by decide) (hw _ q_1323) (fun _ h9 => h9) rfl (by decide +kernel) rfl rfl dX10_operand_128 (fun H locs F214 eF214 hP hD hS => ?_)
            have hP : va_P D vwCl [(h_s, .inl (cI, 335, .inl f_s)), (h_read, .inl (cI, 135, .inl f_read)), (h_names, .inl (cJ, 36, .inr (.inl f_names))), (h_reserved, .inl (cJ, 23, .inr (.inl f_reserved))), (h_stack, .inl (cI, 45, .inl f_stack)), (h0, .inr (10, vL 67 F214)), (h_tape, .inl (cB, 940, .inl f_tape))] H := hP
            have hD : va_D A [(h_s, .inl (cI, 335, .inl f_s)), (h_read, .inl (cI, 135, .inl f_read)), (h_names, .inl (cJ, 36, .inr (.inl f_names))), (h_reserved, .inl (cJ, 23, .inr (.inl f_reserved))), (h_stack, .inl (cI, 45, .inl f_stack)), (h0, .inr (10, vL 67 F214)), (h_tape, .inl (cB, 940, .inl f_tape))] := hD
            refine lv_iload_n hx hb dX10_operand_131 rfl (lv_at hl 0 rfl) ?_
            refine lv_iconst (v := 2) hx hb dX10_operand_132 (by decide) ?_
            refine lv_icmp_ge (tgt := 145) hx hb dX10_operand_133 (by decide) (fun c215 => ?_) (fun c215 => ?_)
            · have dc215 : 2 ≤ r9.toInt := le_i (a := 2) (b := r9.toInt) rfl rfl c215
              have k216 : 2 ≤ r9.toInt ∧ r9.toInt ≤ 6 := ⟨Int.le_trans (Int.le_refl _) dc215, k163.2⟩
              refine lv_iload_n hx hb dX10_operand_145 rfl (lv_at hl 0 rfl) ?_
              refine lv_iconst (v := 2) hx hb dX10_operand_146 (by decide) ?_
              refine lv_icmp_ne (tgt := 201) hx hb dX10_operand_147 (by decide) (fun c217 => ?_) (fun c217 => ?_)
              · have dc217 : r9.toInt ≠ 2 := ne_i (a := r9.toInt) (b := 2) rfl rfl c217
                have k218 : 3 ≤ r9.toInt ∧ r9.toInt ≤ 6 := ⟨ne_lo dc217 k216.1 ⟨Int.le_refl _, Int.le_refl _⟩ (by decide), k216.2⟩
                refine lv_aload_n hx hb dX10_operand_201 rfl (lv_at hl 3 rfl) ?_
                have n219 : F214 11 = .int y190 := (get_ne eF214 (by decide) t198)
                refine get_f (D := D) (ci := 10) (v := .int y190) (C := RX10) (T := TX10) (N := 67) hx hb hw inAX10 hown hK hP 5 rfl rfl 11 (by decide) (hw _ q_1272) (fun _ h9 => h9) n219 dX10_operand_202 ?_
                refine lv_iconst (v := 3) hx hb dX10_operand_205 (by decide) ?_
                refine lv_icmp_ne (tgt := 227) hx hb dX10_operand_206 (by decide) (fun c220 => ?_) (fun c220 => ?_)
                · have dc220 : y190.toInt ≠ 3 := ne_i (a := y190.toInt) (b := 3) rfl rfl c220
                  refine lv_aload_n hx hb dX10_operand_227 rfl (lv_at hl 3 rfl) ?_
                  refine lv_iconst (v := 1) hx hb dX10_operand_228 (by decide) ?_
                  have n221 : F214 12 = .int y191 := (get_ne eF214 (by decide) t200)
                  refine call_Vi (wr := [(h_s, .inl (cI, 335, .inl f_s)), (h_read, .inl (cI, 135, .inl f_read)), (h_names, .inl (cJ, 36, .inr (.inl f_names))), (h_reserved, .inl (cJ, 23, .inr (.inl f_reserved))), (h_stack, .inl (cI, 45, .inl f_stack)), (h_tape, .inl (cB, 940, .inl f_tape))]) (As := [.int 1]) (rest := []) hx hb hml hown hw (m_X10_bad l D cI cJ cB cP cM cZ h0 F214 y191 1 _ n221) wV_X10_205_X10_bad dX10_operand_229 hK hP hD hS hA [5] [0, 1, 2, 3, 4, 6] rfl rfl (by decide) (by decide) (by decide) 0 10 rfl rfl GG.fb hG.at hl.1 rfl (Nat.le_of_ble_eq_true rfl) ⟨(Nat.le_of_ble_eq_true rfl), (Nat.le_of_ble_eq_true rfl)⟩ ⟨(Nat.le_of_ble_eq_true rfl), (Nat.le_of_ble_eq_true rfl)⟩ (fun r222 u H locs hp hP hD hS => ?_)
                  have zl1 : (1 : Int32).toInt = 1 := by decide
                  obtain ⟨F223, t224, t225, t226, rfl, rfl⟩ := hp
                  have hP : va_P D vwCl [(h_s, .inl (cI, 335, .inl f_s)), (h_read, .inl (cI, 135, .inl f_read)), (h_names, .inl (cJ, 36, .inr (.inl f_names))), (h_reserved, .inl (cJ, 23, .inr (.inl f_reserved))), (h_stack, .inl (cI, 45, .inl f_stack)), (h_tape, .inl (cB, 940, .inl f_tape)), (h0, .inr (10, vL 67 F223))] H := hP
                  have hD : va_D A [(h_s, .inl (cI, 335, .inl f_s)), (h_read, .inl (cI, 135, .inl f_read)), (h_names, .inl (cJ, 36, .inr (.inl f_names))), (h_reserved, .inl (cJ, 23, .inr (.inl f_reserved))), (h_stack, .inl (cI, 45, .inl f_stack)), (h_tape, .inl (cB, 940, .inl f_tape)), (h0, .inr (10, vL 67 F223))] := hD
                  refine W.widen (k := 0) (n := 0) (Nat.le_of_ble_eq_true rfl) (Nat.le_of_ble_eq_true rfl) ?_
                  exact ret_i (v := 0) hx hb hr hlocks hS (hP.sub (ws' := [(h0, .inr (10, vL 67 F223)), (h_tape, .inl (cB, 940, .inl f_tape)), (h_s, .inl (cI, 335, .inl f_s)), (h_read, .inl (cI, 135, .inl f_read)), (h_names, .inl (cJ, 36, .inr (.inl f_names))), (h_reserved, .inl (cJ, 23, .inr (.inl f_reserved))), (h_stack, .inl (cI, 45, .inl f_stack))]) [6, 5, 0, 1, 2, 3, 4] rfl) (hD.sub (ws' := [(h0, .inr (10, vL 67 F223)), (h_tape, .inl (cB, 940, .inl f_tape)), (h_s, .inl (cI, 335, .inl f_s)), (h_read, .inl (cI, 135, .inl f_read)), (h_names, .inl (cJ, 36, .inr (.inl f_names))), (h_reserved, .inl (cJ, 23, .inr (.inl f_reserved))), (h_stack, .inl (cI, 45, .inl f_stack))]) [6, 5, 0, 1, 2, 3, 4] (by decide) rfl) dX10_operand_232 rfl (Nat.le_of_ble_eq_true rfl) (Nat.le_of_ble_eq_true rfl) (Or.inl ⟨F223, y189, y190, y191, y192, y193, 1, y191, y194, v176, 1, (SAME.tr (SAME.up eF214 (SAME.tr (SAME.up eF178 SAME.rf (by decide)) t195 (by decide)) (by decide)) t224 (by decide)), (SAME.at t224 (by decide) (get_ne eF214 (by decide) t196)), t197, (SAME.at t224 (by decide) n219), t199, (SAME.at t224 (by decide) n221), (SAME.at t224 (by decide) (get_ne eF214 (by decide) t202)), (SAME.at t224 (by decide) (get_ne eF214 (by decide) t204)), t225, (show 1 ≤ (1 : Int32).toInt ∧ (1 : Int32).toInt ≤ 4 by decide), t226, (SAME.at t224 (by decide) (get_ne eF214 (by decide) t205)), (SAME.at t224 (by decide) (get_ne eF214 (by decide) (SAME.at t195 (by decide) (get_eq eF178)))), (ir_wk k177 (by decide) (by decide)), (SAME.at t224 (by decide) (get_eq eF214)), (show 0 ≤ (1 : Int32).toInt ∧ (1 : Int32).toInt ≤ 1 by decide), (by have zl0 : (0 : Int32).toInt = 0 := (by decide); have zl1 : (1 : Int32).toInt = 1 := (by decide); omega), (fun q => absurd q (by decide)), (fun q => absurd q (by decide)), (gq_lfF (tkM_1st (by omega)) (by rw [tkM_w (by omega)]; exact LEFF.w t11 (by omega)) (by have hd9 := z_3.2.1; omega) (atM t208 (by omega)) (sl_cF (by rw [tkM_w (by omega)]; exact LEFF.ge t11 (by omega)) (tkM_cmpn (by omega)) rfl)), (by have zl1 : (1 : Int32).toInt = 1 := (by decide); omega), (by have zl1 : (1 : Int32).toInt = 1 := (by decide); omega), rfl, rfl⟩)
                · have dc220 : y190.toInt = 3 := eq_i (a := y190.toInt) (b := 3) rfl rfl c220
                  have k228 : 3 ≤ y190.toInt ∧ y190.toInt ≤ 3 := ⟨Int.le_trans (Int.le_refl _) (Int.le_of_eq dc220.symm), Int.le_trans (Int.le_of_eq dc220) (Int.le_refl _)⟩
                  refine lv_aload_n hx hb dX10_operand_209 rfl (lv_at hl 3 rfl) ?_
                  have n229 : F214 14 = .int y193 := (get_ne eF214 (by decide) t204)
                  refine get_f (D := D) (ci := 10) (v := .int y193) (C := RX10) (T := TX10) (N := 67) hx hb hw inAX10 hown hK hP 5 rfl rfl 14 (by decide) (hw _ q_1275) (fun _ h9 => h9) n229 dX10_operand_210 ?_
                  refine lv_bipush (v := 60) hx hb dX10_operand_213 (by decide) ?_
                  refine lv_icmp_lt (tgt := 227) hx hb dX10_operand_215 (by decide) (fun c230 => ?_) (fun c230 => ?_)
                  · have dc230 : y193.toInt < 60 := lt_i (a := y193.toInt) (b := 60) rfl rfl c230
                    have k231 : (-2147483648) ≤ y193.toInt ∧ y193.toInt ≤ 59 := ⟨(ir_any _).1, up_lt dc230 (Int.le_refl _) (by decide)⟩
                    refine lv_aload_n hx hb dX10_operand_227 rfl (lv_at hl 3 rfl) ?_
                    refine lv_iconst (v := 1) hx hb dX10_operand_228 (by decide) ?_
                    have n232 : F214 12 = .int y191 := (get_ne eF214 (by decide) t200)
                    refine call_Vi (wr := [(h_s, .inl (cI, 335, .inl f_s)), (h_read, .inl (cI, 135, .inl f_read)), (h_names, .inl (cJ, 36, .inr (.inl f_names))), (h_reserved, .inl (cJ, 23, .inr (.inl f_reserved))), (h_stack, .inl (cI, 45, .inl f_stack)), (h_tape, .inl (cB, 940, .inl f_tape))]) (As := [.int 1]) (rest := []) hx hb hml hown hw (m_X10_bad l D cI cJ cB cP cM cZ h0 F214 y191 1 _ n232) wV_X10_205_X10_bad dX10_operand_229 hK hP hD hS hA [5] [0, 1, 2, 3, 4, 6] rfl rfl (by decide) (by decide) (by decide) 0 10 rfl rfl GG.fb hG.at hl.1 rfl (Nat.le_of_ble_eq_true rfl) ⟨(Nat.le_of_ble_eq_true rfl), (Nat.le_of_ble_eq_true rfl)⟩ ⟨(Nat.le_of_ble_eq_true rfl), (Nat.le_of_ble_eq_true rfl)⟩ (fun r233 u H locs hp hP hD hS => ?_)
                    have zl1 : (1 : Int32).toInt = 1 := by decide
                    obtain ⟨F234, t235, t236, t237, rfl, rfl⟩ := hp
                    have hP : va_P D vwCl [(h_s, .inl (cI, 335, .inl f_s)), (h_read, .inl (cI, 135, .inl f_read)), (h_names, .inl (cJ, 36, .inr (.inl f_names))), (h_reserved, .inl (cJ, 23, .inr (.inl f_reserved))), (h_stack, .inl (cI, 45, .inl f_stack)), (h_tape, .inl (cB, 940, .inl f_tape)), (h0, .inr (10, vL 67 F234))] H := hP
                    have hD : va_D A [(h_s, .inl (cI, 335, .inl f_s)), (h_read, .inl (cI, 135, .inl f_read)), (h_names, .inl (cJ, 36, .inr (.inl f_names))), (h_reserved, .inl (cJ, 23, .inr (.inl f_reserved))), (h_stack, .inl (cI, 45, .inl f_stack)), (h_tape, .inl (cB, 940, .inl f_tape)), (h0, .inr (10, vL 67 F234))] := hD
                    refine W.widen (k := 0) (n := 0) (Nat.le_of_ble_eq_true rfl) (Nat.le_of_ble_eq_true rfl) ?_
                    exact ret_i (v := 0) hx hb hr hlocks hS (hP.sub (ws' := [(h0, .inr (10, vL 67 F234)), (h_tape, .inl (cB, 940, .inl f_tape)), (h_s, .inl (cI, 335, .inl f_s)), (h_read, .inl (cI, 135, .inl f_read)), (h_names, .inl (cJ, 36, .inr (.inl f_names))), (h_reserved, .inl (cJ, 23, .inr (.inl f_reserved))), (h_stack, .inl (cI, 45, .inl f_stack))]) [6, 5, 0, 1, 2, 3, 4] rfl) (hD.sub (ws' := [(h0, .inr (10, vL 67 F234)), (h_tape, .inl (cB, 940, .inl f_tape)), (h_s, .inl (cI, 335, .inl f_s)), (h_read, .inl (cI, 135, .inl f_read)), (h_names, .inl (cJ, 36, .inr (.inl f_names))), (h_reserved, .inl (cJ, 23, .inr (.inl f_reserved))), (h_stack, .inl (cI, 45, .inl f_stack))]) [6, 5, 0, 1, 2, 3, 4] (by decide) rfl) dX10_operand_232 rfl (Nat.le_of_ble_eq_true rfl) (Nat.le_of_ble_eq_true rfl) (Or.inl ⟨F234, y189, y190, y191, y192, y193, 1, y191, y194, v176, 1, (SAME.tr (SAME.up eF214 (SAME.tr (SAME.up eF178 SAME.rf (by decide)) t195 (by decide)) (by decide)) t235 (by decide)), (SAME.at t235 (by decide) (get_ne eF214 (by decide) t196)), t197, (SAME.at t235 (by decide) n219), (ir_wk k228 (by decide) (by decide)), (SAME.at t235 (by decide) n232), (SAME.at t235 (by decide) (get_ne eF214 (by decide) t202)), (SAME.at t235 (by decide) n229), t236, (show 1 ≤ (1 : Int32).toInt ∧ (1 : Int32).toInt ≤ 4 by decide), t237, (SAME.at t235 (by decide) (get_ne eF214 (by decide) t205)), (SAME.at t235 (by decide) (get_ne eF214 (by decide) (SAME.at t195 (by decide) (get_eq eF178)))), (ir_wk k177 (by decide) (by decide)), (SAME.at t235 (by decide) (get_eq eF214)), (show 0 ≤ (1 : Int32).toInt ∧ (1 : Int32).toInt ≤ 1 by decide), (by have zl0 : (0 : Int32).toInt = 0 := (by decide); have zl1 : (1 : Int32).toInt = 1 := (by decide); omega), (fun q => absurd q (by decide)), (fun q => absurd q (by decide)), (gq_lfF (tkM_1st (by omega)) (by rw [tkM_w (by omega)]; exact LEFF.w t11 (by omega)) (by have hd9 := z_3.2.1; omega) (atM t208 (by omega)) (sl_cF (by rw [tkM_w (by omega)]; exact LEFF.ge t11 (by omega)) (tkM_cmpn (by omega)) rfl)), (by have zl1 : (1 : Int32).toInt = 1 := (by decide); omega), (by have zl1 : (1 : Int32).toInt = 1 := (by decide); omega), rfl, rfl⟩)
                  · have dc230 : 60 ≤ y193.toInt := nlt_i (a := y193.toInt) (b := 60) rfl rfl c230
                    have k239 : 60 ≤ y193.toInt ∧ y193.toInt ≤ 2147483647 := ⟨Int.le_trans (Int.le_refl _) dc230, (ir_any _).2⟩
                    refine lv_aload_n hx hb dX10_operand_218 rfl (lv_at hl 3 rfl) ?_
                    refine get_f (D := D) (ci := 10) (v := .int y193) (C := RX10) (T := TX10) (N := 67) hx hb hw inAX10 hown hK hP 5 rfl rfl 14 (by decide) (hw _ q_1275) (fun _ h9 => h9) n229 dX10_operand_219 ?_
                    refine lv_bipush (v := 62) hx hb dX10_operand_222 (by decide) ?_
                    refine lv_icmp_le (tgt := 233) hx hb dX10_operand_224 (by decide) (fun c240 => ?_) (fun c240 => ?_)
                    · have dc240 : y193.toInt ≤ 62 := le_i (a := y193.toInt) (b := 62) rfl rfl c240
                      have k241 : 60 ≤ y193.toInt ∧ y193.toInt ≤ 62 := ⟨k239.1, Int.le_trans dc240 (Int.le_refl _)⟩
                      refine lv_aload_n hx hb dX10_operand_233 rfl (lv_at hl 3 rfl) ?_
                      refine get_f (D := D) (ci := 10) (v := .int y193) (C := RX10) (T := TX10) (N := 67) hx hb hw inAX10 hown hK hP 5 rfl rfl 14 (by decide) (hw _ q_1275) (fun _ h9 => h9) n229 dX10_operand_234 ?_
                      refine lv_istore (lv' := [(4, .int y193), (3, .int r9), (2, .int r5), (1, .int r1), (0, .ref h0)]) hx hb dX10_operand_237 hl (by decide) rfl (fun ls hl => ?_)
                      refine lv_aload_n hx hb dX10_operand_239 rfl (lv_at hl 4 rfl) ?_
                      have n242 : F188 1 = .ref h_tape := (SAME.at t195 (by decide) n179)
                      have n243 : F214 1 = .ref h_tape := (get_ne eF214 (by decide) n242)
                      have n244 : F188 3 = .int x_size := (SAME.at t195 (by decide) n180)
                      have n245 : F214 3 = .int x_size := (get_ne eF214 (by decide) n244)
                      have n246 : F214 4 = .int y189 := (get_ne eF214 (by decide) t196)
                      have n247 : F188 5 = .int x_limit := (SAME.at t195 (by decide) n182)
                      have n248 : F214 5 = .int x_limit := (get_ne eF214 (by decide) n247)
                      have n249 : F214 12 = .int y191 := (get_ne eF214 (by decide) t200)
                      have n250 : F214 18 = .long y194 := (get_ne eF214 (by decide) t205)
                      refine call_Vv (wr := [(h_s, .inl (cI, 335, .inl f_s)), (h_read, .inl (cI, 135, .inl f_read)), (h_names, .inl (cJ, 36, .inr (.inl f_names))), (h_reserved, .inl (cJ, 23, .inr (.inl f_reserved))), (h_stack, .inl (cI, 45, .inl f_stack))]) (As := []) (rest := []) hx hb hml hown hw (m_X10_next l D cI cJ cB cP cM cZ h0 h_tape F214 x_size y189 x_limit y190 y191 y193 y194 f_tape _ n243 n245 i_x_size n246 t197 n248 i_x_limit n219 (ir_wk k228 (by decide) (by decide)) n249 n229 n250 (by omega)) wV_X10_208_X10_next dX10_operand_240 hK hP hD hS hA [5, 6] [0, 1, 2, 3, 4] rfl rfl (by decide) (by decide) (by decide) 0 10 rfl rfl GG.fb hG.at hl.1 rfl (Nat.le_of_ble_eq_true rfl) ⟨(Nat.le_of_ble_eq_true rfl), (Nat.le_of_ble_eq_true rfl)⟩ ⟨(Nat.le_of_ble_eq_true rfl), (Nat.le_of_ble_eq_true rfl)⟩ (fun u H locs hp hP hD hS => ?_)
                      obtain ⟨F252, y253, y254, y255, y256, y257, y258, t259, t260, t261, t262, t263, t264, t265, t266, t267, t268, t269, t270, t271, t272, t273, t274, rfl⟩ := hp
                      first | have k276 := t207 (by omega) (by omega) | have k276 := t207 (by omega) | skip
                      first | have k277 := t210 (by omega) (by omega) | have k277 := t210 (by omega) | skip
                      clear t207 t210
                      have hP : va_P D vwCl [(h_s, .inl (cI, 335, .inl f_s)), (h_read, .inl (cI, 135, .inl f_read)), (h_names, .inl (cJ, 36, .inr (.inl f_names))), (h_reserved, .inl (cJ, 23, .inr (.inl f_reserved))), (h_stack, .inl (cI, 45, .inl f_stack)), (h0, .inr (10, vL 67 F252)), (h_tape, .inl (cB, 940, .inl f_tape))] H := hP
                      have hD : va_D A [(h_s, .inl (cI, 335, .inl f_s)), (h_read, .inl (cI, 135, .inl f_read)), (h_names, .inl (cJ, 36, .inr (.inl f_names))), (h_reserved, .inl (cJ, 23, .inr (.inl f_reserved))), (h_stack, .inl (cI, 45, .inl f_stack)), (h0, .inr (10, vL 67 F252)), (h_tape, .inl (cB, 940, .inl f_tape))] := hD
                      refine W.widen (k := 0) (n := 0) (Nat.le_of_ble_eq_true rfl) (Nat.le_of_ble_eq_true rfl) ?_
                      refine lv_aload_n hx hb dX10_operand_243 rfl (lv_at hl 4 rfl) ?_
                      refine get_f (D := D) (ci := 10) (v := .int y254) (C := RX10) (T := TX10) (N := 67) hx hb hw inAX10 hown hK hP 5 rfl rfl 11 (by decide) (hw _ q_1272) (fun _ h9 => h9) t262 dX10_operand_244 ?_
                      refine lv_iconst (v := 2) hx hb dX10_operand_247 (by decide) ?_
                      refine lv_icmp_eq (tgt := 257) hx hb dX10_operand_248 (by decide) (fun c278 => ?_) (fun c278 => ?_)
                      · have dc278 : y254.toInt = 2 := eq_i (a := y254.toInt) (b := 2) rfl rfl c278
                        have k279 : 2 ≤ y254.toInt ∧ y254.toInt ≤ 2 := ⟨Int.le_trans (Int.le_refl _) (Int.le_of_eq dc278.symm), Int.le_trans (Int.le_of_eq dc278) (Int.le_refl _)⟩
                        refine lv_aload_n hx hb dX10_operand_257 rfl (lv_at hl 4 rfl) ?_
                        refine lv_iload_n hx hb dX10_operand_258 rfl (lv_at hl 1 rfl) ?_
                        refine lv_iload hx hb dX10_operand_259 (lv_at hl 0 rfl) ?_
                        refine lv_aload_n hx hb dX10_operand_261 rfl (lv_at hl 4 rfl) ?_
                        refine get_f (D := D) (ci := 10) (v := .int y257) (C := RX10) (T := TX10) (N := 67) hx hb hw inAX10 hown hK hP 5 rfl rfl 14 (by decide) (hw _ q_1275) (fun _ h9 => h9) t268 dX10_operand_262 ?_
                        have n280 : F178 8 = .ref h_read := (get_ne eF178 (by decide) e_read)
                        have n281 : F188 8 = .ref h_read := (SAME.at t195 (by decide) n280)
                        have n282 : F214 8 = .ref h_read := (get_ne eF214 (by decide) n281)
                        have n283 : F252 8 = .ref h_read := (SAME.at t259 (by decide) n282)
                        have n284 : F178 58 = .int x_codes := (get_ne eF178 (by decide) e_codes)
                        have n285 : F188 58 = .int x_codes := (SAME.at t195 (by decide) n284)
                        have n286 : F214 58 = .int x_codes := (get_ne eF214 (by decide) n285)
                        have n287 : F252 58 = .int x_codes := (SAME.at t259 (by decide) n286)
                        have n288 : F188 59 = .int v176 := (SAME.at t195 (by decide) (get_eq eF178))
                        have n289 : F214 59 = .int v176 := (get_ne eF214 (by decide) n288)
                        have n290 : F252 59 = .int v176 := (SAME.at t259 (by decide) n289)
                        have n291 : F178 60 = .int x_top := (get_ne eF178 (by decide) e_top)
                        have n292 : F188 60 = .int x_top := (SAME.at t195 (by decide) n291)
                        have n293 : F214 60 = .int x_top := (get_ne eF214 (by decide) n292)
                        have n294 : F252 60 = .int x_top := (SAME.at t259 (by decide) n293)
                        have n295 : F252 62 = .int 1 := (SAME.at t259 (by decide) (get_eq eF214))
                        refine call_Vv (wr := [(h_s, .inl (cI, 335, .inl f_s)), (h_names, .inl (cJ, 36, .inr (.inl f_names))), (h_reserved, .inl (cJ, 23, .inr (.inl f_reserved))), (h_stack, .inl (cI, 45, .inl f_stack)), (h_tape, .inl (cB, 940, .inl f_tape))]) (As := [.int r9, .int y193, .int y257]) (rest := []) hx hb hml hown hw (m_X10_code l D cI cJ cB cP cM cZ h0 h_read F252 x_codes v176 x_top 1 f_read r9 y193 y257 _ n283 n287 (show 0 ≤ x_codes.toInt ∧ x_codes.toInt ≤ 44 from ⟨by omega, by omega⟩) n290 (ir_wk k177 (by decide) (by decide)) n294 i_x_top n295 (show 0 ≤ (1 : Int32).toInt ∧ (1 : Int32).toInt ≤ 1 by decide) (by have z0 : (1 : Int32).toInt = 1 := rfl; omega) (by have z0 : (1 : Int32).toInt = 1 := rfl; omega)) wV_X10_447_X10_code dX10_operand_265 hK hP hD hS hA [5, 1] [0, 2, 3, 4, 6] rfl rfl (by decide) (by decide) (by decide) 0 10 rfl rfl GG.fb hG.at hl.1 rfl (Nat.le_of_ble_eq_true rfl) ⟨(Nat.le_of_ble_eq_true rfl), (Nat.le_of_ble_eq_true rfl)⟩ ⟨(Nat.le_of_ble_eq_true rfl), (Nat.le_of_ble_eq_true rfl)⟩ (fun u H locs hp hP hD hS => ?_)
                        have zl1 : (1 : Int32).toInt = 1 := by decide
                        obtain ⟨F297, y298, g299, t300, t301, t302, t303, t304, t305, rfl⟩ := hp
                        have hP : va_P D vwCl [(h_s, .inl (cI, 335, .inl f_s)), (h_names, .inl (cJ, 36, .inr (.inl f_names))), (h_reserved, .inl (cJ, 23, .inr (.inl f_reserved))), (h_stack, .inl (cI, 45, .inl f_stack)), (h_tape, .inl (cB, 940, .inl f_tape)), (h0, .inr (10, vL 67 F297)), (h_read, .inl (cI, 135, .inl g299))] H := hP
                        have hD : va_D A [(h_s, .inl (cI, 335, .inl f_s)), (h_names, .inl (cJ, 36, .inr (.inl f_names))), (h_reserved, .inl (cJ, 23, .inr (.inl f_reserved))), (h_stack, .inl (cI, 45, .inl f_stack)), (h_tape, .inl (cB, 940, .inl f_tape)), (h0, .inr (10, vL 67 F297)), (h_read, .inl (cI, 135, .inl g299))] := hD
                        refine W.widen (k := 0) (n := 0) (Nat.le_of_ble_eq_true rfl) (Nat.le_of_ble_eq_true rfl) ?_
                        refine lv_aload_n hx hb dX10_operand_268 rfl (lv_at hl 4 rfl) ?_
                        have n307 : F252 1 = .ref h_tape := (SAME.at t259 (by decide) n243)
                        have n308 : F297 1 = .ref h_tape := (SAME.at t300 (by decide) n307)
                        have n309 : F252 3 = .int x_size := (SAME.at t259 (by decide) n245)
                        have n310 : F297 3 = .int x_size := (SAME.at t300 (by decide) n309)
                        have n311 : F297 4 = .int y253 := (SAME.at t300 (by decide) t260)
                        have n312 : F252 5 = .int x_limit := (SAME.at t259 (by decide) n248)
                        have n313 : F297 5 = .int x_limit := (SAME.at t300 (by decide) n312)
                        have n314 : F297 11 = .int y254 := (SAME.at t300 (by decide) t262)
                        have n315 : F297 12 = .int y255 := (SAME.at t300 (by decide) t264)
                        have n316 : F297 14 = .int y257 := (SAME.at t300 (by decide) t268)
                        have n317 : F297 18 = .long y258 := (SAME.at t300 (by decide) t269)
                        refine call_Vv (wr := [(h_s, .inl (cI, 335, .inl f_s)), (h_names, .inl (cJ, 36, .inr (.inl f_names))), (h_reserved, .inl (cJ, 23, .inr (.inl f_reserved))), (h_stack, .inl (cI, 45, .inl f_stack)), (h_read, .inl (cI, 135, .inl g299))]) (As := []) (rest := []) hx hb hml hown hw (m_X10_next l D cI cJ cB cP cM cZ h0 h_tape F297 x_size y253 x_limit y254 y255 y257 y258 f_tape _ n308 n310 i_x_size n311 t261 n313 i_x_limit n314 (ir_wk k279 (by decide) (by decide)) n315 n316 n317 (by omega)) wV_X10_208_X10_next dX10_operand_269 hK hP hD hS hA [5, 4] [0, 1, 2, 3, 6] rfl rfl (by decide) (by decide) (by decide) 0 10 rfl rfl GG.fb hG.at hl.1 rfl (Nat.le_of_ble_eq_true rfl) ⟨(Nat.le_of_ble_eq_true rfl), (Nat.le_of_ble_eq_true rfl)⟩ ⟨(Nat.le_of_ble_eq_true rfl), (Nat.le_of_ble_eq_true rfl)⟩ (fun u H locs hp hP hD hS => ?_)
                        obtain ⟨F319, y320, y321, y322, y323, y324, y325, t326, t327, t328, t329, t330, t331, t332, t333, t334, t335, t336, t337, t338, t339, t340, t341, rfl⟩ := hp
                        first | have k343 := t271 (by omega) (by omega) | have k343 := t271 (by omega) | skip
                        first | have k344 := t274 (by omega) (by omega) | have k344 := t274 (by omega) | skip
                        clear t271 t274
                        have hP : va_P D vwCl [(h_s, .inl (cI, 335, .inl f_s)), (h_names, .inl (cJ, 36, .inr (.inl f_names))), (h_reserved, .inl (cJ, 23, .inr (.inl f_reserved))), (h_stack, .inl (cI, 45, .inl f_stack)), (h_read, .inl (cI, 135, .inl g299)), (h0, .inr (10, vL 67 F319)), (h_tape, .inl (cB, 940, .inl f_tape))] H := hP
                        have hD : va_D A [(h_s, .inl (cI, 335, .inl f_s)), (h_names, .inl (cJ, 36, .inr (.inl f_names))), (h_reserved, .inl (cJ, 23, .inr (.inl f_reserved))), (h_stack, .inl (cI, 45, .inl f_stack)), (h_read, .inl (cI, 135, .inl g299)), (h0, .inr (10, vL 67 F319)), (h_tape, .inl (cB, 940, .inl f_tape))] := hD
                        refine W.widen (k := 0) (n := 0) (Nat.le_of_ble_eq_true rfl) (Nat.le_of_ble_eq_true rfl) ?_
                        refine lv_iconst (v := 1) hx hb dX10_operand_272 (by decide) ?_
                        exact ret_i (v := 1) hx hb hr hlocks hS (hP.sub (ws' := [(h0, .inr (10, vL 67 F319)), (h_tape, .inl (cB, 940, .inl f_tape)), (h_s, .inl (cI, 335, .inl f_s)), (h_read, .inl (cI, 135, .inl g299)), (h_names, .inl (cJ, 36, .inr (.inl f_names))), (h_reserved, .inl (cJ, 23, .inr (.inl f_reserved))), (h_stack, .inl (cI, 45, .inl f_stack))]) [5, 6, 0, 4, 1, 2, 3] rfl) (hD.sub (ws' := [(h0, .inr (10, vL 67 F319)), (h_tape, .inl (cB, 940, .inl f_tape)), (h_s, .inl (cI, 335, .inl f_s)), (h_read, .inl (cI, 135, .inl g299)), (h_names, .inl (cJ, 36, .inr (.inl f_names))), (h_reserved, .inl (cJ, 23, .inr (.inl f_reserved))), (h_stack, .inl (cI, 45, .inl f_stack))]) [5, 6, 0, 4, 1, 2, 3] (by decide) rfl) dX10_operand_273 rfl (Nat.le_of_ble_eq_true rfl) (Nat.le_of_ble_eq_true rfl) (Or.inr ⟨F319, y320, y321, y322, y323, y324, y325, y298, v176, x_top, x_deep, 1, g299, f_stack, (SAME.tr (SAME.tr (SAME.tr (SAME.up eF214 (SAME.tr (SAME.up eF178 SAME.rf (by decide)) t195 (by decide)) (by decide)) t259 (by decide)) t300 (by decide)) t326 (by decide)), t327, t328, t329, t330, t331, t332, t333, t334, t335, t336, (SAME.at t326 (by decide) t301), (ir_wk t302 (by decide) (by decide)), (SAME.at t326 (by decide) (SAME.at t300 (by decide) n290)), k177, (SAME.at t326 (by decide) (SAME.at t300 (by decide) n294)), i_x_top, (SAME.at t326 (by decide) (SAME.at t300 (by decide) (SAME.at t259 (by decide) (get_ne eF214 (by decide) (SAME.at t195 (by decide) (get_ne eF178 (by decide) e_deep)))))), (ir_wk k175 (by decide) (by decide)), (SAME.at t326 (by decide) (SAME.at t300 (by decide) n295)), (show 0 ≤ (1 : Int32).toInt ∧ (1 : Int32).toInt ≤ 1 by decide), (by have zl1 : (1 : Int32).toInt = 1 := (by decide); omega), (fun _ => SMI.leaf z_1 t304 (ir_wk k218 (by decide) (by decide)) (by omega) (by decide)), (fun _ => t340), (fun r9 g9 => gq_lf (tkM_1st (by omega)) (by rw [tkM_w (by omega)]; exact LEFF.w t11 (by omega)) (by have hd9 := z_3.2.1; omega) (atM t208 (by omega)) (sl_c (by rw [tkM_w (by omega)]; exact LEFF.ge t11 (by omega)) (tkM_cmp (by omega)) (atM3 t272 (by omega)) (numM_1 (by omega) ⟨by omega, by omega⟩ t339)) (by omega) (by omega) g9), z_3, (by have zl1 : (1 : Int32).toInt = 1 := (by decide); omega), (by have zl1 : (1 : Int32).toInt = 1 := (by decide); omega), rfl, rfl⟩)
                      · have dc278 : y254.toInt ≠ 2 := ne_i (a := y254.toInt) (b := 2) rfl rfl c278
                        refine lv_aload_n hx hb dX10_operand_251 rfl (lv_at hl 4 rfl) ?_
                        refine lv_iconst (v := 1) hx hb dX10_operand_252 (by decide) ?_
                        refine call_Vi (wr := [(h_s, .inl (cI, 335, .inl f_s)), (h_read, .inl (cI, 135, .inl f_read)), (h_names, .inl (cJ, 36, .inr (.inl f_names))), (h_reserved, .inl (cJ, 23, .inr (.inl f_reserved))), (h_stack, .inl (cI, 45, .inl f_stack)), (h_tape, .inl (cB, 940, .inl f_tape))]) (As := [.int 1]) (rest := []) hx hb hml hown hw (m_X10_bad l D cI cJ cB cP cM cZ h0 F252 y255 1 _ t264) wV_X10_205_X10_bad dX10_operand_253 hK hP hD hS hA [5] [0, 1, 2, 3, 4, 6] rfl rfl (by decide) (by decide) (by decide) 0 10 rfl rfl GG.fb hG.at hl.1 rfl (Nat.le_of_ble_eq_true rfl) ⟨(Nat.le_of_ble_eq_true rfl), (Nat.le_of_ble_eq_true rfl)⟩ ⟨(Nat.le_of_ble_eq_true rfl), (Nat.le_of_ble_eq_true rfl)⟩ (fun r345 u H locs hp hP hD hS => ?_)
                        have zl1 : (1 : Int32).toInt = 1 := by decide
                        obtain ⟨F346, t347, t348, t349, rfl, rfl⟩ := hp
                        have hP : va_P D vwCl [(h_s, .inl (cI, 335, .inl f_s)), (h_read, .inl (cI, 135, .inl f_read)), (h_names, .inl (cJ, 36, .inr (.inl f_names))), (h_reserved, .inl (cJ, 23, .inr (.inl f_reserved))), (h_stack, .inl (cI, 45, .inl f_stack)), (h_tape, .inl (cB, 940, .inl f_tape)), (h0, .inr (10, vL 67 F346))] H := hP
                        have hD : va_D A [(h_s, .inl (cI, 335, .inl f_s)), (h_read, .inl (cI, 135, .inl f_read)), (h_names, .inl (cJ, 36, .inr (.inl f_names))), (h_reserved, .inl (cJ, 23, .inr (.inl f_reserved))), (h_stack, .inl (cI, 45, .inl f_stack)), (h_tape, .inl (cB, 940, .inl f_tape)), (h0, .inr (10, vL 67 F346))] := hD
                        refine W.widen (k := 0) (n := 0) (Nat.le_of_ble_eq_true rfl) (Nat.le_of_ble_eq_true rfl) ?_
                        exact ret_i (v := 0) hx hb hr hlocks hS (hP.sub (ws' := [(h0, .inr (10, vL 67 F346)), (h_tape, .inl (cB, 940, .inl f_tape)), (h_s, .inl (cI, 335, .inl f_s)), (h_read, .inl (cI, 135, .inl f_read)), (h_names, .inl (cJ, 36, .inr (.inl f_names))), (h_reserved, .inl (cJ, 23, .inr (.inl f_reserved))), (h_stack, .inl (cI, 45, .inl f_stack))]) [6, 5, 0, 1, 2, 3, 4] rfl) (hD.sub (ws' := [(h0, .inr (10, vL 67 F346)), (h_tape, .inl (cB, 940, .inl f_tape)), (h_s, .inl (cI, 335, .inl f_s)), (h_read, .inl (cI, 135, .inl f_read)), (h_names, .inl (cJ, 36, .inr (.inl f_names))), (h_reserved, .inl (cJ, 23, .inr (.inl f_reserved))), (h_stack, .inl (cI, 45, .inl f_stack))]) [6, 5, 0, 1, 2, 3, 4] (by decide) rfl) dX10_operand_256 rfl (Nat.le_of_ble_eq_true rfl) (Nat.le_of_ble_eq_true rfl) (Or.inl ⟨F346, y253, y254, y255, y256, y257, 1, y255, y258, v176, 1, (SAME.tr (SAME.tr (SAME.up eF214 (SAME.tr (SAME.up eF178 SAME.rf (by decide)) t195 (by decide)) (by decide)) t259 (by decide)) t347 (by decide)), (SAME.at t347 (by decide) t260), t261, (SAME.at t347 (by decide) t262), t263, (SAME.at t347 (by decide) t264), (SAME.at t347 (by decide) t266), (SAME.at t347 (by decide) t268), t348, (show 1 ≤ (1 : Int32).toInt ∧ (1 : Int32).toInt ≤ 4 by decide), t349, (SAME.at t347 (by decide) t269), (SAME.at t347 (by decide) (SAME.at t259 (by decide) (get_ne eF214 (by decide) (SAME.at t195 (by decide) (get_eq eF178))))), (ir_wk k177 (by decide) (by decide)), (SAME.at t347 (by decide) (SAME.at t259 (by decide) (get_eq eF214))), (show 0 ≤ (1 : Int32).toInt ∧ (1 : Int32).toInt ≤ 1 by decide), (by have zl0 : (0 : Int32).toInt = 0 := (by decide); have zl1 : (1 : Int32).toInt = 1 := (by decide); omega), (fun q => absurd q (by decide)), (fun q => absurd q (by decide)), (gq_lfF (tkM_1st (by omega)) (by rw [tkM_w (by omega)]; exact LEFF.w t11 (by omega)) (by have hd9 := z_3.2.1; omega) (atM t208 (by omega)) (sl_c (by rw [tkM_w (by omega)]; exact LEFF.ge t11 (by omega)) (tkM_cmp (by omega)) (atM3 t272 (by omega)) (numM_0 (Or.inl ⟨by omega, by decide, rfl⟩)))), (by have zl1 : (1 : Int32).toInt = 1 := (by decide); omega), (by have zl1 : (1 : Int32).toInt = 1 := (by decide); omega), rfl, rfl⟩)
                    · have dc240 : 62 < y193.toInt := nle_i (a := y193.toInt) (b := 62) rfl rfl c240
                      have k351 : 63 ≤ y193.toInt ∧ y193.toInt ≤ 2147483647 := ⟨lo_lt dc240 (Int.le_refl _) (by decide), k239.2⟩
                      refine lv_aload_n hx hb dX10_operand_227 rfl (lv_at hl 3 rfl) ?_
                      refine lv_iconst (v := 1) hx hb dX10_operand_228 (by decide) ?_
                      have n352 : F214 12 = .int y191 := (get_ne eF214 (by decide) t200)
                      refine call_Vi (wr := [(h_s, .inl (cI, 335, .inl f_s)), (h_read, .inl (cI, 135, .inl f_read)), (h_names, .inl (cJ, 36, .inr (.inl f_names))), (h_reserved, .inl (cJ, 23, .inr (.inl f_reserved))), (h_stack, .inl (cI, 45, .inl f_stack)), (h_tape, .inl (cB, 940, .inl f_tape))]) (As := [.int 1]) (rest := []) hx hb hml hown hw (m_X10_bad l D cI cJ cB cP cM cZ h0 F214 y191 1 _ n352) wV_X10_205_X10_bad dX10_operand_229 hK hP hD hS hA [5] [0, 1, 2, 3, 4, 6] rfl rfl (by decide) (by decide) (by decide) 0 10 rfl rfl GG.fb hG.at hl.1 rfl (Nat.le_of_ble_eq_true rfl) ⟨(Nat.le_of_ble_eq_true rfl), (Nat.le_of_ble_eq_true rfl)⟩ ⟨(Nat.le_of_ble_eq_true rfl), (Nat.le_of_ble_eq_true rfl)⟩ (fun r353 u H locs hp hP hD hS => ?_)
                      have zl1 : (1 : Int32).toInt = 1 := by decide
                      obtain ⟨F354, t355, t356, t357, rfl, rfl⟩ := hp
                      have hP : va_P D vwCl [(h_s, .inl (cI, 335, .inl f_s)), (h_read, .inl (cI, 135, .inl f_read)), (h_names, .inl (cJ, 36, .inr (.inl f_names))), (h_reserved, .inl (cJ, 23, .inr (.inl f_reserved))), (h_stack, .inl (cI, 45, .inl f_stack)), (h_tape, .inl (cB, 940, .inl f_tape)), (h0, .inr (10, vL 67 F354))] H := hP
                      have hD : va_D A [(h_s, .inl (cI, 335, .inl f_s)), (h_read, .inl (cI, 135, .inl f_read)), (h_names, .inl (cJ, 36, .inr (.inl f_names))), (h_reserved, .inl (cJ, 23, .inr (.inl f_reserved))), (h_stack, .inl (cI, 45, .inl f_stack)), (h_tape, .inl (cB, 940, .inl f_tape)), (h0, .inr (10, vL 67 F354))] := hD
                      refine W.widen (k := 0) (n := 0) (Nat.le_of_ble_eq_true rfl) (Nat.le_of_ble_eq_true rfl) ?_
                      exact ret_i (v := 0) hx hb hr hlocks hS (hP.sub (ws' := [(h0, .inr (10, vL 67 F354)), (h_tape, .inl (cB, 940, .inl f_tape)), (h_s, .inl (cI, 335, .inl f_s)), (h_read, .inl (cI, 135, .inl f_read)), (h_names, .inl (cJ, 36, .inr (.inl f_names))), (h_reserved, .inl (cJ, 23, .inr (.inl f_reserved))), (h_stack, .inl (cI, 45, .inl f_stack))]) [6, 5, 0, 1, 2, 3, 4] rfl) (hD.sub (ws' := [(h0, .inr (10, vL 67 F354)), (h_tape, .inl (cB, 940, .inl f_tape)), (h_s, .inl (cI, 335, .inl f_s)), (h_read, .inl (cI, 135, .inl f_read)), (h_names, .inl (cJ, 36, .inr (.inl f_names))), (h_reserved, .inl (cJ, 23, .inr (.inl f_reserved))), (h_stack, .inl (cI, 45, .inl f_stack))]) [6, 5, 0, 1, 2, 3, 4] (by decide) rfl) dX10_operand_232 rfl (Nat.le_of_ble_eq_true rfl) (Nat.le_of_ble_eq_true rfl) (Or.inl ⟨F354, y189, y190, y191, y192, y193, 1, y191, y194, v176, 1, (SAME.tr (SAME.up eF214 (SAME.tr (SAME.up eF178 SAME.rf (by decide)) t195 (by decide)) (by decide)) t355 (by decide)), (SAME.at t355 (by decide) (get_ne eF214 (by decide) t196)), t197, (SAME.at t355 (by decide) n219), (ir_wk k228 (by decide) (by decide)), (SAME.at t355 (by decide) n352), (SAME.at t355 (by decide) (get_ne eF214 (by decide) t202)), (SAME.at t355 (by decide) n229), t356, (show 1 ≤ (1 : Int32).toInt ∧ (1 : Int32).toInt ≤ 4 by decide), t357, (SAME.at t355 (by decide) (get_ne eF214 (by decide) t205)), (SAME.at t355 (by decide) (get_ne eF214 (by decide) (SAME.at t195 (by decide) (get_eq eF178)))), (ir_wk k177 (by decide) (by decide)), (SAME.at t355 (by decide) (get_eq eF214)), (show 0 ≤ (1 : Int32).toInt ∧ (1 : Int32).toInt ≤ 1 by decide), (by have zl0 : (0 : Int32).toInt = 0 := (by decide); have zl1 : (1 : Int32).toInt = 1 := (by decide); omega), (fun q => absurd q (by decide)), (fun q => absurd q (by decide)), (gq_lfF (tkM_1st (by omega)) (by rw [tkM_w (by omega)]; exact LEFF.w t11 (by omega)) (by have hd9 := z_3.2.1; omega) (atM t208 (by omega)) (sl_cF (by rw [tkM_w (by omega)]; exact LEFF.ge t11 (by omega)) (tkM_cmpn (by omega)) rfl)), (by have zl1 : (1 : Int32).toInt = 1 := (by decide); omega), (by have zl1 : (1 : Int32).toInt = 1 := (by decide); omega), rfl, rfl⟩)
              · have dc217 : r9.toInt = 2 := eq_i (a := r9.toInt) (b := 2) rfl rfl c217
                have k359 : 2 ≤ r9.toInt ∧ r9.toInt ≤ 2 := ⟨k216.1, Int.le_trans (Int.le_of_eq dc217) (Int.le_refl _)⟩
                refine lv_aload_n hx hb dX10_operand_150 rfl (lv_at hl 3 rfl) ?_
                have n360 : F178 10 = .ref h_reserved := (get_ne eF178 (by decide) e_reserved)
                have n361 : F188 10 = .ref h_reserved := (SAME.at t195 (by decide) n360)
                have n362 : F214 10 = .ref h_reserved := (get_ne eF214 (by decide) n361)
                have n363 : F214 11 = .int y190 := (get_ne eF214 (by decide) t198)
                have n364 : F214 14 = .int y193 := (get_ne eF214 (by decide) t204)
                have n365 : F214 18 = .long y194 := (get_ne eF214 (by decide) t205)
                refine call_Vi (wr := [(h_s, .inl (cI, 335, .inl f_s)), (h_read, .inl (cI, 135, .inl f_read)), (h_names, .inl (cJ, 36, .inr (.inl f_names))), (h_stack, .inl (cI, 45, .inl f_stack)), (h_tape, .inl (cB, 940, .inl f_tape))]) (As := []) (rest := []) hx hb hml hown hw (m_X10_isName l D cI cJ cB cP cM cZ h0 h_reserved F214 y190 y193 y194 f_reserved _ n362 n363 t199 n364 n365 s_reserved_KR t209 (by omega)) wV_X10_218_X10_isName dX10_operand_151 hK hP hD hS hA [5, 3] [0, 1, 2, 4, 6] rfl rfl (by decide) (by decide) (by decide) 0 10 rfl rfl GG.fb hG.at hl.1 rfl (Nat.le_of_ble_eq_true rfl) ⟨(Nat.le_of_ble_eq_true rfl), (Nat.le_of_ble_eq_true rfl)⟩ ⟨(Nat.le_of_ble_eq_true rfl), (Nat.le_of_ble_eq_true rfl)⟩ (fun r366 u H locs hp hP hD hS => ?_)
                obtain ⟨t367, t368, rfl⟩ := hp
                have hP : va_P D vwCl [(h_s, .inl (cI, 335, .inl f_s)), (h_read, .inl (cI, 135, .inl f_read)), (h_names, .inl (cJ, 36, .inr (.inl f_names))), (h_stack, .inl (cI, 45, .inl f_stack)), (h_tape, .inl (cB, 940, .inl f_tape)), (h0, .inr (10, vL 67 F214)), (h_reserved, .inl (cJ, 23, .inr (.inl f_reserved)))] H := hP
                have hD : va_D A [(h_s, .inl (cI, 335, .inl f_s)), (h_read, .inl (cI, 135, .inl f_read)), (h_names, .inl (cJ, 36, .inr (.inl f_names))), (h_stack, .inl (cI, 45, .inl f_stack)), (h_tape, .inl (cB, 940, .inl f_tape)), (h0, .inr (10, vL 67 F214)), (h_reserved, .inl (cJ, 23, .inr (.inl f_reserved)))] := hD
                refine W.widen (k := 0) (n := 0) (Nat.le_of_ble_eq_true rfl) (Nat.le_of_ble_eq_true rfl) ?_
                replace t368 := ISWF.mk t368
                refine lv_if_ne (tgt := 163) hx hb dX10_operand_154 (by decide) (fun c370 => ?_) (fun c370 => ?_)
                · have dc370 : r366.toInt ≠ 0 := ne_i (a := r366.toInt) (b := 0) rfl rfl c370
                  have k371 : 1 ≤ r366.toInt ∧ r366.toInt ≤ 1 := ⟨ne_lo dc370 t367.1 ⟨Int.le_refl _, Int.le_refl _⟩ (by decide), t367.2⟩
                  have h372 := ISWF.t t368 (by omega)
                  refine lv_aload_n hx hb dX10_operand_163 rfl (lv_at hl 3 rfl) ?_
                  refine lv_iconst (v := 0) hx hb dX10_operand_164 (by decide) ?_
                  refine lv_aload_n hx hb dX10_operand_165 rfl (lv_at hl 3 rfl) ?_
                  have n373 : F178 6 = .ref h_s := (get_ne eF178 (by decide) e_s)
                  have n374 : F188 6 = .ref h_s := (SAME.at t195 (by decide) n373)
                  have n375 : F214 6 = .ref h_s := (get_ne eF214 (by decide) n374)
                  refine get_f (D := D) (ci := 10) (v := .ref h_s) (C := RX10) (T := TX10) (N := 67) hx hb hw inAX10 hown hK hP 5 rfl rfl 6 (by decide) (hw _ q_1267) (fun _ h9 => h9) n375 dX10_operand_166 ?_
                  refine lv_iconst (v := 5) hx hb dX10_operand_169 (by decide) ?_
                  refine iald_n hx hb hK hP 0 0 rfl rfl 5 rfl (Nat.le_of_ble_eq_true rfl) (Nat.le_of_ble_eq_true rfl) rfl dX10_operand_170 ?_
                  refine lv_topi (fun v376 ev376 => ?_)
                  have k377 : 0 ≤ v376.toInt ∧ v376.toInt ≤ 12 := by rw [ev376]; exact s_s_5.atN 5 (by decide) (by decide)
                  have n378 : F178 9 = .ref h_names := (get_ne eF178 (by decide) e_names)
                  have n379 : F188 9 = .ref h_names := (SAME.at t195 (by decide) n378)
                  have n380 : F214 9 = .ref h_names := (get_ne eF214 (by decide) n379)
                  refine call_Vi (wr := [(h_s, .inl (cI, 335, .inl f_s)), (h_read, .inl (cI, 135, .inl f_read)), (h_stack, .inl (cI, 45, .inl f_stack)), (h_tape, .inl (cB, 940, .inl f_tape)), (h_reserved, .inl (cJ, 23, .inr (.inl f_reserved)))]) (As := [.int 0, .int v376]) (rest := []) hx hb hml hown hw (m_X10_find l D cI cJ cB cP cM cZ h0 h_names F214 y194 f_names 0 v376 _ n380 n365 (show 0 ≤ (0 : Int32).toInt ∧ (0 : Int32).toInt ≤ 30 by decide) k377 (by have z0 : (0 : Int32).toInt = 0 := rfl; omega)) wV_X10_222_X10_find dX10_operand_171 hK hP hD hS hA [5, 2] [0, 1, 3, 4, 6] rfl rfl (by decide) (by decide) (by decide) 0 10 rfl rfl GG.fb hG.at hl.1 rfl (Nat.le_of_ble_eq_true rfl) ⟨(Nat.le_of_ble_eq_true rfl), (Nat.le_of_ble_eq_true rfl)⟩ ⟨(Nat.le_of_ble_eq_true rfl), (Nat.le_of_ble_eq_true rfl)⟩ (fun r381 u H locs hp hP hD hS => ?_)
                  have zl0 : (0 : Int32).toInt = 0 := by decide
                  rcases hp with ⟨t382, t383, t384, rfl, rfl⟩ | ⟨t385, t386, t387, t388, rfl⟩
                  · have hP : va_P D vwCl [(h_s, .inl (cI, 335, .inl f_s)), (h_read, .inl (cI, 135, .inl f_read)), (h_stack, .inl (cI, 45, .inl f_stack)), (h_tape, .inl (cB, 940, .inl f_tape)), (h_reserved, .inl (cJ, 23, .inr (.inl f_reserved))), (h0, .inr (10, vL 67 F214)), (h_names, .inl (cJ, 36, .inr (.inl f_names)))] H := hP
                    have hD : va_D A [(h_s, .inl (cI, 335, .inl f_s)), (h_read, .inl (cI, 135, .inl f_read)), (h_stack, .inl (cI, 45, .inl f_stack)), (h_tape, .inl (cB, 940, .inl f_tape)), (h_reserved, .inl (cJ, 23, .inr (.inl f_reserved))), (h0, .inr (10, vL 67 F214)), (h_names, .inl (cJ, 36, .inr (.inl f_names)))] := hD
                    refine W.widen (k := 0) (n := 0) (Nat.le_of_ble_eq_true rfl) (Nat.le_of_ble_eq_true rfl) ?_
                    refine lv_istore (lv' := [(4, .int (-1)), (3, .int r9), (2, .int r5), (1, .int r1), (0, .ref h0)]) hx hb dX10_operand_174 hl (by decide) rfl (fun ls hl => ?_)
                    refine lv_iload hx hb dX10_operand_176 (lv_at hl 0 rfl) ?_
                    refine lv_if_ge (tgt := 187) hx hb dX10_operand_178 (by decide) (fun g => absurd g (by decide)) (fun _ => ?_)
                    refine lv_aload_n hx hb dX10_operand_181 rfl (lv_at hl 4 rfl) ?_
                    refine lv_iconst (v := 3) hx hb dX10_operand_182 (by decide) ?_
                    have n390 : F214 12 = .int y191 := (get_ne eF214 (by decide) t200)
                    refine call_Vi (wr := [(h_s, .inl (cI, 335, .inl f_s)), (h_read, .inl (cI, 135, .inl f_read)), (h_stack, .inl (cI, 45, .inl f_stack)), (h_tape, .inl (cB, 940, .inl f_tape)), (h_reserved, .inl (cJ, 23, .inr (.inl f_reserved))), (h_names, .inl (cJ, 36, .inr (.inl f_names)))]) (As := [.int 3]) (rest := []) hx hb hml hown hw (m_X10_bad l D cI cJ cB cP cM cZ h0 F214 y191 3 _ n390) wV_X10_205_X10_bad dX10_operand_183 hK hP hD hS hA [5] [0, 1, 2, 3, 4, 6] rfl rfl (by decide) (by decide) (by decide) 0 10 rfl rfl GG.fb hG.at hl.1 rfl (Nat.le_of_ble_eq_true rfl) ⟨(Nat.le_of_ble_eq_true rfl), (Nat.le_of_ble_eq_true rfl)⟩ ⟨(Nat.le_of_ble_eq_true rfl), (Nat.le_of_ble_eq_true rfl)⟩ (fun r391 u H locs hp hP hD hS => ?_)
                    have zl3 : (3 : Int32).toInt = 3 := by decide
                    obtain ⟨F392, t393, t394, t395, rfl, rfl⟩ := hp
                    have hP : va_P D vwCl [(h_s, .inl (cI, 335, .inl f_s)), (h_read, .inl (cI, 135, .inl f_read)), (h_stack, .inl (cI, 45, .inl f_stack)), (h_tape, .inl (cB, 940, .inl f_tape)), (h_reserved, .inl (cJ, 23, .inr (.inl f_reserved))), (h_names, .inl (cJ, 36, .inr (.inl f_names))), (h0, .inr (10, vL 67 F392))] H := hP
                    have hD : va_D A [(h_s, .inl (cI, 335, .inl f_s)), (h_read, .inl (cI, 135, .inl f_read)), (h_stack, .inl (cI, 45, .inl f_stack)), (h_tape, .inl (cB, 940, .inl f_tape)), (h_reserved, .inl (cJ, 23, .inr (.inl f_reserved))), (h_names, .inl (cJ, 36, .inr (.inl f_names))), (h0, .inr (10, vL 67 F392))] := hD
                    refine W.widen (k := 0) (n := 0) (Nat.le_of_ble_eq_true rfl) (Nat.le_of_ble_eq_true rfl) ?_
                    exact ret_i (v := 0) hx hb hr hlocks hS (hP.sub (ws' := [(h0, .inr (10, vL 67 F392)), (h_tape, .inl (cB, 940, .inl f_tape)), (h_s, .inl (cI, 335, .inl f_s)), (h_read, .inl (cI, 135, .inl f_read)), (h_names, .inl (cJ, 36, .inr (.inl f_names))), (h_reserved, .inl (cJ, 23, .inr (.inl f_reserved))), (h_stack, .inl (cI, 45, .inl f_stack))]) [6, 3, 0, 1, 5, 4, 2] rfl) (hD.sub (ws' := [(h0, .inr (10, vL 67 F392)), (h_tape, .inl (cB, 940, .inl f_tape)), (h_s, .inl (cI, 335, .inl f_s)), (h_read, .inl (cI, 135, .inl f_read)), (h_names, .inl (cJ, 36, .inr (.inl f_names))), (h_reserved, .inl (cJ, 23, .inr (.inl f_reserved))), (h_stack, .inl (cI, 45, .inl f_stack))]) [6, 3, 0, 1, 5, 4, 2] (by decide) rfl) dX10_operand_186 rfl (Nat.le_of_ble_eq_true rfl) (Nat.le_of_ble_eq_true rfl) (Or.inl ⟨F392, y189, y190, y191, y192, y193, 3, y191, y194, v176, 1, (SAME.tr (SAME.up eF214 (SAME.tr (SAME.up eF178 SAME.rf (by decide)) t195 (by decide)) (by decide)) t393 (by decide)), (SAME.at t393 (by decide) (get_ne eF214 (by decide) t196)), t197, (SAME.at t393 (by decide) n363), t199, (SAME.at t393 (by decide) n390), (SAME.at t393 (by decide) (get_ne eF214 (by decide) t202)), (SAME.at t393 (by decide) n364), t394, (show 1 ≤ (3 : Int32).toInt ∧ (3 : Int32).toInt ≤ 4 by decide), t395, (SAME.at t393 (by decide) n365), (SAME.at t393 (by decide) (get_ne eF214 (by decide) (SAME.at t195 (by decide) (get_eq eF178)))), (ir_wk k177 (by decide) (by decide)), (SAME.at t393 (by decide) (get_eq eF214)), (show 0 ≤ (1 : Int32).toInt ∧ (1 : Int32).toInt ≤ 1 by decide), (by have zl0 : (0 : Int32).toInt = 0 := (by decide); have zl1 : (1 : Int32).toInt = 1 := (by decide); have zl3 : (3 : Int32).toInt = 3 := (by decide); omega), (fun q => absurd q (by decide)), (fun q => absurd q (by decide)), (gq_lfF (tkM_1st (by omega)) (by rw [tkM_w (by omega)]; exact LEFF.w t11 (by omega)) (by have hd9 := z_3.2.1; omega) (atM t208 (by omega)) (sl_aF (lnwM (by omega) (LEFF.eq t11 (by omega))) (nmxM_0 (Or.inr ⟨by omega, by omega, (find27 (r := ((-1) : Int32).toInt) (o := 0) (n := (f_s 5).toInt) (by rw [← ev376]; exact t384) (t209 (by omega)) z_4), Or.inl (by decide), by decide, rfl⟩)))), (by have zl1 : (1 : Int32).toInt = 1 := (by decide); have zl3 : (3 : Int32).toInt = 3 := (by decide); omega), (by have zl1 : (1 : Int32).toInt = 1 := (by decide); have zl3 : (3 : Int32).toInt = 3 := (by decide); omega), rfl, rfl⟩)
                  · have hP : va_P D vwCl [(h_s, .inl (cI, 335, .inl f_s)), (h_read, .inl (cI, 135, .inl f_read)), (h_stack, .inl (cI, 45, .inl f_stack)), (h_tape, .inl (cB, 940, .inl f_tape)), (h_reserved, .inl (cJ, 23, .inr (.inl f_reserved))), (h0, .inr (10, vL 67 F214)), (h_names, .inl (cJ, 36, .inr (.inl f_names)))] H := hP
                    have hD : va_D A [(h_s, .inl (cI, 335, .inl f_s)), (h_read, .inl (cI, 135, .inl f_read)), (h_stack, .inl (cI, 45, .inl f_stack)), (h_tape, .inl (cB, 940, .inl f_tape)), (h_reserved, .inl (cJ, 23, .inr (.inl f_reserved))), (h0, .inr (10, vL 67 F214)), (h_names, .inl (cJ, 36, .inr (.inl f_names)))] := hD
                    refine W.widen (k := 0) (n := 0) (Nat.le_of_ble_eq_true rfl) (Nat.le_of_ble_eq_true rfl) ?_
                    have k397 : 1 ≤ v376.toInt ∧ v376.toInt ≤ 12 := ⟨lo_lt t386 (Int.le_refl _) (by decide), k377.2⟩
                    refine lv_istore (lv' := [(4, .int r381), (3, .int r9), (2, .int r5), (1, .int r1), (0, .ref h0)]) hx hb dX10_operand_174 hl (by decide) rfl (fun ls hl => ?_)
                    refine lv_iload hx hb dX10_operand_176 (lv_at hl 0 rfl) ?_
                    refine lv_if_ge (tgt := 187) hx hb dX10_operand_178 (by decide) (fun c398 => ?_) (fun c398 => False.elim (bad_lt (nle_i (a := 0) (b := r381.toInt) rfl rfl c398) t385.1 (Int.le_refl _) (by decide)))
                    have dc398 : 0 ≤ r381.toInt := le_i (a := 0) (b := r381.toInt) rfl rfl c398
                    refine lv_aload_n hx hb dX10_operand_187 rfl (lv_at hl 4 rfl) ?_
                    refine lv_iload_n hx hb dX10_operand_188 rfl (lv_at hl 1 rfl) ?_
                    refine lv_iconst (v := 0) hx hb dX10_operand_189 (by decide) ?_
                    refine lv_iload hx hb dX10_operand_190 (lv_at hl 0 rfl) ?_
                    have n399 : F178 8 = .ref h_read := (get_ne eF178 (by decide) e_read)
                    have n400 : F188 8 = .ref h_read := (SAME.at t195 (by decide) n399)
                    have n401 : F214 8 = .ref h_read := (get_ne eF214 (by decide) n400)
                    have n402 : F178 58 = .int x_codes := (get_ne eF178 (by decide) e_codes)
                    have n403 : F188 58 = .int x_codes := (SAME.at t195 (by decide) n402)
                    have n404 : F214 58 = .int x_codes := (get_ne eF214 (by decide) n403)
                    have n405 : F188 59 = .int v176 := (SAME.at t195 (by decide) (get_eq eF178))
                    have n406 : F214 59 = .int v176 := (get_ne eF214 (by decide) n405)
                    have n407 : F178 60 = .int x_top := (get_ne eF178 (by decide) e_top)
                    have n408 : F188 60 = .int x_top := (SAME.at t195 (by decide) n407)
                    have n409 : F214 60 = .int x_top := (get_ne eF214 (by decide) n408)
                    refine call_Vv (wr := [(h_s, .inl (cI, 335, .inl f_s)), (h_stack, .inl (cI, 45, .inl f_stack)), (h_tape, .inl (cB, 940, .inl f_tape)), (h_reserved, .inl (cJ, 23, .inr (.inl f_reserved))), (h_names, .inl (cJ, 36, .inr (.inl f_names)))]) (As := [.int r9, .int 0, .int r381]) (rest := []) hx hb hml hown hw (m_X10_code l D cI cJ cB cP cM cZ h0 h_read F214 x_codes v176 x_top 1 f_read r9 0 r381 _ n401 n404 (show 0 ≤ x_codes.toInt ∧ x_codes.toInt ≤ 44 from ⟨by omega, by omega⟩) n406 (ir_wk k177 (by decide) (by decide)) n409 i_x_top (get_eq eF214) (show 0 ≤ (1 : Int32).toInt ∧ (1 : Int32).toInt ≤ 1 by decide) (by have z0 : (1 : Int32).toInt = 1 := rfl; omega) (by have z0 : (1 : Int32).toInt = 1 := rfl; omega)) wV_X10_447_X10_code dX10_operand_192 hK hP hD hS hA [5, 1] [0, 2, 3, 4, 6] rfl rfl (by decide) (by decide) (by decide) 0 10 rfl rfl GG.fb hG.at hl.1 rfl (Nat.le_of_ble_eq_true rfl) ⟨(Nat.le_of_ble_eq_true rfl), (Nat.le_of_ble_eq_true rfl)⟩ ⟨(Nat.le_of_ble_eq_true rfl), (Nat.le_of_ble_eq_true rfl)⟩ (fun u H locs hp hP hD hS => ?_)
                    have zl1 : (1 : Int32).toInt = 1 := by decide
                    obtain ⟨F411, y412, g413, t414, t415, t416, t417, t418, t419, rfl⟩ := hp
                    have hP : va_P D vwCl [(h_s, .inl (cI, 335, .inl f_s)), (h_stack, .inl (cI, 45, .inl f_stack)), (h_tape, .inl (cB, 940, .inl f_tape)), (h_reserved, .inl (cJ, 23, .inr (.inl f_reserved))), (h_names, .inl (cJ, 36, .inr (.inl f_names))), (h0, .inr (10, vL 67 F411)), (h_read, .inl (cI, 135, .inl g413))] H := hP
                    have hD : va_D A [(h_s, .inl (cI, 335, .inl f_s)), (h_stack, .inl (cI, 45, .inl f_stack)), (h_tape, .inl (cB, 940, .inl f_tape)), (h_reserved, .inl (cJ, 23, .inr (.inl f_reserved))), (h_names, .inl (cJ, 36, .inr (.inl f_names))), (h0, .inr (10, vL 67 F411)), (h_read, .inl (cI, 135, .inl g413))] := hD
                    refine W.widen (k := 0) (n := 0) (Nat.le_of_ble_eq_true rfl) (Nat.le_of_ble_eq_true rfl) ?_
                    refine lv_aload_n hx hb dX10_operand_195 rfl (lv_at hl 4 rfl) ?_
                    have n421 : F188 1 = .ref h_tape := (SAME.at t195 (by decide) n179)
                    have n422 : F214 1 = .ref h_tape := (get_ne eF214 (by decide) n421)
                    have n423 : F411 1 = .ref h_tape := (SAME.at t414 (by decide) n422)
                    have n424 : F188 3 = .int x_size := (SAME.at t195 (by decide) n180)
                    have n425 : F214 3 = .int x_size := (get_ne eF214 (by decide) n424)
                    have n426 : F411 3 = .int x_size := (SAME.at t414 (by decide) n425)
                    have n427 : F214 4 = .int y189 := (get_ne eF214 (by decide) t196)
                    have n428 : F411 4 = .int y189 := (SAME.at t414 (by decide) n427)
                    have n429 : F188 5 = .int x_limit := (SAME.at t195 (by decide) n182)
                    have n430 : F214 5 = .int x_limit := (get_ne eF214 (by decide) n429)
                    have n431 : F411 5 = .int x_limit := (SAME.at t414 (by decide) n430)
                    have n432 : F411 11 = .int y190 := (SAME.at t414 (by decide) n363)
                    have n433 : F214 12 = .int y191 := (get_ne eF214 (by decide) t200)
                    have n434 : F411 12 = .int y191 := (SAME.at t414 (by decide) n433)
                    have n435 : F411 14 = .int y193 := (SAME.at t414 (by decide) n364)
                    have n436 : F411 18 = .long y194 := (SAME.at t414 (by decide) n365)
                    refine call_Vv (wr := [(h_s, .inl (cI, 335, .inl f_s)), (h_stack, .inl (cI, 45, .inl f_stack)), (h_reserved, .inl (cJ, 23, .inr (.inl f_reserved))), (h_names, .inl (cJ, 36, .inr (.inl f_names))), (h_read, .inl (cI, 135, .inl g413))]) (As := []) (rest := []) hx hb hml hown hw (m_X10_next l D cI cJ cB cP cM cZ h0 h_tape F411 x_size y189 x_limit y190 y191 y193 y194 f_tape _ n423 n426 i_x_size n428 t197 n431 i_x_limit n432 t199 n434 n435 n436 (by omega)) wV_X10_208_X10_next dX10_operand_196 hK hP hD hS hA [5, 2] [0, 1, 3, 4, 6] rfl rfl (by decide) (by decide) (by decide) 0 10 rfl rfl GG.fb hG.at hl.1 rfl (Nat.le_of_ble_eq_true rfl) ⟨(Nat.le_of_ble_eq_true rfl), (Nat.le_of_ble_eq_true rfl)⟩ ⟨(Nat.le_of_ble_eq_true rfl), (Nat.le_of_ble_eq_true rfl)⟩ (fun u H locs hp hP hD hS => ?_)
                    obtain ⟨F438, y439, y440, y441, y442, y443, y444, t445, t446, t447, t448, t449, t450, t451, t452, t453, t454, t455, t456, t457, t458, t459, t460, rfl⟩ := hp
                    first | have k462 := t207 (by omega) (by omega) | have k462 := t207 (by omega) | skip
                    first | have k463 := t210 (by omega) (by omega) | have k463 := t210 (by omega) | skip
                    clear t207 t210
                    have hP : va_P D vwCl [(h_s, .inl (cI, 335, .inl f_s)), (h_stack, .inl (cI, 45, .inl f_stack)), (h_reserved, .inl (cJ, 23, .inr (.inl f_reserved))), (h_names, .inl (cJ, 36, .inr (.inl f_names))), (h_read, .inl (cI, 135, .inl g413)), (h0, .inr (10, vL 67 F438)), (h_tape, .inl (cB, 940, .inl f_tape))] H := hP
                    have hD : va_D A [(h_s, .inl (cI, 335, .inl f_s)), (h_stack, .inl (cI, 45, .inl f_stack)), (h_reserved, .inl (cJ, 23, .inr (.inl f_reserved))), (h_names, .inl (cJ, 36, .inr (.inl f_names))), (h_read, .inl (cI, 135, .inl g413)), (h0, .inr (10, vL 67 F438)), (h_tape, .inl (cB, 940, .inl f_tape))] := hD
                    refine W.widen (k := 0) (n := 0) (Nat.le_of_ble_eq_true rfl) (Nat.le_of_ble_eq_true rfl) ?_
                    refine lv_iconst (v := 1) hx hb dX10_operand_199 (by decide) ?_
                    exact ret_i (v := 1) hx hb hr hlocks hS (hP.sub (ws' := [(h0, .inr (10, vL 67 F438)), (h_tape, .inl (cB, 940, .inl f_tape)), (h_s, .inl (cI, 335, .inl f_s)), (h_read, .inl (cI, 135, .inl g413)), (h_names, .inl (cJ, 36, .inr (.inl f_names))), (h_reserved, .inl (cJ, 23, .inr (.inl f_reserved))), (h_stack, .inl (cI, 45, .inl f_stack))]) [5, 6, 0, 4, 3, 2, 1] rfl) (hD.sub (ws' := [(h0, .inr (10, vL 67 F438)), (h_tape, .inl (cB, 940, .inl f_tape)), (h_s, .inl (cI, 335, .inl f_s)), (h_read, .inl (cI, 135, .inl g413)), (h_names, .inl (cJ, 36, .inr (.inl f_names))), (h_reserved, .inl (cJ, 23, .inr (.inl f_reserved))), (h_stack, .inl (cI, 45, .inl f_stack))]) [5, 6, 0, 4, 3, 2, 1] (by decide) rfl) dX10_operand_200 rfl (Nat.le_of_ble_eq_true rfl) (Nat.le_of_ble_eq_true rfl) (Or.inr ⟨F438, y439, y440, y441, y442, y443, y444, y412, v176, x_top, x_deep, 1, g413, f_stack, (SAME.tr (SAME.tr (SAME.up eF214 (SAME.tr (SAME.up eF178 SAME.rf (by decide)) t195 (by decide)) (by decide)) t414 (by decide)) t445 (by decide)), t446, t447, t448, t449, t450, t451, t452, t453, t454, t455, (SAME.at t445 (by decide) t415), (ir_wk t416 (by decide) (by decide)), (SAME.at t445 (by decide) (SAME.at t414 (by decide) n406)), k177, (SAME.at t445 (by decide) (SAME.at t414 (by decide) n409)), i_x_top, (SAME.at t445 (by decide) (SAME.at t414 (by decide) (get_ne eF214 (by decide) (SAME.at t195 (by decide) (get_ne eF178 (by decide) e_deep))))), (ir_wk k175 (by decide) (by decide)), (SAME.at t445 (by decide) (SAME.at t414 (by decide) (get_eq eF214))), (show 0 ≤ (1 : Int32).toInt ∧ (1 : Int32).toInt ≤ 1 by decide), (by have zl1 : (1 : Int32).toInt = 1 := (by decide); omega), (fun _ => SMI.leaf z_1 t418 (ir_wk k359 (by decide) (by decide)) (by omega) (by decide)), (fun _ => t459), (fun r9 g9 => gq_lf (tkM_1st (by omega)) (by rw [tkM_w (by omega)]; exact LEFF.w t11 (by omega)) (by have hd9 := z_3.2.1; omega) (atM t208 (by omega)) (sl_a (lnwM (by omega) (LEFF.eq t11 (by omega))) (nmxM_1 (by omega) (by omega) (find27 (r := r381.toInt) (o := 0) (n := (f_s 5).toInt) (by rw [← ev376]; exact t388) (t209 (by omega)) z_4) (by omega) rfl t458)) (by omega) (by omega) g9), z_3, (by have zl1 : (1 : Int32).toInt = 1 := (by decide); omega), (by have zl1 : (1 : Int32).toInt = 1 := (by decide); omega), rfl, rfl⟩)
                · have dc370 : r366.toInt = 0 := eq_i (a := r366.toInt) (b := 0) rfl rfl c370
                  have k464 : 0 ≤ r366.toInt ∧ r366.toInt ≤ 0 := ⟨t367.1, Int.le_trans (Int.le_of_eq dc370) (Int.le_refl _)⟩
                  refine lv_aload_n hx hb dX10_operand_157 rfl (lv_at hl 3 rfl) ?_
                  refine lv_iconst (v := 1) hx hb dX10_operand_158 (by decide) ?_
                  have n465 : F214 12 = .int y191 := (get_ne eF214 (by decide) t200)
                  refine call_Vi (wr := [(h_s, .inl (cI, 335, .inl f_s)), (h_read, .inl (cI, 135, .inl f_read)), (h_names, .inl (cJ, 36, .inr (.inl f_names))), (h_stack, .inl (cI, 45, .inl f_stack)), (h_tape, .inl (cB, 940, .inl f_tape)), (h_reserved, .inl (cJ, 23, .inr (.inl f_reserved)))]) (As := [.int 1]) (rest := []) hx hb hml hown hw (m_X10_bad l D cI cJ cB cP cM cZ h0 F214 y191 1 _ n465) wV_X10_205_X10_bad dX10_operand_159 hK hP hD hS hA [5] [0, 1, 2, 3, 4, 6] rfl rfl (by decide) (by decide) (by decide) 0 10 rfl rfl GG.fb hG.at hl.1 rfl (Nat.le_of_ble_eq_true rfl) ⟨(Nat.le_of_ble_eq_true rfl), (Nat.le_of_ble_eq_true rfl)⟩ ⟨(Nat.le_of_ble_eq_true rfl), (Nat.le_of_ble_eq_true rfl)⟩ (fun r466 u H locs hp hP hD hS => ?_)
                  have zl1 : (1 : Int32).toInt = 1 := by decide
                  obtain ⟨F467, t468, t469, t470, rfl, rfl⟩ := hp
                  have hP : va_P D vwCl [(h_s, .inl (cI, 335, .inl f_s)), (h_read, .inl (cI, 135, .inl f_read)), (h_names, .inl (cJ, 36, .inr (.inl f_names))), (h_stack, .inl (cI, 45, .inl f_stack)), (h_tape, .inl (cB, 940, .inl f_tape)), (h_reserved, .inl (cJ, 23, .inr (.inl f_reserved))), (h0, .inr (10, vL 67 F467))] H := hP
                  have hD : va_D A [(h_s, .inl (cI, 335, .inl f_s)), (h_read, .inl (cI, 135, .inl f_read)), (h_names, .inl (cJ, 36, .inr (.inl f_names))), (h_stack, .inl (cI, 45, .inl f_stack)), (h_tape, .inl (cB, 940, .inl f_tape)), (h_reserved, .inl (cJ, 23, .inr (.inl f_reserved))), (h0, .inr (10, vL 67 F467))] := hD
                  refine W.widen (k := 0) (n := 0) (Nat.le_of_ble_eq_true rfl) (Nat.le_of_ble_eq_true rfl) ?_
                  exact ret_i (v := 0) hx hb hr hlocks hS (hP.sub (ws' := [(h0, .inr (10, vL 67 F467)), (h_tape, .inl (cB, 940, .inl f_tape)), (h_s, .inl (cI, 335, .inl f_s)), (h_read, .inl (cI, 135, .inl f_read)), (h_names, .inl (cJ, 36, .inr (.inl f_names))), (h_reserved, .inl (cJ, 23, .inr (.inl f_reserved))), (h_stack, .inl (cI, 45, .inl f_stack))]) [6, 4, 0, 1, 2, 5, 3] rfl) (hD.sub (ws' := [(h0, .inr (10, vL 67 F467)), (h_tape, .inl (cB, 940, .inl f_tape)), (h_s, .inl (cI, 335, .inl f_s)), (h_read, .inl (cI, 135, .inl f_read)), (h_names, .inl (cJ, 36, .inr (.inl f_names))), (h_reserved, .inl (cJ, 23, .inr (.inl f_reserved))), (h_stack, .inl (cI, 45, .inl f_stack))]) [6, 4, 0, 1, 2, 5, 3] (by decide) rfl) dX10_operand_162 rfl (Nat.le_of_ble_eq_true rfl) (Nat.le_of_ble_eq_true rfl) (Or.inl ⟨F467, y189, y190, y191, y192, y193, 1, y191, y194, v176, 1, (SAME.tr (SAME.up eF214 (SAME.tr (SAME.up eF178 SAME.rf (by decide)) t195 (by decide)) (by decide)) t468 (by decide)), (SAME.at t468 (by decide) (get_ne eF214 (by decide) t196)), t197, (SAME.at t468 (by decide) n363), t199, (SAME.at t468 (by decide) n465), (SAME.at t468 (by decide) (get_ne eF214 (by decide) t202)), (SAME.at t468 (by decide) n364), t469, (show 1 ≤ (1 : Int32).toInt ∧ (1 : Int32).toInt ≤ 4 by decide), t470, (SAME.at t468 (by decide) n365), (SAME.at t468 (by decide) (get_ne eF214 (by decide) (SAME.at t195 (by decide) (get_eq eF178)))), (ir_wk k177 (by decide) (by decide)), (SAME.at t468 (by decide) (get_eq eF214)), (show 0 ≤ (1 : Int32).toInt ∧ (1 : Int32).toInt ≤ 1 by decide), (by have zl0 : (0 : Int32).toInt = 0 := (by decide); have zl1 : (1 : Int32).toInt = 1 := (by decide); omega), (fun q => absurd q (by decide)), (fun q => absurd q (by decide)), (gq_lfF (tkM_1st (by omega)) (by rw [tkM_w (by omega)]; exact LEFF.w t11 (by omega)) (by have hd9 := z_3.2.1; omega) (atM t208 (by omega)) (sl_aF (lnwM (by omega) (LEFF.eq t11 (by omega))) (nmxM_0 (m := 0) (Or.inl ⟨ISWF.f t368 (by omega), by decide, rfl⟩)))), (by have zl1 : (1 : Int32).toInt = 1 := (by decide); omega), (by have zl1 : (1 : Int32).toInt = 1 := (by decide); omega), rfl, rfl⟩)
            · have dc215 : r9.toInt < 2 := nle_i (a := 2) (b := r9.toInt) rfl rfl c215
              have k472 : 0 ≤ r9.toInt ∧ r9.toInt ≤ 1 := ⟨k163.1, up_lt dc215 (Int.le_refl _) (by decide)⟩
              refine lv_aload_n hx hb dX10_operand_136 rfl (lv_at hl 3 rfl) ?_
              refine lv_iload_n hx hb dX10_operand_137 rfl (lv_at hl 0 rfl) ?_
              refine lv_iconst (v := 0) hx hb dX10_operand_138 (by decide) ?_
              refine lv_iconst (v := 0) hx hb dX10_operand_139 (by decide) ?_
              have n473 : F178 8 = .ref h_read := (get_ne eF178 (by decide) e_read)
              have n474 : F188 8 = .ref h_read := (SAME.at t195 (by decide) n473)
              have n475 : F214 8 = .ref h_read := (get_ne eF214 (by decide) n474)
              have n476 : F178 58 = .int x_codes := (get_ne eF178 (by decide) e_codes)
              have n477 : F188 58 = .int x_codes := (SAME.at t195 (by decide) n476)
              have n478 : F214 58 = .int x_codes := (get_ne eF214 (by decide) n477)
              have n479 : F188 59 = .int v176 := (SAME.at t195 (by decide) (get_eq eF178))
              have n480 : F214 59 = .int v176 := (get_ne eF214 (by decide) n479)
              have n481 : F178 60 = .int x_top := (get_ne eF178 (by decide) e_top)
              have n482 : F188 60 = .int x_top := (SAME.at t195 (by decide) n481)
              have n483 : F214 60 = .int x_top := (get_ne eF214 (by decide) n482)
              refine call_Vv (wr := [(h_s, .inl (cI, 335, .inl f_s)), (h_names, .inl (cJ, 36, .inr (.inl f_names))), (h_reserved, .inl (cJ, 23, .inr (.inl f_reserved))), (h_stack, .inl (cI, 45, .inl f_stack)), (h_tape, .inl (cB, 940, .inl f_tape))]) (As := [.int r9, .int 0, .int 0]) (rest := []) hx hb hml hown hw (m_X10_code l D cI cJ cB cP cM cZ h0 h_read F214 x_codes v176 x_top 1 f_read r9 0 0 _ n475 n478 (show 0 ≤ x_codes.toInt ∧ x_codes.toInt ≤ 44 from ⟨by omega, by omega⟩) n480 (ir_wk k177 (by decide) (by decide)) n483 i_x_top (get_eq eF214) (show 0 ≤ (1 : Int32).toInt ∧ (1 : Int32).toInt ≤ 1 by decide) (by have z0 : (1 : Int32).toInt = 1 := rfl; omega) (by have z0 : (1 : Int32).toInt = 1 := rfl; omega)) wV_X10_447_X10_code dX10_operand_140 hK hP hD hS hA [5, 1] [0, 2, 3, 4, 6] rfl rfl (by decide) (by decide) (by decide) 0 10 rfl rfl GG.fb hG.at hl.1 rfl (Nat.le_of_ble_eq_true rfl) ⟨(Nat.le_of_ble_eq_true rfl), (Nat.le_of_ble_eq_true rfl)⟩ ⟨(Nat.le_of_ble_eq_true rfl), (Nat.le_of_ble_eq_true rfl)⟩ (fun u H locs hp hP hD hS => ?_)
              have zl0 : (0 : Int32).toInt = 0 := by decide
              have zl1 : (1 : Int32).toInt = 1 := by decide
              obtain ⟨F485, y486, g487, t488, t489, t490, t491, t492, t493, rfl⟩ := hp
              have hP : va_P D vwCl [(h_s, .inl (cI, 335, .inl f_s)), (h_names, .inl (cJ, 36, .inr (.inl f_names))), (h_reserved, .inl (cJ, 23, .inr (.inl f_reserved))), (h_stack, .inl (cI, 45, .inl f_stack)), (h_tape, .inl (cB, 940, .inl f_tape)), (h0, .inr (10, vL 67 F485)), (h_read, .inl (cI, 135, .inl g487))] H := hP
              have hD : va_D A [(h_s, .inl (cI, 335, .inl f_s)), (h_names, .inl (cJ, 36, .inr (.inl f_names))), (h_reserved, .inl (cJ, 23, .inr (.inl f_reserved))), (h_stack, .inl (cI, 45, .inl f_stack)), (h_tape, .inl (cB, 940, .inl f_tape)), (h0, .inr (10, vL 67 F485)), (h_read, .inl (cI, 135, .inl g487))] := hD
              refine W.widen (k := 0) (n := 0) (Nat.le_of_ble_eq_true rfl) (Nat.le_of_ble_eq_true rfl) ?_
              refine lv_iconst (v := 1) hx hb dX10_operand_143 (by decide) ?_
              exact ret_i (v := 1) hx hb hr hlocks hS (hP.sub (ws' := [(h0, .inr (10, vL 67 F485)), (h_tape, .inl (cB, 940, .inl f_tape)), (h_s, .inl (cI, 335, .inl f_s)), (h_read, .inl (cI, 135, .inl g487)), (h_names, .inl (cJ, 36, .inr (.inl f_names))), (h_reserved, .inl (cJ, 23, .inr (.inl f_reserved))), (h_stack, .inl (cI, 45, .inl f_stack))]) [5, 4, 0, 6, 1, 2, 3] rfl) (hD.sub (ws' := [(h0, .inr (10, vL 67 F485)), (h_tape, .inl (cB, 940, .inl f_tape)), (h_s, .inl (cI, 335, .inl f_s)), (h_read, .inl (cI, 135, .inl g487)), (h_names, .inl (cJ, 36, .inr (.inl f_names))), (h_reserved, .inl (cJ, 23, .inr (.inl f_reserved))), (h_stack, .inl (cI, 45, .inl f_stack))]) [5, 4, 0, 6, 1, 2, 3] (by decide) rfl) dX10_operand_144 rfl (Nat.le_of_ble_eq_true rfl) (Nat.le_of_ble_eq_true rfl) (Or.inr ⟨F485, y189, y190, y191, y192, y193, y194, y486, v176, x_top, x_deep, 1, g487, f_stack, (SAME.tr (SAME.up eF214 (SAME.tr (SAME.up eF178 SAME.rf (by decide)) t195 (by decide)) (by decide)) t488 (by decide)), (SAME.at t488 (by decide) (get_ne eF214 (by decide) t196)), t197, (SAME.at t488 (by decide) (get_ne eF214 (by decide) t198)), t199, (SAME.at t488 (by decide) (get_ne eF214 (by decide) t200)), t201, (SAME.at t488 (by decide) (get_ne eF214 (by decide) t202)), t203, (SAME.at t488 (by decide) (get_ne eF214 (by decide) t204)), (SAME.at t488 (by decide) (get_ne eF214 (by decide) t205)), t489, (ir_wk t490 (by decide) (by decide)), (SAME.at t488 (by decide) n480), k177, (SAME.at t488 (by decide) n483), i_x_top, (SAME.at t488 (by decide) (get_ne eF214 (by decide) (SAME.at t195 (by decide) (get_ne eF178 (by decide) e_deep)))), (ir_wk k175 (by decide) (by decide)), (SAME.at t488 (by decide) (get_eq eF214)), (show 0 ≤ (1 : Int32).toInt ∧ (1 : Int32).toInt ≤ 1 by decide), (by have zl1 : (1 : Int32).toInt = 1 := (by decide); omega), (fun _ => SMI.leaf z_1 t492 (ir_wk k472 (by decide) (by decide)) (by omega) (by decide)), (fun _ => t209), (fun r9 g9 => gq_lf (tkM_1st (by omega)) (by rw [tkM_w (by omega)]; exact LEFF.w t11 (by omega)) (by have hd9 := z_3.2.1; omega) (atM t208 (by omega)) (sl_0 (by rw [tkM_w (by omega)]; exact LEFF.lt t11 (by omega) (by omega))) (by omega) (by omega) g9), z_3, (by have zl1 : (1 : Int32).toInt = 1 := (by decide); omega), (by have zl1 : (1 : Int32).toInt = 1 := (by decide); omega), rfl, rfl⟩)
          · have dc174 : 8 < x_deep.toInt := nle_i (a := x_deep.toInt) (b := 8) rfl rfl c174
            have k495 : 9 ≤ x_deep.toInt ∧ x_deep.toInt ≤ 46 := ⟨lo_lt dc174 (Int.le_refl _) (by decide), i_x_deep.2⟩
            refine lv_aload_n hx hb dX10_operand_56 rfl (lv_at hl 3 rfl) ?_
            refine lv_iconst (v := 4) hx hb dX10_operand_57 (by decide) ?_
            refine call_Vi (wr := [(h_tape, .inl (cB, 940, .inl f_tape)), (h_s, .inl (cI, 335, .inl f_s)), (h_read, .inl (cI, 135, .inl f_read)), (h_names, .inl (cJ, 36, .inr (.inl f_names))), (h_reserved, .inl (cJ, 23, .inr (.inl f_reserved))), (h_stack, .inl (cI, 45, .inl f_stack))]) (As := [.int 4]) (rest := []) hx hb hml hown hw (m_X10_bad l D cI cJ cB cP cM cZ h0 Fh x_at 4 _ e_at) wV_X10_205_X10_bad dX10_operand_58 hK hP hD hS hA [6] [0, 1, 2, 3, 4, 5] rfl rfl (by decide) (by decide) (by decide) 0 10 rfl rfl GG.fb hG.at hl.1 rfl (Nat.le_of_ble_eq_true rfl) ⟨(Nat.le_of_ble_eq_true rfl), (Nat.le_of_ble_eq_true rfl)⟩ ⟨(Nat.le_of_ble_eq_true rfl), (Nat.le_of_ble_eq_true rfl)⟩ (fun r496 u H locs hp hP hD hS => ?_)
            have zl4 : (4 : Int32).toInt = 4 := by decide
            obtain ⟨F497, t498, t499, t500, rfl, rfl⟩ := hp
            have hP : va_P D vwCl [(h_tape, .inl (cB, 940, .inl f_tape)), (h_s, .inl (cI, 335, .inl f_s)), (h_read, .inl (cI, 135, .inl f_read)), (h_names, .inl (cJ, 36, .inr (.inl f_names))), (h_reserved, .inl (cJ, 23, .inr (.inl f_reserved))), (h_stack, .inl (cI, 45, .inl f_stack)), (h0, .inr (10, vL 67 F497))] H := hP
            have hD : va_D A [(h_tape, .inl (cB, 940, .inl f_tape)), (h_s, .inl (cI, 335, .inl f_s)), (h_read, .inl (cI, 135, .inl f_read)), (h_names, .inl (cJ, 36, .inr (.inl f_names))), (h_reserved, .inl (cJ, 23, .inr (.inl f_reserved))), (h_stack, .inl (cI, 45, .inl f_stack)), (h0, .inr (10, vL 67 F497))] := hD
            refine W.widen (k := 0) (n := 0) (Nat.le_of_ble_eq_true rfl) (Nat.le_of_ble_eq_true rfl) ?_
            exact ret_i (v := 0) hx hb hr hlocks hS (hP.sub (ws' := [(h0, .inr (10, vL 67 F497)), (h_tape, .inl (cB, 940, .inl f_tape)), (h_s, .inl (cI, 335, .inl f_s)), (h_read, .inl (cI, 135, .inl f_read)), (h_names, .inl (cJ, 36, .inr (.inl f_names))), (h_reserved, .inl (cJ, 23, .inr (.inl f_reserved))), (h_stack, .inl (cI, 45, .inl f_stack))]) [6, 0, 1, 2, 3, 4, 5] rfl) (hD.sub (ws' := [(h0, .inr (10, vL 67 F497)), (h_tape, .inl (cB, 940, .inl f_tape)), (h_s, .inl (cI, 335, .inl f_s)), (h_read, .inl (cI, 135, .inl f_read)), (h_names, .inl (cJ, 36, .inr (.inl f_names))), (h_reserved, .inl (cJ, 23, .inr (.inl f_reserved))), (h_stack, .inl (cI, 45, .inl f_stack))]) [6, 0, 1, 2, 3, 4, 5] (by decide) rfl) dX10_operand_61 rfl (Nat.le_of_ble_eq_true rfl) (Nat.le_of_ble_eq_true rfl) (Or.inl ⟨F497, x_p, x_token, x_at, x_span, x_number, 4, x_at, x_word, x_ones, x_isWhole, (SAME.tr SAME.rf t498 (by decide)), (SAME.at t498 (by decide) e_p), i_x_p, (SAME.at t498 (by decide) e_token), i_x_token, (SAME.at t498 (by decide) e_at), (SAME.at t498 (by decide) e_span), (SAME.at t498 (by decide) e_number), t499, (show 1 ≤ (4 : Int32).toInt ∧ (4 : Int32).toInt ≤ 4 by decide), t500, (SAME.at t498 (by decide) e_word), (SAME.at t498 (by decide) e_ones), (ir_wk k173 (by decide) (by decide)), (SAME.at t498 (by decide) e_isWhole), i_x_isWhole, (by have zl0 : (0 : Int32).toInt = 0 := (by decide); have zl4 : (4 : Int32).toInt = 4 := (by decide); omega), (fun q => absurd q (by decide)), (fun q => absurd q (by decide)), (gq_4 (sbM_w (by omega) (LEFF.b t11 (by omega))) (by have hd9 := z_3.2.1; omega) rfl), (by have zl4 : (4 : Int32).toInt = 4 := (by decide); omega), (by have zl4 : (4 : Int32).toInt = 4 := (by decide); omega), rfl, rfl⟩)
      · have dc162 : r9.toInt < 0 := nle_i (a := 0) (b := r9.toInt) rfl rfl c162
        have k502 : (-1) ≤ r9.toInt ∧ r9.toInt ≤ (-1) := ⟨t10.1, up_lt dc162 (Int.le_refl _) (by decide)⟩
        refine lv_aload_n hx hb dX10_operand_32 rfl (lv_at hl 3 rfl) ?_
        refine lv_iconst (v := 1) hx hb dX10_operand_33 (by decide) ?_
        refine call_Vi (wr := [(h_tape, .inl (cB, 940, .inl f_tape)), (h_s, .inl (cI, 335, .inl f_s)), (h_read, .inl (cI, 135, .inl f_read)), (h_names, .inl (cJ, 36, .inr (.inl f_names))), (h_reserved, .inl (cJ, 23, .inr (.inl f_reserved))), (h_stack, .inl (cI, 45, .inl f_stack))]) (As := [.int 1]) (rest := []) hx hb hml hown hw (m_X10_bad l D cI cJ cB cP cM cZ h0 Fh x_at 1 _ e_at) wV_X10_205_X10_bad dX10_operand_34 hK hP hD hS hA [6] [0, 1, 2, 3, 4, 5] rfl rfl (by decide) (by decide) (by decide) 0 10 rfl rfl GG.fb hG.at hl.1 rfl (Nat.le_of_ble_eq_true rfl) ⟨(Nat.le_of_ble_eq_true rfl), (Nat.le_of_ble_eq_true rfl)⟩ ⟨(Nat.le_of_ble_eq_true rfl), (Nat.le_of_ble_eq_true rfl)⟩ (fun r503 u H locs hp hP hD hS => ?_)
        have zl1 : (1 : Int32).toInt = 1 := by decide
        obtain ⟨F504, t505, t506, t507, rfl, rfl⟩ := hp
        have hP : va_P D vwCl [(h_tape, .inl (cB, 940, .inl f_tape)), (h_s, .inl (cI, 335, .inl f_s)), (h_read, .inl (cI, 135, .inl f_read)), (h_names, .inl (cJ, 36, .inr (.inl f_names))), (h_reserved, .inl (cJ, 23, .inr (.inl f_reserved))), (h_stack, .inl (cI, 45, .inl f_stack)), (h0, .inr (10, vL 67 F504))] H := hP
        have hD : va_D A [(h_tape, .inl (cB, 940, .inl f_tape)), (h_s, .inl (cI, 335, .inl f_s)), (h_read, .inl (cI, 135, .inl f_read)), (h_names, .inl (cJ, 36, .inr (.inl f_names))), (h_reserved, .inl (cJ, 23, .inr (.inl f_reserved))), (h_stack, .inl (cI, 45, .inl f_stack)), (h0, .inr (10, vL 67 F504))] := hD
        refine W.widen (k := 0) (n := 0) (Nat.le_of_ble_eq_true rfl) (Nat.le_of_ble_eq_true rfl) ?_
        exact ret_i (v := 0) hx hb hr hlocks hS (hP.sub (ws' := [(h0, .inr (10, vL 67 F504)), (h_tape, .inl (cB, 940, .inl f_tape)), (h_s, .inl (cI, 335, .inl f_s)), (h_read, .inl (cI, 135, .inl f_read)), (h_names, .inl (cJ, 36, .inr (.inl f_names))), (h_reserved, .inl (cJ, 23, .inr (.inl f_reserved))), (h_stack, .inl (cI, 45, .inl f_stack))]) [6, 0, 1, 2, 3, 4, 5] rfl) (hD.sub (ws' := [(h0, .inr (10, vL 67 F504)), (h_tape, .inl (cB, 940, .inl f_tape)), (h_s, .inl (cI, 335, .inl f_s)), (h_read, .inl (cI, 135, .inl f_read)), (h_names, .inl (cJ, 36, .inr (.inl f_names))), (h_reserved, .inl (cJ, 23, .inr (.inl f_reserved))), (h_stack, .inl (cI, 45, .inl f_stack))]) [6, 0, 1, 2, 3, 4, 5] (by decide) rfl) dX10_operand_37 rfl (Nat.le_of_ble_eq_true rfl) (Nat.le_of_ble_eq_true rfl) (Or.inl ⟨F504, x_p, x_token, x_at, x_span, x_number, 1, x_at, x_word, x_ones, x_isWhole, (SAME.tr SAME.rf t505 (by decide)), (SAME.at t505 (by decide) e_p), i_x_p, (SAME.at t505 (by decide) e_token), i_x_token, (SAME.at t505 (by decide) e_at), (SAME.at t505 (by decide) e_span), (SAME.at t505 (by decide) e_number), t506, (show 1 ≤ (1 : Int32).toInt ∧ (1 : Int32).toInt ≤ 4 by decide), t507, (SAME.at t505 (by decide) e_word), (SAME.at t505 (by decide) e_ones), i_x_ones, (SAME.at t505 (by decide) e_isWhole), i_x_isWhole, (by have zl0 : (0 : Int32).toInt = 0 := (by decide); have zl1 : (1 : Int32).toInt = 1 := (by decide); omega), (fun q => absurd q (by decide)), (fun q => absurd q (by decide)), (gq_1 (sbM_n (ISGF.f t7 (by omega)) (fun q => by have w1 := ISWF.ne t3 (by omega) q; have w3 := LEFF.f t11 (by omega) q; have q9 := wix_le (g27 x_word.toInt); omega)) rfl), (by have zl1 : (1 : Int32).toInt = 1 := (by decide); omega), (by have zl1 : (1 : Int32).toInt = 1 := (by decide); omega), rfl, rfl⟩)
set_option maxHeartbeats 4000000 in
set_option maxRecDepth 100000 in
theorem m_X10_behind_ (l : Launch) (D : va_G) (cI cJ cB cP cM cZ : ClassId) (h0 : Nat) (h_tape : Nat) (h_read : Nat) (h_stack : Nat) (Fh : Nat → Value) (x_size : Int32) (x_p : Int32) (x_limit : Int32) (x_token : Int32) (x_at : Int32) (x_number : Int32) (x_fault : Int32) (x_faultAt : Int32) (x_word : Int64) (x_codes : Int32) (x_ones : Int32) (x_top : Int32) (x_deep : Int32) (x_isWhole : Int32) (f_tape : Nat → Int32) (f_read : Nat → Int32) (f_stack : Nat → Int32) (sz : Nat) (e_tape : Fh 1 = .ref h_tape) (e_size : Fh 3 = .int x_size) (i_x_size : IR 0 940 x_size) (e_p : Fh 4 = .int x_p) (i_x_p : IR 0 940 x_p) (e_limit : Fh 5 = .int x_limit) (i_x_limit : IR 200 940 x_limit) (e_read : Fh 8 = .ref h_read) (e_token : Fh 11 = .int x_token) (i_x_token : IR 0 4 x_token) (e_at : Fh 12 = .int x_at) (e_number : Fh 14 = .int x_number) (e_fault : Fh 15 = .int x_fault) (e_faultAt : Fh 16 = .int x_faultAt) (e_word : Fh 18 = .long x_word) (e_stack : Fh 57 = .ref h_stack) (e_codes : Fh 58 = .int x_codes) (i_x_codes : IR 0 45 x_codes) (e_ones : Fh 59 = .int x_ones) (i_x_ones : IR 0 20 x_ones) (e_top : Fh 60 = .int x_top) (i_x_top : IR 0 45 x_top) (e_deep : Fh 61 = .int x_deep) (i_x_deep : IR 0 46 x_deep) (e_isWhole : Fh 62 = .int x_isWhole) (i_x_isWhole : IR 0 1 x_isWhole) (z_0 : x_isWhole.toInt = 1) (z_1 : SMI f_read f_stack x_codes.toInt x_top.toInt 1) (z_2 : (VWF x_token.toInt x_word.toInt)) (z_3 : SKB f_stack x_top.toInt x_deep.toInt) (z_4 : x_token.toInt ≠ 0) (o_0 : (x_token.toInt = 2 → 0 ≤ x_number.toInt ∧ x_number.toInt ≤ 999)) (o_1 : x_top.toInt + x_codes.toInt + x_isWhole.toInt ≤ 2 * x_ones.toInt) : CI l yX10_behind_ cX10_behind_ 1 (some .boolean) { frames := 2, cells := 0, slots := 0, locals := 44 } (GG D cI cJ cB cP cM cZ) D [(h0, .inr (10, vL 67 Fh)), (h_tape, .inl (cB, 940, .inl f_tape)), (h_read, .inl (cI, 135, .inl f_read)), (h_stack, .inl (cI, 45, .inl f_stack))] sz [.ref h0] (fun (r : Int32) (u : va_W) => (∃ (Gh : Nat → Value) (y_p : Int32) (y_token : Int32) (y_at : Int32) (y_span : Int32) (y_number : Int32) (y_word : Int64) (y_codes : Int32) (y_top : Int32) (y_deep : Int32) (y_isWhole : Int32) (g_read : Nat → Int32) (g_stack : Nat → Int32), SAME [4, 11, 12, 13, 14, 18, 58, 60, 61, 62] Fh Gh ∧ Gh 4 = .int y_p ∧ IR 0 940 y_p ∧ Gh 11 = .int y_token ∧ IR 0 4 y_token ∧ Gh 12 = .int y_at ∧ IR 0 940 y_at ∧ Gh 13 = .int y_span ∧ IR 0 940 y_span ∧ Gh 14 = .int y_number ∧ Gh 18 = .long y_word ∧ Gh 58 = .int y_codes ∧ IR 0 45 y_codes ∧ Gh 60 = .int y_top ∧ IR 0 45 y_top ∧ Gh 61 = .int y_deep ∧ IR 0 46 y_deep ∧ Gh 62 = .int y_isWhole ∧ IR 0 1 y_isWhole ∧ ((r.toInt = 1 → (1 ≤ x_token.toInt ∧ x_token.toInt ≤ 3 ∧ x_p.toInt ≤ y_p.toInt ∧ (1 ≤ y_token.toInt → y_token.toInt ≤ 3 → x_p.toInt < y_p.toInt)))) ∧ ((r.toInt = 1 → SMI g_read g_stack y_codes.toInt y_top.toInt y_isWhole.toInt)) ∧ ((r.toInt = 1 → (VWF y_token.toInt y_word.toInt))) ∧ (∀ (ms9 : List Int) (r9 : Sum Flt Int), Gos (tkA f_tape x_size.toInt x_limit.toInt) ms9 ((abF g_stack y_top.toInt.toNat), y_isWhole.toInt, x_ones.toInt, (tkM y_token y_at y_number y_word y_p)) r9 → Gos (tkA f_tape x_size.toInt x_limit.toInt) ms9 ((abF f_stack x_top.toInt.toNat), 1, x_ones.toInt, (tkM x_token x_at x_number x_word x_p)) r9) ∧ (SKB g_stack y_top.toInt y_deep.toInt) ∧ ((y_token.toInt = 2 → 0 ≤ y_number.toInt ∧ y_number.toInt ≤ 999)) ∧ (y_top.toInt + y_codes.toInt + y_isWhole.toInt ≤ 2 * x_ones.toInt) ∧ r = 1 ∧ u = [(h0, .inr (10, vL 67 Gh)), (h_tape, .inl (cB, 940, .inl f_tape)), (h_read, .inl (cI, 135, .inl g_read)), (h_stack, .inl (cI, 45, .inl g_stack))]) ∨ (∃ (Gh : Nat → Value) (y_fault : Int32) (y_faultAt : Int32) (y_codes : Int32) (y_top : Int32) (y_deep : Int32) (g_read : Nat → Int32), SAME [15, 16, 58, 60, 61] Fh Gh ∧ Gh 15 = .int y_fault ∧ IR 1 1 y_fault ∧ Gh 16 = .int y_faultAt ∧ Gh 58 = .int y_codes ∧ IR 0 45 y_codes ∧ Gh 60 = .int y_top ∧ IR 0 45 y_top ∧ Gh 61 = .int y_deep ∧ IR 0 46 y_deep ∧ ((r.toInt = 1 → (1 ≤ x_token.toInt ∧ x_token.toInt ≤ 3 ∧ x_p.toInt ≤ x_p.toInt ∧ (1 ≤ x_token.toInt → x_token.toInt ≤ 3 → x_p.toInt < x_p.toInt)))) ∧ ((r.toInt = 1 → SMI g_read f_stack y_codes.toInt y_top.toInt x_isWhole.toInt)) ∧ ((r.toInt = 1 → (VWF x_token.toInt x_word.toInt))) ∧ (∀ ms9 : List Int, Gos (tkA f_tape x_size.toInt x_limit.toInt) ms9 ((abF f_stack x_top.toInt.toNat), 1, x_ones.toInt, (tkM x_token x_at x_number x_word x_p)) (.inl (y_fault.toInt, y_faultAt.toInt))) ∧ ((x_token.toInt = 2 → 0 ≤ x_number.toInt ∧ x_number.toInt ≤ 999)) ∧ (y_top.toInt + y_codes.toInt + x_isWhole.toInt ≤ 2 * x_ones.toInt) ∧ r = 0 ∧ u = [(h0, .inr (10, vL 67 Gh)), (h_tape, .inl (cB, 940, .inl f_tape)), (h_read, .inl (cI, 135, .inl g_read)), (h_stack, .inl (cI, 45, .inl f_stack))])) := by
  refine CI_mk (by decide) (Nat.le_of_ble_eq_true rfl) ?_
  intro p e s m below meth c A ls E hAe hG hsz hP hD hA hS hl
  obtain ⟨hx, hb, hr, hw, hown, hlocks, hml, hnm⟩ := E
  have hK := hG.1
  have i_x_size : 0 ≤ x_size.toInt ∧ x_size.toInt ≤ 940 := i_x_size
  have i_x_p : 0 ≤ x_p.toInt ∧ x_p.toInt ≤ 940 := i_x_p
  have i_x_limit : 200 ≤ x_limit.toInt ∧ x_limit.toInt ≤ 940 := i_x_limit
  have i_x_token : 0 ≤ x_token.toInt ∧ x_token.toInt ≤ 4 := i_x_token
  have i_x_codes : 0 ≤ x_codes.toInt ∧ x_codes.toInt ≤ 45 := i_x_codes
  have i_x_ones : 0 ≤ x_ones.toInt ∧ x_ones.toInt ≤ 20 := i_x_ones
  have i_x_top : 0 ≤ x_top.toInt ∧ x_top.toInt ≤ 45 := i_x_top
  have i_x_deep : 0 ≤ x_deep.toInt ∧ x_deep.toInt ≤ 46 := i_x_deep
  have i_x_isWhole : 0 ≤ x_isWhole.toInt ∧ x_isWhole.toInt ≤ 1 := i_x_isWhole
  have hl : lv_has ls 1 [(0, .ref h0)] := hl
  refine lv_aload_n hx hb dX10_behind__0 rfl (lv_at hl 0 rfl) ?_
  refine call_Vv (wr := [(h_tape, .inl (cB, 940, .inl f_tape))]) (As := []) (rest := []) hx hb hml hown hw (m_X10_nots l D cI cJ cB cP cM cZ h0 h_read h_stack Fh x_codes x_ones x_top x_deep x_isWhole f_read f_stack _ e_read e_stack e_codes i_x_codes e_ones i_x_ones e_top i_x_top e_deep i_x_deep e_isWhole i_x_isWhole (by omega) (SMI.w z_1 (by omega)) z_3 (by omega)) wV_X10_463_X10_nots dX10_behind__1 hK hP hD hS hA [0, 2, 3] [1] rfl rfl (by decide) (by decide) (by decide) 0 10 rfl rfl GG.fb hG.at hl.1 rfl (Nat.le_of_ble_eq_true rfl) ⟨(Nat.le_of_ble_eq_true rfl), (Nat.le_of_ble_eq_true rfl)⟩ ⟨(Nat.le_of_ble_eq_true rfl), (Nat.le_of_ble_eq_true rfl)⟩ (fun u H locs hp hP hD hS => ?_)
  obtain ⟨F2, y3, y4, y5, g6, t7, t8, t9, t10, t11, t12, t13, t14, t15, t16, t17, rfl⟩ := hp
  have hP : va_P D vwCl [(h_tape, .inl (cB, 940, .inl f_tape)), (h0, .inr (10, vL 67 F2)), (h_read, .inl (cI, 135, .inl g6)), (h_stack, .inl (cI, 45, .inl f_stack))] H := hP
  have hD : va_D A [(h_tape, .inl (cB, 940, .inl f_tape)), (h0, .inr (10, vL 67 F2)), (h_read, .inl (cI, 135, .inl g6)), (h_stack, .inl (cI, 45, .inl f_stack))] := hD
  refine W.widen (k := 0) (n := 0) (Nat.le_of_ble_eq_true rfl) (Nat.le_of_ble_eq_true rfl) ?_
  refine lv_aload_n hx hb dX10_behind__4 rfl (lv_at hl 0 rfl) ?_
  refine lv_ldc2 hx hb hown (hw _ q_1249) dX10_behind__5 ?_
  have n19 : F2 11 = .int x_token := (SAME.at t7 (by decide) e_token)
  have n20 : F2 14 = .int x_number := (SAME.at t7 (by decide) e_number)
  have n21 : F2 18 = .long x_word := (SAME.at t7 (by decide) e_word)
  refine call_Vi (wr := [(h_tape, .inl (cB, 940, .inl f_tape)), (h_read, .inl (cI, 135, .inl g6)), (h_stack, .inl (cI, 45, .inl f_stack))]) (As := [.long 6385252]) (rest := []) hx hb hml hown hw (m_X10_isWord l D cI cJ cB cP cM cZ h0 F2 x_token x_number x_word 6385252 _ n19 i_x_token n20 n21 (by omega)) wV_X10_225_X10_isWord dX10_behind__8 hK hP hD hS hA [1] [0, 2, 3] rfl rfl (by decide) (by decide) (by decide) 0 10 rfl rfl GG.fb hG.at hl.1 rfl (Nat.le_of_ble_eq_true rfl) ⟨(Nat.le_of_ble_eq_true rfl), (Nat.le_of_ble_eq_true rfl)⟩ ⟨(Nat.le_of_ble_eq_true rfl), (Nat.le_of_ble_eq_true rfl)⟩ (fun r22 u H locs hp hP hD hS => ?_)
  have zl6385252 : (6385252 : Int32).toInt = 6385252 := by decide
  obtain ⟨t23, t24, rfl⟩ := hp
  have hP : va_P D vwCl [(h_tape, .inl (cB, 940, .inl f_tape)), (h_read, .inl (cI, 135, .inl g6)), (h_stack, .inl (cI, 45, .inl f_stack)), (h0, .inr (10, vL 67 F2))] H := hP
  have hD : va_D A [(h_tape, .inl (cB, 940, .inl f_tape)), (h_read, .inl (cI, 135, .inl g6)), (h_stack, .inl (cI, 45, .inl f_stack)), (h0, .inr (10, vL 67 F2))] := hD
  refine W.widen (k := 0) (n := 0) (Nat.le_of_ble_eq_true rfl) (Nat.le_of_ble_eq_true rfl) ?_
  replace t24 := ISWF.mk (isw (k := 15) (a := 1111) z_2 t24 (by decide) (by decide +kernel) (by decide +kernel) (by decide +kernel) (by decide +kernel))
  refine lv_if_ne (tgt := 24) hx hb dX10_behind__11 (by decide) (fun c26 => ?_) (fun c26 => ?_)
  · have dc26 : r22.toInt ≠ 0 := ne_i (a := r22.toInt) (b := 0) rfl rfl c26
    have k27 : 1 ≤ r22.toInt ∧ r22.toInt ≤ 1 := ⟨ne_lo dc26 t23.1 ⟨Int.le_refl _, Int.le_refl _⟩ (by decide), t23.2⟩
    have h28 := ISWF.t t24 (by omega)
    refine lv_aload_n hx hb dX10_behind__24 rfl (lv_at hl 0 rfl) ?_
    refine lv_aload_n hx hb dX10_behind__25 rfl (lv_at hl 0 rfl) ?_
    refine lv_ldc2 hx hb hown (hw _ q_1249) dX10_behind__26 ?_
    refine call_Vi (wr := [(h_tape, .inl (cB, 940, .inl f_tape)), (h_read, .inl (cI, 135, .inl g6)), (h_stack, .inl (cI, 45, .inl f_stack))]) (As := [.long 6385252]) (rest := [.ref h0]) hx hb hml hown hw (m_X10_isWord l D cI cJ cB cP cM cZ h0 F2 x_token x_number x_word 6385252 _ n19 i_x_token n20 n21 (by omega)) wV_X10_225_X10_isWord dX10_behind__29 hK hP hD hS hA [3] [0, 1, 2] rfl rfl (by decide) (by decide) (by decide) 0 10 rfl rfl GG.fb hG.at hl.1 rfl (Nat.le_of_ble_eq_true rfl) ⟨(Nat.le_of_ble_eq_true rfl), (Nat.le_of_ble_eq_true rfl)⟩ ⟨(Nat.le_of_ble_eq_true rfl), (Nat.le_of_ble_eq_true rfl)⟩ (fun r29 u H locs hp hP hD hS => ?_)
    obtain ⟨t30, t31, rfl⟩ := hp
    have hP : va_P D vwCl [(h_tape, .inl (cB, 940, .inl f_tape)), (h_read, .inl (cI, 135, .inl g6)), (h_stack, .inl (cI, 45, .inl f_stack)), (h0, .inr (10, vL 67 F2))] H := hP
    have hD : va_D A [(h_tape, .inl (cB, 940, .inl f_tape)), (h_read, .inl (cI, 135, .inl g6)), (h_stack, .inl (cI, 45, .inl f_stack)), (h0, .inr (10, vL 67 F2))] := hD
    refine W.widen (k := 0) (n := 0) (Nat.le_of_ble_eq_true rfl) (Nat.le_of_ble_eq_true rfl) ?_
    replace t31 := ISWF.mk (isw (k := 15) (a := 1111) z_2 t31 (by decide) (by decide +kernel) (by decide +kernel) (by decide +kernel) (by decide +kernel))
    refine lv_if_eq (tgt := 40) hx hb dX10_behind__32 (by decide) (fun c33 => ?_) (fun c33 => ?_)
    · have dc33 : r29.toInt = 0 := eq_i (a := r29.toInt) (b := 0) rfl rfl c33
      have k34 : 0 ≤ r29.toInt ∧ r29.toInt ≤ 0 := ⟨t30.1, Int.le_trans (Int.le_of_eq dc33) (Int.le_refl _)⟩
      refine lv_bipush (v := 22) hx hb dX10_behind__40 (by decide) ?_
      have n35 : F2 8 = .ref h_read := (SAME.at t7 (by decide) e_read)
      have n36 : F2 57 = .ref h_stack := (SAME.at t7 (by decide) e_stack)
      have n37 : F2 59 = .int x_ones := (SAME.at t7 (by decide) e_ones)
      have n38 : F2 62 = .int x_isWhole := (SAME.at t7 (by decide) e_isWhole)
      refine call_Vv (wr := [(h_tape, .inl (cB, 940, .inl f_tape))]) (As := [.int 22]) (rest := []) hx hb hml hown hw (m_X10_joins l D cI cJ cB cP cM cZ h0 h_read h_stack F2 y3 x_ones y4 y5 x_isWhole g6 f_stack 22 _ n35 n36 t8 t9 n37 i_x_ones t10 t11 t12 t13 n38 i_x_isWhole (by omega) (SMI.w t14 (by omega)) t15.1 t16 (by omega)) wV_X10_466_X10_joins dX10_behind__42 hK hP hD hS hA [3, 1, 2] [0] rfl rfl (by decide) (by decide) (by decide) 0 10 rfl rfl GG.fb hG.at hl.1 rfl (Nat.le_of_ble_eq_true rfl) ⟨(Nat.le_of_ble_eq_true rfl), (Nat.le_of_ble_eq_true rfl)⟩ ⟨(Nat.le_of_ble_eq_true rfl), (Nat.le_of_ble_eq_true rfl)⟩ (fun u H locs hp hP hD hS => ?_)
      have zl22 : (22 : Int32).toInt = 22 := by decide
      obtain ⟨F40, y41, y42, g43, t44, t45, t46, t47, t48, t49, t50, t51, t52, t53, rfl⟩ := hp
      have hP : va_P D vwCl [(h_tape, .inl (cB, 940, .inl f_tape)), (h0, .inr (10, vL 67 F40)), (h_read, .inl (cI, 135, .inl g43)), (h_stack, .inl (cI, 45, .inl f_stack))] H := hP
      have hD : va_D A [(h_tape, .inl (cB, 940, .inl f_tape)), (h0, .inr (10, vL 67 F40)), (h_read, .inl (cI, 135, .inl g43)), (h_stack, .inl (cI, 45, .inl f_stack))] := hD
      refine W.widen (k := 0) (n := 0) (Nat.le_of_ble_eq_true rfl) (Nat.le_of_ble_eq_true rfl) ?_
      refine lv_aload_n hx hb dX10_behind__45 rfl (lv_at hl 0 rfl) ?_
      have n55 : F40 57 = .ref h_stack := (SAME.at t44 (by decide) n36)
      refine get_f (D := D) (ci := 10) (v := .ref h_stack) (C := RX10) (T := TX10) (N := 67) hx hb hw inAX10 hown hK hP 1 rfl rfl 57 (by decide) (hw _ q_1318) (fun _ h9 => h9) n55 dX10_behind__46 ?_
      refine lv_aload_n hx hb dX10_behind__49 rfl (lv_at hl 0 rfl) ?_
      refine get_f (D := D) (ci := 10) (v := .int y42) (C := RX10) (T := TX10) (N := 67) hx hb hw inAX10 hown hK hP 1 rfl rfl 60 (by decide) (hw _ q_1321) (fun _ h9 => h9) t47 dX10_behind__50 ?_
      refine lv_aload_n hx hb dX10_behind__53 rfl (lv_at hl 0 rfl) ?_
      refine lv_ldc2 hx hb hown (hw _ q_1249) dX10_behind__54 ?_
      have n56 : F40 11 = .int x_token := (SAME.at t44 (by decide) n19)
      have n57 : F40 14 = .int x_number := (SAME.at t44 (by decide) n20)
      have n58 : F40 18 = .long x_word := (SAME.at t44 (by decide) n21)
      refine call_Vi (wr := [(h_tape, .inl (cB, 940, .inl f_tape)), (h_read, .inl (cI, 135, .inl g43)), (h_stack, .inl (cI, 45, .inl f_stack))]) (As := [.long 6385252]) (rest := [.int y42, .ref h_stack]) hx hb hml hown hw (m_X10_isWord l D cI cJ cB cP cM cZ h0 F40 x_token x_number x_word 6385252 _ n56 i_x_token n57 n58 (by omega)) wV_X10_225_X10_isWord dX10_behind__57 hK hP hD hS hA [1] [0, 2, 3] rfl rfl (by decide) (by decide) (by decide) 0 10 rfl rfl GG.fb hG.at hl.1 rfl (Nat.le_of_ble_eq_true rfl) ⟨(Nat.le_of_ble_eq_true rfl), (Nat.le_of_ble_eq_true rfl)⟩ ⟨(Nat.le_of_ble_eq_true rfl), (Nat.le_of_ble_eq_true rfl)⟩ (fun r59 u H locs hp hP hD hS => ?_)
      obtain ⟨t60, t61, rfl⟩ := hp
      have hP : va_P D vwCl [(h_tape, .inl (cB, 940, .inl f_tape)), (h_read, .inl (cI, 135, .inl g43)), (h_stack, .inl (cI, 45, .inl f_stack)), (h0, .inr (10, vL 67 F40))] H := hP
      have hD : va_D A [(h_tape, .inl (cB, 940, .inl f_tape)), (h_read, .inl (cI, 135, .inl g43)), (h_stack, .inl (cI, 45, .inl f_stack)), (h0, .inr (10, vL 67 F40))] := hD
      refine W.widen (k := 0) (n := 0) (Nat.le_of_ble_eq_true rfl) (Nat.le_of_ble_eq_true rfl) ?_
      replace t61 := ISWF.mk (isw (k := 15) (a := 1111) z_2 t61 (by decide) (by decide +kernel) (by decide +kernel) (by decide +kernel) (by decide +kernel))
      refine lv_if_eq (tgt := 68) hx hb dX10_behind__60 (by decide) (fun c63 => ?_) (fun c63 => ?_)
      · have dc63 : r59.toInt = 0 := eq_i (a := r59.toInt) (b := 0) rfl rfl c63
        have k64 : 0 ≤ r59.toInt ∧ r59.toInt ≤ 0 := ⟨t60.1, Int.le_trans (Int.le_of_eq dc63) (Int.le_refl _)⟩
        refine lv_bipush (v := 22) hx hb dX10_behind__68 (by decide) ?_
        obtain ⟨g65, eg65⟩ : ∃ z : Nat → Int32, upd f_stack y42.toNatClampNeg 22 = z := ⟨_, rfl⟩
        refine iast_g hx hb hK hP hD hS 2 0 rfl rfl (ix_i (by omega) (by omega)) eg65 dX10_behind__70 (fun H locs hP hD hS => ?_)
        have hP : va_P D vwCl [(h_tape, .inl (cB, 940, .inl f_tape)), (h_read, .inl (cI, 135, .inl g43)), (h_stack, .inl (cI, 45, .inl g65)), (h0, .inr (10, vL 67 F40))] H := hP
        have hD : va_D A [(h_tape, .inl (cB, 940, .inl f_tape)), (h_read, .inl (cI, 135, .inl g43)), (h_stack, .inl (cI, 45, .inl g65)), (h0, .inr (10, vL 67 F40))] := hD
        refine lv_aload_n hx hb dX10_behind__71 rfl (lv_at hl 0 rfl) ?_
        refine lv_dup hx hb dX10_behind__72 rfl ?_
        refine get_f (D := D) (ci := 10) (v := .int y42) (C := RX10) (T := TX10) (N := 67) hx hb hw inAX10 hown hK hP 3 rfl rfl 60 (by decide) (hw _ q_1321) (fun _ h9 => h9) t47 dX10_behind__73 ?_
        refine lv_iconst (v := 1) hx hb dX10_behind__76 (by decide) ?_
        refine lv_iadd hx hb dX10_behind__77 ?_
        refine lv_topi (fun v66 ev66 => ?_)
        have bv66 : v66.toInt = y42.toInt + 1 := by rw [ev66]; exact add_k rfl rfl t48 ⟨Int.le_refl _, Int.le_refl _⟩ (by decide)
        have k67 : 1 ≤ v66.toInt ∧ v66.toInt ≤ 46 := add_r bv66 t48 ⟨Int.le_refl _, Int.le_refl _⟩ (by decide)
        refine put_f (D := D) (ci := 10) (v := .int v66) (ty := .int) (C := RX10) (T := TX10) (N := 67) hx hb hw inAX10 tyX10 tyX10_ok nmX10 hown hK hP hD hS 3 rfl rfl 60 (by decide) (hw _ q_1321) (fun _ h9 => h9) rfl (by decide +kernel) rfl rfl dX10_behind__78 (fun H locs F68 eF68 hP hD hS => ?_)
        have hP : va_P D vwCl [(h_tape, .inl (cB, 940, .inl f_tape)), (h_read, .inl (cI, 135, .inl g43)), (h_stack, .inl (cI, 45, .inl g65)), (h0, .inr (10, vL 67 F68))] H := hP
        have hD : va_D A [(h_tape, .inl (cB, 940, .inl f_tape)), (h_read, .inl (cI, 135, .inl g43)), (h_stack, .inl (cI, 45, .inl g65)), (h0, .inr (10, vL 67 F68))] := hD
        refine lv_aload_n hx hb dX10_behind__81 rfl (lv_at hl 0 rfl) ?_
        refine lv_iconst (v := 0) hx hb dX10_behind__82 (by decide) ?_
        refine put_f (D := D) (ci := 10) (v := .int 0) (ty := .boolean) (C := RX10) (T := TX10) (N := 67) hx hb hw inAX10 tyX10 tyX10_ok nmX10 hown hK hP hD hS 3 rfl rfl 62 (by decide) (hw _ q_1323) (fun _ h9 => h9) rfl (by decide +kernel) rfl rfl dX10_behind__83 (fun H locs F69 eF69 hP hD hS => ?_)
        have hP : va_P D vwCl [(h_tape, .inl (cB, 940, .inl f_tape)), (h_read, .inl (cI, 135, .inl g43)), (h_stack, .inl (cI, 45, .inl g65)), (h0, .inr (10, vL 67 F69))] H := hP
        have hD : va_D A [(h_tape, .inl (cB, 940, .inl f_tape)), (h_read, .inl (cI, 135, .inl g43)), (h_stack, .inl (cI, 45, .inl g65)), (h0, .inr (10, vL 67 F69))] := hD
        refine lv_aload_n hx hb dX10_behind__86 rfl (lv_at hl 0 rfl) ?_
        have n70 : F2 1 = .ref h_tape := (SAME.at t7 (by decide) e_tape)
        have n71 : F40 1 = .ref h_tape := (SAME.at t44 (by decide) n70)
        have n72 : F68 1 = .ref h_tape := (get_ne eF68 (by decide) n71)
        have n73 : F69 1 = .ref h_tape := (get_ne eF69 (by decide) n72)
        have n74 : F2 3 = .int x_size := (SAME.at t7 (by decide) e_size)
        have n75 : F40 3 = .int x_size := (SAME.at t44 (by decide) n74)
        have n76 : F68 3 = .int x_size := (get_ne eF68 (by decide) n75)
        have n77 : F69 3 = .int x_size := (get_ne eF69 (by decide) n76)
        have n78 : F2 4 = .int x_p := (SAME.at t7 (by decide) e_p)
        have n79 : F40 4 = .int x_p := (SAME.at t44 (by decide) n78)
        have n80 : F68 4 = .int x_p := (get_ne eF68 (by decide) n79)
        have n81 : F69 4 = .int x_p := (get_ne eF69 (by decide) n80)
        have n82 : F2 5 = .int x_limit := (SAME.at t7 (by decide) e_limit)
        have n83 : F40 5 = .int x_limit := (SAME.at t44 (by decide) n82)
        have n84 : F68 5 = .int x_limit := (get_ne eF68 (by decide) n83)
        have n85 : F69 5 = .int x_limit := (get_ne eF69 (by decide) n84)
        have n86 : F68 11 = .int x_token := (get_ne eF68 (by decide) n56)
        have n87 : F69 11 = .int x_token := (get_ne eF69 (by decide) n86)
        have n88 : F2 12 = .int x_at := (SAME.at t7 (by decide) e_at)
        have n89 : F40 12 = .int x_at := (SAME.at t44 (by decide) n88)
        have n90 : F68 12 = .int x_at := (get_ne eF68 (by decide) n89)
        have n91 : F69 12 = .int x_at := (get_ne eF69 (by decide) n90)
        have n92 : F68 14 = .int x_number := (get_ne eF68 (by decide) n57)
        have n93 : F69 14 = .int x_number := (get_ne eF69 (by decide) n92)
        have n94 : F68 18 = .long x_word := (get_ne eF68 (by decide) n58)
        have n95 : F69 18 = .long x_word := (get_ne eF69 (by decide) n94)
        refine call_Vv (wr := [(h_read, .inl (cI, 135, .inl g43)), (h_stack, .inl (cI, 45, .inl g65))]) (As := []) (rest := []) hx hb hml hown hw (m_X10_next l D cI cJ cB cP cM cZ h0 h_tape F69 x_size x_p x_limit x_token x_at x_number x_word f_tape _ n73 n77 i_x_size n81 i_x_p n85 i_x_limit n87 i_x_token n91 n93 n95 (by omega)) wV_X10_208_X10_next dX10_behind__87 hK hP hD hS hA [3, 0] [1, 2] rfl rfl (by decide) (by decide) (by decide) 0 10 rfl rfl GG.fb hG.at hl.1 rfl (Nat.le_of_ble_eq_true rfl) ⟨(Nat.le_of_ble_eq_true rfl), (Nat.le_of_ble_eq_true rfl)⟩ ⟨(Nat.le_of_ble_eq_true rfl), (Nat.le_of_ble_eq_true rfl)⟩ (fun u H locs hp hP hD hS => ?_)
        obtain ⟨F97, y98, y99, y100, y101, y102, y103, t104, t105, t106, t107, t108, t109, t110, t111, t112, t113, t114, t115, t116, t117, t118, t119, rfl⟩ := hp
        have hP : va_P D vwCl [(h_read, .inl (cI, 135, .inl g43)), (h_stack, .inl (cI, 45, .inl g65)), (h0, .inr (10, vL 67 F97)), (h_tape, .inl (cB, 940, .inl f_tape))] H := hP
        have hD : va_D A [(h_read, .inl (cI, 135, .inl g43)), (h_stack, .inl (cI, 45, .inl g65)), (h0, .inr (10, vL 67 F97)), (h_tape, .inl (cB, 940, .inl f_tape))] := hD
        refine W.widen (k := 0) (n := 0) (Nat.le_of_ble_eq_true rfl) (Nat.le_of_ble_eq_true rfl) ?_
        refine lv_iconst (v := 1) hx hb dX10_behind__90 (by decide) ?_
        exact ret_i (v := 1) hx hb hr hlocks hS (hP.sub (ws' := [(h0, .inr (10, vL 67 F97)), (h_tape, .inl (cB, 940, .inl f_tape)), (h_read, .inl (cI, 135, .inl g43)), (h_stack, .inl (cI, 45, .inl g65))]) [2, 3, 0, 1] rfl) (hD.sub (ws' := [(h0, .inr (10, vL 67 F97)), (h_tape, .inl (cB, 940, .inl f_tape)), (h_read, .inl (cI, 135, .inl g43)), (h_stack, .inl (cI, 45, .inl g65))]) [2, 3, 0, 1] (by decide) rfl) dX10_behind__91 rfl (Nat.le_of_ble_eq_true rfl) (Nat.le_of_ble_eq_true rfl) (Or.inl ⟨F97, y98, y99, y100, y101, y102, y103, y41, v66, y5, 0, g43, g65, (SAME.tr (SAME.up eF69 (SAME.up eF68 (SAME.tr (SAME.tr SAME.rf t7 (by decide)) t44 (by decide)) (by decide)) (by decide)) t104 (by decide)), t105, t106, t107, t108, t109, t110, t111, t112, t113, t114, (SAME.at t104 (by decide) (get_ne eF69 (by decide) (get_ne eF68 (by decide) t45))), t46, (SAME.at t104 (by decide) (get_ne eF69 (by decide) (get_eq eF68))), (show 0 ≤ v66.toInt ∧ v66.toInt ≤ 45 from ⟨by omega, by omega⟩), (SAME.at t104 (by decide) (get_ne eF69 (by decide) (get_ne eF68 (by decide) (SAME.at t44 (by decide) t12)))), t13, (SAME.at t104 (by decide) (get_eq eF69)), (show 0 ≤ (0 : Int32).toInt ∧ (0 : Int32).toInt ≤ 1 by decide), (by have zl0 : (0 : Int32).toInt = 0 := (by decide); have zl1 : (1 : Int32).toInt = 1 := (by decide); omega), (fun _ => SMI.w (SMI.pushb t49 eg65 (by omega) (by decide) (by omega)) (by decide)), (fun _ => t118), (fun ms9 r9 g9 => gq_jn (sjM (by omega) (by omega)) (atM t117 (by omega)) ((SKB.pj t51.1 t51.2.2 eg65 (by omega) (by first | omega | decide) (by omega) rfl).2.trans (nj_d t15 t16 t51).symm) rfl (by first | omega | decide) g9), (SKB.pj t51.1 t51.2.2 eg65 (by omega) (by first | omega | decide) (by omega) rfl).1, (by have zl0 : (0 : Int32).toInt = 0 := (by decide); omega), (by have zl0 : (0 : Int32).toInt = 0 := (by decide); omega), rfl, rfl⟩)
      · have dc63 : r59.toInt ≠ 0 := ne_i (a := r59.toInt) (b := 0) rfl rfl c63
        have k121 : 1 ≤ r59.toInt ∧ r59.toInt ≤ 1 := ⟨ne_lo dc63 t60.1 ⟨Int.le_refl _, Int.le_refl _⟩ (by decide), t60.2⟩
        refine lv_bipush (v := 21) hx hb dX10_behind__63 (by decide) ?_
        refine lv_goto (tgt := 70) hx hb dX10_behind__65 (by decide) ?_
        obtain ⟨g122, eg122⟩ : ∃ z : Nat → Int32, upd f_stack y42.toNatClampNeg 21 = z := ⟨_, rfl⟩
        refine iast_g hx hb hK hP hD hS 2 0 rfl rfl (ix_i (by omega) (by omega)) eg122 dX10_behind__70 (fun H locs hP hD hS => ?_)
        have hP : va_P D vwCl [(h_tape, .inl (cB, 940, .inl f_tape)), (h_read, .inl (cI, 135, .inl g43)), (h_stack, .inl (cI, 45, .inl g122)), (h0, .inr (10, vL 67 F40))] H := hP
        have hD : va_D A [(h_tape, .inl (cB, 940, .inl f_tape)), (h_read, .inl (cI, 135, .inl g43)), (h_stack, .inl (cI, 45, .inl g122)), (h0, .inr (10, vL 67 F40))] := hD
        refine lv_aload_n hx hb dX10_behind__71 rfl (lv_at hl 0 rfl) ?_
        refine lv_dup hx hb dX10_behind__72 rfl ?_
        refine get_f (D := D) (ci := 10) (v := .int y42) (C := RX10) (T := TX10) (N := 67) hx hb hw inAX10 hown hK hP 3 rfl rfl 60 (by decide) (hw _ q_1321) (fun _ h9 => h9) t47 dX10_behind__73 ?_
        refine lv_iconst (v := 1) hx hb dX10_behind__76 (by decide) ?_
        refine lv_iadd hx hb dX10_behind__77 ?_
        refine lv_topi (fun v123 ev123 => ?_)
        have bv123 : v123.toInt = y42.toInt + 1 := by rw [ev123]; exact add_k rfl rfl t48 ⟨Int.le_refl _, Int.le_refl _⟩ (by decide)
        have k124 : 1 ≤ v123.toInt ∧ v123.toInt ≤ 46 := add_r bv123 t48 ⟨Int.le_refl _, Int.le_refl _⟩ (by decide)
        refine put_f (D := D) (ci := 10) (v := .int v123) (ty := .int) (C := RX10) (T := TX10) (N := 67) hx hb hw inAX10 tyX10 tyX10_ok nmX10 hown hK hP hD hS 3 rfl rfl 60 (by decide) (hw _ q_1321) (fun _ h9 => h9) rfl (by decide +kernel) rfl rfl dX10_behind__78 (fun H locs F125 eF125 hP hD hS => ?_)
        have hP : va_P D vwCl [(h_tape, .inl (cB, 940, .inl f_tape)), (h_read, .inl (cI, 135, .inl g43)), (h_stack, .inl (cI, 45, .inl g122)), (h0, .inr (10, vL 67 F125))] H := hP
        have hD : va_D A [(h_tape, .inl (cB, 940, .inl f_tape)), (h_read, .inl (cI, 135, .inl g43)), (h_stack, .inl (cI, 45, .inl g122)), (h0, .inr (10, vL 67 F125))] := hD
        refine lv_aload_n hx hb dX10_behind__81 rfl (lv_at hl 0 rfl) ?_
        refine lv_iconst (v := 0) hx hb dX10_behind__82 (by decide) ?_
        refine put_f (D := D) (ci := 10) (v := .int 0) (ty := .boolean) (C := RX10) (T := TX10) (N := 67) hx hb hw inAX10 tyX10 tyX10_ok nmX10 hown hK hP hD hS 3 rfl rfl 62 (by decide) (hw _ q_1323) (fun _ h9 => h9) rfl (by decide +kernel) rfl rfl dX10_behind__83 (fun H locs F126 eF126 hP hD hS => ?_)
        have hP : va_P D vwCl [(h_tape, .inl (cB, 940, .inl f_tape)), (h_read, .inl (cI, 135, .inl g43)), (h_stack, .inl (cI, 45, .inl g122)), (h0, .inr (10, vL 67 F126))] H := hP
        have hD : va_D A [(h_tape, .inl (cB, 940, .inl f_tape)), (h_read, .inl (cI, 135, .inl g43)), (h_stack, .inl (cI, 45, .inl g122)), (h0, .inr (10, vL 67 F126))] := hD
        refine lv_aload_n hx hb dX10_behind__86 rfl (lv_at hl 0 rfl) ?_
        have n127 : F2 1 = .ref h_tape := (SAME.at t7 (by decide) e_tape)
        have n128 : F40 1 = .ref h_tape := (SAME.at t44 (by decide) n127)
        have n129 : F125 1 = .ref h_tape := (get_ne eF125 (by decide) n128)
        have n130 : F126 1 = .ref h_tape := (get_ne eF126 (by decide) n129)
        have n131 : F2 3 = .int x_size := (SAME.at t7 (by decide) e_size)
        have n132 : F40 3 = .int x_size := (SAME.at t44 (by decide) n131)
        have n133 : F125 3 = .int x_size := (get_ne eF125 (by decide) n132)
        have n134 : F126 3 = .int x_size := (get_ne eF126 (by decide) n133)
        have n135 : F2 4 = .int x_p := (SAME.at t7 (by decide) e_p)
        have n136 : F40 4 = .int x_p := (SAME.at t44 (by decide) n135)
        have n137 : F125 4 = .int x_p := (get_ne eF125 (by decide) n136)
        have n138 : F126 4 = .int x_p := (get_ne eF126 (by decide) n137)
        have n139 : F2 5 = .int x_limit := (SAME.at t7 (by decide) e_limit)
        have n140 : F40 5 = .int x_limit := (SAME.at t44 (by decide) n139)
        have n141 : F125 5 = .int x_limit := (get_ne eF125 (by decide) n140)
        have n142 : F126 5 = .int x_limit := (get_ne eF126 (by decide) n141)
        have n143 : F125 11 = .int x_token := (get_ne eF125 (by decide) n56)
        have n144 : F126 11 = .int x_token := (get_ne eF126 (by decide) n143)
        have n145 : F2 12 = .int x_at := (SAME.at t7 (by decide) e_at)
        have n146 : F40 12 = .int x_at := (SAME.at t44 (by decide) n145)
        have n147 : F125 12 = .int x_at := (get_ne eF125 (by decide) n146)
        have n148 : F126 12 = .int x_at := (get_ne eF126 (by decide) n147)
        have n149 : F125 14 = .int x_number := (get_ne eF125 (by decide) n57)
        have n150 : F126 14 = .int x_number := (get_ne eF126 (by decide) n149)
        have n151 : F125 18 = .long x_word := (get_ne eF125 (by decide) n58)
        have n152 : F126 18 = .long x_word := (get_ne eF126 (by decide) n151)
        refine call_Vv (wr := [(h_read, .inl (cI, 135, .inl g43)), (h_stack, .inl (cI, 45, .inl g122))]) (As := []) (rest := []) hx hb hml hown hw (m_X10_next l D cI cJ cB cP cM cZ h0 h_tape F126 x_size x_p x_limit x_token x_at x_number x_word f_tape _ n130 n134 i_x_size n138 i_x_p n142 i_x_limit n144 i_x_token n148 n150 n152 (by omega)) wV_X10_208_X10_next dX10_behind__87 hK hP hD hS hA [3, 0] [1, 2] rfl rfl (by decide) (by decide) (by decide) 0 10 rfl rfl GG.fb hG.at hl.1 rfl (Nat.le_of_ble_eq_true rfl) ⟨(Nat.le_of_ble_eq_true rfl), (Nat.le_of_ble_eq_true rfl)⟩ ⟨(Nat.le_of_ble_eq_true rfl), (Nat.le_of_ble_eq_true rfl)⟩ (fun u H locs hp hP hD hS => ?_)
        obtain ⟨F154, y155, y156, y157, y158, y159, y160, t161, t162, t163, t164, t165, t166, t167, t168, t169, t170, t171, t172, t173, t174, t175, t176, rfl⟩ := hp
        have hP : va_P D vwCl [(h_read, .inl (cI, 135, .inl g43)), (h_stack, .inl (cI, 45, .inl g122)), (h0, .inr (10, vL 67 F154)), (h_tape, .inl (cB, 940, .inl f_tape))] H := hP
        have hD : va_D A [(h_read, .inl (cI, 135, .inl g43)), (h_stack, .inl (cI, 45, .inl g122)), (h0, .inr (10, vL 67 F154)), (h_tape, .inl (cB, 940, .inl f_tape))] := hD
        refine W.widen (k := 0) (n := 0) (Nat.le_of_ble_eq_true rfl) (Nat.le_of_ble_eq_true rfl) ?_
        refine lv_iconst (v := 1) hx hb dX10_behind__90 (by decide) ?_
        exact ret_i (v := 1) hx hb hr hlocks hS (hP.sub (ws' := [(h0, .inr (10, vL 67 F154)), (h_tape, .inl (cB, 940, .inl f_tape)), (h_read, .inl (cI, 135, .inl g43)), (h_stack, .inl (cI, 45, .inl g122))]) [2, 3, 0, 1] rfl) (hD.sub (ws' := [(h0, .inr (10, vL 67 F154)), (h_tape, .inl (cB, 940, .inl f_tape)), (h_read, .inl (cI, 135, .inl g43)), (h_stack, .inl (cI, 45, .inl g122))]) [2, 3, 0, 1] (by decide) rfl) dX10_behind__91 rfl (Nat.le_of_ble_eq_true rfl) (Nat.le_of_ble_eq_true rfl) (Or.inl ⟨F154, y155, y156, y157, y158, y159, y160, y41, v123, y5, 0, g43, g122, (SAME.tr (SAME.up eF126 (SAME.up eF125 (SAME.tr (SAME.tr SAME.rf t7 (by decide)) t44 (by decide)) (by decide)) (by decide)) t161 (by decide)), t162, t163, t164, t165, t166, t167, t168, t169, t170, t171, (SAME.at t161 (by decide) (get_ne eF126 (by decide) (get_ne eF125 (by decide) t45))), t46, (SAME.at t161 (by decide) (get_ne eF126 (by decide) (get_eq eF125))), (show 0 ≤ v123.toInt ∧ v123.toInt ≤ 45 from ⟨by omega, by omega⟩), (SAME.at t161 (by decide) (get_ne eF126 (by decide) (get_ne eF125 (by decide) (SAME.at t44 (by decide) t12)))), t13, (SAME.at t161 (by decide) (get_eq eF126)), (show 0 ≤ (0 : Int32).toInt ∧ (0 : Int32).toInt ≤ 1 by decide), (by have zl0 : (0 : Int32).toInt = 0 := (by decide); have zl1 : (1 : Int32).toInt = 1 := (by decide); omega), (fun _ => SMI.w (SMI.pushb t49 eg122 (by omega) (by decide) (by omega)) (by decide)), (fun _ => t175), (fun ms9 r9 g9 => gq_jn (sjM (by omega) (by omega)) (atM t174 (by omega)) ((SKB.pj t51.1 t51.2.2 eg122 (by omega) (by first | omega | decide) (by omega) rfl).2.trans (nj_d t15 t16 t51).symm) rfl (by first | omega | decide) g9), (SKB.pj t51.1 t51.2.2 eg122 (by omega) (by first | omega | decide) (by omega) rfl).1, (by have zl0 : (0 : Int32).toInt = 0 := (by decide); omega), (by have zl0 : (0 : Int32).toInt = 0 := (by decide); omega), rfl, rfl⟩)
    · have dc33 : r29.toInt ≠ 0 := ne_i (a := r29.toInt) (b := 0) rfl rfl c33
      have k178 : 1 ≤ r29.toInt ∧ r29.toInt ≤ 1 := ⟨ne_lo dc33 t30.1 ⟨Int.le_refl _, Int.le_refl _⟩ (by decide), t30.2⟩
      refine lv_bipush (v := 21) hx hb dX10_behind__35 (by decide) ?_
      refine lv_goto (tgt := 42) hx hb dX10_behind__37 (by decide) ?_
      have n179 : F2 8 = .ref h_read := (SAME.at t7 (by decide) e_read)
      have n180 : F2 57 = .ref h_stack := (SAME.at t7 (by decide) e_stack)
      have n181 : F2 59 = .int x_ones := (SAME.at t7 (by decide) e_ones)
      have n182 : F2 62 = .int x_isWhole := (SAME.at t7 (by decide) e_isWhole)
      refine call_Vv (wr := [(h_tape, .inl (cB, 940, .inl f_tape))]) (As := [.int 21]) (rest := []) hx hb hml hown hw (m_X10_joins l D cI cJ cB cP cM cZ h0 h_read h_stack F2 y3 x_ones y4 y5 x_isWhole g6 f_stack 21 _ n179 n180 t8 t9 n181 i_x_ones t10 t11 t12 t13 n182 i_x_isWhole (by omega) (SMI.w t14 (by omega)) t15.1 t16 (by omega)) wV_X10_466_X10_joins dX10_behind__42 hK hP hD hS hA [3, 1, 2] [0] rfl rfl (by decide) (by decide) (by decide) 0 10 rfl rfl GG.fb hG.at hl.1 rfl (Nat.le_of_ble_eq_true rfl) ⟨(Nat.le_of_ble_eq_true rfl), (Nat.le_of_ble_eq_true rfl)⟩ ⟨(Nat.le_of_ble_eq_true rfl), (Nat.le_of_ble_eq_true rfl)⟩ (fun u H locs hp hP hD hS => ?_)
      have zl21 : (21 : Int32).toInt = 21 := by decide
      obtain ⟨F184, y185, y186, g187, t188, t189, t190, t191, t192, t193, t194, t195, t196, t197, rfl⟩ := hp
      have hP : va_P D vwCl [(h_tape, .inl (cB, 940, .inl f_tape)), (h0, .inr (10, vL 67 F184)), (h_read, .inl (cI, 135, .inl g187)), (h_stack, .inl (cI, 45, .inl f_stack))] H := hP
      have hD : va_D A [(h_tape, .inl (cB, 940, .inl f_tape)), (h0, .inr (10, vL 67 F184)), (h_read, .inl (cI, 135, .inl g187)), (h_stack, .inl (cI, 45, .inl f_stack))] := hD
      refine W.widen (k := 0) (n := 0) (Nat.le_of_ble_eq_true rfl) (Nat.le_of_ble_eq_true rfl) ?_
      refine lv_aload_n hx hb dX10_behind__45 rfl (lv_at hl 0 rfl) ?_
      have n199 : F184 57 = .ref h_stack := (SAME.at t188 (by decide) n180)
      refine get_f (D := D) (ci := 10) (v := .ref h_stack) (C := RX10) (T := TX10) (N := 67) hx hb hw inAX10 hown hK hP 1 rfl rfl 57 (by decide) (hw _ q_1318) (fun _ h9 => h9) n199 dX10_behind__46 ?_
      refine lv_aload_n hx hb dX10_behind__49 rfl (lv_at hl 0 rfl) ?_
      refine get_f (D := D) (ci := 10) (v := .int y186) (C := RX10) (T := TX10) (N := 67) hx hb hw inAX10 hown hK hP 1 rfl rfl 60 (by decide) (hw _ q_1321) (fun _ h9 => h9) t191 dX10_behind__50 ?_
      refine lv_aload_n hx hb dX10_behind__53 rfl (lv_at hl 0 rfl) ?_
      refine lv_ldc2 hx hb hown (hw _ q_1249) dX10_behind__54 ?_
      have n200 : F184 11 = .int x_token := (SAME.at t188 (by decide) n19)
      have n201 : F184 14 = .int x_number := (SAME.at t188 (by decide) n20)
      have n202 : F184 18 = .long x_word := (SAME.at t188 (by decide) n21)
      refine call_Vi (wr := [(h_tape, .inl (cB, 940, .inl f_tape)), (h_read, .inl (cI, 135, .inl g187)), (h_stack, .inl (cI, 45, .inl f_stack))]) (As := [.long 6385252]) (rest := [.int y186, .ref h_stack]) hx hb hml hown hw (m_X10_isWord l D cI cJ cB cP cM cZ h0 F184 x_token x_number x_word 6385252 _ n200 i_x_token n201 n202 (by omega)) wV_X10_225_X10_isWord dX10_behind__57 hK hP hD hS hA [1] [0, 2, 3] rfl rfl (by decide) (by decide) (by decide) 0 10 rfl rfl GG.fb hG.at hl.1 rfl (Nat.le_of_ble_eq_true rfl) ⟨(Nat.le_of_ble_eq_true rfl), (Nat.le_of_ble_eq_true rfl)⟩ ⟨(Nat.le_of_ble_eq_true rfl), (Nat.le_of_ble_eq_true rfl)⟩ (fun r203 u H locs hp hP hD hS => ?_)
      obtain ⟨t204, t205, rfl⟩ := hp
      have hP : va_P D vwCl [(h_tape, .inl (cB, 940, .inl f_tape)), (h_read, .inl (cI, 135, .inl g187)), (h_stack, .inl (cI, 45, .inl f_stack)), (h0, .inr (10, vL 67 F184))] H := hP
      have hD : va_D A [(h_tape, .inl (cB, 940, .inl f_tape)), (h_read, .inl (cI, 135, .inl g187)), (h_stack, .inl (cI, 45, .inl f_stack)), (h0, .inr (10, vL 67 F184))] := hD
      refine W.widen (k := 0) (n := 0) (Nat.le_of_ble_eq_true rfl) (Nat.le_of_ble_eq_true rfl) ?_
      replace t205 := ISWF.mk (isw (k := 15) (a := 1111) z_2 t205 (by decide) (by decide +kernel) (by decide +kernel) (by decide +kernel) (by decide +kernel))
      refine lv_if_eq (tgt := 68) hx hb dX10_behind__60 (by decide) (fun c207 => ?_) (fun c207 => ?_)
      · have dc207 : r203.toInt = 0 := eq_i (a := r203.toInt) (b := 0) rfl rfl c207
        have k208 : 0 ≤ r203.toInt ∧ r203.toInt ≤ 0 := ⟨t204.1, Int.le_trans (Int.le_of_eq dc207) (Int.le_refl _)⟩
        refine lv_bipush (v := 22) hx hb dX10_behind__68 (by decide) ?_
        obtain ⟨g209, eg209⟩ : ∃ z : Nat → Int32, upd f_stack y186.toNatClampNeg 22 = z := ⟨_, rfl⟩
        refine iast_g hx hb hK hP hD hS 2 0 rfl rfl (ix_i (by omega) (by omega)) eg209 dX10_behind__70 (fun H locs hP hD hS => ?_)
        have hP : va_P D vwCl [(h_tape, .inl (cB, 940, .inl f_tape)), (h_read, .inl (cI, 135, .inl g187)), (h_stack, .inl (cI, 45, .inl g209)), (h0, .inr (10, vL 67 F184))] H := hP
        have hD : va_D A [(h_tape, .inl (cB, 940, .inl f_tape)), (h_read, .inl (cI, 135, .inl g187)), (h_stack, .inl (cI, 45, .inl g209)), (h0, .inr (10, vL 67 F184))] := hD
        refine lv_aload_n hx hb dX10_behind__71 rfl (lv_at hl 0 rfl) ?_
        refine lv_dup hx hb dX10_behind__72 rfl ?_
        refine get_f (D := D) (ci := 10) (v := .int y186) (C := RX10) (T := TX10) (N := 67) hx hb hw inAX10 hown hK hP 3 rfl rfl 60 (by decide) (hw _ q_1321) (fun _ h9 => h9) t191 dX10_behind__73 ?_
        refine lv_iconst (v := 1) hx hb dX10_behind__76 (by decide) ?_
        refine lv_iadd hx hb dX10_behind__77 ?_
        refine lv_topi (fun v210 ev210 => ?_)
        have bv210 : v210.toInt = y186.toInt + 1 := by rw [ev210]; exact add_k rfl rfl t192 ⟨Int.le_refl _, Int.le_refl _⟩ (by decide)
        have k211 : 1 ≤ v210.toInt ∧ v210.toInt ≤ 46 := add_r bv210 t192 ⟨Int.le_refl _, Int.le_refl _⟩ (by decide)
        refine put_f (D := D) (ci := 10) (v := .int v210) (ty := .int) (C := RX10) (T := TX10) (N := 67) hx hb hw inAX10 tyX10 tyX10_ok nmX10 hown hK hP hD hS 3 rfl rfl 60 (by decide) (hw _ q_1321) (fun _ h9 => h9) rfl (by decide +kernel) rfl rfl dX10_behind__78 (fun H locs F212 eF212 hP hD hS => ?_)
        have hP : va_P D vwCl [(h_tape, .inl (cB, 940, .inl f_tape)), (h_read, .inl (cI, 135, .inl g187)), (h_stack, .inl (cI, 45, .inl g209)), (h0, .inr (10, vL 67 F212))] H := hP
        have hD : va_D A [(h_tape, .inl (cB, 940, .inl f_tape)), (h_read, .inl (cI, 135, .inl g187)), (h_stack, .inl (cI, 45, .inl g209)), (h0, .inr (10, vL 67 F212))] := hD
        refine lv_aload_n hx hb dX10_behind__81 rfl (lv_at hl 0 rfl) ?_
        refine lv_iconst (v := 0) hx hb dX10_behind__82 (by decide) ?_
        refine put_f (D := D) (ci := 10) (v := .int 0) (ty := .boolean) (C := RX10) (T := TX10) (N := 67) hx hb hw inAX10 tyX10 tyX10_ok nmX10 hown hK hP hD hS 3 rfl rfl 62 (by decide) (hw _ q_1323) (fun _ h9 => h9) rfl (by decide +kernel) rfl rfl dX10_behind__83 (fun H locs F213 eF213 hP hD hS => ?_)
        have hP : va_P D vwCl [(h_tape, .inl (cB, 940, .inl f_tape)), (h_read, .inl (cI, 135, .inl g187)), (h_stack, .inl (cI, 45, .inl g209)), (h0, .inr (10, vL 67 F213))] H := hP
        have hD : va_D A [(h_tape, .inl (cB, 940, .inl f_tape)), (h_read, .inl (cI, 135, .inl g187)), (h_stack, .inl (cI, 45, .inl g209)), (h0, .inr (10, vL 67 F213))] := hD
        refine lv_aload_n hx hb dX10_behind__86 rfl (lv_at hl 0 rfl) ?_
        have n214 : F2 1 = .ref h_tape := (SAME.at t7 (by decide) e_tape)
        have n215 : F184 1 = .ref h_tape := (SAME.at t188 (by decide) n214)
        have n216 : F212 1 = .ref h_tape := (get_ne eF212 (by decide) n215)
        have n217 : F213 1 = .ref h_tape := (get_ne eF213 (by decide) n216)
        have n218 : F2 3 = .int x_size := (SAME.at t7 (by decide) e_size)
        have n219 : F184 3 = .int x_size := (SAME.at t188 (by decide) n218)
        have n220 : F212 3 = .int x_size := (get_ne eF212 (by decide) n219)
        have n221 : F213 3 = .int x_size := (get_ne eF213 (by decide) n220)
        have n222 : F2 4 = .int x_p := (SAME.at t7 (by decide) e_p)
        have n223 : F184 4 = .int x_p := (SAME.at t188 (by decide) n222)
        have n224 : F212 4 = .int x_p := (get_ne eF212 (by decide) n223)
        have n225 : F213 4 = .int x_p := (get_ne eF213 (by decide) n224)
        have n226 : F2 5 = .int x_limit := (SAME.at t7 (by decide) e_limit)
        have n227 : F184 5 = .int x_limit := (SAME.at t188 (by decide) n226)
        have n228 : F212 5 = .int x_limit := (get_ne eF212 (by decide) n227)
        have n229 : F213 5 = .int x_limit := (get_ne eF213 (by decide) n228)
        have n230 : F212 11 = .int x_token := (get_ne eF212 (by decide) n200)
        have n231 : F213 11 = .int x_token := (get_ne eF213 (by decide) n230)
        have n232 : F2 12 = .int x_at := (SAME.at t7 (by decide) e_at)
        have n233 : F184 12 = .int x_at := (SAME.at t188 (by decide) n232)
        have n234 : F212 12 = .int x_at := (get_ne eF212 (by decide) n233)
        have n235 : F213 12 = .int x_at := (get_ne eF213 (by decide) n234)
        have n236 : F212 14 = .int x_number := (get_ne eF212 (by decide) n201)
        have n237 : F213 14 = .int x_number := (get_ne eF213 (by decide) n236)
        have n238 : F212 18 = .long x_word := (get_ne eF212 (by decide) n202)
        have n239 : F213 18 = .long x_word := (get_ne eF213 (by decide) n238)
        refine call_Vv (wr := [(h_read, .inl (cI, 135, .inl g187)), (h_stack, .inl (cI, 45, .inl g209))]) (As := []) (rest := []) hx hb hml hown hw (m_X10_next l D cI cJ cB cP cM cZ h0 h_tape F213 x_size x_p x_limit x_token x_at x_number x_word f_tape _ n217 n221 i_x_size n225 i_x_p n229 i_x_limit n231 i_x_token n235 n237 n239 (by omega)) wV_X10_208_X10_next dX10_behind__87 hK hP hD hS hA [3, 0] [1, 2] rfl rfl (by decide) (by decide) (by decide) 0 10 rfl rfl GG.fb hG.at hl.1 rfl (Nat.le_of_ble_eq_true rfl) ⟨(Nat.le_of_ble_eq_true rfl), (Nat.le_of_ble_eq_true rfl)⟩ ⟨(Nat.le_of_ble_eq_true rfl), (Nat.le_of_ble_eq_true rfl)⟩ (fun u H locs hp hP hD hS => ?_)
        obtain ⟨F241, y242, y243, y244, y245, y246, y247, t248, t249, t250, t251, t252, t253, t254, t255, t256, t257, t258, t259, t260, t261, t262, t263, rfl⟩ := hp
        have hP : va_P D vwCl [(h_read, .inl (cI, 135, .inl g187)), (h_stack, .inl (cI, 45, .inl g209)), (h0, .inr (10, vL 67 F241)), (h_tape, .inl (cB, 940, .inl f_tape))] H := hP
        have hD : va_D A [(h_read, .inl (cI, 135, .inl g187)), (h_stack, .inl (cI, 45, .inl g209)), (h0, .inr (10, vL 67 F241)), (h_tape, .inl (cB, 940, .inl f_tape))] := hD
        refine W.widen (k := 0) (n := 0) (Nat.le_of_ble_eq_true rfl) (Nat.le_of_ble_eq_true rfl) ?_
        refine lv_iconst (v := 1) hx hb dX10_behind__90 (by decide) ?_
        exact ret_i (v := 1) hx hb hr hlocks hS (hP.sub (ws' := [(h0, .inr (10, vL 67 F241)), (h_tape, .inl (cB, 940, .inl f_tape)), (h_read, .inl (cI, 135, .inl g187)), (h_stack, .inl (cI, 45, .inl g209))]) [2, 3, 0, 1] rfl) (hD.sub (ws' := [(h0, .inr (10, vL 67 F241)), (h_tape, .inl (cB, 940, .inl f_tape)), (h_read, .inl (cI, 135, .inl g187)), (h_stack, .inl (cI, 45, .inl g209))]) [2, 3, 0, 1] (by decide) rfl) dX10_behind__91 rfl (Nat.le_of_ble_eq_true rfl) (Nat.le_of_ble_eq_true rfl) (Or.inl ⟨F241, y242, y243, y244, y245, y246, y247, y185, v210, y5, 0, g187, g209, (SAME.tr (SAME.up eF213 (SAME.up eF212 (SAME.tr (SAME.tr SAME.rf t7 (by decide)) t188 (by decide)) (by decide)) (by decide)) t248 (by decide)), t249, t250, t251, t252, t253, t254, t255, t256, t257, t258, (SAME.at t248 (by decide) (get_ne eF213 (by decide) (get_ne eF212 (by decide) t189))), t190, (SAME.at t248 (by decide) (get_ne eF213 (by decide) (get_eq eF212))), (show 0 ≤ v210.toInt ∧ v210.toInt ≤ 45 from ⟨by omega, by omega⟩), (SAME.at t248 (by decide) (get_ne eF213 (by decide) (get_ne eF212 (by decide) (SAME.at t188 (by decide) t12)))), t13, (SAME.at t248 (by decide) (get_eq eF213)), (show 0 ≤ (0 : Int32).toInt ∧ (0 : Int32).toInt ≤ 1 by decide), (by have zl0 : (0 : Int32).toInt = 0 := (by decide); have zl1 : (1 : Int32).toInt = 1 := (by decide); omega), (fun _ => SMI.w (SMI.pushb t193 eg209 (by omega) (by decide) (by omega)) (by decide)), (fun _ => t262), (fun ms9 r9 g9 => gq_jn (sjM (by omega) (by omega)) (atM t261 (by omega)) ((SKB.pj t195.1 t195.2.2 eg209 (by omega) (by first | omega | decide) (by omega) rfl).2.trans (nj_d t15 t16 t195).symm) rfl (by first | omega | decide) g9), (SKB.pj t195.1 t195.2.2 eg209 (by omega) (by first | omega | decide) (by omega) rfl).1, (by have zl0 : (0 : Int32).toInt = 0 := (by decide); omega), (by have zl0 : (0 : Int32).toInt = 0 := (by decide); omega), rfl, rfl⟩)
      · have dc207 : r203.toInt ≠ 0 := ne_i (a := r203.toInt) (b := 0) rfl rfl c207
        have k265 : 1 ≤ r203.toInt ∧ r203.toInt ≤ 1 := ⟨ne_lo dc207 t204.1 ⟨Int.le_refl _, Int.le_refl _⟩ (by decide), t204.2⟩
        refine lv_bipush (v := 21) hx hb dX10_behind__63 (by decide) ?_
        refine lv_goto (tgt := 70) hx hb dX10_behind__65 (by decide) ?_
        obtain ⟨g266, eg266⟩ : ∃ z : Nat → Int32, upd f_stack y186.toNatClampNeg 21 = z := ⟨_, rfl⟩
        refine iast_g hx hb hK hP hD hS 2 0 rfl rfl (ix_i (by omega) (by omega)) eg266 dX10_behind__70 (fun H locs hP hD hS => ?_)
        have hP : va_P D vwCl [(h_tape, .inl (cB, 940, .inl f_tape)), (h_read, .inl (cI, 135, .inl g187)), (h_stack, .inl (cI, 45, .inl g266)), (h0, .inr (10, vL 67 F184))] H := hP
        have hD : va_D A [(h_tape, .inl (cB, 940, .inl f_tape)), (h_read, .inl (cI, 135, .inl g187)), (h_stack, .inl (cI, 45, .inl g266)), (h0, .inr (10, vL 67 F184))] := hD
        refine lv_aload_n hx hb dX10_behind__71 rfl (lv_at hl 0 rfl) ?_
        refine lv_dup hx hb dX10_behind__72 rfl ?_
        refine get_f (D := D) (ci := 10) (v := .int y186) (C := RX10) (T := TX10) (N := 67) hx hb hw inAX10 hown hK hP 3 rfl rfl 60 (by decide) (hw _ q_1321) (fun _ h9 => h9) t191 dX10_behind__73 ?_
        refine lv_iconst (v := 1) hx hb dX10_behind__76 (by decide) ?_
        refine lv_iadd hx hb dX10_behind__77 ?_
        refine lv_topi (fun v267 ev267 => ?_)
        have bv267 : v267.toInt = y186.toInt + 1 := by rw [ev267]; exact add_k rfl rfl t192 ⟨Int.le_refl _, Int.le_refl _⟩ (by decide)
        have k268 : 1 ≤ v267.toInt ∧ v267.toInt ≤ 46 := add_r bv267 t192 ⟨Int.le_refl _, Int.le_refl _⟩ (by decide)
        refine put_f (D := D) (ci := 10) (v := .int v267) (ty := .int) (C := RX10) (T := TX10) (N := 67) hx hb hw inAX10 tyX10 tyX10_ok nmX10 hown hK hP hD hS 3 rfl rfl 60 (by decide) (hw _ q_1321) (fun _ h9 => h9) rfl (by decide +kernel) rfl rfl dX10_behind__78 (fun H locs F269 eF269 hP hD hS => ?_)
        have hP : va_P D vwCl [(h_tape, .inl (cB, 940, .inl f_tape)), (h_read, .inl (cI, 135, .inl g187)), (h_stack, .inl (cI, 45, .inl g266)), (h0, .inr (10, vL 67 F269))] H := hP
        have hD : va_D A [(h_tape, .inl (cB, 940, .inl f_tape)), (h_read, .inl (cI, 135, .inl g187)), (h_stack, .inl (cI, 45, .inl g266)), (h0, .inr (10, vL 67 F269))] := hD
        refine lv_aload_n hx hb dX10_behind__81 rfl (lv_at hl 0 rfl) ?_
        refine lv_iconst (v := 0) hx hb dX10_behind__82 (by decide) ?_
        refine put_f (D := D) (ci := 10) (v := .int 0) (ty := .boolean) (C := RX10) (T := TX10) (N := 67) hx hb hw inAX10 tyX10 tyX10_ok nmX10 hown hK hP hD hS 3 rfl rfl 62 (by decide) (hw _ q_1323) (fun _ h9 => h9) rfl (by decide +kernel) rfl rfl dX10_behind__83 (fun H locs F270 eF270 hP hD hS => ?_)
        have hP : va_P D vwCl [(h_tape, .inl (cB, 940, .inl f_tape)), (h_read, .inl (cI, 135, .inl g187)), (h_stack, .inl (cI, 45, .inl g266)), (h0, .inr (10, vL 67 F270))] H := hP
        have hD : va_D A [(h_tape, .inl (cB, 940, .inl f_tape)), (h_read, .inl (cI, 135, .inl g187)), (h_stack, .inl (cI, 45, .inl g266)), (h0, .inr (10, vL 67 F270))] := hD
        refine lv_aload_n hx hb dX10_behind__86 rfl (lv_at hl 0 rfl) ?_
        have n271 : F2 1 = .ref h_tape := (SAME.at t7 (by decide) e_tape)
        have n272 : F184 1 = .ref h_tape := (SAME.at t188 (by decide) n271)
        have n273 : F269 1 = .ref h_tape := (get_ne eF269 (by decide) n272)
        have n274 : F270 1 = .ref h_tape := (get_ne eF270 (by decide) n273)
        have n275 : F2 3 = .int x_size := (SAME.at t7 (by decide) e_size)
        have n276 : F184 3 = .int x_size := (SAME.at t188 (by decide) n275)
        have n277 : F269 3 = .int x_size := (get_ne eF269 (by decide) n276)
        have n278 : F270 3 = .int x_size := (get_ne eF270 (by decide) n277)
        have n279 : F2 4 = .int x_p := (SAME.at t7 (by decide) e_p)
        have n280 : F184 4 = .int x_p := (SAME.at t188 (by decide) n279)
        have n281 : F269 4 = .int x_p := (get_ne eF269 (by decide) n280)
        have n282 : F270 4 = .int x_p := (get_ne eF270 (by decide) n281)
        have n283 : F2 5 = .int x_limit := (SAME.at t7 (by decide) e_limit)
        have n284 : F184 5 = .int x_limit := (SAME.at t188 (by decide) n283)
        have n285 : F269 5 = .int x_limit := (get_ne eF269 (by decide) n284)
        have n286 : F270 5 = .int x_limit := (get_ne eF270 (by decide) n285)
        have n287 : F269 11 = .int x_token := (get_ne eF269 (by decide) n200)
        have n288 : F270 11 = .int x_token := (get_ne eF270 (by decide) n287)
        have n289 : F2 12 = .int x_at := (SAME.at t7 (by decide) e_at)
        have n290 : F184 12 = .int x_at := (SAME.at t188 (by decide) n289)
        have n291 : F269 12 = .int x_at := (get_ne eF269 (by decide) n290)
        have n292 : F270 12 = .int x_at := (get_ne eF270 (by decide) n291)
        have n293 : F269 14 = .int x_number := (get_ne eF269 (by decide) n201)
        have n294 : F270 14 = .int x_number := (get_ne eF270 (by decide) n293)
        have n295 : F269 18 = .long x_word := (get_ne eF269 (by decide) n202)
        have n296 : F270 18 = .long x_word := (get_ne eF270 (by decide) n295)
        refine call_Vv (wr := [(h_read, .inl (cI, 135, .inl g187)), (h_stack, .inl (cI, 45, .inl g266))]) (As := []) (rest := []) hx hb hml hown hw (m_X10_next l D cI cJ cB cP cM cZ h0 h_tape F270 x_size x_p x_limit x_token x_at x_number x_word f_tape _ n274 n278 i_x_size n282 i_x_p n286 i_x_limit n288 i_x_token n292 n294 n296 (by omega)) wV_X10_208_X10_next dX10_behind__87 hK hP hD hS hA [3, 0] [1, 2] rfl rfl (by decide) (by decide) (by decide) 0 10 rfl rfl GG.fb hG.at hl.1 rfl (Nat.le_of_ble_eq_true rfl) ⟨(Nat.le_of_ble_eq_true rfl), (Nat.le_of_ble_eq_true rfl)⟩ ⟨(Nat.le_of_ble_eq_true rfl), (Nat.le_of_ble_eq_true rfl)⟩ (fun u H locs hp hP hD hS => ?_)
        obtain ⟨F298, y299, y300, y301, y302, y303, y304, t305, t306, t307, t308, t309, t310, t311, t312, t313, t314, t315, t316, t317, t318, t319, t320, rfl⟩ := hp
        have hP : va_P D vwCl [(h_read, .inl (cI, 135, .inl g187)), (h_stack, .inl (cI, 45, .inl g266)), (h0, .inr (10, vL 67 F298)), (h_tape, .inl (cB, 940, .inl f_tape))] H := hP
        have hD : va_D A [(h_read, .inl (cI, 135, .inl g187)), (h_stack, .inl (cI, 45, .inl g266)), (h0, .inr (10, vL 67 F298)), (h_tape, .inl (cB, 940, .inl f_tape))] := hD
        refine W.widen (k := 0) (n := 0) (Nat.le_of_ble_eq_true rfl) (Nat.le_of_ble_eq_true rfl) ?_
        refine lv_iconst (v := 1) hx hb dX10_behind__90 (by decide) ?_
        exact ret_i (v := 1) hx hb hr hlocks hS (hP.sub (ws' := [(h0, .inr (10, vL 67 F298)), (h_tape, .inl (cB, 940, .inl f_tape)), (h_read, .inl (cI, 135, .inl g187)), (h_stack, .inl (cI, 45, .inl g266))]) [2, 3, 0, 1] rfl) (hD.sub (ws' := [(h0, .inr (10, vL 67 F298)), (h_tape, .inl (cB, 940, .inl f_tape)), (h_read, .inl (cI, 135, .inl g187)), (h_stack, .inl (cI, 45, .inl g266))]) [2, 3, 0, 1] (by decide) rfl) dX10_behind__91 rfl (Nat.le_of_ble_eq_true rfl) (Nat.le_of_ble_eq_true rfl) (Or.inl ⟨F298, y299, y300, y301, y302, y303, y304, y185, v267, y5, 0, g187, g266, (SAME.tr (SAME.up eF270 (SAME.up eF269 (SAME.tr (SAME.tr SAME.rf t7 (by decide)) t188 (by decide)) (by decide)) (by decide)) t305 (by decide)), t306, t307, t308, t309, t310, t311, t312, t313, t314, t315, (SAME.at t305 (by decide) (get_ne eF270 (by decide) (get_ne eF269 (by decide) t189))), t190, (SAME.at t305 (by decide) (get_ne eF270 (by decide) (get_eq eF269))), (show 0 ≤ v267.toInt ∧ v267.toInt ≤ 45 from ⟨by omega, by omega⟩), (SAME.at t305 (by decide) (get_ne eF270 (by decide) (get_ne eF269 (by decide) (SAME.at t188 (by decide) t12)))), t13, (SAME.at t305 (by decide) (get_eq eF270)), (show 0 ≤ (0 : Int32).toInt ∧ (0 : Int32).toInt ≤ 1 by decide), (by have zl0 : (0 : Int32).toInt = 0 := (by decide); have zl1 : (1 : Int32).toInt = 1 := (by decide); omega), (fun _ => SMI.w (SMI.pushb t193 eg266 (by omega) (by decide) (by omega)) (by decide)), (fun _ => t319), (fun ms9 r9 g9 => gq_jn (sjM (by omega) (by omega)) (atM t318 (by omega)) ((SKB.pj t195.1 t195.2.2 eg266 (by omega) (by first | omega | decide) (by omega) rfl).2.trans (nj_d t15 t16 t195).symm) rfl (by first | omega | decide) g9), (SKB.pj t195.1 t195.2.2 eg266 (by omega) (by first | omega | decide) (by omega) rfl).1, (by have zl0 : (0 : Int32).toInt = 0 := (by decide); omega), (by have zl0 : (0 : Int32).toInt = 0 := (by decide); omega), rfl, rfl⟩)
  · have dc26 : r22.toInt = 0 := eq_i (a := r22.toInt) (b := 0) rfl rfl c26
    have k322 : 0 ≤ r22.toInt ∧ r22.toInt ≤ 0 := ⟨t23.1, Int.le_trans (Int.le_of_eq dc26) (Int.le_refl _)⟩
    refine lv_aload_n hx hb dX10_behind__14 rfl (lv_at hl 0 rfl) ?_
    refine lv_ldc2 hx hb hown (hw _ q_1248) dX10_behind__15 ?_
    refine call_Vi (wr := [(h_tape, .inl (cB, 940, .inl f_tape)), (h_read, .inl (cI, 135, .inl g6)), (h_stack, .inl (cI, 45, .inl f_stack))]) (As := [.long 28530]) (rest := []) hx hb hml hown hw (m_X10_isWord l D cI cJ cB cP cM cZ h0 F2 x_token x_number x_word 28530 _ n19 i_x_token n20 n21 (by omega)) wV_X10_225_X10_isWord dX10_behind__18 hK hP hD hS hA [3] [0, 1, 2] rfl rfl (by decide) (by decide) (by decide) 0 10 rfl rfl GG.fb hG.at hl.1 rfl (Nat.le_of_ble_eq_true rfl) ⟨(Nat.le_of_ble_eq_true rfl), (Nat.le_of_ble_eq_true rfl)⟩ ⟨(Nat.le_of_ble_eq_true rfl), (Nat.le_of_ble_eq_true rfl)⟩ (fun r323 u H locs hp hP hD hS => ?_)
    have zl28530 : (28530 : Int32).toInt = 28530 := by decide
    obtain ⟨t324, t325, rfl⟩ := hp
    have hP : va_P D vwCl [(h_tape, .inl (cB, 940, .inl f_tape)), (h_read, .inl (cI, 135, .inl g6)), (h_stack, .inl (cI, 45, .inl f_stack)), (h0, .inr (10, vL 67 F2))] H := hP
    have hD : va_D A [(h_tape, .inl (cB, 940, .inl f_tape)), (h_read, .inl (cI, 135, .inl g6)), (h_stack, .inl (cI, 45, .inl f_stack)), (h0, .inr (10, vL 67 F2))] := hD
    refine W.widen (k := 0) (n := 0) (Nat.le_of_ble_eq_true rfl) (Nat.le_of_ble_eq_true rfl) ?_
    replace t325 := ISWF.mk (isw (k := 14) (a := 423) z_2 t325 (by decide) (by decide +kernel) (by decide +kernel) (by decide +kernel) (by decide +kernel))
    refine lv_if_eq (tgt := 92) hx hb dX10_behind__21 (by decide) (fun c327 => ?_) (fun c327 => ?_)
    · have dc327 : r323.toInt = 0 := eq_i (a := r323.toInt) (b := 0) rfl rfl c327
      have k328 : 0 ≤ r323.toInt ∧ r323.toInt ≤ 0 := ⟨t324.1, Int.le_trans (Int.le_of_eq dc327) (Int.le_refl _)⟩
      refine lv_aload_n hx hb dX10_behind__92 rfl (lv_at hl 0 rfl) ?_
      refine lv_bipush (v := 22) hx hb dX10_behind__93 (by decide) ?_
      have n329 : F2 8 = .ref h_read := (SAME.at t7 (by decide) e_read)
      have n330 : F2 57 = .ref h_stack := (SAME.at t7 (by decide) e_stack)
      have n331 : F2 59 = .int x_ones := (SAME.at t7 (by decide) e_ones)
      have n332 : F2 62 = .int x_isWhole := (SAME.at t7 (by decide) e_isWhole)
      refine call_Vv (wr := [(h_tape, .inl (cB, 940, .inl f_tape))]) (As := [.int 22]) (rest := []) hx hb hml hown hw (m_X10_joins l D cI cJ cB cP cM cZ h0 h_read h_stack F2 y3 x_ones y4 y5 x_isWhole g6 f_stack 22 _ n329 n330 t8 t9 n331 i_x_ones t10 t11 t12 t13 n332 i_x_isWhole (by omega) (SMI.w t14 (by omega)) t15.1 t16 (by omega)) wV_X10_466_X10_joins dX10_behind__95 hK hP hD hS hA [3, 1, 2] [0] rfl rfl (by decide) (by decide) (by decide) 0 10 rfl rfl GG.fb hG.at hl.1 rfl (Nat.le_of_ble_eq_true rfl) ⟨(Nat.le_of_ble_eq_true rfl), (Nat.le_of_ble_eq_true rfl)⟩ ⟨(Nat.le_of_ble_eq_true rfl), (Nat.le_of_ble_eq_true rfl)⟩ (fun u H locs hp hP hD hS => ?_)
      have zl22 : (22 : Int32).toInt = 22 := by decide
      obtain ⟨F334, y335, y336, g337, t338, t339, t340, t341, t342, t343, t344, t345, t346, t347, rfl⟩ := hp
      have hP : va_P D vwCl [(h_tape, .inl (cB, 940, .inl f_tape)), (h0, .inr (10, vL 67 F334)), (h_read, .inl (cI, 135, .inl g337)), (h_stack, .inl (cI, 45, .inl f_stack))] H := hP
      have hD : va_D A [(h_tape, .inl (cB, 940, .inl f_tape)), (h0, .inr (10, vL 67 F334)), (h_read, .inl (cI, 135, .inl g337)), (h_stack, .inl (cI, 45, .inl f_stack))] := hD
      refine W.widen (k := 0) (n := 0) (Nat.le_of_ble_eq_true rfl) (Nat.le_of_ble_eq_true rfl) ?_
      refine lv_aload_n hx hb dX10_behind__98 rfl (lv_at hl 0 rfl) ?_
      refine lv_bipush (v := 41) hx hb dX10_behind__99 (by decide) ?_
      have n349 : F334 11 = .int x_token := (SAME.at t338 (by decide) n19)
      have n350 : F334 14 = .int x_number := (SAME.at t338 (by decide) n20)
      refine call_Vi (wr := [(h_tape, .inl (cB, 940, .inl f_tape)), (h_read, .inl (cI, 135, .inl g337)), (h_stack, .inl (cI, 45, .inl f_stack))]) (As := [.int 41]) (rest := []) hx hb hml hown hw (m_X10_isSign l D cI cJ cB cP cM cZ h0 F334 x_token x_number 41 _ n349 i_x_token n350 (by omega)) wV_X10_202_X10_isSign dX10_behind__101 hK hP hD hS hA [1] [0, 2, 3] rfl rfl (by decide) (by decide) (by decide) 0 10 rfl rfl GG.fb hG.at hl.1 rfl (Nat.le_of_ble_eq_true rfl) ⟨(Nat.le_of_ble_eq_true rfl), (Nat.le_of_ble_eq_true rfl)⟩ ⟨(Nat.le_of_ble_eq_true rfl), (Nat.le_of_ble_eq_true rfl)⟩ (fun r351 u H locs hp hP hD hS => ?_)
      have zl41 : (41 : Int32).toInt = 41 := by decide
      obtain ⟨t352, t353, rfl⟩ := hp
      have hP : va_P D vwCl [(h_tape, .inl (cB, 940, .inl f_tape)), (h_read, .inl (cI, 135, .inl g337)), (h_stack, .inl (cI, 45, .inl f_stack)), (h0, .inr (10, vL 67 F334))] H := hP
      have hD : va_D A [(h_tape, .inl (cB, 940, .inl f_tape)), (h_read, .inl (cI, 135, .inl g337)), (h_stack, .inl (cI, 45, .inl f_stack)), (h0, .inr (10, vL 67 F334))] := hD
      refine W.widen (k := 0) (n := 0) (Nat.le_of_ble_eq_true rfl) (Nat.le_of_ble_eq_true rfl) ?_
      replace t353 := ISGF.mk t353
      refine lv_if_eq (tgt := 114) hx hb dX10_behind__104 (by decide) (fun c355 => ?_) (fun c355 => ?_)
      · have dc355 : r351.toInt = 0 := eq_i (a := r351.toInt) (b := 0) rfl rfl c355
        have k356 : 0 ≤ r351.toInt ∧ r351.toInt ≤ 0 := ⟨t352.1, Int.le_trans (Int.le_of_eq dc355) (Int.le_refl _)⟩
        refine lv_aload_n hx hb dX10_behind__114 rfl (lv_at hl 0 rfl) ?_
        refine lv_iconst (v := 1) hx hb dX10_behind__115 (by decide) ?_
        have n357 : F2 12 = .int x_at := (SAME.at t7 (by decide) e_at)
        have n358 : F334 12 = .int x_at := (SAME.at t338 (by decide) n357)
        refine call_Vi (wr := [(h_tape, .inl (cB, 940, .inl f_tape)), (h_read, .inl (cI, 135, .inl g337)), (h_stack, .inl (cI, 45, .inl f_stack))]) (As := [.int 1]) (rest := []) hx hb hml hown hw (m_X10_bad l D cI cJ cB cP cM cZ h0 F334 x_at 1 _ n358) wV_X10_205_X10_bad dX10_behind__116 hK hP hD hS hA [3] [0, 1, 2] rfl rfl (by decide) (by decide) (by decide) 0 10 rfl rfl GG.fb hG.at hl.1 rfl (Nat.le_of_ble_eq_true rfl) ⟨(Nat.le_of_ble_eq_true rfl), (Nat.le_of_ble_eq_true rfl)⟩ ⟨(Nat.le_of_ble_eq_true rfl), (Nat.le_of_ble_eq_true rfl)⟩ (fun r359 u H locs hp hP hD hS => ?_)
        have zl1 : (1 : Int32).toInt = 1 := by decide
        obtain ⟨F360, t361, t362, t363, rfl, rfl⟩ := hp
        have hP : va_P D vwCl [(h_tape, .inl (cB, 940, .inl f_tape)), (h_read, .inl (cI, 135, .inl g337)), (h_stack, .inl (cI, 45, .inl f_stack)), (h0, .inr (10, vL 67 F360))] H := hP
        have hD : va_D A [(h_tape, .inl (cB, 940, .inl f_tape)), (h_read, .inl (cI, 135, .inl g337)), (h_stack, .inl (cI, 45, .inl f_stack)), (h0, .inr (10, vL 67 F360))] := hD
        refine W.widen (k := 0) (n := 0) (Nat.le_of_ble_eq_true rfl) (Nat.le_of_ble_eq_true rfl) ?_
        exact ret_i (v := 0) hx hb hr hlocks hS (hP.sub (ws' := [(h0, .inr (10, vL 67 F360)), (h_tape, .inl (cB, 940, .inl f_tape)), (h_read, .inl (cI, 135, .inl g337)), (h_stack, .inl (cI, 45, .inl f_stack))]) [3, 0, 1, 2] rfl) (hD.sub (ws' := [(h0, .inr (10, vL 67 F360)), (h_tape, .inl (cB, 940, .inl f_tape)), (h_read, .inl (cI, 135, .inl g337)), (h_stack, .inl (cI, 45, .inl f_stack))]) [3, 0, 1, 2] (by decide) rfl) dX10_behind__119 rfl (Nat.le_of_ble_eq_true rfl) (Nat.le_of_ble_eq_true rfl) (Or.inr ⟨F360, 1, x_at, y335, y336, y5, g337, (SAME.tr (SAME.tr (SAME.tr SAME.rf t7 (by decide)) t338 (by decide)) t361 (by decide)), t362, (show 1 ≤ (1 : Int32).toInt ∧ (1 : Int32).toInt ≤ 1 by decide), t363, (SAME.at t361 (by decide) t339), t340, (SAME.at t361 (by decide) t341), t342, (SAME.at t361 (by decide) (SAME.at t338 (by decide) t12)), t13, (by have zl0 : (0 : Int32).toInt = 0 := (by decide); have zl1 : (1 : Int32).toInt = 1 := (by decide); omega), (fun q => absurd q (by decide)), (fun q => absurd q (by decide)), (fun ms9 => gq_no (show x_token.toInt ≠ 0 by omega) (sjM_n (fun q => by have w1 := ISWF.ne t24 (by omega) q; have w2 := ISWF.ne t325 (by omega) q; omega)) (tkM_n41 (fun q => ISGF.f t353 (by omega) ⟨q.1, q.2.1⟩)) rfl), (by have zl1 : (1 : Int32).toInt = 1 := (by decide); omega), (by have zl1 : (1 : Int32).toInt = 1 := (by decide); omega), rfl, rfl⟩)
      · have dc355 : r351.toInt ≠ 0 := ne_i (a := r351.toInt) (b := 0) rfl rfl c355
        have k365 : 1 ≤ r351.toInt ∧ r351.toInt ≤ 1 := ⟨ne_lo dc355 t352.1 ⟨Int.le_refl _, Int.le_refl _⟩ (by decide), t352.2⟩
        refine lv_aload_n hx hb dX10_behind__107 rfl (lv_at hl 0 rfl) ?_
        refine get_f (D := D) (ci := 10) (v := .int y336) (C := RX10) (T := TX10) (N := 67) hx hb hw inAX10 hown hK hP 3 rfl rfl 60 (by decide) (hw _ q_1321) (fun _ h9 => h9) t341 dX10_behind__108 ?_
        refine lv_if_ne (tgt := 120) hx hb dX10_behind__111 (by decide) (fun c366 => ?_) (fun c366 => ?_)
        · have dc366 : y336.toInt ≠ 0 := ne_i (a := y336.toInt) (b := 0) rfl rfl c366
          have k367 : 1 ≤ y336.toInt ∧ y336.toInt ≤ 45 := ⟨ne_lo dc366 t342.1 ⟨Int.le_refl _, Int.le_refl _⟩ (by decide), t342.2⟩
          have h368 := ISGF.t t353 (by omega)
          have h369 := SKB.dp t345.1
          refine lv_aload_n hx hb dX10_behind__120 rfl (lv_at hl 0 rfl) ?_
          refine lv_dup hx hb dX10_behind__121 rfl ?_
          refine get_f (D := D) (ci := 10) (v := .int y336) (C := RX10) (T := TX10) (N := 67) hx hb hw inAX10 hown hK hP 3 rfl rfl 60 (by decide) (hw _ q_1321) (fun _ h9 => h9) t341 dX10_behind__122 ?_
          refine lv_iconst (v := 1) hx hb dX10_behind__125 (by decide) ?_
          refine lv_isub hx hb dX10_behind__126 ?_
          refine lv_topi (fun v370 ev370 => ?_)
          have bv370 : v370.toInt = y336.toInt - 1 := by rw [ev370]; exact sub_k rfl rfl k367 ⟨Int.le_refl _, Int.le_refl _⟩ (by decide)
          have k371 : 0 ≤ v370.toInt ∧ v370.toInt ≤ 44 := sub_r bv370 k367 ⟨Int.le_refl _, Int.le_refl _⟩ (by decide)
          refine put_f (D := D) (ci := 10) (v := .int v370) (ty := .int) (C := RX10) (T := TX10) (N := 67) hx hb hw inAX10 tyX10 tyX10_ok nmX10 hown hK hP hD hS 3 rfl rfl 60 (by decide) (hw _ q_1321) (fun _ h9 => h9) rfl (by decide +kernel) rfl rfl dX10_behind__127 (fun H locs F372 eF372 hP hD hS => ?_)
          have hP : va_P D vwCl [(h_tape, .inl (cB, 940, .inl f_tape)), (h_read, .inl (cI, 135, .inl g337)), (h_stack, .inl (cI, 45, .inl f_stack)), (h0, .inr (10, vL 67 F372))] H := hP
          have hD : va_D A [(h_tape, .inl (cB, 940, .inl f_tape)), (h_read, .inl (cI, 135, .inl g337)), (h_stack, .inl (cI, 45, .inl f_stack)), (h0, .inr (10, vL 67 F372))] := hD
          refine lv_aload_n hx hb dX10_behind__130 rfl (lv_at hl 0 rfl) ?_
          refine lv_dup hx hb dX10_behind__131 rfl ?_
          have n373 : F334 61 = .int y5 := (SAME.at t338 (by decide) t12)
          have n374 : F372 61 = .int y5 := (get_ne eF372 (by decide) n373)
          refine get_f (D := D) (ci := 10) (v := .int y5) (C := RX10) (T := TX10) (N := 67) hx hb hw inAX10 hown hK hP 3 rfl rfl 61 (by decide) (hw _ q_1322) (fun _ h9 => h9) n374 dX10_behind__132 ?_
          refine lv_iconst (v := 1) hx hb dX10_behind__135 (by decide) ?_
          refine lv_isub hx hb dX10_behind__136 ?_
          refine lv_topi (fun v375 ev375 => ?_)
          have bv375 : v375.toInt = y5.toInt - 1 := by rw [ev375]; exact sub_k rfl rfl t13 ⟨Int.le_refl _, Int.le_refl _⟩ (by decide)
          have k376 : (-1) ≤ v375.toInt ∧ v375.toInt ≤ 45 := sub_r bv375 t13 ⟨Int.le_refl _, Int.le_refl _⟩ (by decide)
          refine put_f (D := D) (ci := 10) (v := .int v375) (ty := .int) (C := RX10) (T := TX10) (N := 67) hx hb hw inAX10 tyX10 tyX10_ok nmX10 hown hK hP hD hS 3 rfl rfl 61 (by decide) (hw _ q_1322) (fun _ h9 => h9) rfl (by decide +kernel) rfl rfl dX10_behind__137 (fun H locs F377 eF377 hP hD hS => ?_)
          have hP : va_P D vwCl [(h_tape, .inl (cB, 940, .inl f_tape)), (h_read, .inl (cI, 135, .inl g337)), (h_stack, .inl (cI, 45, .inl f_stack)), (h0, .inr (10, vL 67 F377))] H := hP
          have hD : va_D A [(h_tape, .inl (cB, 940, .inl f_tape)), (h_read, .inl (cI, 135, .inl g337)), (h_stack, .inl (cI, 45, .inl f_stack)), (h0, .inr (10, vL 67 F377))] := hD
          refine lv_aload_n hx hb dX10_behind__140 rfl (lv_at hl 0 rfl) ?_
          have n378 : F2 1 = .ref h_tape := (SAME.at t7 (by decide) e_tape)
          have n379 : F334 1 = .ref h_tape := (SAME.at t338 (by decide) n378)
          have n380 : F372 1 = .ref h_tape := (get_ne eF372 (by decide) n379)
          have n381 : F377 1 = .ref h_tape := (get_ne eF377 (by decide) n380)
          have n382 : F2 3 = .int x_size := (SAME.at t7 (by decide) e_size)
          have n383 : F334 3 = .int x_size := (SAME.at t338 (by decide) n382)
          have n384 : F372 3 = .int x_size := (get_ne eF372 (by decide) n383)
          have n385 : F377 3 = .int x_size := (get_ne eF377 (by decide) n384)
          have n386 : F2 4 = .int x_p := (SAME.at t7 (by decide) e_p)
          have n387 : F334 4 = .int x_p := (SAME.at t338 (by decide) n386)
          have n388 : F372 4 = .int x_p := (get_ne eF372 (by decide) n387)
          have n389 : F377 4 = .int x_p := (get_ne eF377 (by decide) n388)
          have n390 : F2 5 = .int x_limit := (SAME.at t7 (by decide) e_limit)
          have n391 : F334 5 = .int x_limit := (SAME.at t338 (by decide) n390)
          have n392 : F372 5 = .int x_limit := (get_ne eF372 (by decide) n391)
          have n393 : F377 5 = .int x_limit := (get_ne eF377 (by decide) n392)
          have n394 : F372 11 = .int x_token := (get_ne eF372 (by decide) n349)
          have n395 : F377 11 = .int x_token := (get_ne eF377 (by decide) n394)
          have n396 : F2 12 = .int x_at := (SAME.at t7 (by decide) e_at)
          have n397 : F334 12 = .int x_at := (SAME.at t338 (by decide) n396)
          have n398 : F372 12 = .int x_at := (get_ne eF372 (by decide) n397)
          have n399 : F377 12 = .int x_at := (get_ne eF377 (by decide) n398)
          have n400 : F372 14 = .int x_number := (get_ne eF372 (by decide) n350)
          have n401 : F377 14 = .int x_number := (get_ne eF377 (by decide) n400)
          have n402 : F334 18 = .long x_word := (SAME.at t338 (by decide) n21)
          have n403 : F372 18 = .long x_word := (get_ne eF372 (by decide) n402)
          have n404 : F377 18 = .long x_word := (get_ne eF377 (by decide) n403)
          refine call_Vv (wr := [(h_read, .inl (cI, 135, .inl g337)), (h_stack, .inl (cI, 45, .inl f_stack))]) (As := []) (rest := []) hx hb hml hown hw (m_X10_next l D cI cJ cB cP cM cZ h0 h_tape F377 x_size x_p x_limit x_token x_at x_number x_word f_tape _ n381 n385 i_x_size n389 i_x_p n393 i_x_limit n395 i_x_token n399 n401 n404 (by omega)) wV_X10_208_X10_next dX10_behind__141 hK hP hD hS hA [3, 0] [1, 2] rfl rfl (by decide) (by decide) (by decide) 0 10 rfl rfl GG.fb hG.at hl.1 rfl (Nat.le_of_ble_eq_true rfl) ⟨(Nat.le_of_ble_eq_true rfl), (Nat.le_of_ble_eq_true rfl)⟩ ⟨(Nat.le_of_ble_eq_true rfl), (Nat.le_of_ble_eq_true rfl)⟩ (fun u H locs hp hP hD hS => ?_)
          obtain ⟨F406, y407, y408, y409, y410, y411, y412, t413, t414, t415, t416, t417, t418, t419, t420, t421, t422, t423, t424, t425, t426, t427, t428, rfl⟩ := hp
          have hP : va_P D vwCl [(h_read, .inl (cI, 135, .inl g337)), (h_stack, .inl (cI, 45, .inl f_stack)), (h0, .inr (10, vL 67 F406)), (h_tape, .inl (cB, 940, .inl f_tape))] H := hP
          have hD : va_D A [(h_read, .inl (cI, 135, .inl g337)), (h_stack, .inl (cI, 45, .inl f_stack)), (h0, .inr (10, vL 67 F406)), (h_tape, .inl (cB, 940, .inl f_tape))] := hD
          refine W.widen (k := 0) (n := 0) (Nat.le_of_ble_eq_true rfl) (Nat.le_of_ble_eq_true rfl) ?_
          refine lv_iconst (v := 1) hx hb dX10_behind__144 (by decide) ?_
          exact ret_i (v := 1) hx hb hr hlocks hS (hP.sub (ws' := [(h0, .inr (10, vL 67 F406)), (h_tape, .inl (cB, 940, .inl f_tape)), (h_read, .inl (cI, 135, .inl g337)), (h_stack, .inl (cI, 45, .inl f_stack))]) [2, 3, 0, 1] rfl) (hD.sub (ws' := [(h0, .inr (10, vL 67 F406)), (h_tape, .inl (cB, 940, .inl f_tape)), (h_read, .inl (cI, 135, .inl g337)), (h_stack, .inl (cI, 45, .inl f_stack))]) [2, 3, 0, 1] (by decide) rfl) dX10_behind__145 rfl (Nat.le_of_ble_eq_true rfl) (Nat.le_of_ble_eq_true rfl) (Or.inl ⟨F406, y407, y408, y409, y410, y411, y412, y335, v370, v375, x_isWhole, g337, f_stack, (SAME.tr (SAME.up eF377 (SAME.up eF372 (SAME.tr (SAME.tr SAME.rf t7 (by decide)) t338 (by decide)) (by decide)) (by decide)) t413 (by decide)), t414, t415, t416, t417, t418, t419, t420, t421, t422, t423, (SAME.at t413 (by decide) (get_ne eF377 (by decide) (get_ne eF372 (by decide) t339))), t340, (SAME.at t413 (by decide) (get_ne eF377 (by decide) (get_eq eF372))), (ir_wk k371 (by decide) (by decide)), (SAME.at t413 (by decide) (get_eq eF377)), (show 0 ≤ v375.toInt ∧ v375.toInt ≤ 46 from ⟨by omega, by omega⟩), (SAME.at t413 (by decide) (get_ne eF377 (by decide) (get_ne eF372 (by decide) (SAME.at t338 (by decide) n332)))), i_x_isWhole, (by have zl1 : (1 : Int32).toInt = 1 := (by decide); omega), (fun _ => SMI.w (SMI.pop t343 t344 (by decide) (by omega) (by omega)) (by omega)), (fun _ => t427), (fun ms9 r9 g9 => gq_cl (tkM_sgn (by omega)).1 (by rw [(tkM_sgn (by omega)).2.1]; omega) (atM3 t426 (by omega)) ((nj_d t15 t16 t345).trans (SKB.br t345.1 t345.2.2 (t346 rfl) (by omega) (by omega) (by omega)).2) rfl (by first | omega | decide) g9), (SKB.br t345.1 t345.2.2 (t346 rfl) (by omega) (by omega) (by omega)).1, (by omega), (by omega), rfl, rfl⟩)
        · have dc366 : y336.toInt = 0 := eq_i (a := y336.toInt) (b := 0) rfl rfl c366
          have k430 : 0 ≤ y336.toInt ∧ y336.toInt ≤ 0 := ⟨t342.1, Int.le_trans (Int.le_of_eq dc366) (Int.le_refl _)⟩
          refine lv_aload_n hx hb dX10_behind__114 rfl (lv_at hl 0 rfl) ?_
          refine lv_iconst (v := 1) hx hb dX10_behind__115 (by decide) ?_
          have n431 : F2 12 = .int x_at := (SAME.at t7 (by decide) e_at)
          have n432 : F334 12 = .int x_at := (SAME.at t338 (by decide) n431)
          refine call_Vi (wr := [(h_tape, .inl (cB, 940, .inl f_tape)), (h_read, .inl (cI, 135, .inl g337)), (h_stack, .inl (cI, 45, .inl f_stack))]) (As := [.int 1]) (rest := []) hx hb hml hown hw (m_X10_bad l D cI cJ cB cP cM cZ h0 F334 x_at 1 _ n432) wV_X10_205_X10_bad dX10_behind__116 hK hP hD hS hA [3] [0, 1, 2] rfl rfl (by decide) (by decide) (by decide) 0 10 rfl rfl GG.fb hG.at hl.1 rfl (Nat.le_of_ble_eq_true rfl) ⟨(Nat.le_of_ble_eq_true rfl), (Nat.le_of_ble_eq_true rfl)⟩ ⟨(Nat.le_of_ble_eq_true rfl), (Nat.le_of_ble_eq_true rfl)⟩ (fun r433 u H locs hp hP hD hS => ?_)
          have zl1 : (1 : Int32).toInt = 1 := by decide
          obtain ⟨F434, t435, t436, t437, rfl, rfl⟩ := hp
          have hP : va_P D vwCl [(h_tape, .inl (cB, 940, .inl f_tape)), (h_read, .inl (cI, 135, .inl g337)), (h_stack, .inl (cI, 45, .inl f_stack)), (h0, .inr (10, vL 67 F434))] H := hP
          have hD : va_D A [(h_tape, .inl (cB, 940, .inl f_tape)), (h_read, .inl (cI, 135, .inl g337)), (h_stack, .inl (cI, 45, .inl f_stack)), (h0, .inr (10, vL 67 F434))] := hD
          refine W.widen (k := 0) (n := 0) (Nat.le_of_ble_eq_true rfl) (Nat.le_of_ble_eq_true rfl) ?_
          exact ret_i (v := 0) hx hb hr hlocks hS (hP.sub (ws' := [(h0, .inr (10, vL 67 F434)), (h_tape, .inl (cB, 940, .inl f_tape)), (h_read, .inl (cI, 135, .inl g337)), (h_stack, .inl (cI, 45, .inl f_stack))]) [3, 0, 1, 2] rfl) (hD.sub (ws' := [(h0, .inr (10, vL 67 F434)), (h_tape, .inl (cB, 940, .inl f_tape)), (h_read, .inl (cI, 135, .inl g337)), (h_stack, .inl (cI, 45, .inl f_stack))]) [3, 0, 1, 2] (by decide) rfl) dX10_behind__119 rfl (Nat.le_of_ble_eq_true rfl) (Nat.le_of_ble_eq_true rfl) (Or.inr ⟨F434, 1, x_at, y335, y336, y5, g337, (SAME.tr (SAME.tr (SAME.tr SAME.rf t7 (by decide)) t338 (by decide)) t435 (by decide)), t436, (show 1 ≤ (1 : Int32).toInt ∧ (1 : Int32).toInt ≤ 1 by decide), t437, (SAME.at t435 (by decide) t339), t340, (SAME.at t435 (by decide) t341), (ir_wk k430 (by decide) (by decide)), (SAME.at t435 (by decide) (SAME.at t338 (by decide) t12)), t13, (by have zl0 : (0 : Int32).toInt = 0 := (by decide); have zl1 : (1 : Int32).toInt = 1 := (by decide); omega), (fun q => absurd q (by decide)), (fun q => absurd q (by decide)), (fun ms9 => gq_no (show x_token.toInt ≠ 0 by omega) (sjM_n (fun q => by have w1 := ISWF.ne t24 (by omega) q; have w2 := ISWF.ne t325 (by omega) q; omega)) (fun q => q.2.2 (nj_0 t15 t16 t345 (by omega))) rfl), (by have zl1 : (1 : Int32).toInt = 1 := (by decide); omega), (by have zl1 : (1 : Int32).toInt = 1 := (by decide); omega), rfl, rfl⟩)
    · have dc327 : r323.toInt ≠ 0 := ne_i (a := r323.toInt) (b := 0) rfl rfl c327
      have k439 : 1 ≤ r323.toInt ∧ r323.toInt ≤ 1 := ⟨ne_lo dc327 t324.1 ⟨Int.le_refl _, Int.le_refl _⟩ (by decide), t324.2⟩
      have h440 := ISWF.t t325 (by omega)
      refine lv_aload_n hx hb dX10_behind__24 rfl (lv_at hl 0 rfl) ?_
      refine lv_aload_n hx hb dX10_behind__25 rfl (lv_at hl 0 rfl) ?_
      refine lv_ldc2 hx hb hown (hw _ q_1249) dX10_behind__26 ?_
      refine call_Vi (wr := [(h_tape, .inl (cB, 940, .inl f_tape)), (h_read, .inl (cI, 135, .inl g6)), (h_stack, .inl (cI, 45, .inl f_stack))]) (As := [.long 6385252]) (rest := [.ref h0]) hx hb hml hown hw (m_X10_isWord l D cI cJ cB cP cM cZ h0 F2 x_token x_number x_word 6385252 _ n19 i_x_token n20 n21 (by omega)) wV_X10_225_X10_isWord dX10_behind__29 hK hP hD hS hA [3] [0, 1, 2] rfl rfl (by decide) (by decide) (by decide) 0 10 rfl rfl GG.fb hG.at hl.1 rfl (Nat.le_of_ble_eq_true rfl) ⟨(Nat.le_of_ble_eq_true rfl), (Nat.le_of_ble_eq_true rfl)⟩ ⟨(Nat.le_of_ble_eq_true rfl), (Nat.le_of_ble_eq_true rfl)⟩ (fun r441 u H locs hp hP hD hS => ?_)
      obtain ⟨t442, t443, rfl⟩ := hp
      have hP : va_P D vwCl [(h_tape, .inl (cB, 940, .inl f_tape)), (h_read, .inl (cI, 135, .inl g6)), (h_stack, .inl (cI, 45, .inl f_stack)), (h0, .inr (10, vL 67 F2))] H := hP
      have hD : va_D A [(h_tape, .inl (cB, 940, .inl f_tape)), (h_read, .inl (cI, 135, .inl g6)), (h_stack, .inl (cI, 45, .inl f_stack)), (h0, .inr (10, vL 67 F2))] := hD
      refine W.widen (k := 0) (n := 0) (Nat.le_of_ble_eq_true rfl) (Nat.le_of_ble_eq_true rfl) ?_
      replace t443 := ISWF.mk (isw (k := 15) (a := 1111) z_2 t443 (by decide) (by decide +kernel) (by decide +kernel) (by decide +kernel) (by decide +kernel))
      refine lv_if_eq (tgt := 40) hx hb dX10_behind__32 (by decide) (fun c445 => ?_) (fun c445 => ?_)
      · have dc445 : r441.toInt = 0 := eq_i (a := r441.toInt) (b := 0) rfl rfl c445
        have k446 : 0 ≤ r441.toInt ∧ r441.toInt ≤ 0 := ⟨t442.1, Int.le_trans (Int.le_of_eq dc445) (Int.le_refl _)⟩
        refine lv_bipush (v := 22) hx hb dX10_behind__40 (by decide) ?_
        have n447 : F2 8 = .ref h_read := (SAME.at t7 (by decide) e_read)
        have n448 : F2 57 = .ref h_stack := (SAME.at t7 (by decide) e_stack)
        have n449 : F2 59 = .int x_ones := (SAME.at t7 (by decide) e_ones)
        have n450 : F2 62 = .int x_isWhole := (SAME.at t7 (by decide) e_isWhole)
        refine call_Vv (wr := [(h_tape, .inl (cB, 940, .inl f_tape))]) (As := [.int 22]) (rest := []) hx hb hml hown hw (m_X10_joins l D cI cJ cB cP cM cZ h0 h_read h_stack F2 y3 x_ones y4 y5 x_isWhole g6 f_stack 22 _ n447 n448 t8 t9 n449 i_x_ones t10 t11 t12 t13 n450 i_x_isWhole (by omega) (SMI.w t14 (by omega)) t15.1 t16 (by omega)) wV_X10_466_X10_joins dX10_behind__42 hK hP hD hS hA [3, 1, 2] [0] rfl rfl (by decide) (by decide) (by decide) 0 10 rfl rfl GG.fb hG.at hl.1 rfl (Nat.le_of_ble_eq_true rfl) ⟨(Nat.le_of_ble_eq_true rfl), (Nat.le_of_ble_eq_true rfl)⟩ ⟨(Nat.le_of_ble_eq_true rfl), (Nat.le_of_ble_eq_true rfl)⟩ (fun u H locs hp hP hD hS => ?_)
        have zl22 : (22 : Int32).toInt = 22 := by decide
        obtain ⟨F452, y453, y454, g455, t456, t457, t458, t459, t460, t461, t462, t463, t464, t465, rfl⟩ := hp
        have hP : va_P D vwCl [(h_tape, .inl (cB, 940, .inl f_tape)), (h0, .inr (10, vL 67 F452)), (h_read, .inl (cI, 135, .inl g455)), (h_stack, .inl (cI, 45, .inl f_stack))] H := hP
        have hD : va_D A [(h_tape, .inl (cB, 940, .inl f_tape)), (h0, .inr (10, vL 67 F452)), (h_read, .inl (cI, 135, .inl g455)), (h_stack, .inl (cI, 45, .inl f_stack))] := hD
        refine W.widen (k := 0) (n := 0) (Nat.le_of_ble_eq_true rfl) (Nat.le_of_ble_eq_true rfl) ?_
        refine lv_aload_n hx hb dX10_behind__45 rfl (lv_at hl 0 rfl) ?_
        have n467 : F452 57 = .ref h_stack := (SAME.at t456 (by decide) n448)
        refine get_f (D := D) (ci := 10) (v := .ref h_stack) (C := RX10) (T := TX10) (N := 67) hx hb hw inAX10 hown hK hP 1 rfl rfl 57 (by decide) (hw _ q_1318) (fun _ h9 => h9) n467 dX10_behind__46 ?_
        refine lv_aload_n hx hb dX10_behind__49 rfl (lv_at hl 0 rfl) ?_
        refine get_f (D := D) (ci := 10) (v := .int y454) (C := RX10) (T := TX10) (N := 67) hx hb hw inAX10 hown hK hP 1 rfl rfl 60 (by decide) (hw _ q_1321) (fun _ h9 => h9) t459 dX10_behind__50 ?_
        refine lv_aload_n hx hb dX10_behind__53 rfl (lv_at hl 0 rfl) ?_
        refine lv_ldc2 hx hb hown (hw _ q_1249) dX10_behind__54 ?_
        have n468 : F452 11 = .int x_token := (SAME.at t456 (by decide) n19)
        have n469 : F452 14 = .int x_number := (SAME.at t456 (by decide) n20)
        have n470 : F452 18 = .long x_word := (SAME.at t456 (by decide) n21)
        refine call_Vi (wr := [(h_tape, .inl (cB, 940, .inl f_tape)), (h_read, .inl (cI, 135, .inl g455)), (h_stack, .inl (cI, 45, .inl f_stack))]) (As := [.long 6385252]) (rest := [.int y454, .ref h_stack]) hx hb hml hown hw (m_X10_isWord l D cI cJ cB cP cM cZ h0 F452 x_token x_number x_word 6385252 _ n468 i_x_token n469 n470 (by omega)) wV_X10_225_X10_isWord dX10_behind__57 hK hP hD hS hA [1] [0, 2, 3] rfl rfl (by decide) (by decide) (by decide) 0 10 rfl rfl GG.fb hG.at hl.1 rfl (Nat.le_of_ble_eq_true rfl) ⟨(Nat.le_of_ble_eq_true rfl), (Nat.le_of_ble_eq_true rfl)⟩ ⟨(Nat.le_of_ble_eq_true rfl), (Nat.le_of_ble_eq_true rfl)⟩ (fun r471 u H locs hp hP hD hS => ?_)
        obtain ⟨t472, t473, rfl⟩ := hp
        have hP : va_P D vwCl [(h_tape, .inl (cB, 940, .inl f_tape)), (h_read, .inl (cI, 135, .inl g455)), (h_stack, .inl (cI, 45, .inl f_stack)), (h0, .inr (10, vL 67 F452))] H := hP
        have hD : va_D A [(h_tape, .inl (cB, 940, .inl f_tape)), (h_read, .inl (cI, 135, .inl g455)), (h_stack, .inl (cI, 45, .inl f_stack)), (h0, .inr (10, vL 67 F452))] := hD
        refine W.widen (k := 0) (n := 0) (Nat.le_of_ble_eq_true rfl) (Nat.le_of_ble_eq_true rfl) ?_
        replace t473 := ISWF.mk (isw (k := 15) (a := 1111) z_2 t473 (by decide) (by decide +kernel) (by decide +kernel) (by decide +kernel) (by decide +kernel))
        refine lv_if_eq (tgt := 68) hx hb dX10_behind__60 (by decide) (fun c475 => ?_) (fun c475 => ?_)
        · have dc475 : r471.toInt = 0 := eq_i (a := r471.toInt) (b := 0) rfl rfl c475
          have k476 : 0 ≤ r471.toInt ∧ r471.toInt ≤ 0 := ⟨t472.1, Int.le_trans (Int.le_of_eq dc475) (Int.le_refl _)⟩
          refine lv_bipush (v := 22) hx hb dX10_behind__68 (by decide) ?_
          obtain ⟨g477, eg477⟩ : ∃ z : Nat → Int32, upd f_stack y454.toNatClampNeg 22 = z := ⟨_, rfl⟩
          refine iast_g hx hb hK hP hD hS 2 0 rfl rfl (ix_i (by omega) (by omega)) eg477 dX10_behind__70 (fun H locs hP hD hS => ?_)
          have hP : va_P D vwCl [(h_tape, .inl (cB, 940, .inl f_tape)), (h_read, .inl (cI, 135, .inl g455)), (h_stack, .inl (cI, 45, .inl g477)), (h0, .inr (10, vL 67 F452))] H := hP
          have hD : va_D A [(h_tape, .inl (cB, 940, .inl f_tape)), (h_read, .inl (cI, 135, .inl g455)), (h_stack, .inl (cI, 45, .inl g477)), (h0, .inr (10, vL 67 F452))] := hD
          refine lv_aload_n hx hb dX10_behind__71 rfl (lv_at hl 0 rfl) ?_
          refine lv_dup hx hb dX10_behind__72 rfl ?_
          refine get_f (D := D) (ci := 10) (v := .int y454) (C := RX10) (T := TX10) (N := 67) hx hb hw inAX10 hown hK hP 3 rfl rfl 60 (by decide) (hw _ q_1321) (fun _ h9 => h9) t459 dX10_behind__73 ?_
          refine lv_iconst (v := 1) hx hb dX10_behind__76 (by decide) ?_
          refine lv_iadd hx hb dX10_behind__77 ?_
          refine lv_topi (fun v478 ev478 => ?_)
          have bv478 : v478.toInt = y454.toInt + 1 := by rw [ev478]; exact add_k rfl rfl t460 ⟨Int.le_refl _, Int.le_refl _⟩ (by decide)
          have k479 : 1 ≤ v478.toInt ∧ v478.toInt ≤ 46 := add_r bv478 t460 ⟨Int.le_refl _, Int.le_refl _⟩ (by decide)
          refine put_f (D := D) (ci := 10) (v := .int v478) (ty := .int) (C := RX10) (T := TX10) (N := 67) hx hb hw inAX10 tyX10 tyX10_ok nmX10 hown hK hP hD hS 3 rfl rfl 60 (by decide) (hw _ q_1321) (fun _ h9 => h9) rfl (by decide +kernel) rfl rfl dX10_behind__78 (fun H locs F480 eF480 hP hD hS => ?_)
          have hP : va_P D vwCl [(h_tape, .inl (cB, 940, .inl f_tape)), (h_read, .inl (cI, 135, .inl g455)), (h_stack, .inl (cI, 45, .inl g477)), (h0, .inr (10, vL 67 F480))] H := hP
          have hD : va_D A [(h_tape, .inl (cB, 940, .inl f_tape)), (h_read, .inl (cI, 135, .inl g455)), (h_stack, .inl (cI, 45, .inl g477)), (h0, .inr (10, vL 67 F480))] := hD
          refine lv_aload_n hx hb dX10_behind__81 rfl (lv_at hl 0 rfl) ?_
          refine lv_iconst (v := 0) hx hb dX10_behind__82 (by decide) ?_
          refine put_f (D := D) (ci := 10) (v := .int 0) (ty := .boolean) (C := RX10) (T := TX10) (N := 67) hx hb hw inAX10 tyX10 tyX10_ok nmX10 hown hK hP hD hS 3 rfl rfl 62 (by decide) (hw _ q_1323) (fun _ h9 => h9) rfl (by decide +kernel) rfl rfl dX10_behind__83 (fun H locs F481 eF481 hP hD hS => ?_)
          have hP : va_P D vwCl [(h_tape, .inl (cB, 940, .inl f_tape)), (h_read, .inl (cI, 135, .inl g455)), (h_stack, .inl (cI, 45, .inl g477)), (h0, .inr (10, vL 67 F481))] H := hP
          have hD : va_D A [(h_tape, .inl (cB, 940, .inl f_tape)), (h_read, .inl (cI, 135, .inl g455)), (h_stack, .inl (cI, 45, .inl g477)), (h0, .inr (10, vL 67 F481))] := hD
          refine lv_aload_n hx hb dX10_behind__86 rfl (lv_at hl 0 rfl) ?_
          have n482 : F2 1 = .ref h_tape := (SAME.at t7 (by decide) e_tape)
          have n483 : F452 1 = .ref h_tape := (SAME.at t456 (by decide) n482)
          have n484 : F480 1 = .ref h_tape := (get_ne eF480 (by decide) n483)
          have n485 : F481 1 = .ref h_tape := (get_ne eF481 (by decide) n484)
          have n486 : F2 3 = .int x_size := (SAME.at t7 (by decide) e_size)
          have n487 : F452 3 = .int x_size := (SAME.at t456 (by decide) n486)
          have n488 : F480 3 = .int x_size := (get_ne eF480 (by decide) n487)
          have n489 : F481 3 = .int x_size := (get_ne eF481 (by decide) n488)
          have n490 : F2 4 = .int x_p := (SAME.at t7 (by decide) e_p)
          have n491 : F452 4 = .int x_p := (SAME.at t456 (by decide) n490)
          have n492 : F480 4 = .int x_p := (get_ne eF480 (by decide) n491)
          have n493 : F481 4 = .int x_p := (get_ne eF481 (by decide) n492)
          have n494 : F2 5 = .int x_limit := (SAME.at t7 (by decide) e_limit)
          have n495 : F452 5 = .int x_limit := (SAME.at t456 (by decide) n494)
          have n496 : F480 5 = .int x_limit := (get_ne eF480 (by decide) n495)
          have n497 : F481 5 = .int x_limit := (get_ne eF481 (by decide) n496)
          have n498 : F480 11 = .int x_token := (get_ne eF480 (by decide) n468)
          have n499 : F481 11 = .int x_token := (get_ne eF481 (by decide) n498)
          have n500 : F2 12 = .int x_at := (SAME.at t7 (by decide) e_at)
          have n501 : F452 12 = .int x_at := (SAME.at t456 (by decide) n500)
          have n502 : F480 12 = .int x_at := (get_ne eF480 (by decide) n501)
          have n503 : F481 12 = .int x_at := (get_ne eF481 (by decide) n502)
          have n504 : F480 14 = .int x_number := (get_ne eF480 (by decide) n469)
          have n505 : F481 14 = .int x_number := (get_ne eF481 (by decide) n504)
          have n506 : F480 18 = .long x_word := (get_ne eF480 (by decide) n470)
          have n507 : F481 18 = .long x_word := (get_ne eF481 (by decide) n506)
          refine call_Vv (wr := [(h_read, .inl (cI, 135, .inl g455)), (h_stack, .inl (cI, 45, .inl g477))]) (As := []) (rest := []) hx hb hml hown hw (m_X10_next l D cI cJ cB cP cM cZ h0 h_tape F481 x_size x_p x_limit x_token x_at x_number x_word f_tape _ n485 n489 i_x_size n493 i_x_p n497 i_x_limit n499 i_x_token n503 n505 n507 (by omega)) wV_X10_208_X10_next dX10_behind__87 hK hP hD hS hA [3, 0] [1, 2] rfl rfl (by decide) (by decide) (by decide) 0 10 rfl rfl GG.fb hG.at hl.1 rfl (Nat.le_of_ble_eq_true rfl) ⟨(Nat.le_of_ble_eq_true rfl), (Nat.le_of_ble_eq_true rfl)⟩ ⟨(Nat.le_of_ble_eq_true rfl), (Nat.le_of_ble_eq_true rfl)⟩ (fun u H locs hp hP hD hS => ?_)
          obtain ⟨F509, y510, y511, y512, y513, y514, y515, t516, t517, t518, t519, t520, t521, t522, t523, t524, t525, t526, t527, t528, t529, t530, t531, rfl⟩ := hp
          have hP : va_P D vwCl [(h_read, .inl (cI, 135, .inl g455)), (h_stack, .inl (cI, 45, .inl g477)), (h0, .inr (10, vL 67 F509)), (h_tape, .inl (cB, 940, .inl f_tape))] H := hP
          have hD : va_D A [(h_read, .inl (cI, 135, .inl g455)), (h_stack, .inl (cI, 45, .inl g477)), (h0, .inr (10, vL 67 F509)), (h_tape, .inl (cB, 940, .inl f_tape))] := hD
          refine W.widen (k := 0) (n := 0) (Nat.le_of_ble_eq_true rfl) (Nat.le_of_ble_eq_true rfl) ?_
          refine lv_iconst (v := 1) hx hb dX10_behind__90 (by decide) ?_
          exact ret_i (v := 1) hx hb hr hlocks hS (hP.sub (ws' := [(h0, .inr (10, vL 67 F509)), (h_tape, .inl (cB, 940, .inl f_tape)), (h_read, .inl (cI, 135, .inl g455)), (h_stack, .inl (cI, 45, .inl g477))]) [2, 3, 0, 1] rfl) (hD.sub (ws' := [(h0, .inr (10, vL 67 F509)), (h_tape, .inl (cB, 940, .inl f_tape)), (h_read, .inl (cI, 135, .inl g455)), (h_stack, .inl (cI, 45, .inl g477))]) [2, 3, 0, 1] (by decide) rfl) dX10_behind__91 rfl (Nat.le_of_ble_eq_true rfl) (Nat.le_of_ble_eq_true rfl) (Or.inl ⟨F509, y510, y511, y512, y513, y514, y515, y453, v478, y5, 0, g455, g477, (SAME.tr (SAME.up eF481 (SAME.up eF480 (SAME.tr (SAME.tr SAME.rf t7 (by decide)) t456 (by decide)) (by decide)) (by decide)) t516 (by decide)), t517, t518, t519, t520, t521, t522, t523, t524, t525, t526, (SAME.at t516 (by decide) (get_ne eF481 (by decide) (get_ne eF480 (by decide) t457))), t458, (SAME.at t516 (by decide) (get_ne eF481 (by decide) (get_eq eF480))), (show 0 ≤ v478.toInt ∧ v478.toInt ≤ 45 from ⟨by omega, by omega⟩), (SAME.at t516 (by decide) (get_ne eF481 (by decide) (get_ne eF480 (by decide) (SAME.at t456 (by decide) t12)))), t13, (SAME.at t516 (by decide) (get_eq eF481)), (show 0 ≤ (0 : Int32).toInt ∧ (0 : Int32).toInt ≤ 1 by decide), (by have zl0 : (0 : Int32).toInt = 0 := (by decide); have zl1 : (1 : Int32).toInt = 1 := (by decide); omega), (fun _ => SMI.w (SMI.pushb t461 eg477 (by omega) (by decide) (by omega)) (by decide)), (fun _ => t530), (fun ms9 r9 g9 => gq_jn (sjM (by omega) (by omega)) (atM t529 (by omega)) ((SKB.pj t463.1 t463.2.2 eg477 (by omega) (by first | omega | decide) (by omega) rfl).2.trans (nj_d t15 t16 t463).symm) rfl (by first | omega | decide) g9), (SKB.pj t463.1 t463.2.2 eg477 (by omega) (by first | omega | decide) (by omega) rfl).1, (by have zl0 : (0 : Int32).toInt = 0 := (by decide); omega), (by have zl0 : (0 : Int32).toInt = 0 := (by decide); omega), rfl, rfl⟩)
        · have dc475 : r471.toInt ≠ 0 := ne_i (a := r471.toInt) (b := 0) rfl rfl c475
          have k533 : 1 ≤ r471.toInt ∧ r471.toInt ≤ 1 := ⟨ne_lo dc475 t472.1 ⟨Int.le_refl _, Int.le_refl _⟩ (by decide), t472.2⟩
          refine lv_bipush (v := 21) hx hb dX10_behind__63 (by decide) ?_
          refine lv_goto (tgt := 70) hx hb dX10_behind__65 (by decide) ?_
          obtain ⟨g534, eg534⟩ : ∃ z : Nat → Int32, upd f_stack y454.toNatClampNeg 21 = z := ⟨_, rfl⟩
          refine iast_g hx hb hK hP hD hS 2 0 rfl rfl (ix_i (by omega) (by omega)) eg534 dX10_behind__70 (fun H locs hP hD hS => ?_)
          have hP : va_P D vwCl [(h_tape, .inl (cB, 940, .inl f_tape)), (h_read, .inl (cI, 135, .inl g455)), (h_stack, .inl (cI, 45, .inl g534)), (h0, .inr (10, vL 67 F452))] H := hP
          have hD : va_D A [(h_tape, .inl (cB, 940, .inl f_tape)), (h_read, .inl (cI, 135, .inl g455)), (h_stack, .inl (cI, 45, .inl g534)), (h0, .inr (10, vL 67 F452))] := hD
          refine lv_aload_n hx hb dX10_behind__71 rfl (lv_at hl 0 rfl) ?_
          refine lv_dup hx hb dX10_behind__72 rfl ?_
          refine get_f (D := D) (ci := 10) (v := .int y454) (C := RX10) (T := TX10) (N := 67) hx hb hw inAX10 hown hK hP 3 rfl rfl 60 (by decide) (hw _ q_1321) (fun _ h9 => h9) t459 dX10_behind__73 ?_
          refine lv_iconst (v := 1) hx hb dX10_behind__76 (by decide) ?_
          refine lv_iadd hx hb dX10_behind__77 ?_
          refine lv_topi (fun v535 ev535 => ?_)
          have bv535 : v535.toInt = y454.toInt + 1 := by rw [ev535]; exact add_k rfl rfl t460 ⟨Int.le_refl _, Int.le_refl _⟩ (by decide)
          have k536 : 1 ≤ v535.toInt ∧ v535.toInt ≤ 46 := add_r bv535 t460 ⟨Int.le_refl _, Int.le_refl _⟩ (by decide)
          refine put_f (D := D) (ci := 10) (v := .int v535) (ty := .int) (C := RX10) (T := TX10) (N := 67) hx hb hw inAX10 tyX10 tyX10_ok nmX10 hown hK hP hD hS 3 rfl rfl 60 (by decide) (hw _ q_1321) (fun _ h9 => h9) rfl (by decide +kernel) rfl rfl dX10_behind__78 (fun H locs F537 eF537 hP hD hS => ?_)
          have hP : va_P D vwCl [(h_tape, .inl (cB, 940, .inl f_tape)), (h_read, .inl (cI, 135, .inl g455)), (h_stack, .inl (cI, 45, .inl g534)), (h0, .inr (10, vL 67 F537))] H := hP
          have hD : va_D A [(h_tape, .inl (cB, 940, .inl f_tape)), (h_read, .inl (cI, 135, .inl g455)), (h_stack, .inl (cI, 45, .inl g534)), (h0, .inr (10, vL 67 F537))] := hD
          refine lv_aload_n hx hb dX10_behind__81 rfl (lv_at hl 0 rfl) ?_
          refine lv_iconst (v := 0) hx hb dX10_behind__82 (by decide) ?_
          refine put_f (D := D) (ci := 10) (v := .int 0) (ty := .boolean) (C := RX10) (T := TX10) (N := 67) hx hb hw inAX10 tyX10 tyX10_ok nmX10 hown hK hP hD hS 3 rfl rfl 62 (by decide) (hw _ q_1323) (fun _ h9 => h9) rfl (by decide +kernel) rfl rfl dX10_behind__83 (fun H locs F538 eF538 hP hD hS => ?_)
          have hP : va_P D vwCl [(h_tape, .inl (cB, 940, .inl f_tape)), (h_read, .inl (cI, 135, .inl g455)), (h_stack, .inl (cI, 45, .inl g534)), (h0, .inr (10, vL 67 F538))] H := hP
          have hD : va_D A [(h_tape, .inl (cB, 940, .inl f_tape)), (h_read, .inl (cI, 135, .inl g455)), (h_stack, .inl (cI, 45, .inl g534)), (h0, .inr (10, vL 67 F538))] := hD
          refine lv_aload_n hx hb dX10_behind__86 rfl (lv_at hl 0 rfl) ?_
          have n539 : F2 1 = .ref h_tape := (SAME.at t7 (by decide) e_tape)
          have n540 : F452 1 = .ref h_tape := (SAME.at t456 (by decide) n539)
          have n541 : F537 1 = .ref h_tape := (get_ne eF537 (by decide) n540)
          have n542 : F538 1 = .ref h_tape := (get_ne eF538 (by decide) n541)
          have n543 : F2 3 = .int x_size := (SAME.at t7 (by decide) e_size)
          have n544 : F452 3 = .int x_size := (SAME.at t456 (by decide) n543)
          have n545 : F537 3 = .int x_size := (get_ne eF537 (by decide) n544)
          have n546 : F538 3 = .int x_size := (get_ne eF538 (by decide) n545)
          have n547 : F2 4 = .int x_p := (SAME.at t7 (by decide) e_p)
          have n548 : F452 4 = .int x_p := (SAME.at t456 (by decide) n547)
          have n549 : F537 4 = .int x_p := (get_ne eF537 (by decide) n548)
          have n550 : F538 4 = .int x_p := (get_ne eF538 (by decide) n549)
          have n551 : F2 5 = .int x_limit := (SAME.at t7 (by decide) e_limit)
          have n552 : F452 5 = .int x_limit := (SAME.at t456 (by decide) n551)
          have n553 : F537 5 = .int x_limit := (get_ne eF537 (by decide) n552)
          have n554 : F538 5 = .int x_limit := (get_ne eF538 (by decide) n553)
          have n555 : F537 11 = .int x_token := (get_ne eF537 (by decide) n468)
          have n556 : F538 11 = .int x_token := (get_ne eF538 (by decide) n555)
          have n557 : F2 12 = .int x_at := (SAME.at t7 (by decide) e_at)
          have n558 : F452 12 = .int x_at := (SAME.at t456 (by decide) n557)
          have n559 : F537 12 = .int x_at := (get_ne eF537 (by decide) n558)
          have n560 : F538 12 = .int x_at := (get_ne eF538 (by decide) n559)
          have n561 : F537 14 = .int x_number := (get_ne eF537 (by decide) n469)
          have n562 : F538 14 = .int x_number := (get_ne eF538 (by decide) n561)
          have n563 : F537 18 = .long x_word := (get_ne eF537 (by decide) n470)
          have n564 : F538 18 = .long x_word := (get_ne eF538 (by decide) n563)
          refine call_Vv (wr := [(h_read, .inl (cI, 135, .inl g455)), (h_stack, .inl (cI, 45, .inl g534))]) (As := []) (rest := []) hx hb hml hown hw (m_X10_next l D cI cJ cB cP cM cZ h0 h_tape F538 x_size x_p x_limit x_token x_at x_number x_word f_tape _ n542 n546 i_x_size n550 i_x_p n554 i_x_limit n556 i_x_token n560 n562 n564 (by omega)) wV_X10_208_X10_next dX10_behind__87 hK hP hD hS hA [3, 0] [1, 2] rfl rfl (by decide) (by decide) (by decide) 0 10 rfl rfl GG.fb hG.at hl.1 rfl (Nat.le_of_ble_eq_true rfl) ⟨(Nat.le_of_ble_eq_true rfl), (Nat.le_of_ble_eq_true rfl)⟩ ⟨(Nat.le_of_ble_eq_true rfl), (Nat.le_of_ble_eq_true rfl)⟩ (fun u H locs hp hP hD hS => ?_)
          obtain ⟨F566, y567, y568, y569, y570, y571, y572, t573, t574, t575, t576, t577, t578, t579, t580, t581, t582, t583, t584, t585, t586, t587, t588, rfl⟩ := hp
          have hP : va_P D vwCl [(h_read, .inl (cI, 135, .inl g455)), (h_stack, .inl (cI, 45, .inl g534)), (h0, .inr (10, vL 67 F566)), (h_tape, .inl (cB, 940, .inl f_tape))] H := hP
          have hD : va_D A [(h_read, .inl (cI, 135, .inl g455)), (h_stack, .inl (cI, 45, .inl g534)), (h0, .inr (10, vL 67 F566)), (h_tape, .inl (cB, 940, .inl f_tape))] := hD
          refine W.widen (k := 0) (n := 0) (Nat.le_of_ble_eq_true rfl) (Nat.le_of_ble_eq_true rfl) ?_
          refine lv_iconst (v := 1) hx hb dX10_behind__90 (by decide) ?_
          exact ret_i (v := 1) hx hb hr hlocks hS (hP.sub (ws' := [(h0, .inr (10, vL 67 F566)), (h_tape, .inl (cB, 940, .inl f_tape)), (h_read, .inl (cI, 135, .inl g455)), (h_stack, .inl (cI, 45, .inl g534))]) [2, 3, 0, 1] rfl) (hD.sub (ws' := [(h0, .inr (10, vL 67 F566)), (h_tape, .inl (cB, 940, .inl f_tape)), (h_read, .inl (cI, 135, .inl g455)), (h_stack, .inl (cI, 45, .inl g534))]) [2, 3, 0, 1] (by decide) rfl) dX10_behind__91 rfl (Nat.le_of_ble_eq_true rfl) (Nat.le_of_ble_eq_true rfl) (Or.inl ⟨F566, y567, y568, y569, y570, y571, y572, y453, v535, y5, 0, g455, g534, (SAME.tr (SAME.up eF538 (SAME.up eF537 (SAME.tr (SAME.tr SAME.rf t7 (by decide)) t456 (by decide)) (by decide)) (by decide)) t573 (by decide)), t574, t575, t576, t577, t578, t579, t580, t581, t582, t583, (SAME.at t573 (by decide) (get_ne eF538 (by decide) (get_ne eF537 (by decide) t457))), t458, (SAME.at t573 (by decide) (get_ne eF538 (by decide) (get_eq eF537))), (show 0 ≤ v535.toInt ∧ v535.toInt ≤ 45 from ⟨by omega, by omega⟩), (SAME.at t573 (by decide) (get_ne eF538 (by decide) (get_ne eF537 (by decide) (SAME.at t456 (by decide) t12)))), t13, (SAME.at t573 (by decide) (get_eq eF538)), (show 0 ≤ (0 : Int32).toInt ∧ (0 : Int32).toInt ≤ 1 by decide), (by have zl0 : (0 : Int32).toInt = 0 := (by decide); have zl1 : (1 : Int32).toInt = 1 := (by decide); omega), (fun _ => SMI.w (SMI.pushb t461 eg534 (by omega) (by decide) (by omega)) (by decide)), (fun _ => t587), (fun ms9 r9 g9 => gq_jn (sjM (by omega) (by omega)) (atM t586 (by omega)) ((SKB.pj t463.1 t463.2.2 eg534 (by omega) (by first | omega | decide) (by omega) rfl).2.trans (nj_d t15 t16 t463).symm) rfl (by first | omega | decide) g9), (SKB.pj t463.1 t463.2.2 eg534 (by omega) (by first | omega | decide) (by omega) rfl).1, (by have zl0 : (0 : Int32).toInt = 0 := (by decide); omega), (by have zl0 : (0 : Int32).toInt = 0 := (by decide); omega), rfl, rfl⟩)
      · have dc445 : r441.toInt ≠ 0 := ne_i (a := r441.toInt) (b := 0) rfl rfl c445
        have k590 : 1 ≤ r441.toInt ∧ r441.toInt ≤ 1 := ⟨ne_lo dc445 t442.1 ⟨Int.le_refl _, Int.le_refl _⟩ (by decide), t442.2⟩
        refine lv_bipush (v := 21) hx hb dX10_behind__35 (by decide) ?_
        refine lv_goto (tgt := 42) hx hb dX10_behind__37 (by decide) ?_
        have n591 : F2 8 = .ref h_read := (SAME.at t7 (by decide) e_read)
        have n592 : F2 57 = .ref h_stack := (SAME.at t7 (by decide) e_stack)
        have n593 : F2 59 = .int x_ones := (SAME.at t7 (by decide) e_ones)
        have n594 : F2 62 = .int x_isWhole := (SAME.at t7 (by decide) e_isWhole)
        refine call_Vv (wr := [(h_tape, .inl (cB, 940, .inl f_tape))]) (As := [.int 21]) (rest := []) hx hb hml hown hw (m_X10_joins l D cI cJ cB cP cM cZ h0 h_read h_stack F2 y3 x_ones y4 y5 x_isWhole g6 f_stack 21 _ n591 n592 t8 t9 n593 i_x_ones t10 t11 t12 t13 n594 i_x_isWhole (by omega) (SMI.w t14 (by omega)) t15.1 t16 (by omega)) wV_X10_466_X10_joins dX10_behind__42 hK hP hD hS hA [3, 1, 2] [0] rfl rfl (by decide) (by decide) (by decide) 0 10 rfl rfl GG.fb hG.at hl.1 rfl (Nat.le_of_ble_eq_true rfl) ⟨(Nat.le_of_ble_eq_true rfl), (Nat.le_of_ble_eq_true rfl)⟩ ⟨(Nat.le_of_ble_eq_true rfl), (Nat.le_of_ble_eq_true rfl)⟩ (fun u H locs hp hP hD hS => ?_)
        have zl21 : (21 : Int32).toInt = 21 := by decide
        obtain ⟨F596, y597, y598, g599, t600, t601, t602, t603, t604, t605, t606, t607, t608, t609, rfl⟩ := hp
        have hP : va_P D vwCl [(h_tape, .inl (cB, 940, .inl f_tape)), (h0, .inr (10, vL 67 F596)), (h_read, .inl (cI, 135, .inl g599)), (h_stack, .inl (cI, 45, .inl f_stack))] H := hP
        have hD : va_D A [(h_tape, .inl (cB, 940, .inl f_tape)), (h0, .inr (10, vL 67 F596)), (h_read, .inl (cI, 135, .inl g599)), (h_stack, .inl (cI, 45, .inl f_stack))] := hD
        refine W.widen (k := 0) (n := 0) (Nat.le_of_ble_eq_true rfl) (Nat.le_of_ble_eq_true rfl) ?_
        refine lv_aload_n hx hb dX10_behind__45 rfl (lv_at hl 0 rfl) ?_
        have n611 : F596 57 = .ref h_stack := (SAME.at t600 (by decide) n592)
        refine get_f (D := D) (ci := 10) (v := .ref h_stack) (C := RX10) (T := TX10) (N := 67) hx hb hw inAX10 hown hK hP 1 rfl rfl 57 (by decide) (hw _ q_1318) (fun _ h9 => h9) n611 dX10_behind__46 ?_
        refine lv_aload_n hx hb dX10_behind__49 rfl (lv_at hl 0 rfl) ?_
        refine get_f (D := D) (ci := 10) (v := .int y598) (C := RX10) (T := TX10) (N := 67) hx hb hw inAX10 hown hK hP 1 rfl rfl 60 (by decide) (hw _ q_1321) (fun _ h9 => h9) t603 dX10_behind__50 ?_
        refine lv_aload_n hx hb dX10_behind__53 rfl (lv_at hl 0 rfl) ?_
        refine lv_ldc2 hx hb hown (hw _ q_1249) dX10_behind__54 ?_
        have n612 : F596 11 = .int x_token := (SAME.at t600 (by decide) n19)
        have n613 : F596 14 = .int x_number := (SAME.at t600 (by decide) n20)
        have n614 : F596 18 = .long x_word := (SAME.at t600 (by decide) n21)
        refine call_Vi (wr := [(h_tape, .inl (cB, 940, .inl f_tape)), (h_read, .inl (cI, 135, .inl g599)), (h_stack, .inl (cI, 45, .inl f_stack))]) (As := [.long 6385252]) (rest := [.int y598, .ref h_stack]) hx hb hml hown hw (m_X10_isWord l D cI cJ cB cP cM cZ h0 F596 x_token x_number x_word 6385252 _ n612 i_x_token n613 n614 (by omega)) wV_X10_225_X10_isWord dX10_behind__57 hK hP hD hS hA [1] [0, 2, 3] rfl rfl (by decide) (by decide) (by decide) 0 10 rfl rfl GG.fb hG.at hl.1 rfl (Nat.le_of_ble_eq_true rfl) ⟨(Nat.le_of_ble_eq_true rfl), (Nat.le_of_ble_eq_true rfl)⟩ ⟨(Nat.le_of_ble_eq_true rfl), (Nat.le_of_ble_eq_true rfl)⟩ (fun r615 u H locs hp hP hD hS => ?_)
        obtain ⟨t616, t617, rfl⟩ := hp
        have hP : va_P D vwCl [(h_tape, .inl (cB, 940, .inl f_tape)), (h_read, .inl (cI, 135, .inl g599)), (h_stack, .inl (cI, 45, .inl f_stack)), (h0, .inr (10, vL 67 F596))] H := hP
        have hD : va_D A [(h_tape, .inl (cB, 940, .inl f_tape)), (h_read, .inl (cI, 135, .inl g599)), (h_stack, .inl (cI, 45, .inl f_stack)), (h0, .inr (10, vL 67 F596))] := hD
        refine W.widen (k := 0) (n := 0) (Nat.le_of_ble_eq_true rfl) (Nat.le_of_ble_eq_true rfl) ?_
        replace t617 := ISWF.mk (isw (k := 15) (a := 1111) z_2 t617 (by decide) (by decide +kernel) (by decide +kernel) (by decide +kernel) (by decide +kernel))
        refine lv_if_eq (tgt := 68) hx hb dX10_behind__60 (by decide) (fun c619 => ?_) (fun c619 => ?_)
        · have dc619 : r615.toInt = 0 := eq_i (a := r615.toInt) (b := 0) rfl rfl c619
          have k620 : 0 ≤ r615.toInt ∧ r615.toInt ≤ 0 := ⟨t616.1, Int.le_trans (Int.le_of_eq dc619) (Int.le_refl _)⟩
          refine lv_bipush (v := 22) hx hb dX10_behind__68 (by decide) ?_
          obtain ⟨g621, eg621⟩ : ∃ z : Nat → Int32, upd f_stack y598.toNatClampNeg 22 = z := ⟨_, rfl⟩
          refine iast_g hx hb hK hP hD hS 2 0 rfl rfl (ix_i (by omega) (by omega)) eg621 dX10_behind__70 (fun H locs hP hD hS => ?_)
          have hP : va_P D vwCl [(h_tape, .inl (cB, 940, .inl f_tape)), (h_read, .inl (cI, 135, .inl g599)), (h_stack, .inl (cI, 45, .inl g621)), (h0, .inr (10, vL 67 F596))] H := hP
          have hD : va_D A [(h_tape, .inl (cB, 940, .inl f_tape)), (h_read, .inl (cI, 135, .inl g599)), (h_stack, .inl (cI, 45, .inl g621)), (h0, .inr (10, vL 67 F596))] := hD
          refine lv_aload_n hx hb dX10_behind__71 rfl (lv_at hl 0 rfl) ?_
          refine lv_dup hx hb dX10_behind__72 rfl ?_
          refine get_f (D := D) (ci := 10) (v := .int y598) (C := RX10) (T := TX10) (N := 67) hx hb hw inAX10 hown hK hP 3 rfl rfl 60 (by decide) (hw _ q_1321) (fun _ h9 => h9) t603 dX10_behind__73 ?_
          refine lv_iconst (v := 1) hx hb dX10_behind__76 (by decide) ?_
          refine lv_iadd hx hb dX10_behind__77 ?_
          refine lv_topi (fun v622 ev622 => ?_)
          have bv622 : v622.toInt = y598.toInt + 1 := by rw [ev622]; exact add_k rfl rfl t604 ⟨Int.le_refl _, Int.le_refl _⟩ (by decide)
          have k623 : 1 ≤ v622.toInt ∧ v622.toInt ≤ 46 := add_r bv622 t604 ⟨Int.le_refl _, Int.le_refl _⟩ (by decide)
          refine put_f (D := D) (ci := 10) (v := .int v622) (ty := .int) (C := RX10) (T := TX10) (N := 67) hx hb hw inAX10 tyX10 tyX10_ok nmX10 hown hK hP hD hS 3 rfl rfl 60 (by decide) (hw _ q_1321) (fun _ h9 => h9) rfl (by decide +kernel) rfl rfl dX10_behind__78 (fun H locs F624 eF624 hP hD hS => ?_)
          have hP : va_P D vwCl [(h_tape, .inl (cB, 940, .inl f_tape)), (h_read, .inl (cI, 135, .inl g599)), (h_stack, .inl (cI, 45, .inl g621)), (h0, .inr (10, vL 67 F624))] H := hP
          have hD : va_D A [(h_tape, .inl (cB, 940, .inl f_tape)), (h_read, .inl (cI, 135, .inl g599)), (h_stack, .inl (cI, 45, .inl g621)), (h0, .inr (10, vL 67 F624))] := hD
          refine lv_aload_n hx hb dX10_behind__81 rfl (lv_at hl 0 rfl) ?_
          refine lv_iconst (v := 0) hx hb dX10_behind__82 (by decide) ?_
          refine put_f (D := D) (ci := 10) (v := .int 0) (ty := .boolean) (C := RX10) (T := TX10) (N := 67) hx hb hw inAX10 tyX10 tyX10_ok nmX10 hown hK hP hD hS 3 rfl rfl 62 (by decide) (hw _ q_1323) (fun _ h9 => h9) rfl (by decide +kernel) rfl rfl dX10_behind__83 (fun H locs F625 eF625 hP hD hS => ?_)
          have hP : va_P D vwCl [(h_tape, .inl (cB, 940, .inl f_tape)), (h_read, .inl (cI, 135, .inl g599)), (h_stack, .inl (cI, 45, .inl g621)), (h0, .inr (10, vL 67 F625))] H := hP
          have hD : va_D A [(h_tape, .inl (cB, 940, .inl f_tape)), (h_read, .inl (cI, 135, .inl g599)), (h_stack, .inl (cI, 45, .inl g621)), (h0, .inr (10, vL 67 F625))] := hD
          refine lv_aload_n hx hb dX10_behind__86 rfl (lv_at hl 0 rfl) ?_
          have n626 : F2 1 = .ref h_tape := (SAME.at t7 (by decide) e_tape)
          have n627 : F596 1 = .ref h_tape := (SAME.at t600 (by decide) n626)
          have n628 : F624 1 = .ref h_tape := (get_ne eF624 (by decide) n627)
          have n629 : F625 1 = .ref h_tape := (get_ne eF625 (by decide) n628)
          have n630 : F2 3 = .int x_size := (SAME.at t7 (by decide) e_size)
          have n631 : F596 3 = .int x_size := (SAME.at t600 (by decide) n630)
          have n632 : F624 3 = .int x_size := (get_ne eF624 (by decide) n631)
          have n633 : F625 3 = .int x_size := (get_ne eF625 (by decide) n632)
          have n634 : F2 4 = .int x_p := (SAME.at t7 (by decide) e_p)
          have n635 : F596 4 = .int x_p := (SAME.at t600 (by decide) n634)
          have n636 : F624 4 = .int x_p := (get_ne eF624 (by decide) n635)
          have n637 : F625 4 = .int x_p := (get_ne eF625 (by decide) n636)
          have n638 : F2 5 = .int x_limit := (SAME.at t7 (by decide) e_limit)
          have n639 : F596 5 = .int x_limit := (SAME.at t600 (by decide) n638)
          have n640 : F624 5 = .int x_limit := (get_ne eF624 (by decide) n639)
          have n641 : F625 5 = .int x_limit := (get_ne eF625 (by decide) n640)
          have n642 : F624 11 = .int x_token := (get_ne eF624 (by decide) n612)
          have n643 : F625 11 = .int x_token := (get_ne eF625 (by decide) n642)
          have n644 : F2 12 = .int x_at := (SAME.at t7 (by decide) e_at)
          have n645 : F596 12 = .int x_at := (SAME.at t600 (by decide) n644)
          have n646 : F624 12 = .int x_at := (get_ne eF624 (by decide) n645)
          have n647 : F625 12 = .int x_at := (get_ne eF625 (by decide) n646)
          have n648 : F624 14 = .int x_number := (get_ne eF624 (by decide) n613)
          have n649 : F625 14 = .int x_number := (get_ne eF625 (by decide) n648)
          have n650 : F624 18 = .long x_word := (get_ne eF624 (by decide) n614)
          have n651 : F625 18 = .long x_word := (get_ne eF625 (by decide) n650)
          refine call_Vv (wr := [(h_read, .inl (cI, 135, .inl g599)), (h_stack, .inl (cI, 45, .inl g621))]) (As := []) (rest := []) hx hb hml hown hw (m_X10_next l D cI cJ cB cP cM cZ h0 h_tape F625 x_size x_p x_limit x_token x_at x_number x_word f_tape _ n629 n633 i_x_size n637 i_x_p n641 i_x_limit n643 i_x_token n647 n649 n651 (by omega)) wV_X10_208_X10_next dX10_behind__87 hK hP hD hS hA [3, 0] [1, 2] rfl rfl (by decide) (by decide) (by decide) 0 10 rfl rfl GG.fb hG.at hl.1 rfl (Nat.le_of_ble_eq_true rfl) ⟨(Nat.le_of_ble_eq_true rfl), (Nat.le_of_ble_eq_true rfl)⟩ ⟨(Nat.le_of_ble_eq_true rfl), (Nat.le_of_ble_eq_true rfl)⟩ (fun u H locs hp hP hD hS => ?_)
          obtain ⟨F653, y654, y655, y656, y657, y658, y659, t660, t661, t662, t663, t664, t665, t666, t667, t668, t669, t670, t671, t672, t673, t674, t675, rfl⟩ := hp
          have hP : va_P D vwCl [(h_read, .inl (cI, 135, .inl g599)), (h_stack, .inl (cI, 45, .inl g621)), (h0, .inr (10, vL 67 F653)), (h_tape, .inl (cB, 940, .inl f_tape))] H := hP
          have hD : va_D A [(h_read, .inl (cI, 135, .inl g599)), (h_stack, .inl (cI, 45, .inl g621)), (h0, .inr (10, vL 67 F653)), (h_tape, .inl (cB, 940, .inl f_tape))] := hD
          refine W.widen (k := 0) (n := 0) (Nat.le_of_ble_eq_true rfl) (Nat.le_of_ble_eq_true rfl) ?_
          refine lv_iconst (v := 1) hx hb dX10_behind__90 (by decide) ?_
          exact ret_i (v := 1) hx hb hr hlocks hS (hP.sub (ws' := [(h0, .inr (10, vL 67 F653)), (h_tape, .inl (cB, 940, .inl f_tape)), (h_read, .inl (cI, 135, .inl g599)), (h_stack, .inl (cI, 45, .inl g621))]) [2, 3, 0, 1] rfl) (hD.sub (ws' := [(h0, .inr (10, vL 67 F653)), (h_tape, .inl (cB, 940, .inl f_tape)), (h_read, .inl (cI, 135, .inl g599)), (h_stack, .inl (cI, 45, .inl g621))]) [2, 3, 0, 1] (by decide) rfl) dX10_behind__91 rfl (Nat.le_of_ble_eq_true rfl) (Nat.le_of_ble_eq_true rfl) (Or.inl ⟨F653, y654, y655, y656, y657, y658, y659, y597, v622, y5, 0, g599, g621, (SAME.tr (SAME.up eF625 (SAME.up eF624 (SAME.tr (SAME.tr SAME.rf t7 (by decide)) t600 (by decide)) (by decide)) (by decide)) t660 (by decide)), t661, t662, t663, t664, t665, t666, t667, t668, t669, t670, (SAME.at t660 (by decide) (get_ne eF625 (by decide) (get_ne eF624 (by decide) t601))), t602, (SAME.at t660 (by decide) (get_ne eF625 (by decide) (get_eq eF624))), (show 0 ≤ v622.toInt ∧ v622.toInt ≤ 45 from ⟨by omega, by omega⟩), (SAME.at t660 (by decide) (get_ne eF625 (by decide) (get_ne eF624 (by decide) (SAME.at t600 (by decide) t12)))), t13, (SAME.at t660 (by decide) (get_eq eF625)), (show 0 ≤ (0 : Int32).toInt ∧ (0 : Int32).toInt ≤ 1 by decide), (by have zl0 : (0 : Int32).toInt = 0 := (by decide); have zl1 : (1 : Int32).toInt = 1 := (by decide); omega), (fun _ => SMI.w (SMI.pushb t605 eg621 (by omega) (by decide) (by omega)) (by decide)), (fun _ => t674), (fun ms9 r9 g9 => gq_jn (sjM (by omega) (by omega)) (atM t673 (by omega)) ((SKB.pj t607.1 t607.2.2 eg621 (by omega) (by first | omega | decide) (by omega) rfl).2.trans (nj_d t15 t16 t607).symm) rfl (by first | omega | decide) g9), (SKB.pj t607.1 t607.2.2 eg621 (by omega) (by first | omega | decide) (by omega) rfl).1, (by have zl0 : (0 : Int32).toInt = 0 := (by decide); omega), (by have zl0 : (0 : Int32).toInt = 0 := (by decide); omega), rfl, rfl⟩)
        · have dc619 : r615.toInt ≠ 0 := ne_i (a := r615.toInt) (b := 0) rfl rfl c619
          have k677 : 1 ≤ r615.toInt ∧ r615.toInt ≤ 1 := ⟨ne_lo dc619 t616.1 ⟨Int.le_refl _, Int.le_refl _⟩ (by decide), t616.2⟩
          refine lv_bipush (v := 21) hx hb dX10_behind__63 (by decide) ?_
          refine lv_goto (tgt := 70) hx hb dX10_behind__65 (by decide) ?_
          obtain ⟨g678, eg678⟩ : ∃ z : Nat → Int32, upd f_stack y598.toNatClampNeg 21 = z := ⟨_, rfl⟩
          refine iast_g hx hb hK hP hD hS 2 0 rfl rfl (ix_i (by omega) (by omega)) eg678 dX10_behind__70 (fun H locs hP hD hS => ?_)
          have hP : va_P D vwCl [(h_tape, .inl (cB, 940, .inl f_tape)), (h_read, .inl (cI, 135, .inl g599)), (h_stack, .inl (cI, 45, .inl g678)), (h0, .inr (10, vL 67 F596))] H := hP
          have hD : va_D A [(h_tape, .inl (cB, 940, .inl f_tape)), (h_read, .inl (cI, 135, .inl g599)), (h_stack, .inl (cI, 45, .inl g678)), (h0, .inr (10, vL 67 F596))] := hD
          refine lv_aload_n hx hb dX10_behind__71 rfl (lv_at hl 0 rfl) ?_
          refine lv_dup hx hb dX10_behind__72 rfl ?_
          refine get_f (D := D) (ci := 10) (v := .int y598) (C := RX10) (T := TX10) (N := 67) hx hb hw inAX10 hown hK hP 3 rfl rfl 60 (by decide) (hw _ q_1321) (fun _ h9 => h9) t603 dX10_behind__73 ?_
          refine lv_iconst (v := 1) hx hb dX10_behind__76 (by decide) ?_
          refine lv_iadd hx hb dX10_behind__77 ?_
          refine lv_topi (fun v679 ev679 => ?_)
          have bv679 : v679.toInt = y598.toInt + 1 := by rw [ev679]; exact add_k rfl rfl t604 ⟨Int.le_refl _, Int.le_refl _⟩ (by decide)
          have k680 : 1 ≤ v679.toInt ∧ v679.toInt ≤ 46 := add_r bv679 t604 ⟨Int.le_refl _, Int.le_refl _⟩ (by decide)
          refine put_f (D := D) (ci := 10) (v := .int v679) (ty := .int) (C := RX10) (T := TX10) (N := 67) hx hb hw inAX10 tyX10 tyX10_ok nmX10 hown hK hP hD hS 3 rfl rfl 60 (by decide) (hw _ q_1321) (fun _ h9 => h9) rfl (by decide +kernel) rfl rfl dX10_behind__78 (fun H locs F681 eF681 hP hD hS => ?_)
          have hP : va_P D vwCl [(h_tape, .inl (cB, 940, .inl f_tape)), (h_read, .inl (cI, 135, .inl g599)), (h_stack, .inl (cI, 45, .inl g678)), (h0, .inr (10, vL 67 F681))] H := hP
          have hD : va_D A [(h_tape, .inl (cB, 940, .inl f_tape)), (h_read, .inl (cI, 135, .inl g599)), (h_stack, .inl (cI, 45, .inl g678)), (h0, .inr (10, vL 67 F681))] := hD
          refine lv_aload_n hx hb dX10_behind__81 rfl (lv_at hl 0 rfl) ?_
          refine lv_iconst (v := 0) hx hb dX10_behind__82 (by decide) ?_
          refine put_f (D := D) (ci := 10) (v := .int 0) (ty := .boolean) (C := RX10) (T := TX10) (N := 67) hx hb hw inAX10 tyX10 tyX10_ok nmX10 hown hK hP hD hS 3 rfl rfl 62 (by decide) (hw _ q_1323) (fun _ h9 => h9) rfl (by decide +kernel) rfl rfl dX10_behind__83 (fun H locs F682 eF682 hP hD hS => ?_)
          have hP : va_P D vwCl [(h_tape, .inl (cB, 940, .inl f_tape)), (h_read, .inl (cI, 135, .inl g599)), (h_stack, .inl (cI, 45, .inl g678)), (h0, .inr (10, vL 67 F682))] H := hP
          have hD : va_D A [(h_tape, .inl (cB, 940, .inl f_tape)), (h_read, .inl (cI, 135, .inl g599)), (h_stack, .inl (cI, 45, .inl g678)), (h0, .inr (10, vL 67 F682))] := hD
          refine lv_aload_n hx hb dX10_behind__86 rfl (lv_at hl 0 rfl) ?_
          have n683 : F2 1 = .ref h_tape := (SAME.at t7 (by decide) e_tape)
          have n684 : F596 1 = .ref h_tape := (SAME.at t600 (by decide) n683)
          have n685 : F681 1 = .ref h_tape := (get_ne eF681 (by decide) n684)
          have n686 : F682 1 = .ref h_tape := (get_ne eF682 (by decide) n685)
          have n687 : F2 3 = .int x_size := (SAME.at t7 (by decide) e_size)
          have n688 : F596 3 = .int x_size := (SAME.at t600 (by decide) n687)
          have n689 : F681 3 = .int x_size := (get_ne eF681 (by decide) n688)
          have n690 : F682 3 = .int x_size := (get_ne eF682 (by decide) n689)
          have n691 : F2 4 = .int x_p := (SAME.at t7 (by decide) e_p)
          have n692 : F596 4 = .int x_p := (SAME.at t600 (by decide) n691)
          have n693 : F681 4 = .int x_p := (get_ne eF681 (by decide) n692)
          have n694 : F682 4 = .int x_p := (get_ne eF682 (by decide) n693)
          have n695 : F2 5 = .int x_limit := (SAME.at t7 (by decide) e_limit)
          have n696 : F596 5 = .int x_limit := (SAME.at t600 (by decide) n695)
          have n697 : F681 5 = .int x_limit := (get_ne eF681 (by decide) n696)
          have n698 : F682 5 = .int x_limit := (get_ne eF682 (by decide) n697)
          have n699 : F681 11 = .int x_token := (get_ne eF681 (by decide) n612)
          have n700 : F682 11 = .int x_token := (get_ne eF682 (by decide) n699)
          have n701 : F2 12 = .int x_at := (SAME.at t7 (by decide) e_at)
          have n702 : F596 12 = .int x_at := (SAME.at t600 (by decide) n701)
          have n703 : F681 12 = .int x_at := (get_ne eF681 (by decide) n702)
          have n704 : F682 12 = .int x_at := (get_ne eF682 (by decide) n703)
          have n705 : F681 14 = .int x_number := (get_ne eF681 (by decide) n613)
          have n706 : F682 14 = .int x_number := (get_ne eF682 (by decide) n705)
          have n707 : F681 18 = .long x_word := (get_ne eF681 (by decide) n614)
          have n708 : F682 18 = .long x_word := (get_ne eF682 (by decide) n707)
          refine call_Vv (wr := [(h_read, .inl (cI, 135, .inl g599)), (h_stack, .inl (cI, 45, .inl g678))]) (As := []) (rest := []) hx hb hml hown hw (m_X10_next l D cI cJ cB cP cM cZ h0 h_tape F682 x_size x_p x_limit x_token x_at x_number x_word f_tape _ n686 n690 i_x_size n694 i_x_p n698 i_x_limit n700 i_x_token n704 n706 n708 (by omega)) wV_X10_208_X10_next dX10_behind__87 hK hP hD hS hA [3, 0] [1, 2] rfl rfl (by decide) (by decide) (by decide) 0 10 rfl rfl GG.fb hG.at hl.1 rfl (Nat.le_of_ble_eq_true rfl) ⟨(Nat.le_of_ble_eq_true rfl), (Nat.le_of_ble_eq_true rfl)⟩ ⟨(Nat.le_of_ble_eq_true rfl), (Nat.le_of_ble_eq_true rfl)⟩ (fun u H locs hp hP hD hS => ?_)
          obtain ⟨F710, y711, y712, y713, y714, y715, y716, t717, t718, t719, t720, t721, t722, t723, t724, t725, t726, t727, t728, t729, t730, t731, t732, rfl⟩ := hp
          have hP : va_P D vwCl [(h_read, .inl (cI, 135, .inl g599)), (h_stack, .inl (cI, 45, .inl g678)), (h0, .inr (10, vL 67 F710)), (h_tape, .inl (cB, 940, .inl f_tape))] H := hP
          have hD : va_D A [(h_read, .inl (cI, 135, .inl g599)), (h_stack, .inl (cI, 45, .inl g678)), (h0, .inr (10, vL 67 F710)), (h_tape, .inl (cB, 940, .inl f_tape))] := hD
          refine W.widen (k := 0) (n := 0) (Nat.le_of_ble_eq_true rfl) (Nat.le_of_ble_eq_true rfl) ?_
          refine lv_iconst (v := 1) hx hb dX10_behind__90 (by decide) ?_
          exact ret_i (v := 1) hx hb hr hlocks hS (hP.sub (ws' := [(h0, .inr (10, vL 67 F710)), (h_tape, .inl (cB, 940, .inl f_tape)), (h_read, .inl (cI, 135, .inl g599)), (h_stack, .inl (cI, 45, .inl g678))]) [2, 3, 0, 1] rfl) (hD.sub (ws' := [(h0, .inr (10, vL 67 F710)), (h_tape, .inl (cB, 940, .inl f_tape)), (h_read, .inl (cI, 135, .inl g599)), (h_stack, .inl (cI, 45, .inl g678))]) [2, 3, 0, 1] (by decide) rfl) dX10_behind__91 rfl (Nat.le_of_ble_eq_true rfl) (Nat.le_of_ble_eq_true rfl) (Or.inl ⟨F710, y711, y712, y713, y714, y715, y716, y597, v679, y5, 0, g599, g678, (SAME.tr (SAME.up eF682 (SAME.up eF681 (SAME.tr (SAME.tr SAME.rf t7 (by decide)) t600 (by decide)) (by decide)) (by decide)) t717 (by decide)), t718, t719, t720, t721, t722, t723, t724, t725, t726, t727, (SAME.at t717 (by decide) (get_ne eF682 (by decide) (get_ne eF681 (by decide) t601))), t602, (SAME.at t717 (by decide) (get_ne eF682 (by decide) (get_eq eF681))), (show 0 ≤ v679.toInt ∧ v679.toInt ≤ 45 from ⟨by omega, by omega⟩), (SAME.at t717 (by decide) (get_ne eF682 (by decide) (get_ne eF681 (by decide) (SAME.at t600 (by decide) t12)))), t13, (SAME.at t717 (by decide) (get_eq eF682)), (show 0 ≤ (0 : Int32).toInt ∧ (0 : Int32).toInt ≤ 1 by decide), (by have zl0 : (0 : Int32).toInt = 0 := (by decide); have zl1 : (1 : Int32).toInt = 1 := (by decide); omega), (fun _ => SMI.w (SMI.pushb t605 eg678 (by omega) (by decide) (by omega)) (by decide)), (fun _ => t731), (fun ms9 r9 g9 => gq_jn (sjM (by omega) (by omega)) (atM t730 (by omega)) ((SKB.pj t607.1 t607.2.2 eg678 (by omega) (by first | omega | decide) (by omega) rfl).2.trans (nj_d t15 t16 t607).symm) rfl (by first | omega | decide) g9), (SKB.pj t607.1 t607.2.2 eg678 (by omega) (by first | omega | decide) (by omega) rfl).1, (by have zl0 : (0 : Int32).toInt = 0 := (by decide); omega), (by have zl0 : (0 : Int32).toInt = 0 := (by decide); omega), rfl, rfl⟩)
